/-! fault, seat, person, both sides -/
theorem own_sim {P : Nat} (hP : P ≤ 8) {Ho mo : Nat → Int32} (h : ∀ i, i < P → Ho i = mo i) (x : Int32) : ∀ (r i fC fM : Nat) (acc : Int32), i + r = P → r < fC → r < fM → ∃ v, p_X3_ownersOf_b4 fC (nI P) Ho x acc (nI i) = some v ∧ p_X8_ownersOf_b4 fM (nI P) mo x acc (nI i) = some v := by
  intro r
  induction r with
  | zero =>
    intro i fC fM acc hi hC hM
    obtain ⟨c, rfl⟩ : ∃ c, fC = c + 1 := ⟨fC - 1, by omega⟩
    obtain ⟨m, rfl⟩ : ∃ m, fM = m + 1 := ⟨fM - 1, by omega⟩
    have e : i = P := by omega
    subst e
    refine ⟨acc, ?_, ?_⟩
    · show p_X3_ownersOf_b4x _ _ _ _ _ _ = _
      unfold p_X3_ownersOf_b4x
      rw [if_pos (nI_le (Nat.le_refl _) (by omega))]
    · show p_X8_ownersOf_b4x _ _ _ _ _ _ = _
      unfold p_X8_ownersOf_b4x
      rw [if_pos (nI_le (Nat.le_refl _) (by omega))]
  | succ r ih =>
    intro i fC fM acc hi hC hM
    obtain ⟨c, rfl⟩ : ∃ c, fC = c + 1 := ⟨fC - 1, by omega⟩
    obtain ⟨m, rfl⟩ : ∃ m, fM = m + 1 := ⟨fM - 1, by omega⟩
    show ∃ v, p_X3_ownersOf_b4x _ _ _ _ _ _ = _ ∧ p_X8_ownersOf_b4x _ _ _ _ _ _ = _
    unfold p_X3_ownersOf_b4x p_X8_ownersOf_b4x p_X3_ownersOf_b28 p_X8_ownersOf_b30
    have ea : nI i + 1 = nI (i + 1) := by rw [L1, nI_add]
    rw [if_neg (nI_ge (by omega) (by omega)), if_neg (nI_ge (by omega) (by omega)), inB_nI (show i < 8 by omega) (by decide)]
    simp only [gd_true, nm_def, ea]
    rw [nI_clamp (by omega), ← h i (by omega), show acc ||| 0 = acc from by simp]
    by_cases q : Ho i = x
    · simp only [if_pos q]
      exact ih (i + 1) c m _ (by omega) (by omega) (by omega)
    · simp only [if_neg q]
      exact ih (i + 1) c m _ (by omega) (by omega) (by omega)
theorem v_owners {P : Nat} (hP : P ≤ 8) {Ho mo : Nat → Int32} (h : ∀ i, i < P → Ho i = mo i) (x : Int32) : ∃ v, p_X3_ownersOf (nI P) Ho x = some v ∧ p_X8_ownersOf (nI P) mo x = some v :=
  own_sim hP h x P 0 4096 4096 0 (by omega) (by omega) (by omega)
theorem v_fault {hS hR hP : Int32} {fl Hs Hr Hb Ho Hk mb mt : Nat → Int32} (h : HS hS hR hP fl Hs Hr Hb Ho Hk mb mt) (a1 s1 r1 p1 : Int32) (ms mr mo mk : Nat → Int32) (x : Int32) : ∃ (r q1 q2 q3 q4 : Int32) (q5 q6 q7 q8 : Nat → Int32), p_X7_fault fl x = some r ∧ p_X8_fault a1 s1 r1 p1 mb mt ms mr mo mk x = some (r, q1, q2, q3, q4, q5, q6, q7, q8) := by
  obtain ⟨S, R, P, srt, row, own, kd, -, -, -, -, hm⟩ := h
  unfold p_X7_fault p_X7_fault_b0 p_X7_fault_b21 p_X8_fault p_X8_fault_b0 p_X8_fault_b17
  rcases v_text x with ⟨hx, e1, e2⟩ | ⟨e1, e2⟩
  · obtain ⟨a3, ms', mr', mo', mk', q⟩ := v_faultOf hm a1 s1 r1 p1 ms mr mo mk x
    rw [e1, e2, b1_some, b1_some, if_pos rfl, if_neg (show ¬ (1 : Int32) = 0 by decide), inB2 hx, gd_true, q, b9_some]
    have e : (if x = 0 then fl 0 else fl 1) = fl x.toNatClampNeg := by
      rcases hx with hx | hx <;> subst hx
      · rw [if_pos rfl, cl0]
      · rw [if_neg (by decide), cl1]
    rw [e]
    exact ⟨_, _, _, _, _, _, _, _, _, rfl, rfl⟩
  · rw [e1, e2, b1_some, b1_some, if_neg (show ¬ (1 : Int32) = 0 by decide), if_pos rfl]
    exact ⟨_, _, _, _, _, _, _, _, _, rfl, rfl⟩
theorem v_person {hS hR hP : Int32} {fl Hs Hr Hb Ho Hk mb mt : Nat → Int32} (h : HS hS hR hP fl Hs Hr Hb Ho Hk mb mt) (a1 s1 r1 p1 : Int32) (ms mr mo mk : Nat → Int32) (x y : Int32) : ∃ (r q1 q2 q3 q4 : Int32) (q5 q6 q7 q8 : Nat → Int32), p_X7_person hP Ho Hk x y = some r ∧ p_X8_person a1 s1 r1 p1 mb mt ms mr mo mk x y = some (r, q1, q2, q3, q4, q5, q6, q7, q8) := by
  obtain ⟨S, R, P, srt, row, own, kd, rfl, rfl, rfl, hc, hm⟩ := h
  obtain ⟨hS, hR, hP, hc1, hc2, hc3⟩ := hc
  obtain ⟨a3, ms', mr', mo', mk', q, m1, m2⟩ := v_find hm a1 s1 r1 p1 ms mr mo mk
  unfold p_X7_person p_X7_person_b0 p_X7_person_b15 p_X7_person_b43 p_X8_person p_X8_person_b0 p_X8_person_b37 p_X8_person_b39 p_X8_isPerson p_X8_isPerson_b0
  rw [q, b8_some]
  rcases v_noSeat (S := P) (by omega) x with ⟨k, hk, rfl, -, e1, e2⟩ | ⟨-, e1, e2⟩
  · rw [e1, e2, b1_some, b1_some, if_pos rfl, show isZ 1 = true from by decide, gd_true, b9_some, if_neg (show ¬ (1 : Int32) = 0 by decide), inB_nI (show k < 8 by omega) (by decide), gd_true, gd_true, gd_true, gd_true, nI_clamp (by omega)]
    have ep : p_X7_isNoPart y = p_X7_isNoText y := rfl
    rw [ep]
    rcases v_text y with ⟨hy, e3, e4⟩ | ⟨e3, e4⟩
    · rw [e3, e4, b1_some, b1_some, if_pos rfl, if_neg (show ¬ (1 : Int32) = 0 by decide)]
      by_cases h0 : y = 0
      · rw [if_pos h0, if_pos h0]
        rw [(m2 k hk).1, (hc3 k hk).1]; exact ⟨_, _, _, _, _, _, _, _, _, rfl, rfl⟩
      · rw [if_neg h0, if_neg h0]
        rw [(m2 k hk).2, (hc3 k hk).2.1]; exact ⟨_, _, _, _, _, _, _, _, _, rfl, rfl⟩
    · rw [e3, e4, b1_some, b1_some, if_neg (show ¬ (1 : Int32) = 0 by decide), if_pos rfl]
      exact ⟨_, _, _, _, _, _, _, _, _, rfl, rfl⟩
  · rw [e1, e2, b1_some, b1_some, if_neg (show ¬ (1 : Int32) = 0 by decide), show isZ 0 = true from by decide, gd_true, b9_some, if_pos rfl]
    exact ⟨_, _, _, _, _, _, _, _, _, rfl, rfl⟩
