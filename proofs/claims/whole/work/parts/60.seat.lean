/-! seat, count, both sides -/
theorem i10 : ((1 : Int32) = 0) = False := eq_false (by decide)
theorem i00 : ((0 : Int32) = 0) = True := eq_true rfl
theorem z0 : isZ 0 = true := by decide
theorem z1 : isZ 1 = true := by decide
theorem in02 (y : Int32) : p_X8_in y.toInt64 0 2 = some (if y = 0 then 1 else if y = 1 then 1 else if y = 2 then 1 else 0) := by
  rw [v_in, Int32.toInt_toInt64, show (0 : Int64).toInt = 0 from by decide, show (2 : Int64).toInt = 2 from by decide]
  have e0 : (y = 0) = (y.toInt = 0) := (toInt_is (by decide)).symm
  have e1 : (y = 1) = (y.toInt = 1) := (toInt_is (by decide)).symm
  have e2 : (y = 2) = (y.toInt = 2) := (toInt_is (by decide)).symm
  simp only [e0, e1, e2]
  by_cases h0 : y.toInt = 0
  · rw [if_pos h0, if_pos (by omega)]
  · rw [if_neg h0]
    by_cases h1 : y.toInt = 1
    · rw [if_pos h1, if_pos (by omega)]
    · rw [if_neg h1]
      by_cases h2 : y.toInt = 2
      · rw [if_pos h2, if_pos (by omega)]
      · rw [if_neg h2, if_neg (by omega)]
theorem v_seat {hS hR hP : Int32} {fl Hs Hr Hb Ho Hk mb mt : Nat → Int32} (h : HS hS hR hP fl Hs Hr Hb Ho Hk mb mt) (a1 s1 r1 p1 : Int32) (ms mr mo mk : Nat → Int32) (x y : Int32) : ∃ (r q1 q2 q3 q4 : Int32) (q5 q6 q7 q8 : Nat → Int32), p_X7_seat hS hP Hs Hr Ho x y = some r ∧ p_X8_seat a1 s1 r1 p1 mb mt ms mr mo mk x y = some (r, q1, q2, q3, q4, q5, q6, q7, q8) := by
  obtain ⟨S, R, P, srt, row, own, kd, rfl, rfl, rfl, hc, hm⟩ := h
  obtain ⟨hS, hR, hP, hc1, hc2, hc3⟩ := hc
  obtain ⟨a3, ms', mr', mo', mk', q, m1, m2⟩ := v_find hm a1 s1 r1 p1 ms mr mo mk
  have e0 : (y.toInt = 0) = (y = 0) := toInt_is (by decide)
  have e1 : (y.toInt = 1) = (y = 1) := toInt_is (by decide)
  have e2 : (y.toInt = 2) = (y = 2) := toInt_is (by decide)
  unfold p_X7_seat p_X7_seat_b0 p_X8_seat p_X8_seat_b0 p_X8_seat_b29 p_X8_seat_b31 p_X8_seatOf p_X8_seatOf_b0 p_X8_seatOf_b32 p_X8_isSeat p_X8_isSeat_b0
  rw [q, b8_some, in02]
  rcases v_noSeat (S := S) (by omega) x with ⟨k, hk, rfl, f1, -, f2⟩ | ⟨f1, -, f2⟩
  · obtain ⟨v, w1, w2⟩ := v_owners (P := P) (by omega) (fun i hi => (hc3 i hi).1.trans (m2 i hi).1.symm) (nI k)
    rw [f1, f2]
    simp only [b1_some, b9_some, z1, gd_true, i10, i00, if_true, if_false, e0, e1, e2, inB_nI (show k < 8 by omega) (by decide), nI_clamp (show k < 2 ^ 31 by omega), w1, w2]
    by_cases h0 : y = 0
    · simp only [if_pos h0, i10, if_false]
      rw [(m1 k hk).1, (hc1 k hk).1]; exact ⟨_, _, _, _, _, _, _, _, _, rfl, rfl⟩
    · by_cases h1 : y = 1
      · simp only [if_neg h0, if_pos h1, i10, if_false]
        rw [(m1 k hk).2, (hc1 k hk).2.1]; exact ⟨_, _, _, _, _, _, _, _, _, rfl, rfl⟩
      · by_cases h2 : y = 2
        · simp only [if_neg h0, if_neg h1, if_pos h2, i10, if_false]
          exact ⟨_, _, _, _, _, _, _, _, _, rfl, rfl⟩
        · simp only [if_neg h0, if_neg h1, if_neg h2, i00, if_true]
          exact ⟨_, _, _, _, _, _, _, _, _, rfl, rfl⟩
  · rw [f1, f2]
    simp only [b1_some, b9_some, z0, gd_true, i10, i00, if_true, if_false]
    exact ⟨_, _, _, _, _, _, _, _, _, rfl, rfl⟩
theorem lost_sim {P : Nat} (hP : P ≤ 8) {Hk mk : Nat → Int32} (h : ∀ i, i < P → Hk i = mk i) {lt a s rr sg : Int32} {mb mt ms mr mo : Nat → Int32} : ∀ (r i fC fM : Nat) (acc : Int32), i + r = P → r < fC → r < fM → ∃ v, p_X3_countLost_b4 fC (nI P) Hk acc (nI i) = some v ∧ p_X8_count_b87 fM lt a s rr (nI P) sg mb mt ms mr mo mk acc (nI i) = some (v, a, s, rr, nI P, ms, mr, mo, mk) := by
  intro r
  induction r with
  | zero =>
    intro i fC fM acc hi hC hM
    obtain ⟨c, rfl⟩ : ∃ c, fC = c + 1 := ⟨fC - 1, by omega⟩
    obtain ⟨m, rfl⟩ : ∃ m, fM = m + 1 := ⟨fM - 1, by omega⟩
    have e : i = P := by omega
    subst e
    refine ⟨acc, ?_, ?_⟩
    · show p_X3_countLost_b4x _ _ _ _ _ = _
      unfold p_X3_countLost_b4x
      rw [if_pos (nI_le (Nat.le_refl _) (by omega))]
    · show p_X8_count_b87x _ _ _ _ _ _ _ _ _ _ _ _ _ _ _ = _
      unfold p_X8_count_b87x
      rw [if_pos (nI_le (Nat.le_refl _) (by omega))]
  | succ r ih =>
    intro i fC fM acc hi hC hM
    obtain ⟨c, rfl⟩ : ∃ c, fC = c + 1 := ⟨fC - 1, by omega⟩
    obtain ⟨m, rfl⟩ : ∃ m, fM = m + 1 := ⟨fM - 1, by omega⟩
    show ∃ v, p_X3_countLost_b4x _ _ _ _ _ = _ ∧ p_X8_count_b87x _ _ _ _ _ _ _ _ _ _ _ _ _ _ _ = _
    unfold p_X3_countLost_b4x p_X8_count_b87x p_X3_countLost_b28 p_X8_count_b111
    rw [if_neg (nI_ge (by omega) (by omega)), if_neg (nI_ge (by omega) (by omega)), inB_nI (show i < 8 by omega) (by decide)]
    simp only [gd_true, nm_def, nI_1]
    rw [nI_clamp (by omega), ← h i (by omega)]
    by_cases q : Hk i = 1
    · simp only [if_pos q]
      exact ih (i + 1) c m _ (by omega) (by omega) (by omega)
    · simp only [if_neg q]
      exact ih (i + 1) c m _ (by omega) (by omega) (by omega)
theorem unow_sim {S P : Nat} (hS : S ≤ 8) (hP : P ≤ 8) {Ho mo : Nat → Int32} (h : ∀ i, i < P → Ho i = mo i) {lt a rr sg : Int32} {mb mt ms mr mk : Nat → Int32} : ∀ (r i fC fM : Nat) (acc : Int32), i + r = S → r < fC → r < fM → ∃ v, p_X3_countUnowned_b4 fC (nI S) (nI P) Ho acc (nI i) = some v ∧ p_X8_count_b123 fM lt a (nI S) rr (nI P) sg mb mt ms mr mo mk acc (nI i) = some (v, a, nI S, rr, nI P, ms, mr, mo, mk) := by
  intro r
  induction r with
  | zero =>
    intro i fC fM acc hi hC hM
    obtain ⟨c, rfl⟩ : ∃ c, fC = c + 1 := ⟨fC - 1, by omega⟩
    obtain ⟨m, rfl⟩ : ∃ m, fM = m + 1 := ⟨fM - 1, by omega⟩
    have e : i = S := by omega
    subst e
    refine ⟨acc, ?_, ?_⟩
    · show p_X3_countUnowned_b4x _ _ _ _ _ _ = _
      unfold p_X3_countUnowned_b4x
      rw [if_pos (nI_le (Nat.le_refl _) (by omega))]
    · show p_X8_count_b123x _ _ _ _ _ _ _ _ _ _ _ _ _ _ _ = _
      unfold p_X8_count_b123x
      rw [if_pos (nI_le (Nat.le_refl _) (by omega))]
  | succ r ih =>
    intro i fC fM acc hi hC hM
    obtain ⟨c, rfl⟩ : ∃ c, fC = c + 1 := ⟨fC - 1, by omega⟩
    obtain ⟨m, rfl⟩ : ∃ m, fM = m + 1 := ⟨fM - 1, by omega⟩
    obtain ⟨v, w1, w2⟩ := v_owners hP h (nI i)
    show ∃ v, p_X3_countUnowned_b4x _ _ _ _ _ _ = _ ∧ p_X8_count_b123x _ _ _ _ _ _ _ _ _ _ _ _ _ _ _ = _
    unfold p_X3_countUnowned_b4x p_X8_count_b123x p_X3_countUnowned_b26 p_X8_count_b145
    rw [if_neg (nI_ge (by omega) (by omega)), if_neg (nI_ge (by omega) (by omega)), w1, w2]
    simp only [b1_some, nm_def, nI_1]
    by_cases q : v = 0
    · simp only [if_pos q]
      exact ih (i + 1) c m _ (by omega) (by omega) (by omega)
    · simp only [if_neg q]
      exact ih (i + 1) c m _ (by omega) (by omega) (by omega)
theorem v_count {hS hR hP : Int32} {fl Hs Hr Hb Ho Hk mb mt : Nat → Int32} (h : HS hS hR hP fl Hs Hr Hb Ho Hk mb mt) (a1 s1 r1 p1 : Int32) (ms mr mo mk : Nat → Int32) {L : Nat → Int32} {Z : Nat → Nat → Int32} (hT : TX L Z mb mt) (fd sg x : Int32) : ∃ (r q1 q2 q3 q4 : Int32) (q5 q6 q7 q8 : Nat → Int32), p_X7_count hS hR hP sg fd L Ho Hk x = some r ∧ p_X8_count fd a1 s1 r1 p1 sg mb mt ms mr mo mk x = some (r, q1, q2, q3, q4, q5, q6, q7, q8) := by
  obtain ⟨S, R, P, srt, row, own, kd, rfl, rfl, rfl, hc, hm⟩ := h
  obtain ⟨hS, hR, hP, hc1, hc2, hc3⟩ := hc
  obtain ⟨a3, ms', mr', mo', mk', q, m1, m2⟩ := v_find hm a1 s1 r1 p1 ms mr mo mk
  obtain ⟨n0, n1, -, -, t1, t2, t3, t4, -, -⟩ := hT
  obtain ⟨v1, w1, w2⟩ := lost_sim (P := P) (by omega) (fun i hi => (hc3 i hi).2.1.trans (m2 i hi).2.symm) (lt := fd) (a := a3) (s := nI S) (rr := nI R) (sg := sg) (mb := mb) (mt := mt) (ms := ms') (mr := mr') (mo := mo') P 0 4096 4096 0 (by omega) (by omega) (by omega)
  obtain ⟨v2, w3, w4⟩ := unow_sim (S := S) (P := P) (by omega) (by omega) (fun i hi => (hc3 i hi).1.trans (m2 i hi).1.symm) (lt := fd) (a := a3) (rr := nI R) (sg := sg) (mb := mb) (mt := mt) (ms := ms') (mr := mr') (mk := mk') S 0 4096 4096 0 (by omega) (by omega) (by omega)
  have w1' : p_X3_countLost (nI P) Hk = some v1 := w1
  have w3' : p_X3_countUnowned (nI S) (nI P) Ho = some v2 := w3
  unfold p_X7_count p_X7_count_b0 p_X8_count p_X8_count_b0
  rw [q, b8_some]
  by_cases c0 : x.toInt = 0
  · simp only [if_pos c0]; exact ⟨_, _, _, _, _, _, _, _, _, rfl, rfl⟩
  · by_cases c1 : x.toInt = 1
    · simp only [if_neg c0, if_pos c1]; exact ⟨_, _, _, _, _, _, _, _, _, rfl, rfl⟩
    · by_cases c2 : x.toInt = 2
      · simp only [if_neg c0, if_neg c1, if_pos c2]; exact ⟨_, _, _, _, _, _, _, _, _, rfl, rfl⟩
      · by_cases c3 : x.toInt = 3
        · simp only [if_neg c0, if_neg c1, if_neg c2, if_pos c3]
          have e : x = 3 := by rwa [toInt_is (show (3 : Int32).toInt = 3 by decide)] at c3
          subst e
          have e : mt ((3 : Int32) - 3).toNatClampNeg = L (0 : Int32).toNatClampNeg := t3.trans t1.symm
          rw [e]
          exact ⟨_, _, _, _, _, _, _, _, _, rfl, rfl⟩
        · by_cases c4 : x.toInt = 4
          · simp only [if_neg c0, if_neg c1, if_neg c2, if_neg c3, if_pos c4]
            have e : x = 4 := by rwa [toInt_is (show (4 : Int32).toInt = 4 by decide)] at c4
            subst e
            have e : mt ((4 : Int32) - 3).toNatClampNeg = L (1 : Int32).toNatClampNeg := t4.trans t2.symm
            rw [e]
            exact ⟨_, _, _, _, _, _, _, _, _, rfl, rfl⟩
          · by_cases c5 : x.toInt = 5
            · simp only [if_neg c0, if_neg c1, if_neg c2, if_neg c3, if_neg c4, if_pos c5]; exact ⟨_, _, _, _, _, _, _, _, _, rfl, rfl⟩
            · by_cases c6 : x.toInt = 6
              · simp only [if_neg c0, if_neg c1, if_neg c2, if_neg c3, if_neg c4, if_neg c5, if_pos c6, w1', b1_some]
                exact ⟨_, _, _, _, _, _, _, _, _, rfl, w2⟩
              · by_cases c7 : x.toInt = 7
                · simp only [if_neg c0, if_neg c1, if_neg c2, if_neg c3, if_neg c4, if_neg c5, if_neg c6, if_pos c7, w3', b1_some]
                  exact ⟨_, _, _, _, _, _, _, _, _, rfl, w4⟩
                · by_cases c8 : x.toInt = 8
                  · simp only [if_neg c0, if_neg c1, if_neg c2, if_neg c3, if_neg c4, if_neg c5, if_neg c6, if_neg c7, if_pos c8]; exact ⟨_, _, _, _, _, _, _, _, _, rfl, rfl⟩
                  · simp only [if_neg c0, if_neg c1, if_neg c2, if_neg c3, if_neg c4, if_neg c5, if_neg c6, if_neg c7, if_neg c8]; exact ⟨_, _, _, _, _, _, _, _, _, rfl, rfl⟩
