/-! the texts: people, both readings side by side -/
theorem dig_yes {S d : Nat} (hS : S < 9) (hd : d < S) : ¬ nI (48 + d) < 48 ∧ nI (48 + d) < 48 + nI S ∧ nI (48 + d) - 48 = nI d ∧ p_X8_in (nI d).toInt64 0 ((nI S - 1).toInt64) = some 1 := by
  refine ⟨nI_nlt (a := 48 + d) (b := 48) (by omega) (by omega), ?_, ?_, ?_⟩
  · rw [show (48 : Int32) = nI 48 from rfl, nI_add]
    exact nI_lt (by omega) (by omega)
  · have := pk_sub (a := 48 + d) (b := 48) (by omega)
    rw [show (48 : Int32) = nI 48 from rfl, this, show 48 + d - 48 = d by omega]
  · rw [show nI S - 1 = nI (S - 1) from by rw [L1, pk_sub (by omega)], v_in, Int32.toInt_toInt64, Int32.toInt_toInt64, nI_toInt (by omega), nI_toInt (by omega), if_pos]
    rw [show (0 : Int64).toInt = 0 from by decide]
    omega
theorem dig_no {S : Nat} {x : Int32} (hS : S < 9) (h1 : 1 ≤ S) (h : ∀ d, d < S → x ≠ nI (48 + d)) : (x < 48 ∨ ¬ x < 48 + nI S) ∧ p_X8_in (x - 48).toInt64 0 ((nI S - 1).toInt64) = some 0 := by
  have key : ∀ d : Nat, d < S → ¬ x.toInt = ((48 + d : Nat) : Int) := fun d hd q => h d hd (Int32.toInt_inj.mp (by rw [q, nI_toInt (by omega)]))
  constructor
  · by_cases q : x < 48
    · exact Or.inl q
    · refine Or.inr (fun q2 => ?_)
      rw [show (48 : Int32) = nI 48 from rfl, nI_add] at q2
      have q3 := Int32.lt_iff_toInt_lt.mp q2
      rw [nI_toInt (by omega)] at q3
      have q4 : ¬ x.toInt < 48 := fun z => q (Int32.lt_iff_toInt_lt.mpr z)
      exact key (x.toInt - 48).toNat (by omega) (by omega)
  · rw [L1, pk_sub (by omega), v_in, Int32.toInt_toInt64, Int32.toInt_toInt64, nI_toInt (by omega), if_neg]
    rw [show (0 : Int64).toInt = 0 from by decide]
    intro q
    have e : x - 48 = nI (x - 48).toInt.toNat := Int32.toInt_inj.mp (by rw [nI_toInt (by omega)]; omega)
    have e2 : x = nI (48 + (x - 48).toInt.toNat) := by
      rw [← nI_add, ← e, show nI 48 = 48 from rfl, Int32.add_comm, Int32.sub_add_cancel]
    exact h _ (by omega) e2
def pOK (S P : Nat) (own kd : Nat → Nat) (Ho Hk mo mk : Nat → Int32) : Prop := ∀ i, i < P → Ho i = nI (own i) ∧ Hk i = nI (kd i) ∧ mo i = nI (own i) ∧ mk i = nI (kd i) ∧ own i < S ∧ kd i < 4
/-- what both readings of the people come to -/
def ppOut (S : Nat) (cr : Option (Int32 × (Nat → Int32) × (Nat → Int32) × (Nat → Int32))) (m2 : Option (Int32 × Int32 × Int32 × (Nat → Int32) × (Nat → Int32))) (fl : Nat → Int32) : Prop :=
  ∃ (P : Nat) (own kd : Nat → Nat) (fv at2 : Int32) (Ho Hk mo mk : Nat → Int32), P ≤ S ∧ pOK S P own kd Ho Hk mo mk ∧ cr = some (nI P, upd fl 1 fv, Ho, Hk) ∧ m2 = some (fv, at2, nI P, mo, mk)
theorem fault_P {S P at_ : Nat} {L fl Ho Hk : Nat → Int32} {Z : Nat → Nat → Int32} (h : at_ ≤ 20) : p_X3_parsePeople_b150 (nI S) (nI P) L fl Ho Hk Z 1 (nI at_) = some (0, upd fl 1 (nI at_), Ho, Hk) := by
  unfold p_X3_parsePeople_b150 p_X3_parsePeople_b151 p_X3_parsePeople_b167
  simp only [show inB 1 2 = true from rfl, gd_true, nm_def, cl1]
  rw [upd_at, if_pos rfl, if_neg (nI_m1 (by omega))]
theorem b126_P {S P at_ n : Nat} {x1 : Int32} {L fl Ho Hk : Nat → Int32} {Z : Nat → Nat → Int32} (hn : n ≤ 20) (hL : L 1 = nI n) (h : at_ < n) : p_X3_parsePeople_b126 (nI S) (nI P) L fl Ho Hk Z x1 (nI at_) = some (0, upd fl 1 (nI at_), Ho, Hk) := by
  have hne : ¬ nI at_ = nI n := fun q => by have := nI_inj q (by omega) (by omega); omega
  unfold p_X3_parsePeople_b126
  rw [show inB 1 2 = true from rfl, gd_true, cl1, hL, if_neg hne, fault_P (by omega)]
theorem b126_Q {S P n d : Nat} {L fl Ho Hk : Nat → Int32} {Z : Nat → Nat → Int32} (hn : n ≤ 20) (hd : d < 9) (hL : L 1 = nI n) : p_X3_parsePeople_b126 (nI S) (nI P) L fl Ho Hk Z (nI d) (nI n) = some (0, upd fl 1 (nI n), Ho, Hk) := by
  unfold p_X3_parsePeople_b126
  rw [show inB 1 2 = true from rfl, gd_true, cl1, hL, if_pos rfl, if_neg (nI_m1 (by omega)), fault_P (by omega)]
theorem pp_sim {n S : Nat} (hn : n ≤ 20) (hS : S < 9) {L fl mb mt : Nat → Int32} {Z : Nat → Nat → Int32} (hL : L 1 = nI n) (ht : mt 1 = nI n) (hb : ∀ j, j < n → Z 1 j = mb (20 + j)) : ∀ (r at_ fC fM P : Nat) (own kd : Nat → Nat) (Ho Hk mo mk : Nat → Int32), at_ + r = n → r < fC → r < fM → P ≤ S → pOK S P own kd Ho Hk mo mk →
    ppOut S (p_X3_parsePeople_b9 fC (nI S) (nI P) L fl Ho Hk Z (-1) (nI at_)) (p_X8_readsPeople_b10 fM (nI at_) (nI S) (nI P) mb mt mo mk) fl := by
  intro r
  induction r using Nat.strongRecOn with
  | _ r ih =>
  intro at_ fC fM P own kd Ho Hk mo mk hat hfC hfM hP hp
  obtain ⟨c, rfl⟩ : ∃ c, fC = c + 1 := ⟨fC - 1, by omega⟩
  obtain ⟨m, rfl⟩ : ∃ m, fM = m + 1 := ⟨fM - 1, by omega⟩
  have flt : ∀ (a : Nat) (o2 k2 : Nat → Int32), ppOut S (some (0, upd fl 1 (nI a), Ho, Hk)) (some (nI a, nI a, 0, mo, mk)) fl := fun a _ _ => ⟨0, own, kd, nI a, nI a, Ho, Hk, mo, mk, by omega, fun i hi => absurd hi (by omega), rfl, rfl⟩
  show ppOut S (p_X3_parsePeople_b9x _ _ _ _ _ _ _ _ _ _) (p_X8_readsPeople_b10x _ _ _ _ _ _ _ _) fl
  unfold p_X3_parsePeople_b9x p_X8_readsPeople_b10x p_X8_readsPeople_b59 p_X8_nobody p_X8_nobody_b0
  simp only [show inB 1 2 = true from rfl, gd_true, cl1, hL, ht]
  by_cases h0 : r = 0
  · have e : at_ = n := by omega
    subst e
    rw [if_pos (nI_le (Nat.le_refl _) (by omega)), if_pos (nI_le (Nat.le_refl _) (by omega))]
    refine ⟨P, own, kd, -1, nI at_, Ho, Hk, mo, mk, hP, hp, ?_, rfl⟩
    unfold p_X3_parsePeople_b126 p_X3_parsePeople_b151 p_X3_parsePeople_b167
    simp only [show inB 1 2 = true from rfl, gd_true, nm_def, cl1, hL]
    rw [if_pos trivial, if_pos trivial, upd_at, if_pos rfl, if_pos rfl]
  · have hlt : at_ < n := by omega
    rw [if_neg (nI_ge hlt (by omega)), if_neg (nI_ge hlt (by omega)), show decide (1 < 2) = true from rfl, gd_true, inB_nI (show at_ < 20 by omega) (by decide), gd_true, nI_clamp (by omega), hb at_ hlt, nm_def, if_pos trivial, here_1 (by omega) (by omega) ht, if_pos hlt, b1_some]
    generalize mb (20 + at_) = x
    simp only [nm_def]
    have ea : ∀ a : Nat, nI a + 1 = nI (a + 1) := fun a => by rw [L1, nI_add]
    by_cases hPS : P = S
    · subst hPS
      rw [if_pos (nI_le (Nat.le_refl _) (by omega)), if_pos rfl, b126_P hn hL hlt, b2_some]
      exact flt at_ Ho Ho
    · have hne : ¬ nI P = nI S := fun q => hPS (nI_inj q (by omega) (by omega))
      rw [if_neg (nI_ge (by omega) (by omega)), if_neg hne]
      by_cases hd : ∃ d, d < S ∧ x = nI (48 + d)
      · obtain ⟨d, hd, rfl⟩ := hd
        obtain ⟨e1, e2, e3, e4⟩ := dig_yes hS hd
        rw [if_neg e1, if_pos e2, e3, e4, b1_some, if_neg (show ¬ (1 : Int32) = 0 by decide)]
        unfold p_X3_parsePeople_b120
        simp only [nm_def, ea]
        obtain ⟨c', rfl⟩ : ∃ c', c = c' + 1 := ⟨c - 1, by omega⟩
        have eL : p_X3_parsePeople_b9 (c' + 1) (nI S) (nI P) L fl Ho Hk Z (nI d) (nI (at_ + 1)) = p_X3_parsePeople_b9x (p_X3_parsePeople_b9 c') (nI S) (nI P) L fl Ho Hk Z (nI d) (nI (at_ + 1)) := rfl
        rw [eL]
        unfold p_X3_parsePeople_b9x
        simp only [show inB 1 2 = true from rfl, gd_true, cl1, hL]
        rw [here_1 (by omega) (by omega) ht, b1_some, v_kindM, b1_some]
        by_cases h2 : at_ + 1 < n
        · rw [if_neg (nI_ge h2 (by omega)), show decide (1 < 2) = true from rfl, gd_true, inB_nI (show at_ + 1 < 20 by omega) (by decide), gd_true, nI_clamp (by omega), hb (at_ + 1) h2, nm_def, if_neg (nI_m1 (by omega)), v_kindC, b1_some, if_pos h2]
          generalize mb (20 + (at_ + 1)) = y
          show ppOut S (if knd y = -1 then _ else _) _ fl
          rcases knd_or (x := y) with q | ⟨v, hv, q⟩
          · rw [if_pos q, if_pos q, b126_P hn hL h2, b2_some]
            exact flt (at_ + 1) Ho Ho
          · have q1 : ¬ knd y = -1 := by rw [q]; exact nI_m1 (by omega)
            rw [if_neg q1, if_neg q1, inB_nI (show P < 8 by omega) (by decide)]
            unfold p_X3_parsePeople_b120
            simp only [gd_true, nm_def, ea]
            rw [nI_clamp (by omega), q]
            refine ih (r - 2) (by omega) (at_ + 1 + 1) c' m (P + 1) (fun i => if i = P then d else own i) (fun i => if i = P then v else kd i) _ _ _ _ (by omega) (by omega) (by omega) (by omega) ?_
            intro i hi
            by_cases h3 : i = P
            · subst h3
              simp only [upd_at, if_pos]
              exact ⟨trivial, q, trivial, trivial, hd, hv⟩
            · simp only [upd_at, if_neg h3]
              exact hp i (by omega)
        · have e9 : at_ + 1 = n := by omega
          rw [if_neg h2, e9, if_pos (nI_le (Nat.le_refl _) (by omega)), b126_Q hn (by omega) hL, if_pos (show knd (-1) = -1 from by decide), b2_some]
          exact flt n Ho Ho
      · have hd2 : ∀ d, d < S → x ≠ nI (48 + d) := fun d h1 h2 => hd ⟨d, h1, h2⟩
        obtain ⟨e1, e4⟩ := dig_no hS (by omega) hd2
        rw [e4, b1_some, if_pos rfl, b126_P hn hL hlt, b2_some]
        by_cases q : x < 48
        · rw [if_pos q]; exact flt at_ Ho Ho
        · rw [if_neg q, if_neg (by rcases e1 with e1 | e1; exact absurd e1 q; exact e1)]; exact flt at_ Ho Ho
theorem v_parsePeople {n S : Nat} (hn : n ≤ 20) (hS : S < 9) {L fl mb mt : Nat → Int32} {Z : Nat → Nat → Int32} (hL : L 1 = nI n) (ht : mt 1 = nI n) (hb : ∀ j, j < n → Z 1 j = mb (20 + j)) {p0 a1 p1 : Int32} {Ho Hk mo mk : Nat → Int32} :
    ppOut S (p_X3_parsePeople (nI S) p0 L fl Ho Hk Z) (p_X8_readsPeople a1 (nI S) p1 mb mt mo mk) fl :=
  pp_sim hn hS (fl := fl) hL ht hb n 0 4096 4096 0 (fun _ => 0) (fun _ => 0) Ho Hk mo mk (by omega) (by omega) (by omega) (by omega) (fun i hi => absurd hi (by omega))
