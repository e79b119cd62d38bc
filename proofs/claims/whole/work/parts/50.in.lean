/-! the model's in; bytes of the second text -/
theorem lg_lt {x a : Int64} : (lg_cmp x a < 0) = (x.toInt < a.toInt) := by
  unfold lg_cmp
  by_cases h1 : x > a
  · have h2 : a.toInt < x.toInt := Int64.lt_iff_toInt_lt.mp h1
    rw [if_pos h1]
    exact propext ⟨fun q => absurd q (by decide), fun q => by omega⟩
  · have h2 : ¬ a.toInt < x.toInt := fun q => h1 (Int64.lt_iff_toInt_lt.mpr q)
    rw [if_neg h1]
    by_cases h3 : x = a
    · rw [if_pos h3, h3]
      exact propext ⟨fun q => absurd q (by decide), fun q => by omega⟩
    · have h4 : ¬ x.toInt = a.toInt := fun q => h3 (Int64.toInt_inj.mp q)
      rw [if_neg h3]
      exact propext ⟨fun _ => by omega, fun _ => by decide⟩
theorem lg_gt {x a : Int64} : (0 < lg_cmp x a) = (a.toInt < x.toInt) := by
  unfold lg_cmp
  by_cases h1 : x > a
  · have h2 : a.toInt < x.toInt := Int64.lt_iff_toInt_lt.mp h1
    rw [if_pos h1]
    exact propext ⟨fun _ => h2, fun _ => by decide⟩
  · have h2 : ¬ a.toInt < x.toInt := fun q => h1 (Int64.lt_iff_toInt_lt.mpr q)
    rw [if_neg h1]
    by_cases h3 : x = a
    · rw [if_pos h3, h3]
      exact propext ⟨fun q => absurd q (by decide), fun q => by omega⟩
    · rw [if_neg h3]
      exact propext ⟨fun q => absurd q (by decide), fun q => absurd q h2⟩
theorem v_in {x a b : Int64} : p_X8_in x a b = some (if a.toInt ≤ x.toInt ∧ x.toInt ≤ b.toInt then 1 else 0) := by
  unfold p_X8_in p_X8_in_b0 p_X8_in_b17 p_X8_in_b18
  simp only [lg_lt, lg_gt]
  rw [show isZ 0 = true from by decide, show isZ 1 = true from by decide, gd_true, gd_true]
  by_cases h1 : x.toInt < a.toInt
  · rw [if_pos h1, if_neg (by omega)]
  · rw [if_neg h1]
    by_cases h2 : b.toInt < x.toInt
    · rw [if_pos h2, if_neg (by omega)]
    · rw [if_neg h2, if_pos (by omega)]
theorem v_kindC {x : Int32} : p_X3_kindOf x = some (if x = 108 then 1 else if x = 110 then 2 else if x = 111 then 0 else if x = 115 then 3 else -1) := by
  unfold p_X3_kindOf p_X3_kindOf_b0
  simp only [toInt_is (x := x) (n := 108) (y := 108) (by decide), toInt_is (x := x) (n := 110) (y := 110) (by decide), toInt_is (x := x) (n := 111) (y := 111) (by decide), toInt_is (x := x) (n := 115) (y := 115) (by decide)]
  repeat' split
  all_goals rfl
def knd (x : Int32) : Int32 := if x = 108 then 1 else if x = 110 then 2 else if x = 111 then 0 else if x = 115 then 3 else -1
theorem v_kindM {x : Int32} : p_X8_kindOf x = some (knd x) := by
  unfold p_X8_kindOf p_X8_kindOf_b0 p_X8_kindOf_b41 knd
  by_cases h1 : x = 111
  · subst h1; rfl
  · rw [if_neg h1]
    by_cases h2 : x = 108
    · rw [if_pos h2, if_pos h2]
    · rw [if_neg h2, if_neg h2]
      by_cases h3 : x = 110
      · rw [if_pos h3, if_pos h3]
      · rw [if_neg h3, if_neg h3, if_neg h1]
        by_cases h4 : x = 115
        · rw [if_pos h4, if_pos h4]
        · rw [if_neg h4, if_neg h4]
theorem knd_or {x : Int32} : knd x = -1 ∨ ∃ v : Nat, v < 4 ∧ knd x = nI v := by
  unfold knd
  repeat' split
  · exact Or.inr ⟨1, by decide, rfl⟩
  · exact Or.inr ⟨2, by decide, rfl⟩
  · exact Or.inr ⟨0, by decide, rfl⟩
  · exact Or.inr ⟨3, by decide, rfl⟩
  · exact Or.inl rfl
theorem cl1 : (1 : Int32).toNatClampNeg = 1 := by decide
theorem here_1 {at_ n : Nat} {mb mt : Nat → Int32} (hat : at_ ≤ 20) (hn : n ≤ 20) (ht : mt 1 = nI n) : p_X8_here (nI at_) mb mt 1 = some (if at_ < n then mb (20 + at_) else -1) := by
  unfold p_X8_here p_X8_here_b0 p_X8_here_b31
  rw [show inB 1 2 = true from rfl, gd_true, cl1, ht]
  by_cases h : at_ < n
  · rw [if_neg (nI_ge h (by omega)), if_pos h, show (20 : Int32) * 1 + nI at_ = nI (20 + at_) from by rw [show (20 : Int32) * 1 = nI 20 from rfl, nI_add], inB_nI (by omega) (by decide), gd_true, nI_clamp (by omega)]
  · rw [if_pos (nI_le (by omega) (by omega)), if_neg h]
