/-! small tests of arguments, both sides -/
theorem v_text (x : Int32) : ((x = 0 ∨ x = 1) ∧ p_X7_isNoText x = some 0 ∧ p_X8_isTwo x = some 1) ∨ (p_X7_isNoText x = some 1 ∧ p_X8_isTwo x = some 0) := by
  unfold p_X7_isNoText p_X7_isNoText_b0 p_X7_isNoText_b9 p_X7_isNoText_b14 p_X8_isTwo p_X8_isTwo_b0
  rw [v_in, Int32.toInt_toInt64, show (0 : Int64).toInt = 0 from by decide, show (1 : Int64).toInt = 1 from by decide, b1_some, show isZ 0 = true from by decide, show isZ 1 = true from by decide, gd_true, gd_true]
  by_cases h : 0 ≤ x.toInt ∧ x.toInt ≤ 1
  · left
    rw [if_pos h, if_neg (fun q => by have := Int32.lt_iff_toInt_lt.mp q; rw [show (0 : Int32).toInt = 0 from by decide] at this; omega), if_pos (Int32.le_iff_toInt_le.mpr (by rw [show (1 : Int32).toInt = 1 from by decide]; exact h.2))]
    refine ⟨?_, rfl, rfl⟩
    by_cases h2 : x.toInt = 0
    · exact Or.inl (Int32.toInt_inj.mp (by rw [h2]; decide))
    · exact Or.inr (Int32.toInt_inj.mp (by rw [show (1 : Int32).toInt = 1 from by decide]; omega))
  · right
    rw [if_neg h]
    refine ⟨?_, rfl⟩
    by_cases h1 : x < 0
    · rw [if_pos h1]
    · rw [if_neg h1, if_neg (fun q => h ⟨?_, ?_⟩)]
      · have q2 : ¬ x.toInt < 0 := fun z => h1 (Int32.lt_iff_toInt_lt.mpr z)
        omega
      · have := Int32.le_iff_toInt_le.mp q
        exact this
