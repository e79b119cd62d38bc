/-! turned, both sides -/
theorem d_turn : ∀ n, n < 10 → ∀ k, k < 10 → ∀ w, w < 2 → (n = 0 ∨ n < k ∨ (p_X7_turned (nI n) (nI k) (nI w) = p_X8_turned (nI n) (nI k) (nI w) ∧ (p_X7_turned (nI n) (nI k) (nI w)).isSome = true)) := by decide +kernel
theorem v_turned (x y z : Int32) : ∃ r, p_X7_turned x y z = some r ∧ p_X8_turned x y z = some r := by
  by_cases hx : 1 ≤ x.toInt ∧ x.toInt ≤ 9
  · by_cases hy : 0 ≤ y.toInt ∧ y.toInt ≤ x.toInt
    · rcases v_wt z with ⟨w, hw, rfl, e1, e2⟩ | ⟨e1, e2⟩
      · have ex : x = nI x.toInt.toNat := Int32.toInt_inj.mp (by rw [nI_toInt (by omega)]; omega)
        have ey : y = nI y.toInt.toNat := Int32.toInt_inj.mp (by rw [nI_toInt (by omega)]; omega)
        have h := d_turn x.toInt.toNat (by omega) y.toInt.toNat (by omega) w hw
        rw [← ex, ← ey] at h
        obtain ⟨h1, h2⟩ := (h.resolve_left (by omega)).resolve_left (by omega)
        obtain ⟨r, hr⟩ := Option.isSome_iff_exists.mp h2
        exact ⟨r, hr, by rw [← h1]; exact hr⟩
      · refine ⟨-9223372036854775808 - (-2 : Int32).toInt64, ?_, ?_⟩
        · unfold p_X7_turned p_X7_turned_b0 p_X7_turned_b27
          rw [if_neg (fun q => by have := Int32.lt_iff_toInt_lt.mp q; rw [show (1 : Int32).toInt = 1 from by decide] at this; omega), if_neg (fun q => by have := Int32.lt_iff_toInt_lt.mp q; rw [show (9 : Int32).toInt = 9 from by decide] at this; omega), if_neg (fun q => by have := Int32.lt_iff_toInt_lt.mp q; rw [show (0 : Int32).toInt = 0 from by decide] at this; omega), if_neg (fun q => by have := Int32.lt_iff_toInt_lt.mp q; omega), e1, b1_some, if_neg (by decide)]
          rfl
        · unfold p_X8_turned p_X8_turned_b0 p_X8_turned_b39 p_X8_turned_b44
          rw [v_in, v_in, Int32.toInt_toInt64, Int32.toInt_toInt64, show (1 : Int64).toInt = 1 from by decide, show (9 : Int64).toInt = 9 from by decide, show (0 : Int64).toInt = 0 from by decide, if_pos hx, if_pos hy, e2]
          rfl
    · refine ⟨-9223372036854775808 - (-2 : Int32).toInt64, ?_, ?_⟩
      · unfold p_X7_turned p_X7_turned_b0 p_X7_turned_b27
        rw [if_neg (fun q => by have := Int32.lt_iff_toInt_lt.mp q; rw [show (1 : Int32).toInt = 1 from by decide] at this; omega), if_neg (fun q => by have := Int32.lt_iff_toInt_lt.mp q; rw [show (9 : Int32).toInt = 9 from by decide] at this; omega)]
        by_cases q0 : y < 0
        · rw [if_pos q0]; rfl
        · rw [if_neg q0]
          have q1 : ¬ y.toInt < 0 := fun q => q0 (Int32.lt_iff_toInt_lt.mpr q)
          rw [if_pos (Int32.lt_iff_toInt_lt.mpr (by omega))]
          rfl
      · unfold p_X8_turned p_X8_turned_b0 p_X8_turned_b39 p_X8_turned_b44
        rw [v_in, v_in, Int32.toInt_toInt64, Int32.toInt_toInt64, show (1 : Int64).toInt = 1 from by decide, show (9 : Int64).toInt = 9 from by decide, show (0 : Int64).toInt = 0 from by decide, if_pos hx, if_neg hy]
        rfl
  · refine ⟨-9223372036854775808 - (-2 : Int32).toInt64, ?_, ?_⟩
    · unfold p_X7_turned p_X7_turned_b0 p_X7_turned_b27
      by_cases q0 : x < 1
      · rw [if_pos q0]; rfl
      · rw [if_neg q0]
        have q1 : ¬ x.toInt < 1 := fun q => q0 (Int32.lt_iff_toInt_lt.mpr q)
        rw [if_pos (Int32.lt_iff_toInt_lt.mpr (by rw [show (9 : Int32).toInt = 9 from by decide]; omega))]
        rfl
    · unfold p_X8_turned p_X8_turned_b0 p_X8_turned_b39 p_X8_turned_b44
      rw [v_in, Int32.toInt_toInt64, show (1 : Int64).toInt = 1 from by decide, show (9 : Int64).toInt = 9 from by decide, if_neg hx]
      rfl
