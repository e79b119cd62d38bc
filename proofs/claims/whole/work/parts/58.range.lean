/-! an argument in a range, both sides -/
theorem v_rng {N : Nat} (hN : N < 2 ^ 30) (x : Int32) : (∃ k, k < N ∧ x = nI k ∧ p_X8_in x.toInt64 0 ((nI N - 1).toInt64) = some 1 ∧ ¬ x < 0 ∧ x < nI N) ∨ (p_X8_in x.toInt64 0 ((nI N - 1).toInt64) = some 0 ∧ (x < 0 ∨ ¬ x < nI N)) := by
  have e1 : (x < 0) = (x.toInt < 0) := propext Int32.lt_iff_toInt_lt
  have e2 : (x < nI N) = (x.toInt < N) := by rw [propext Int32.lt_iff_toInt_lt, nI_toInt (by omega)]
  have e3 : (nI N - 1).toInt = (N : Int) - 1 := by
    by_cases h0 : N = 0
    · subst h0; decide
    · rw [L1, pk_sub (by omega), nI_toInt (by omega)]; omega
  rw [v_in, Int32.toInt_toInt64, Int32.toInt_toInt64, e3, show (0 : Int64).toInt = 0 from by decide, e1, e2]
  by_cases h : 0 ≤ x.toInt ∧ x.toInt ≤ (N : Int) - 1
  · left
    refine ⟨x.toInt.toNat, by omega, Int32.toInt_inj.mp (by rw [nI_toInt (by omega)]; omega), by rw [if_pos h], by omega, by omega⟩
  · right
    refine ⟨by rw [if_neg h], by omega⟩
theorem v_noSeat {S : Nat} (hS : S < 9) (x : Int32) : (∃ k, k < S ∧ x = nI k ∧ p_X7_isNoSeat (nI S) x = some 0 ∧ p_X7_isNobody (nI S) x = some 0 ∧ p_X8_in x.toInt64 0 ((nI S - 1).toInt64) = some 1) ∨ (p_X7_isNoSeat (nI S) x = some 1 ∧ p_X7_isNobody (nI S) x = some 1 ∧ p_X8_in x.toInt64 0 ((nI S - 1).toInt64) = some 0) := by
  unfold p_X7_isNoSeat p_X7_isNoSeat_b0 p_X7_isNoSeat_b15 p_X7_isNoSeat_b20 p_X7_isNobody p_X7_isNobody_b0 p_X7_isNobody_b15 p_X7_isNobody_b20
  rw [show isZ 0 = true from by decide, show isZ 1 = true from by decide, gd_true, gd_true]
  rcases v_rng (N := S) (by omega) x with ⟨k, h1, h2, h3, h4, h5⟩ | ⟨h1, h2⟩
  · left
    exact ⟨k, h1, h2, by rw [if_neg h4, if_pos h5], by rw [if_neg h4, if_pos h5], h3⟩
  · right
    have : (if x < 0 then some (1 : Int32) else if x < nI S then some 0 else some 1) = some 1 := by
      by_cases q : x < 0
      · rw [if_pos q]
      · rw [if_neg q, if_neg (by rcases h2 with h2 | h2; exact absurd h2 q; exact h2)]
    exact ⟨this, this, h1⟩
