/-! fractions in lowest terms -/
def fp (a b w : Nat) : Nat := (if w = 0 then a else b) / Nat.gcd a b
theorem fp_mul {a b c w : Nat} (hc : 0 < c) : fp (a * c) (b * c) w = fp a b w := by
  unfold fp
  rw [Nat.gcd_mul_right]
  by_cases hw : w = 0
  · rw [if_pos hw, if_pos hw, Nat.mul_div_mul_right _ _ hc]
  · rw [if_neg hw, if_neg hw, Nat.mul_div_mul_right _ _ hc]
theorem lgc1 {a : Nat} (h : a < 2 ^ 63) : (lg_cmp (lN a) 0 = 0) = (a = 0) := by
  unfold lg_cmp
  have h1 : (lN a > 0) = (0 < a) := propext (pk_lLT (a := 0) (b := a) (by decide) h)
  have h2 : (lN a = 0) = (a = 0) := propext (pk_lEQ (a := a) (b := 0) h (by decide))
  by_cases h0 : 0 < a
  · rw [if_pos (by rw [h1]; exact h0)]
    apply propext
    constructor
    · intro q; exact absurd q (by decide)
    · intro q; omega
  · have e : a = 0 := by omega
    rw [if_neg (by rw [h1]; exact h0), if_pos (by rw [h2]; exact e)]
    simp [e]
theorem lne0 {a : Nat} (h : a < 2 ^ 63) (h0 : a ≠ 0) : decide (¬ lN a = 0) = true := decide_eq_true fun q => h0 ((pk_lEQ (a := a) (b := 0) h (by decide)).mp q)
theorem gcd_step (a b : Nat) : Nat.gcd a b = Nat.gcd b (a % b) := by rw [Nat.gcd_comm a b, Nat.gcd_rec b a, Nat.gcd_comm]
theorem mod_half {b r n : Nat} (h : b < 2 ^ (n + 1)) (hr : r < b) (h0 : r ≠ 0) : b % r < 2 ^ n := by
  have h1 : b % r < r := Nat.mod_lt _ (by omega)
  have h2 : r * (b / r) + b % r = b := Nat.div_add_mod b r
  have h3 : 1 ≤ b / r := (Nat.le_div_iff_mul_le (by omega)).mpr (by omega)
  have h4 : r * 1 ≤ r * (b / r) := Nat.mul_le_mul_left r h3
  have h5 : 2 ^ (n + 1) = 2 * 2 ^ n := by rw [Nat.pow_succ, Nat.mul_comm]
  omega
theorem eucC : ∀ (n a b fuel i : Nat), b < 2 ^ n → a < 2 ^ 63 → b < 2 ^ 63 → 2 * n + 1 ≤ fuel → i + 2 * n ≤ 199 → p_X7_commonDivisor_b9 fuel (lN a) (lN b) (nI i) = some (lN (Nat.gcd a b)) := by
  have step : ∀ (a b f i : Nat), b ≠ 0 → a < 2 ^ 63 → b < 2 ^ 63 → i ≤ 199 → p_X7_commonDivisor_b9 (f + 1) (lN a) (lN b) (nI i) = p_X7_commonDivisor_b9 f (lN b) (lN (a % b)) (nI (i + 1)) := fun a b f i h0 ha hb hi => by
    show p_X7_commonDivisor_b9x _ _ _ _ = _
    unfold p_X7_commonDivisor_b9x
    rw [if_neg (show ¬ (200 : Int32) ≤ nI i from nI_ge (a := i) (b := 200) (by omega) (by decide))]
    simp only [lgc1 hb]
    rw [if_neg h0, lne0 hb h0, gd_true, nm_def, nm_def, pk_lRem ha (by omega) hb, nI_1]
  have stop : ∀ (a f i : Nat), i ≤ 199 → p_X7_commonDivisor_b9 (f + 1) (lN a) (lN 0) (nI i) = some (lN a) := fun a f i hi => by
    show p_X7_commonDivisor_b9x _ _ _ _ = _
    unfold p_X7_commonDivisor_b9x p_X7_commonDivisor_b45
    rw [if_neg (show ¬ (200 : Int32) ≤ nI i from nI_ge (a := i) (b := 200) (by omega) (by decide))]
    simp only [lgc1 (show 0 < 2 ^ 63 by decide)]
    rw [if_pos trivial]
  intro n
  induction n with
  | zero =>
    intro a b fuel i hb ha hb2 hf hi
    obtain ⟨f, rfl⟩ : ∃ f, fuel = f + 1 := ⟨fuel - 1, by omega⟩
    have e : b = 0 := by
      have : (2 : Nat) ^ 0 = 1 := rfl
      omega
    subst e
    rw [stop a f i (by omega), Nat.gcd_zero_right]
  | succ n ih =>
    intro a b fuel i hb ha hb2 hf hi
    obtain ⟨f, rfl⟩ : ∃ f, fuel = f + 1 + 1 := ⟨fuel - 2, by omega⟩
    by_cases h0 : b = 0
    · subst h0
      rw [stop a (f + 1) i (by omega), Nat.gcd_zero_right]
    · rw [step a b (f + 1) i h0 ha hb2 (by omega)]
      have hr : a % b < b := Nat.mod_lt _ (by omega)
      by_cases h1 : a % b = 0
      · rw [h1, stop b f (i + 1) (by omega), gcd_step, h1, Nat.gcd_zero_right]
      · have h2 : b % (a % b) < a % b := Nat.mod_lt _ (by omega)
        rw [step b (a % b) f (i + 1) h1 hb2 (by omega) (by omega), ih (a % b) (b % (a % b)) f (i + 1 + 1) (mod_half hb hr h1) (by omega) (by omega) (by omega) (by omega), gcd_step a b, gcd_step b (a % b)]
theorem gcd_lt {a b : Nat} (hb : 0 < b) : 0 < Nat.gcd a b ∧ Nat.gcd a b ≤ b := ⟨Nat.gcd_pos_of_pos_right _ hb, Nat.le_of_dvd hb (Nat.gcd_dvd_right a b)⟩
theorem v_partC {a b w : Nat} (ha : a < 2 ^ 62) (hb : 0 < b) (hb2 : b < 2 ^ 62) (hw : w < 2) : p_X7_part (lN a) (lN b) (nI w) = some (lN (fp a b w)) := by
  unfold p_X7_part p_X7_part_b0 p_X7_part_b26
  have e : p_X7_commonDivisor (lN a) (lN b) = some (lN (Nat.gcd a b)) := eucC 62 a b 4096 0 hb2 (by omega) (by omega) (by omega) (by omega)
  obtain ⟨g1, g2⟩ := gcd_lt (a := a) hb
  rw [e, b1_some]
  simp only [lgc1 (show Nat.gcd a b < 2 ^ 63 by omega)]
  rw [if_neg (by omega), lne0 (by omega) (by omega), gd_true, gd_true, pk_lDiv (by omega) g1 (by omega), pk_lDiv (by omega) g1 (by omega)]
  have w0 : (nI w = 0) = (w = 0) := propext (nI_eq (b := 0) (by omega) (by decide))
  simp only [w0]
  unfold fp
  by_cases h : w = 0 <;> simp [h]
theorem eucM {A B : Nat} {w : Int32} : ∀ (n a b fuel : Nat), b < 2 ^ n → a < 2 ^ 63 → b < 2 ^ 63 → 2 * n + 1 ≤ fuel → p_X8_part_b6 fuel (lN A) (lN B) w (lN a) (lN b) = (if w = 0 then p_X8_part_b41 (lN A) (lN (Nat.gcd a b)) else p_X8_part_b41 (lN B) (lN (Nat.gcd a b))) := by
  have step : ∀ (a b f : Nat), b ≠ 0 → a < 2 ^ 63 → b < 2 ^ 63 → p_X8_part_b6 (f + 1) (lN A) (lN B) w (lN a) (lN b) = p_X8_part_b6 f (lN A) (lN B) w (lN b) (lN (a % b)) := fun a b f h0 ha hb => by
    show p_X8_part_b6x _ _ _ _ _ _ = _
    unfold p_X8_part_b6x
    simp only [lgc1 hb]
    rw [if_neg h0, lne0 hb h0, gd_true, nm_def, pk_lRem ha (by omega) hb]
  have stop : ∀ (a f : Nat), p_X8_part_b6 (f + 1) (lN A) (lN B) w (lN a) (lN 0) = (if w = 0 then p_X8_part_b41 (lN A) (lN a) else p_X8_part_b41 (lN B) (lN a)) := fun a f => by
    show p_X8_part_b6x _ _ _ _ _ _ = _
    unfold p_X8_part_b6x
    simp only [lgc1 (show 0 < 2 ^ 63 by decide)]
    rw [if_pos trivial]
  intro n
  induction n with
  | zero =>
    intro a b fuel hb ha hb2 hf
    obtain ⟨f, rfl⟩ : ∃ f, fuel = f + 1 := ⟨fuel - 1, by omega⟩
    have e : b = 0 := by
      have : (2 : Nat) ^ 0 = 1 := rfl
      omega
    subst e
    rw [stop a f, Nat.gcd_zero_right]
  | succ n ih =>
    intro a b fuel hb ha hb2 hf
    obtain ⟨f, rfl⟩ : ∃ f, fuel = f + 1 + 1 := ⟨fuel - 2, by omega⟩
    by_cases h0 : b = 0
    · subst h0
      rw [stop a (f + 1), Nat.gcd_zero_right]
    · rw [step a b (f + 1) h0 ha hb2]
      have hr : a % b < b := Nat.mod_lt _ (by omega)
      by_cases h1 : a % b = 0
      · rw [h1, stop b f, gcd_step a b, h1, Nat.gcd_zero_right]
      · have h2 : b % (a % b) < a % b := Nat.mod_lt _ (by omega)
        rw [step b (a % b) f h1 hb2 (by omega), ih (a % b) (b % (a % b)) f (mod_half hb hr h1) (by omega) (by omega) (by omega), gcd_step a b, gcd_step b (a % b)]
theorem v_partM {a b w : Nat} (ha : a < 2 ^ 62) (hb : 0 < b) (hb2 : b < 2 ^ 62) (hw : w < 2) : p_X8_part (lN a) (lN b) (nI w) = some (lN (fp a b w)) := by
  unfold p_X8_part p_X8_part_b0
  obtain ⟨g1, g2⟩ := gcd_lt (a := a) hb
  rw [eucM 62 a b 4096 hb2 (by omega) (by omega) (by omega)]
  unfold p_X8_part_b41
  rw [lne0 (by omega) (by omega), gd_true, gd_true, pk_lDiv (by omega) g1 (by omega), pk_lDiv (by omega) g1 (by omega)]
  have w0 : (nI w = 0) = (w = 0) := propext (nI_eq (b := 0) (by omega) (by decide))
  simp only [w0]
  unfold fp
  by_cases h : w = 0 <;> simp [h]
