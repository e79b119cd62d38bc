/-! the class: sets of as many seats; the next one sits down -/
def nvL (u : Nat) : Nat := if u &&& (512 - u) = 0 then 256 else (u + (u &&& (512 - u))) ||| (((u + (u &&& (512 - u))) ^^^ u) / (u &&& (512 - u)) / 4)
theorem d_nv : ∀ u, u < 256 → p_X1_nextAsLarge (nI u) = some (nI (nvL u)) ∧ u < nvL u ∧ nvL u < 512 := by decide +kernel
theorem d_nv2 : ∀ u, u < 256 → ∀ w, w < 256 → (w ≤ u ∨ nvL u ≤ w ∨ pc w ≠ pc u) := by decide +kernel
theorem d_nv3 : ∀ u, u < 256 → (256 ≤ nvL u ∨ pc (nvL u) = pc u) := by decide +kernel
theorem d_min : ∀ k, k < 9 → ∀ x, x < 256 → (2 ^ k - 1 ≤ x ∨ pc x ≠ k) := by decide +kernel
theorem cl_8 {S k : Nat} (hS : S < 9) {re0 : Nat → Int64} : ∀ (r u i fuel : Nat) (re : Nat → Int64), 512 ≤ u + r → u < 512 → r < fuel → i ≤ u → (u < 256 → pc u = k) → (∀ x, x < 2 ^ S → re x = if pc x = k ∧ x < u then 0 else re0 x) →
    ∃ re', (∀ x, x < 2 ^ S → re' x = if pc x = k then 0 else re0 x) ∧ p_X1_clearSets_b8 fuel (nI S) re (nI u) (nI i) = some re' := by
  have hpw := d_pw S hS
  intro r
  induction r with
  | zero => intro u i fuel re h1 h2; omega
  | succ r ih =>
    intro u i fuel re h1 h2 hf hi hu hre
    obtain ⟨f, rfl⟩ : ∃ f, fuel = f + 1 := ⟨fuel - 1, by omega⟩
    have fin : 2 ^ S ≤ u → ∃ re', (∀ x, x < 2 ^ S → re' x = if pc x = k then 0 else re0 x) ∧ (some re : Option (Nat → Int64)) = some re' := fun hh => ⟨re, fun x hx => by
      rw [hre x hx]
      by_cases q : pc x = k
      · rw [if_pos ⟨q, by omega⟩, if_pos q]
      · rw [if_neg (fun z => q z.1), if_neg q], rfl⟩
    show ∃ re', _ ∧ p_X1_clearSets_b8x _ _ _ _ _ = _
    unfold p_X1_clearSets_b8x p_X1_clearSets_b44
    by_cases h6 : 256 ≤ i
    · rw [if_pos (show (256 : Int32) ≤ nI i from nI_le (a := 256) h6 (by omega))]
      exact fin (by omega)
    · rw [if_neg (show ¬ (256 : Int32) ≤ nI i from nI_ge (b := 256) (by omega) (by decide)), d_all S hS, b1_some]
      have h0 : 0 < 2 ^ S := Nat.pow_pos (by decide)
      by_cases h7 : 2 ^ S ≤ u
      · rw [if_pos (nI_lt (by omega) (by omega))]
        exact fin h7
      · rw [if_neg (nI_nlt (by omega) (by omega)), inB_nI (show u < 256 by omega) (by decide), gd_true, nm_def, nI_clamp (by omega)]
        obtain ⟨n1, n2, n3⟩ := d_nv u (by omega)
        rw [n1, b1_some, nm_def, nI_1]
        refine ih (nvL u) (i + 1) f _ (by omega) n3 (by omega) (by omega) (fun hh => ?_) (fun x hx => ?_)
        · rw [(d_nv3 u (by omega)).resolve_left (by omega)]; exact hu (by omega)
        · rw [updL_at]
          have hk := hu (by omega)
          by_cases e : x = u
          · rw [if_pos e, if_pos ⟨by rw [e]; exact hk, by omega⟩]
          · rw [if_neg e, hre x hx]
            by_cases q : pc x = k ∧ x < u
            · rw [if_pos q, if_pos ⟨q.1, by omega⟩]
            · rw [if_neg q, if_neg (fun z => by
                rcases d_nv2 u (by omega) x (by omega) with w | w | w
                · exact q ⟨z.1, by omega⟩
                · omega
                · exact w (by rw [z.1, hk]))]
theorem d_pcp : ∀ k, k < 9 → pc (2 ^ k - 1) = k := by decide +kernel
theorem v_clear {S k : Nat} (hS : S < 9) (hk : k < 9) (re : Nat → Int64) : ∃ re', (∀ x, x < 2 ^ S → re' x = if pc x = k then 0 else re x) ∧ p_X1_clearSets (nI S) re (nI k) = some re' := by
  have hk2 : 2 ^ k ≤ 256 := d_pw k hk
  have h0 : 0 < 2 ^ k := Nat.pow_pos (by decide)
  unfold p_X1_clearSets p_X1_clearSets_b0
  rw [nm_def, d_sh k hk, L1, pk_sub (by omega)]
  exact cl_8 hS 512 (2 ^ k - 1) 0 4096 re (by omega) (by omega) (by omega) (by omega) (fun _ => d_pcp k hk) (fun x hx => by
    rw [if_neg (fun z => by
      rcases d_min k hk x (by have := d_pw S hS; omega) with w | w
      · omega
      · exact w z.1)])
theorem ct_7 {d : Nat} (hd : d ≤ 5) {tb0 : Nat → Int64} : ∀ (r i fuel : Nat) (tb : Nat → Int64), i + r = 8 → r < fuel → (∀ y, tb y = if 8 * d + 8 ≤ y ∧ y < 8 * d + 8 + i then tb0 (y - 8) else tb0 y) →
    ∃ tb', (∀ y, tb' y = if 8 * d + 8 ≤ y ∧ y < 8 * d + 16 then tb0 (y - 8) else tb0 y) ∧ p_X1_copyTaken_b7 fuel tb (nI (8 * d)) (nI i) = some tb' := by
  intro r
  induction r with
  | zero =>
    intro i fuel tb hi hf ht
    obtain ⟨f, rfl⟩ : ∃ f, fuel = f + 1 := ⟨fuel - 1, by omega⟩
    have e : i = 8 := by omega
    subst e
    exact ⟨tb, ht, rfl⟩
  | succ r ih =>
    intro i fuel tb hi hf ht
    obtain ⟨f, rfl⟩ : ∃ f, fuel = f + 1 := ⟨fuel - 1, by omega⟩
    obtain ⟨tb', g1, g2⟩ := ih (i + 1) f (vp_updL tb (8 * d + 8 + i) (tb (8 * d + i))) (by omega) (by omega) (fun y => by
      rw [updL_at]
      by_cases e : y = 8 * d + 8 + i
      · rw [if_pos e, if_pos (by omega), ht, if_neg (by omega), show y - 8 = 8 * d + i by omega]
      · rw [if_neg e, ht y]
        by_cases q : 8 * d + 8 ≤ y ∧ y < 8 * d + 8 + i
        · rw [if_pos q, if_pos (by omega)]
        · rw [if_neg q, if_neg (by omega)])
    refine ⟨tb', g1, ?_⟩
    rw [← g2]
    show p_X1_copyTaken_b7x _ _ _ _ = _
    unfold p_X1_copyTaken_b7x
    rw [if_neg (show ¬ (8 : Int32) ≤ nI i from nI_ge (b := 8) (by omega) (by decide)), show nI (8 * d) + 8 = nI (8 * d + 8) from nI_add (8 * d) 8, nI_add, nI_add, inB_nI (show 8 * d + i < 56 by omega) (by decide), inB_nI (show 8 * d + 8 + i < 56 by omega) (by decide), gd_true, gd_true, nm_def, nm_def, nI_clamp (by omega), nI_clamp (by omega), nI_1]
theorem v_copyT {d : Nat} (hd : d ≤ 5) (tb : Nat → Int64) : ∃ tb', (∀ y, tb' y = if 8 * d + 8 ≤ y ∧ y < 8 * d + 16 then tb (y - 8) else tb y) ∧ p_X1_copyTaken tb (nI d) = some tb' := by
  unfold p_X1_copyTaken p_X1_copyTaken_b0
  rw [nm_def, show nI d * 8 = nI (8 * d) from by rw [show (8 : Int32) = nI 8 from rfl, pk_mul, Nat.mul_comm]]
  exact ct_7 hd 8 0 4096 tb (by omega) (by omega) (fun y => by rw [if_neg (by omega)])
theorem sp2_27 {S u c w B : Nat} (hS : S < 9) (hu : u < 2 ^ S) (hc : c < 256) (hB : B ≤ 48) {tb0 : Nat → Int64} {τ : Nat → Nat} (hτ : ∀ s, s < S → tb0 (B + s) = lN (τ s)) : ∀ (r j fuel : Nat) (re tb : Nat → Int64) (b : Nat → Nat), j + r = S → r < fuel → (∀ x, x < 2 ^ S → re x = lN (b x + fb_sm (fun s => if c.testBit s = true ∧ orT u s = x then w else 0) j)) → (∀ y, tb y = if B ≤ y ∧ y < B + j ∧ c.testBit (y - B) = true then lN (τ (y - B) + w) else tb0 y) →
    ∃ re' tb', (∀ x, x < 2 ^ S → re' x = lN (b x + fb_sm (fun s => if c.testBit s = true ∧ orT u s = x then w else 0) S)) ∧ (∀ y, tb' y = if B ≤ y ∧ y < B + S ∧ c.testBit (y - B) = true then lN (τ (y - B) + w) else tb0 y) ∧ p_X1_spread_b27 fuel (nI S) re tb (nI u) (nI c) (nI B) (lN w) (nI j) = some (re', tb') := by
  have hpw := d_pw S hS
  intro r
  induction r with
  | zero =>
    intro j fuel re tb b hj hf hx hy
    obtain ⟨f, rfl⟩ : ∃ f, fuel = f + 1 := ⟨fuel - 1, by omega⟩
    have e : j = S := by omega
    subst e
    refine ⟨re, tb, hx, hy, ?_⟩
    show p_X1_spread_b27x _ _ _ _ _ _ _ _ _ = _
    unfold p_X1_spread_b27x
    rw [if_pos (nI_le (Nat.le_refl _) (by omega))]
  | succ r ih =>
    intro j fuel re tb b hj hf hx hy
    obtain ⟨f, rfl⟩ : ∃ f, fuel = f + 1 := ⟨fuel - 1, by omega⟩
    have hjS : j < S := by omega
    have hor : u ||| 2 ^ j < 2 ^ S := Nat.or_lt_two_pow hu (two_lt hjS)
    show ∃ re' tb', _ ∧ _ ∧ p_X1_spread_b27x _ _ _ _ _ _ _ _ _ = _
    unfold p_X1_spread_b27x p_X1_spread_b78
    rw [if_neg (nI_ge hjS (by omega)), d_has c hc j (by omega), b1_some]
    simp only [nIb0, nm_def, nI_1, d_sh j (by omega), fa_or, inB_nI (show u ||| 2 ^ j < 256 by omega) (by decide), gd_true, nI_clamp (show u ||| 2 ^ j < 2 ^ 31 by omega), nI_add, inB_nI (show B + j < 56 by omega) (by decide), nI_clamp (show B + j < 2 ^ 31 by omega)]
    by_cases hb : c.testBit j = false
    · rw [if_pos hb]
      refine ih (j + 1) f re tb b (by omega) (by omega) (fun x h => by rw [hx x h, fb_sm_succ, if_neg (fun q => by rw [hb] at q; exact absurd q.1 (by decide)), Nat.add_zero]) (fun y => ?_)
      rw [hy y]
      by_cases q : B ≤ y ∧ y < B + j ∧ c.testBit (y - B) = true
      · rw [if_pos q, if_pos ⟨q.1, by omega, q.2.2⟩]
      · rw [if_neg q, if_neg (fun z => by
          by_cases e : y = B + j
          · rw [e, show B + j - B = j by omega, hb] at z; exact absurd z.2.2 (by decide)
          · exact q ⟨z.1, by omega, z.2.2⟩)]
    · have hb' : c.testBit j = true := by simpa using hb
      rw [if_neg hb]
      refine ih (j + 1) f _ _ b (by omega) (by omega) (fun x h => ?_) (fun y => ?_)
      · rw [updL_at, fb_sm_succ]
        by_cases e : x = u ||| 2 ^ j
        · rw [if_pos e, ← e, hx x h, lN_add, Nat.add_assoc, if_pos ⟨hb', e.symm⟩]
        · rw [if_neg e, hx x h, if_neg (fun q => e q.2.symm), Nat.add_zero]
      · rw [updL_at]
        by_cases e : y = B + j
        · rw [if_pos e, hy (B + j), if_neg (by omega), hτ j hjS, lN_add, e, show B + j - B = j by omega, if_pos ⟨by omega, by omega, hb'⟩]
        · rw [if_neg e, hy y]
          by_cases q : B ≤ y ∧ y < B + j ∧ c.testBit (y - B) = true
          · rw [if_pos q, if_pos ⟨q.1, by omega, q.2.2⟩]
          · rw [if_neg q, if_neg (fun z => q ⟨z.1, by omega, z.2.2⟩)]
