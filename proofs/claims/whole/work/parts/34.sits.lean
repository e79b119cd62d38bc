theorem lgc0 {a : Nat} (h : a < 2 ^ 63) : (lg_cmp (lN a) 0 ≤ 0) = (a = 0) := by
  unfold lg_cmp
  have h1 : (lN a > 0) = (0 < a) := propext (pk_lLT (a := 0) (b := a) (by decide) h)
  have h2 : (lN a = 0) = (a = 0) := propext (pk_lEQ (a := a) (b := 0) h (by decide))
  by_cases h0 : 0 < a
  · rw [if_pos (by rw [h1]; exact h0)]
    apply propext
    constructor
    · intro q; exact absurd q (by decide)
    · intro q; omega
  · have e : a = 0 := by omega
    rw [if_neg (by rw [h1]; exact h0), if_pos (by rw [h2]; exact e)]
    simp [e]
theorem nI_ltw {S i : Nat} (hS : S < 9) (hi : i ≤ 256) : (nI (2 ^ S - 1) < nI i) = (2 ^ S ≤ i) := by
  have := d_pw S hS
  have h0 : 0 < 2 ^ S := Nat.pow_pos (by decide)
  rw [propext (nI_ltI (a := 2 ^ S - 1) (b := i) (by omega) (by omega))]
  apply propext
  omega
theorem updL_at {f : Nat → Int64} {k x : Nat} {v : Int64} : vp_updL f k v x = if x = k then v else f x := rfl
theorem upd_at {f : Nat → Int32} {k x : Nat} {v : Int32} : upd f k v x = if x = k then v else f x := rfl
def gS (pt : Nat) (D : Nat → Nat) (c : Nat → Nat) (okb : Nat → Bool) (u s x : Nat) : Nat := if (c u).testBit s = true ∧ okb s = true ∧ orT u s = x then D u * (pt / pc (c u)) else 0
theorem sits_13 {S : Nat} {lo ow oh kf : Int32} {al x3 : Int64} {ms mo mk ks : Nat → Int32} {wy : Nat → Int64} {x1 : Int32} (hS : S < 9) : ∀ (r i fuel : Nat) (nx : Nat → Int64), i + r = 2 ^ S → r < fuel → (∀ x, x < i → nx x = lN 0) →
    ∃ nx', (∀ x, x < 2 ^ S → nx' x = lN 0) ∧ p_X8_sits_b13 fuel (nI S) lo ow oh kf al ms mo mk ks wy nx x1 x3 (nI i) = p_X8_sits_b39 4096 (nI S) lo ow oh kf al ms mo mk ks wy nx' x1 x3 0 := by
  have hw := d_pw S hS
  intro r
  induction r with
  | zero =>
    intro i fuel nx hi hf hx
    obtain ⟨f, rfl⟩ : ∃ f, fuel = f + 1 := ⟨fuel - 1, by omega⟩
    refine ⟨nx, fun x h => hx x (by omega), ?_⟩
    show p_X8_sits_b13x _ _ _ _ _ _ _ _ _ _ _ _ _ _ _ _ = _
    unfold p_X8_sits_b13x
    rw [d_whole S hS, b1_some]
    simp only [nI_ltw hS (show i ≤ 256 by omega)]
    rw [if_pos (by omega)]
  | succ r ih =>
    intro i fuel nx hi hf hx
    obtain ⟨f, rfl⟩ : ∃ f, fuel = f + 1 := ⟨fuel - 1, by omega⟩
    obtain ⟨nx', h1, h2⟩ := ih (i + 1) f (vp_updL nx i 0) (by omega) (by omega) (fun x h => by
      rw [updL_at]
      by_cases e : x = i
      · rw [if_pos e]; rfl
      · rw [if_neg e]; exact hx x (by omega))
    refine ⟨nx', h1, ?_⟩
    rw [← h2]
    show p_X8_sits_b13x _ _ _ _ _ _ _ _ _ _ _ _ _ _ _ _ = _
    unfold p_X8_sits_b13x
    rw [d_whole S hS, b1_some]
    simp only [nI_ltw hS (show i ≤ 256 by omega)]
    rw [if_neg (by omega), inB_nI (by omega) (by decide), gd_true, nm_def, nm_def, nI_clamp (by omega), nI_1]
theorem sits_156 {S : Nat} {lo ow oh kf : Int32} {al x3 : Int64} {ms mo mk ks : Nat → Int32} {nx : Nat → Int64} (hS : S < 9) : ∀ (r i fuel : Nat) (wy : Nat → Int64), i + r = 2 ^ S → r < fuel → (∀ x, x < i → wy x = nx x) →
    ∃ wy', (∀ x, x < 2 ^ S → wy' x = nx x) ∧ p_X8_sits_b156 fuel (nI S) lo ow oh kf al ms mo mk ks wy nx x3 (nI i) = some (al * x3, wy', nx) := by
  have hw := d_pw S hS
  intro r
  induction r with
  | zero =>
    intro i fuel wy hi hf hx
    obtain ⟨f, rfl⟩ : ∃ f, fuel = f + 1 := ⟨fuel - 1, by omega⟩
    refine ⟨wy, fun x h => hx x (by omega), ?_⟩
    show p_X8_sits_b156x _ _ _ _ _ _ _ _ _ _ _ _ _ _ _ = _
    unfold p_X8_sits_b156x
    rw [d_whole S hS, b1_some]
    simp only [nI_ltw hS (show i ≤ 256 by omega)]
    rw [if_pos (by omega), nm_def]
  | succ r ih =>
    intro i fuel wy hi hf hx
    obtain ⟨f, rfl⟩ : ∃ f, fuel = f + 1 := ⟨fuel - 1, by omega⟩
    obtain ⟨wy', h1, h2⟩ := ih (i + 1) f (vp_updL wy i (nx i)) (by omega) (by omega) (fun x h => by
      rw [updL_at]
      by_cases e : x = i
      · rw [if_pos e, e]
      · rw [if_neg e]; exact hx x (by omega))
    refine ⟨wy', h1, ?_⟩
    rw [← h2]
    show p_X8_sits_b156x _ _ _ _ _ _ _ _ _ _ _ _ _ _ _ = _
    unfold p_X8_sits_b156x
    rw [d_whole S hS, b1_some]
    simp only [nI_ltw hS (show i ≤ 256 by omega)]
    rw [if_neg (by omega), inB_nI (by omega) (by decide), gd_true, gd_true, nm_def, nm_def, nI_clamp (by omega), nI_1]
/-- the inner loop: the choices of one set -/
theorem sits_95 {S : Nat} {lo ow oh kf : Int32} {al : Int64} {ms mo mk ks : Nat → Int32} {wy : Nat → Int64} {p pt : Nat} {D : Nat → Nat} {c : Nat → Nat} {okb : Nat → Bool} (hS : S < 9) (hD : ∀ u, u < 2 ^ S → wy u = lN (D u) ∧ D u < 2 ^ 40) (hpt : 0 < pt ∧ pt ≤ 840) (hch : ∀ u, u < 2 ^ S → D u ≠ 0 → (∃ kn, p_X8_kindNow lo mk (nI p) = some kn ∧ p_X8_choices (nI S) ms mo (nI p) kn (nI u) = some (nI (c u))) ∧ c u < 2 ^ S ∧ 1 ≤ pc (c u) ∧ pc (c u) ≤ 8) (hok : ∀ s, s < S → p_X8_mayBe ow oh kf ks (nI p) (nI s) = some (nI (okb s).toNat)) (K : Int32 → Int32 → Int32 → Int32 → Int32 → Int64 → (Nat → Int32) → (Nat → Int32) → (Nat → Int32) → (Nat → Int32) → (Nat → Int64) → (Nat → Int64) → Int32 → Int64 → Int32 → Option (Int64 × (Nat → Int64) × (Nat → Int64))) {u : Nat} (hu : u < 2 ^ S) (hDu : D u ≠ 0) : ∀ (r j fuel : Nat) (nx : Nat → Int64) (b : Nat → Nat), j + r = S → r < fuel → (∀ x, x < 2 ^ S → nx x = lN (b x + fb_sm (fun s => gS pt D c okb u s x) j)) →
    ∃ nx', (∀ x, x < 2 ^ S → nx' x = lN (b x + fb_sm (fun s => gS pt D c okb u s x) S)) ∧ p_X8_sits_b95 K fuel (nI S) lo ow oh kf al ms mo mk ks wy nx (nI p) (lN pt) (nI u) (nI (c u)) (lN (D u * (pt / pc (c u)))) (nI j) = K (nI S) lo ow oh kf al ms mo mk ks wy nx' (nI p) (lN pt) (nI (u + 1)) := by
  have hw := d_pw S hS
  obtain ⟨-, hc, -⟩ := hch u hu hDu
  intro r
  induction r with
  | zero =>
    intro j fuel nx b hj hf hx
    obtain ⟨f, rfl⟩ : ∃ f, fuel = f + 1 := ⟨fuel - 1, by omega⟩
    have ej : j = S := by omega
    subst ej
    refine ⟨nx, hx, ?_⟩
    show p_X8_sits_b95x _ _ _ _ _ _ _ _ _ _ _ _ _ _ _ _ _ _ _ _ = _
    unfold p_X8_sits_b95x p_X8_sits_b147
    rw [if_pos (nI_le (Nat.le_refl j) (by omega)), nm_def, nI_1]
  | succ r ih =>
    intro j fuel nx b hj hf hx
    obtain ⟨f, rfl⟩ : ∃ f, fuel = f + 1 := ⟨fuel - 1, by omega⟩
    have hjS : j < S := by omega
    have skip : gS pt D c okb u j = (fun _ => 0) → ∃ nx', (∀ x, x < 2 ^ S → nx' x = lN (b x + fb_sm (fun s => gS pt D c okb u s x) S)) ∧ p_X8_sits_b141 K (p_X8_sits_b95 K f) (nI S) lo ow oh kf al ms mo mk ks wy nx (nI p) (lN pt) (nI u) (nI (c u)) (lN (D u * (pt / pc (c u)))) (nI j) = K (nI S) lo ow oh kf al ms mo mk ks wy nx' (nI p) (lN pt) (nI (u + 1)) := fun hz => by
      obtain ⟨nx', h1, h2⟩ := ih (j + 1) f nx b (by omega) (by omega) (fun x h => by rw [hx x h, fb_sm_succ, hz, Nat.add_zero])
      refine ⟨nx', h1, ?_⟩
      rw [← h2]
      unfold p_X8_sits_b141
      rw [nm_def, nI_1]
    show ∃ nx', _ ∧ p_X8_sits_b95x _ _ _ _ _ _ _ _ _ _ _ _ _ _ _ _ _ _ _ _ = _
    unfold p_X8_sits_b95x
    rw [if_neg (nI_ge hjS (by omega)), d_isIn (c u) (Nat.lt_of_lt_of_le hc hw) j (by omega), b1_some]
    simp only [nIb0]
    by_cases hb : (c u).testBit j = false
    · rw [if_pos hb]
      exact skip (funext fun x => by unfold gS; rw [if_neg (fun q => by rw [hb] at q; exact absurd q.1 (by decide))])
    · have hb' : (c u).testBit j = true := by simpa using hb
      rw [if_neg hb, hok j hjS, b1_some]
      simp only [nIb0]
      by_cases ho : okb j = false
      · rw [if_pos ho]
        exact skip (funext fun x => by unfold gS; rw [if_neg (fun q => by rw [ho] at q; exact absurd q.2.1 (by decide))])
      · have ho' : okb j = true := by simpa using ho
        rw [if_neg ho]
        have hor : u ||| 2 ^ j < 2 ^ S := Nat.or_lt_two_pow hu (two_lt hjS)
        rw [d_sh j (by omega), fa_or, inB_nI (by omega) (by decide), gd_true, gd_true, nm_def, nI_clamp (by omega)]
        obtain ⟨nx', h1, h2⟩ := ih (j + 1) f (vp_updL nx (u ||| 2 ^ j) (nx (u ||| 2 ^ j) + lN (D u * (pt / pc (c u))))) b (by omega) (by omega) (fun x h => by
          rw [updL_at, fb_sm_succ]
          by_cases e : x = u ||| 2 ^ j
          · rw [if_pos e, ← e, hx x h, lN_add, Nat.add_assoc]
            congr 2
            congr 1
            unfold gS
            rw [if_pos ⟨hb', ho', e.symm⟩]
          · rw [if_neg e, hx x h]
            congr 2
            unfold gS
            rw [if_neg (fun q => e q.2.2.symm), Nat.add_zero])
        refine ⟨nx', h1, ?_⟩
        rw [← h2]
        unfold p_X8_sits_b141
        rw [nm_def, nI_1]
theorem sits_39 {S : Nat} {lo ow oh kf : Int32} {al : Int64} {ms mo mk ks : Nat → Int32} {wy : Nat → Int64} {p pt : Nat} {D : Nat → Nat} {c : Nat → Nat} {okb : Nat → Bool} (hS : S < 9) (hD : ∀ u, u < 2 ^ S → wy u = lN (D u) ∧ D u < 2 ^ 40) (hpt : 0 < pt ∧ pt ≤ 840) (hch : ∀ u, u < 2 ^ S → D u ≠ 0 → (∃ kn, p_X8_kindNow lo mk (nI p) = some kn ∧ p_X8_choices (nI S) ms mo (nI p) kn (nI u) = some (nI (c u))) ∧ c u < 2 ^ S ∧ 1 ≤ pc (c u) ∧ pc (c u) ≤ 8) (hok : ∀ s, s < S → p_X8_mayBe ow oh kf ks (nI p) (nI s) = some (nI (okb s).toNat)) : ∀ (r i fuel : Nat) (nx : Nat → Int64), i + r = 2 ^ S → r < fuel → (∀ x, x < 2 ^ S → nx x = lN (fb_sm (fun u => fb_sm (fun s => gS pt D c okb u s x) S) i)) →
    ∃ nx', (∀ x, x < 2 ^ S → nx' x = lN (stp (2 ^ S) S c okb orT pt D x)) ∧ p_X8_sits_b39 fuel (nI S) lo ow oh kf al ms mo mk ks wy nx (nI p) (lN pt) (nI i) = p_X8_sits_b156 4096 (nI S) lo ow oh kf al ms mo mk ks wy nx' (lN pt) 0 := by
  have hw := d_pw S hS
  intro r
  induction r with
  | zero =>
    intro i fuel nx hi hf hx
    obtain ⟨f, rfl⟩ : ∃ f, fuel = f + 1 := ⟨fuel - 1, by omega⟩
    have ei : i = 2 ^ S := by omega
    refine ⟨nx, fun x h => by rw [hx x h, ei]; rfl, ?_⟩
    show p_X8_sits_b39x _ _ _ _ _ _ _ _ _ _ _ _ _ _ _ _ = _
    unfold p_X8_sits_b39x
    rw [d_whole S hS, b1_some]
    simp only [nI_ltw hS (show i ≤ 256 by omega)]
    rw [if_pos (by omega)]
  | succ r ih =>
    intro i fuel nx hi hf hx
    obtain ⟨f, rfl⟩ : ∃ f, fuel = f + 1 := ⟨fuel - 1, by omega⟩
    have hiS : i < 2 ^ S := by omega
    obtain ⟨hwi, hDi⟩ := hD i hiS
    show ∃ nx', _ ∧ p_X8_sits_b39x _ _ _ _ _ _ _ _ _ _ _ _ _ _ _ _ = _
    unfold p_X8_sits_b39x
    rw [d_whole S hS, b1_some]
    simp only [nI_ltw hS (show i ≤ 256 by omega)]
    rw [if_neg (by omega), inB_nI (by omega) (by decide), gd_true, nI_clamp (by omega), hwi]
    simp only [lgc0 (show D i < 2 ^ 63 by omega)]
    by_cases h0 : D i = 0
    · rw [if_pos h0]
      obtain ⟨nx', h1, h2⟩ := ih (i + 1) f nx (by omega) (by omega) (fun x h => by
        rw [hx x h, fb_sm_succ, sm_zero' (f := fun s => gS pt D c okb i s x) (fun s _ => by unfold gS; rw [h0, Nat.zero_mul]; simp), Nat.add_zero])
      refine ⟨nx', h1, ?_⟩
      rw [← h2]
      unfold p_X8_sits_b147
      rw [nm_def, nI_1]
    · rw [if_neg h0]
      obtain ⟨⟨kn, e1, e2⟩, hc, hc1, hc8⟩ := hch i hiS h0
      rw [e1, b1_some, e2, b1_some, gd_true, d_ones _ (Nat.lt_of_lt_of_le hc hw), b1_some, nI_l (by omega)]
      have hne : ¬ lN (pc (c i)) = 0 := fun q => by
        have := (pk_lEQ (a := pc (c i)) (b := 0) (by omega) (by decide)).mp q
        omega
      rw [show decide (¬ lN (pc (c i)) = 0) = true from decide_eq_true hne, gd_true, nm_def, pk_lDiv (by omega) (by omega) (by omega), lN_mul]
      obtain ⟨nx', h1, h2⟩ := sits_95 hS hD hpt hch hok (p_X8_sits_b39 f) hiS h0 S 0 4096 nx (fun x => fb_sm (fun u => fb_sm (fun s => gS pt D c okb u s x) S) i) (by omega) (by omega) (fun x h => by rw [hx x h]; rfl)
      obtain ⟨nx2, h3, h4⟩ := ih (i + 1) f nx' (by omega) (by omega) (fun x h => by rw [h1 x h, fb_sm_succ])
      exact ⟨nx2, h3, by rw [← h4, ← h2]; rfl⟩
theorem v_sits {S : Nat} {lo ow oh kf : Int32} {al : Int64} {ms mo mk ks : Nat → Int32} {wy : Nat → Int64} {p pt : Nat} {D : Nat → Nat} {c : Nat → Nat} {okb : Nat → Bool} {k : Nat} {nx : Nat → Int64} (hS : S < 9) (hD : ∀ u, u < 2 ^ S → wy u = lN (D u) ∧ D u < 2 ^ 40) (hpt : 0 < pt ∧ pt ≤ 840) (hch : ∀ u, u < 2 ^ S → D u ≠ 0 → (∃ kn, p_X8_kindNow lo mk (nI p) = some kn ∧ p_X8_choices (nI S) ms mo (nI p) kn (nI u) = some (nI (c u))) ∧ c u < 2 ^ S ∧ 1 ≤ pc (c u) ∧ pc (c u) ≤ 8) (hok : ∀ s, s < S → p_X8_mayBe ow oh kf ks (nI p) (nI s) = some (nI (okb s).toNat)) (hk : k < S) (hptk : pt = lc (S - k)) :
    ∃ wy' nx', (∀ x, x < 2 ^ S → wy' x = lN (stp (2 ^ S) S c okb orT pt D x)) ∧ p_X8_sits (nI S) lo ow oh kf al ms mo mk ks wy nx (nI p) (nI k) = some (al * lN pt, wy', nx') := by
  have hw := d_pw S hS
  unfold p_X8_sits p_X8_sits_b0
  rw [pk_sub (by omega), d_parts _ (by omega), b1_some, ← hptk]
  obtain ⟨n1, h1, e1⟩ := sits_13 (lo := lo) (ow := ow) (oh := oh) (kf := kf) (al := al) (x3 := lN pt) (ms := ms) (mo := mo) (mk := mk) (ks := ks) (wy := wy) (x1 := nI p) hS (2 ^ S) 0 4096 nx (by omega) (by omega) (fun x h => absurd h (by omega))
  obtain ⟨n2, h2, e2⟩ := sits_39 (al := al) hS hD hpt hch hok (2 ^ S) 0 4096 n1 (by omega) (by omega) (fun x h => by rw [h1 x h]; rfl)
  obtain ⟨w3, h3, e3⟩ := sits_156 (lo := lo) (ow := ow) (oh := oh) (kf := kf) (al := al) (x3 := lN pt) (ms := ms) (mo := mo) (mk := mk) (ks := ks) (nx := n2) hS (2 ^ S) 0 4096 wy (by omega) (by omega) (fun x h => absurd h (by omega))
  refine ⟨w3, n2, fun x h => by rw [h3 x h, h2 x h], ?_⟩
  exact e1.trans (e2.trans e3)
