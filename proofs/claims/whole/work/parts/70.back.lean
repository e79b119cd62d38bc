/-! back: the rings of both sides -/
def mxI (a b : Nat) : Nat := if a < b then b else a
theorem cr_35 {n : Nat} {g : Nat → Nat} (hn : n < 9) (hg : ∀ x, x < n → g x < n) (hi : ∀ x y, x < n → y < n → g x = g y → x = y) (K : Int32 → Int32 → Int32 → Int32 → (Nat → Int32) → Int32 → Int32 → Option (Int32 × Int32 × Int32)) {go : Nat → Int32} (hgo : ∀ x, x < n → go x = nI (g x)) {D N W C lg x : Nat} (h : RI n g D N W) (hx : x < n) (hD : D.testBit x = false) (hC : C < 100) (hl : lg < 100) (hN : N < 100) : ∀ (r j fuel : Nat), j + r = rng n g x → r < fuel →
    p_X4_countRings_b35 K fuel (nI n) (nI N) (nI C) (nI lg) go (nI (D ||| orP (fun i => itr g i x) j)) (nI x) (nI j) (nI (itr g j x)) = K (nI n) (nI (N + (if 1 < rng n g x then 1 else 0))) (nI (C + (if 1 < rng n g x then rng n g x - 1 else 0))) (nI (if 1 < rng n g x then mxI lg (rng n g x) else lg)) go (nI (D ||| orP (fun i => itr g i x) (rng n g x))) (nI (x + 1)) := by
  obtain ⟨r1, r2, r3, r4⟩ := rng_at hn hg hi hx
  have hpw := d_pw n hn
  have hdl : ∀ j, D ||| orP (fun i => itr g i x) j < 256 := fun j => Nat.lt_of_lt_of_le (Nat.or_lt_two_pow h.1 (orP_lt j fun k _ => itr_lt hg hx k)) hpw
  intro r
  induction r with
  | zero =>
    intro j fuel hj hf
    obtain ⟨f, rfl⟩ : ∃ f, fuel = f + 1 := ⟨fuel - 1, by omega⟩
    have e : j = rng n g x := by omega
    subst e
    have fin : p_X4_countRings_b77 K (nI n) (nI N) (nI C) (nI lg) go (nI (D ||| orP (fun i => itr g i x) (rng n g x))) (nI x) (nI (rng n g x)) = K (nI n) (nI (N + (if 1 < rng n g x then 1 else 0))) (nI (C + (if 1 < rng n g x then rng n g x - 1 else 0))) (nI (if 1 < rng n g x then mxI lg (rng n g x) else lg)) go (nI (D ||| orP (fun i => itr g i x) (rng n g x))) (nI (x + 1)) := by
      unfold p_X4_countRings_b77 p_X4_countRings_b116
      by_cases q : 1 < rng n g x
      · rw [if_neg (show ¬ nI (rng n g x) ≤ 1 from nI_ge (b := rng n g x) (a := 1) q (by omega)), if_pos q, if_pos q, if_pos q]
        simp only [nm_def, nI_1]
        rw [L1, pk_sub (by omega), nI_add]
        have e : (nI lg < nI (rng n g x)) = (lg < rng n g x) := propext (nI_ltI (by omega) (by omega))
        simp only [e]
        unfold mxI
        by_cases z : lg < rng n g x
        · rw [if_pos z, if_pos z]
        · rw [if_neg z, if_neg z]
      · rw [if_pos (show nI (rng n g x) ≤ 1 from nI_le (b := 1) (by omega) (by decide)), if_neg q, if_neg q, if_neg q, nm_def, nI_1]
        rfl
    rw [r3, ← fin]
    show p_X4_countRings_b35x _ _ _ _ _ _ _ _ _ _ _ = _
    unfold p_X4_countRings_b35x
    by_cases q : n ≤ rng n g x
    · rw [if_pos (nI_le q (by omega))]
    · rw [if_neg (nI_ge (by omega) (by omega)), d_has _ (hdl _) x (by omega), b1_some]
      have hb : (D ||| orP (fun i => itr g i x) (rng n g x)).testBit x = true := by
        rw [Nat.testBit_or, (orP_bit (f := fun i => itr g i x) (y := x) (rng n g x)).mpr ⟨0, by omega, rfl⟩, Bool.or_true]
      rw [hb, if_neg (by decide)]
  | succ r ih =>
    intro j fuel hj hf
    obtain ⟨f, rfl⟩ : ∃ f, fuel = f + 1 := ⟨fuel - 1, by omega⟩
    have hjn := itr_lt hg hx j
    rw [← ih (j + 1) f (by omega) (by omega)]
    show p_X4_countRings_b35x _ _ _ _ _ _ _ _ _ _ _ = _
    unfold p_X4_countRings_b35x
    rw [if_neg (nI_ge (show j < n by omega) (by omega)), d_has _ (hdl _) (itr g j x) (by omega), b1_some, ring_new hn hg hi h hx hD (by omega), if_pos (show nI (false : Bool).toNat = 0 from rfl)]
    simp only [nm_def, inB_nI (show itr g j x < 8 by omega) (by decide), gd_true, nI_clamp (show itr g j x < 2 ^ 31 by omega), hgo _ hjn, nI_1, d_sh (itr g j x) (by omega), fa_or, Nat.or_assoc]
    rfl
/-- how long the longest is, of those come to -/
def LG (n : Nat) (g : Nat → Nat) (D lg : Nat) : Prop := (∀ y, y < n → D.testBit y = true → 1 < rng n g y → rng n g y ≤ lg) ∧ (lg = 0 ∨ ∃ y, y < n ∧ D.testBit y = true ∧ rng n g y = lg ∧ 1 < lg)
theorem smS_le {n D : Nat} {f : Nat → Nat} (h : ∀ y, f y ≤ 1) : smS n D f ≤ n := by
  have : smS n D f ≤ fb_sm (fun _ => 1) n := fb_sm_le fun y _ => by
    by_cases q : D.testBit y = true
    · rw [if_pos q]; exact h y
    · rw [if_neg q]; omega
  rw [fb_sm_const] at this
  omega
theorem f2_le {n : Nat} {g : Nat → Nat} (y : Nat) : f2 n g y ≤ 1 := by unfold f2; split <;> omega
theorem f1_le {n : Nat} {g : Nat → Nat} (y : Nat) : f1 n g y ≤ 420 * f2 n g y := by
  unfold f1 f2
  split
  · rename_i q
    exact Nat.le_trans (Nat.div_le_div_left (show 2 ≤ rng n g y by omega) (by decide)) (by decide)
  · omega
theorem RI_bd {n : Nat} {g : Nat → Nat} {D N W : Nat} (h : RI n g D N W) : N ≤ W ∧ W ≤ n := by
  have h1 : W ≤ n := by rw [h.2.2.2]; exact smS_le f2_le
  have h2 : smS n D (f1 n g) ≤ 420 * smS n D (f2 n g) := by
    unfold smS
    rw [← sm_mulL]
    refine fb_sm_le fun y _ => ?_
    by_cases q : D.testBit y = true
    · rw [if_pos q, if_pos q]; exact f1_le y
    · rw [if_neg q, if_neg q]; omega
  rw [← h.2.2.1, ← h.2.2.2] at h2
  omega
theorem cr_19 {n : Nat} {g : Nat → Nat} (hn : n < 9) (hg : ∀ x, x < n → g x < n) (hi : ∀ x y, x < n → y < n → g x = g y → x = y) {go : Nat → Int32} (hgo : ∀ x, x < n → go x = nI (g x)) : ∀ (r i fuel D N W lg : Nat), i + r = n → r < fuel → RI n g D N W → LG n g D lg → lg < 100 → (∀ y, y < i → D.testBit y = true) →
    ∃ (D' N' W' lg' : Nat), RI n g D' N' W' ∧ LG n g D' lg' ∧ lg' < 100 ∧ (∀ y, y < n → D'.testBit y = true) ∧ p_X4_countRings_b19 fuel (nI n) (nI N) (nI (W - N)) (nI lg) go (nI D) (nI i) = some (nI N', nI (W' - N'), nI lg') := by
  have hpw := d_pw n hn
  intro r
  induction r with
  | zero =>
    intro i fuel D N W lg hi' hf h hl hl1 hd
    obtain ⟨f, rfl⟩ : ∃ f, fuel = f + 1 := ⟨fuel - 1, by omega⟩
    have e : i = n := by omega
    subst e
    refine ⟨D, N, W, lg, h, hl, hl1, hd, ?_⟩
    show p_X4_countRings_b19x _ _ _ _ _ _ _ _ = _
    unfold p_X4_countRings_b19x
    rw [if_pos (nI_le (Nat.le_refl _) (by omega))]
  | succ r ih =>
    intro i fuel D N W lg hi' hf h hl hl1 hd
    obtain ⟨f, rfl⟩ : ∃ f, fuel = f + 1 := ⟨fuel - 1, by omega⟩
    have hin : i < n := by omega
    obtain ⟨b1', b2'⟩ := RI_bd h
    show ∃ (D' N' W' lg' : Nat), _ ∧ _ ∧ _ ∧ _ ∧ p_X4_countRings_b19x _ _ _ _ _ _ _ _ = _
    unfold p_X4_countRings_b19x
    rw [if_neg (nI_ge hin (by omega))]
    by_cases hD : D.testBit i = true
    · obtain ⟨D', N', W', lg', g1, g2, g3, g4, g5⟩ := ih (i + 1) f D N W lg (by omega) (by omega) h hl hl1 (fun y hy => by
        by_cases q : y = i
        · rw [q]; exact hD
        · exact hd y (by omega))
      refine ⟨D', N', W', lg', g1, g2, g3, g4, ?_⟩
      rw [← g5]
      show p_X4_countRings_b35x _ _ _ _ _ _ _ _ _ _ _ = _
      unfold p_X4_countRings_b35x p_X4_countRings_b77 p_X4_countRings_b116
      rw [if_neg (show ¬ nI n ≤ 0 from nI_ge (a := 0) (b := n) (by omega) (by omega)), d_has D (Nat.lt_of_lt_of_le h.1 hpw) i (by omega), b1_some, hD, if_neg (by decide), if_pos (by decide), nm_def, nI_1]
    · have hD' : D.testBit i = false := by simpa using hD
      obtain ⟨r1, r2, r3, r4⟩ := rng_at hn hg hi hin
      have hR := ring_RI hn hg hi h hin hD'
      have hlg : LG n g (D ||| orP (fun k => itr g k i) (rng n g i)) (if 1 < rng n g i then mxI lg (rng n g i) else lg) := by
        have hii : (D ||| orP (fun k => itr g k i) (rng n g i)).testBit i = true := by
          rw [Nat.testBit_or, (orP_bit (f := fun k => itr g k i) (y := i) (rng n g i)).mpr ⟨0, by omega, rfl⟩, Bool.or_true]
        have hsub : ∀ y, D.testBit y = true → (D ||| orP (fun k => itr g k i) (rng n g i)).testBit y = true := fun y hy => by rw [Nat.testBit_or, hy, Bool.true_or]
        refine ⟨fun y hy hb h1 => ?_, ?_⟩
        · rcases ring_bit hn hg hi hin hb with q | q
          · have := hl.1 y hy q h1
            split
            · unfold mxI; split <;> omega
            · exact this
          · rw [q] at h1 ⊢
            rw [if_pos h1]
            unfold mxI; split <;> omega
        · by_cases q : 1 < rng n g i
          · rw [if_pos q]
            right
            unfold mxI
            by_cases z : lg < rng n g i
            · rw [if_pos z]; exact ⟨i, hin, hii, rfl, q⟩
            · rw [if_neg z]
              rcases hl.2 with e | ⟨y, y1, y2, y3, y4⟩
              · omega
              · exact ⟨y, y1, hsub y y2, y3, y4⟩
          · rw [if_neg q]
            rcases hl.2 with e | ⟨y, y1, y2, y3, y4⟩
            · exact Or.inl e
            · exact Or.inr ⟨y, y1, hsub y y2, y3, y4⟩
      obtain ⟨D', N', W', lg', g1, g2, g3, g4, g5⟩ := ih (i + 1) f _ _ _ _ (by omega) (by omega) hR hlg (by
        split
        · unfold mxI; split <;> omega
        · exact hl1) (fun y hy => by
        rw [Nat.testBit_or]
        by_cases q : y = i
        · rw [q, (orP_bit (f := fun k => itr g k i) (y := i) (rng n g i)).mpr ⟨0, by omega, rfl⟩, Bool.or_true]
        · rw [hd y (by omega), Bool.true_or])
      refine ⟨D', N', W', lg', g1, g2, g3, g4, ?_⟩
      rw [← g5]
      have e := cr_35 hn hg hi (p_X4_countRings_b19 f) hgo (C := W - N) (lg := lg) h hin hD' (by omega) hl1 (by omega) (rng n g i) 0 4096 (by omega) (by omega)
      have e0 : D ||| orP (fun k => itr g k i) 0 = D := Nat.or_zero D
      rw [e0] at e
      refine (show p_X4_countRings_b35 (p_X4_countRings_b19 f) 4096 (nI n) (nI N) (nI (W - N)) (nI lg) go (nI D) (nI i) 0 (nI i) = _ from e).trans ?_
      have e2 : W - N + (if 1 < rng n g i then rng n g i - 1 else 0) = W + (if 1 < rng n g i then rng n g i else 0) - (N + (if 1 < rng n g i then 1 else 0)) := by
        split <;> omega
      rw [e2]
def LO (n : Nat) (g : Nat → Nat) (D : Nat) (lo : Bool) : Prop := lo = true ↔ ∃ y, y < n ∧ D.testBit y = true ∧ 2 < rng n g y
theorem mr_134 {n : Nat} {g : Nat → Nat} (hn : n < 9) (hg : ∀ x, x < n → g x < n) (hi : ∀ x y, x < n → y < n → g x = g y → x = y) (K : Int32 → Int32 → Int32 → Int32 → Int32 → (Nat → Int32) → (Nat → Int32) → Int32 → Int32 → Int32 → Option (Int32 × Int32 × Int32 × Int32)) {s : Nat} {mi mo : Nat → Int32} {S : Int32} (hsit : ∀ x, x < n → p_X8_sitter (nI n) mi (nI s) (mo x) = some (nI (g x))) {D N W x : Nat} {lo : Bool} (h : RI n g D N W) (hx : x < n) (hD : D.testBit x = false) : ∀ (r j fuel : Nat), j + r = rng n g x → r < fuel →
    p_X8_findRings_b134 K fuel S (nI n) (nI N) (nI W) (nI lo.toNat) mi mo (nI s) (nI (D ||| orP (fun i => itr g i x) j)) (nI x) (nI j) (nI (itr g j x)) = K S (nI n) (nI (N + (if 1 < rng n g x then 1 else 0))) (nI (W + (if 1 < rng n g x then rng n g x else 0))) (nI (lo || decide (2 < rng n g x)).toNat) mi mo (nI s) (nI (D ||| orP (fun i => itr g i x) (rng n g x))) (nI (x + 1)) := by
  obtain ⟨r1, r2, r3, r4⟩ := rng_at hn hg hi hx
  have hpw := d_pw n hn
  have hdl : ∀ j, D ||| orP (fun i => itr g i x) j < 256 := fun j => Nat.lt_of_lt_of_le (Nat.or_lt_two_pow h.1 (orP_lt j fun k _ => itr_lt hg hx k)) hpw
  intro r
  induction r with
  | zero =>
    intro j fuel hj hf
    obtain ⟨f, rfl⟩ : ∃ f, fuel = f + 1 := ⟨fuel - 1, by omega⟩
    have e : j = rng n g x := by omega
    subst e
    rw [r3]
    show p_X8_findRings_b134x _ _ _ _ _ _ _ _ _ _ _ _ _ _ = _
    unfold p_X8_findRings_b134x p_X8_findRings_b189 p_X8_findRings_b210 p_X8_findRings_b228 p_X8_findRings_b233
    have hb : (D ||| orP (fun i => itr g i x) (rng n g x)).testBit x = true := by
      rw [Nat.testBit_or, (orP_bit (f := fun i => itr g i x) (y := x) (rng n g x)).mpr ⟨0, by omega, rfl⟩, Bool.or_true]
    rw [d_isIn _ (hdl _) x (by omega), b1_some, hb, if_neg (by decide)]
    simp only [nm_def, nI_1, z0, z1, gd_true, nIb0]
    have e1 : (nI (rng n g x) ≤ 1) = ¬ (1 < rng n g x) := (propext (nI_leI (a := rng n g x) (b := 1) (by omega) (by decide))).trans (propext ⟨fun q => by omega, fun q => by omega⟩)
    have e2 : (nI (rng n g x) ≤ 2) = ¬ (2 < rng n g x) := (propext (nI_leI (a := rng n g x) (b := 2) (by omega) (by decide))).trans (propext ⟨fun q => by omega, fun q => by omega⟩)
    simp only [e1, e2]
    have hlo : ∀ A B C : Nat → Int32, True := fun _ _ _ => trivial
    by_cases q : 1 < rng n g x
    · simp only [if_neg (fun z : ¬ 1 < rng n g x => z q), if_pos q, nI_add]
      by_cases q2 : 2 < rng n g x
      · simp only [if_neg (fun z : ¬ 2 < rng n g x => z q2), decide_eq_true q2, Bool.or_true, ite_self]
        rfl
      · simp only [if_pos q2, decide_eq_false q2, Bool.or_false]
        cases lo
        · rfl
        · rfl
    · have q2 : ¬ 2 < rng n g x := by omega
      simp only [if_pos q, if_neg q, if_pos q2, decide_eq_false q2, Bool.or_false, Nat.add_zero, L0, nI_add]
      cases lo
      · rfl
      · rfl
  | succ r ih =>
    intro j fuel hj hf
    obtain ⟨f, rfl⟩ : ∃ f, fuel = f + 1 := ⟨fuel - 1, by omega⟩
    have hjn := itr_lt hg hx j
    rw [← ih (j + 1) f (by omega) (by omega)]
    show p_X8_findRings_b134x _ _ _ _ _ _ _ _ _ _ _ _ _ _ = _
    unfold p_X8_findRings_b134x
    rw [d_isIn _ (hdl _) (itr g j x) (by omega), b1_some, ring_new hn hg hi h hx hD (by omega), if_pos (show nI (false : Bool).toNat = 0 from rfl)]
    simp only [nm_def, inB_nI (show itr g j x < 8 by omega) (by decide), gd_true, nI_clamp (show itr g j x < 2 ^ 31 by omega), hsit _ hjn, b1_some, nI_1, d_sh (itr g j x) (by omega), fa_or, Nat.or_assoc]
    rfl
theorem mr_118 {n : Nat} {g : Nat → Nat} (hn : n < 9) (hg : ∀ x, x < n → g x < n) (hi : ∀ x y, x < n → y < n → g x = g y → x = y) {s : Nat} {mi mo : Nat → Int32} {S : Int32} (hsit : ∀ x, x < n → p_X8_sitter (nI n) mi (nI s) (mo x) = some (nI (g x))) : ∀ (r i fuel D N W : Nat) (lo : Bool), i + r = n → r < fuel → RI n g D N W → LO n g D lo → (∀ y, y < i → D.testBit y = true) →
    ∃ (D' N' W' : Nat) (lo' : Bool), RI n g D' N' W' ∧ LO n g D' lo' ∧ (∀ y, y < n → D'.testBit y = true) ∧ p_X8_findRings_b118 fuel S (nI n) (nI N) (nI W) (nI lo.toNat) mi mo (nI s) (nI D) (nI i) = some (1, nI N', nI W', nI lo'.toNat) := by
  have hpw := d_pw n hn
  intro r
  induction r with
  | zero =>
    intro i fuel D N W lo hi' hf h hl hd
    obtain ⟨f, rfl⟩ : ∃ f, fuel = f + 1 := ⟨fuel - 1, by omega⟩
    have e : i = n := by omega
    subst e
    refine ⟨D, N, W, lo, h, hl, hd, ?_⟩
    show p_X8_findRings_b118x _ _ _ _ _ _ _ _ _ _ _ = _
    unfold p_X8_findRings_b118x
    rw [if_pos (nI_le (Nat.le_refl _) (by omega))]
  | succ r ih =>
    intro i fuel D N W lo hi' hf h hl hd
    obtain ⟨f, rfl⟩ : ∃ f, fuel = f + 1 := ⟨fuel - 1, by omega⟩
    have hin : i < n := by omega
    show ∃ (D' N' W' : Nat) (lo' : Bool), _ ∧ _ ∧ _ ∧ p_X8_findRings_b118x _ _ _ _ _ _ _ _ _ _ _ = _
    unfold p_X8_findRings_b118x
    rw [if_neg (nI_ge hin (by omega))]
    by_cases hD : D.testBit i = true
    · obtain ⟨D', N', W', lo', g1, g2, g4, g5⟩ := ih (i + 1) f D N W lo (by omega) (by omega) h hl (fun y hy => by
        by_cases q : y = i
        · rw [q]; exact hD
        · exact hd y (by omega))
      refine ⟨D', N', W', lo', g1, g2, g4, ?_⟩
      rw [← g5]
      show p_X8_findRings_b134x _ _ _ _ _ _ _ _ _ _ _ _ _ _ = _
      unfold p_X8_findRings_b134x p_X8_findRings_b189 p_X8_findRings_b210 p_X8_findRings_b228 p_X8_findRings_b233
      rw [d_isIn D (Nat.lt_of_lt_of_le h.1 hpw) i (by omega), b1_some, hD, if_neg (by decide)]
      simp only [nm_def, nI_1, z0, z1, gd_true, nIb0, if_pos (show (0 : Int32) ≤ 1 by decide), if_pos (show (0 : Int32) ≤ 2 by decide), L0, nI_add, Nat.add_zero]
      cases lo
      · rfl
      · rfl
    · have hD' : D.testBit i = false := by simpa using hD
      obtain ⟨r1, r2, r3, r4⟩ := rng_at hn hg hi hin
      have hR := ring_RI hn hg hi h hin hD'
      have hlo : LO n g (D ||| orP (fun k => itr g k i) (rng n g i)) (lo || decide (2 < rng n g i)) := by
        have hii : (D ||| orP (fun k => itr g k i) (rng n g i)).testBit i = true := by
          rw [Nat.testBit_or, (orP_bit (f := fun k => itr g k i) (y := i) (rng n g i)).mpr ⟨0, by omega, rfl⟩, Bool.or_true]
        have hsub : ∀ y, D.testBit y = true → (D ||| orP (fun k => itr g k i) (rng n g i)).testBit y = true := fun y hy => by rw [Nat.testBit_or, hy, Bool.true_or]
        unfold LO at hl ⊢
        rw [Bool.or_eq_true, hl, decide_eq_true_iff]
        constructor
        · rintro (⟨y, y1, y2, y3⟩ | q)
          · exact ⟨y, y1, hsub y y2, y3⟩
          · exact ⟨i, hin, hii, q⟩
        · rintro ⟨y, y1, y2, y3⟩
          rcases ring_bit hn hg hi hin y2 with q | q
          · exact Or.inl ⟨y, y1, q, y3⟩
          · right; omega
      obtain ⟨D', N', W', lo', g1, g2, g4, g5⟩ := ih (i + 1) f _ _ _ _ (by omega) (by omega) hR hlo (fun y hy => by
        rw [Nat.testBit_or]
        by_cases q : y = i
        · rw [q, (orP_bit (f := fun k => itr g k i) (y := i) (rng n g i)).mpr ⟨0, by omega, rfl⟩, Bool.or_true]
        · rw [hd y (by omega), Bool.true_or])
      refine ⟨D', N', W', lo', g1, g2, g4, ?_⟩
      rw [← g5]
      have e := mr_134 hn hg hi (p_X8_findRings_b118 f) (S := S) hsit (lo := lo) h hin hD' (rng n g i) 0 4096 (by omega) (by omega)
      have e0 : D ||| orP (fun k => itr g k i) 0 = D := Nat.or_zero D
      rw [e0] at e
      exact (show p_X8_findRings_b134 (p_X8_findRings_b118 f) 4096 S (nI n) (nI N) (nI W) (nI lo.toNat) mi mo (nI s) (nI D) (nI i) 0 (nI i) = _ from e)
theorem RI_0 {n : Nat} {g : Nat → Nat} : RI n g 0 0 0 := by
  have z : ∀ f, smS n 0 f = 0 := fun f => sm_zero' fun y _ => by rw [Nat.zero_testBit]; rfl
  exact ⟨Nat.pow_pos (by decide), fun y _ hb => (by rw [Nat.zero_testBit] at hb; cases hb), (by rw [z]), (by rw [z])⟩
theorem smS_all {n D : Nat} {f : Nat → Nat} (h : ∀ y, y < n → D.testBit y = true) : smS n D f = fb_sm f n := sm_congr fun y hy => by rw [if_pos (h y hy)]
