/-! back: whole sittings -/
theorem whC_bad {S P s : Nat} (hS : S < 9) (hP : P ≤ S) (hs : s < 4) {own : Nat → Nat} (ho : ∀ k, k < P → own k < S) {Ho mo : Nat → Int32} (h1 : ∀ k, k < P → Ho k = nI (own k)) (h2 : ∀ k, k < P → mo k = nI (own k)) {si : Nat → Nat → Int32} {mi : Nat → Int32} (hit : ∀ i, i < P → si s i = mi (60 * s + i)) : ∀ (r i fuel : Nat) (t o : Int32), i + r = P → r < fuel → (∃ p, i ≤ p ∧ p < P ∧ ∀ t, t < S → mi (60 * s + p) ≠ nI t) → p_X4_isWhole_b7 fuel (nI S) (nI P) Ho si s t o (nI i) = some 0 := by
  intro r
  induction r with
  | zero => intro i fuel t o hi hf ⟨p, p1, p2, _⟩; omega
  | succ r ih =>
    intro i fuel t o hi hf ⟨p, p1, p2, p3⟩
    obtain ⟨f, rfl⟩ : ∃ f, fuel = f + 1 := ⟨fuel - 1, by omega⟩
    show p_X4_isWhole_b7x _ _ _ _ _ _ _ _ _ = _
    unfold p_X4_isWhole_b7x p_X4_isWhole_b40
    rw [if_neg (nI_ge (show i < P by omega) (by omega))]
    simp only [decide_eq_true hs, gd_true, inB_nI (show i < 60 by omega) (by decide), inB_nI (show i < 8 by omega) (by decide), nI_clamp (show i < 2 ^ 31 by omega), nm_def, nI_1]
    by_cases q : si s i < 0
    · rw [if_pos q]
    · rw [if_neg q]
      by_cases q2 : si s i < nI S
      · rw [if_pos q2]
        refine ih (i + 1) f _ _ (by omega) (by omega) ⟨p, ?_, p2, p3⟩
        by_cases z : i = p
        · exfalso
          obtain ⟨j, hj, e⟩ := nI_of q
          rw [e] at q2
          have := (nI_ltI hj (by omega)).mp q2
          exact p3 j this (by rw [← z, ← hit i (by omega), e])
        · omega
      · rw [if_neg q2]
theorem whM_bad {S P s : Nat} (hS : S < 9) (hP : P ≤ S) (hs : s < 4) {own : Nat → Nat} (ho : ∀ k, k < P → own k < S) {Ho mo : Nat → Int32} (h1 : ∀ k, k < P → Ho k = nI (own k)) (h2 : ∀ k, k < P → mo k = nI (own k)) {si : Nat → Nat → Int32} {mi : Nat → Int32} (hit : ∀ i, i < P → si s i = mi (60 * s + i)) {rg wo ln : Int32} (hbad : ∃ p, p < P ∧ ∀ t, t < S → mi (60 * s + p) ≠ nI t) : ∀ (r i fuel T : Nat) (o : Int32), i + r = P → r < fuel → T < 2 ^ S → pc T ≤ i → ((∃ p, p < i ∧ ∀ t, t < S → mi (60 * s + p) ≠ nI t) → pc T + 1 ≤ i) → p_X8_findRings_b7 fuel (nI S) (nI P) rg wo ln mi mo (nI s) (nI T) o (nI i) = some (0, rg, wo, ln) := by
  have hpw := d_pw S hS
  intro r
  induction r with
  | zero =>
    intro i fuel T o hi hf hT hp hq
    obtain ⟨f, rfl⟩ : ∃ f, fuel = f + 1 := ⟨fuel - 1, by omega⟩
    have e : i = P := by omega
    subst e
    show p_X8_findRings_b7x _ _ _ _ _ _ _ _ _ _ _ _ = _
    unfold p_X8_findRings_b7x p_X8_findRings_b95
    rw [if_pos (nI_le (Nat.le_refl _) (by omega))]
    by_cases z : nI i = nI S
    · rw [if_pos z, d_whole S hS, b1_some]
      have hne : ¬ nI T = nI (2 ^ S - 1) := fun e => by
        have e := nI_inj e (by omega) (by omega)
        have := (d_pcf S hS).1
        have := hq hbad
        have := nI_inj z (by omega) (by omega)
        rw [e] at *
        omega
      rw [if_neg hne]
    · rw [if_neg z]
  | succ r ih =>
    intro i fuel T o hi hf hT hp hq
    obtain ⟨f, rfl⟩ : ∃ f, fuel = f + 1 := ⟨fuel - 1, by omega⟩
    have hiP : i < P := by omega
    show p_X8_findRings_b7x _ _ _ _ _ _ _ _ _ _ _ _ = _
    unfold p_X8_findRings_b7x p_X8_findRings_b48 p_X8_isSeatNow p_X8_isSeatNow_b0
    rw [if_neg (nI_ge hiP (by omega)), ix60]
    simp only [inB_nI (show 60 * s + i < 240 by omega) (by decide), inB_nI (show i < 8 by omega) (by decide), gd_true, nm_def, nI_clamp (show i < 2 ^ 31 by omega), nI_clamp (show 60 * s + i < 2 ^ 31 by omega), nI_1]
    rcases v_rng (N := S) (by omega) (mi (60 * s + i)) with ⟨k, k1, k2, k3, -, -⟩ | ⟨k1, k2⟩
    · rw [k3, b1_some, z1, gd_true, b1_some, if_neg (by decide), k2, d_sh k (by omega), fa_or]
      have hd := (d_or1 T (by omega) k (by omega)).1
      refine ih (i + 1) f _ _ (by omega) (by omega) (Nat.or_lt_two_pow hT (two_lt k1)) (by omega) (fun ⟨p, p1, p2⟩ => ?_)
      by_cases z : p = i
      · exact absurd (by rw [z]; exact k2) (p2 k k1)
      · have := hq ⟨p, by omega, p2⟩
        omega
    · rw [k1, b1_some, z0, gd_true, b1_some, if_pos rfl, show nI T ||| 0 = nI T from by simp]
      refine ih (i + 1) f _ _ (by omega) (by omega) hT (by omega) (fun _ => by omega)
theorem whC_ok {S P s : Nat} (hS : S < 9) (hP : P ≤ S) (hs : s < 4) {own : Nat → Nat} (ho : ∀ k, k < P → own k < S) {Ho mo : Nat → Int32} (h1 : ∀ k, k < P → Ho k = nI (own k)) (h2 : ∀ k, k < P → mo k = nI (own k)) {si : Nat → Nat → Int32} {mi : Nat → Int32} (hit : ∀ i, i < P → si s i = mi (60 * s + i)) {sg : Nat → Nat} (hsg : ∀ k, k < P → sg k < S ∧ mi (60 * s + k) = nI (sg k)) : ∀ (r i fuel : Nat), i + r = P → r < fuel → p_X4_isWhole_b7 fuel (nI S) (nI P) Ho si s (nI (orP sg i)) (nI (orP own i)) (nI i) = some (if orP sg P = 2 ^ S - 1 ∧ orP own P = 2 ^ S - 1 then 1 else 0) := by
  have hpw := d_pw S hS
  have l1 := orP_lt (S := S) P (fun k hk => (hsg k hk).1)
  have l2 := orP_lt (S := S) P ho
  intro r
  induction r with
  | zero =>
    intro i fuel hi hf
    obtain ⟨f, rfl⟩ : ∃ f, fuel = f + 1 := ⟨fuel - 1, by omega⟩
    have e : i = P := by omega
    subst e
    show p_X4_isWhole_b7x _ _ _ _ _ _ _ _ _ = _
    unfold p_X4_isWhole_b7x p_X4_isWhole_b98 p_X4_isWhole_b99
    have e1 : (nI (orP sg i) = nI (2 ^ S - 1)) = (orP sg i = 2 ^ S - 1) := propext (nI_eq (by omega) (by omega))
    have e2 : (nI (orP own i) = nI (2 ^ S - 1)) = (orP own i = 2 ^ S - 1) := propext (nI_eq (by omega) (by omega))
    rw [if_pos (nI_le (Nat.le_refl _) (by omega)), d_all S hS]
    simp only [b1_some, e1, e2, z0, z1, gd_true]
    by_cases q1 : orP sg i = 2 ^ S - 1
    · by_cases q2 : orP own i = 2 ^ S - 1
      · rw [if_pos q1, if_pos q2, if_pos ⟨q1, q2⟩]
      · rw [if_pos q1, if_neg q2, if_neg (fun z => q2 z.2)]
    · rw [if_neg q1, if_neg (fun z => q1 z.1)]
  | succ r ih =>
    intro i fuel hi hf
    obtain ⟨f, rfl⟩ : ∃ f, fuel = f + 1 := ⟨fuel - 1, by omega⟩
    have hiP : i < P := by omega
    obtain ⟨g1, g2⟩ := hsg i hiP
    have o1 := ho i hiP
    rw [← ih (i + 1) f (by omega) (by omega)]
    show p_X4_isWhole_b7x _ _ _ _ _ _ _ _ _ = _
    unfold p_X4_isWhole_b7x
    rw [if_neg (nI_ge hiP (by omega))]
    simp only [decide_eq_true hs, gd_true, inB_nI (show i < 60 by omega) (by decide), inB_nI (show i < 8 by omega) (by decide), nI_clamp (show i < 2 ^ 31 by omega), nm_def, nI_1, hit i hiP, g2, h1 i hiP, if_neg (nI_pos (show sg i < 2 ^ 31 by omega)), if_pos (nI_lt g1 (by omega)), d_sh (sg i) (by omega), d_sh (own i) (by omega), fa_or]
    rfl
theorem whM_ok {S P s : Nat} (hS : S < 9) (hP : P ≤ S) (hs : s < 4) {own : Nat → Nat} (ho : ∀ k, k < P → own k < S) {Ho mo : Nat → Int32} (h1 : ∀ k, k < P → Ho k = nI (own k)) (h2 : ∀ k, k < P → mo k = nI (own k)) {si : Nat → Nat → Int32} {mi : Nat → Int32} (hit : ∀ i, i < P → si s i = mi (60 * s + i)) {rg wo ln : Int32} {sg : Nat → Nat} (hsg : ∀ k, k < P → sg k < S ∧ mi (60 * s + k) = nI (sg k)) : ∀ (r i fuel : Nat), i + r = P → r < fuel → p_X8_findRings_b7 fuel (nI S) (nI P) rg wo ln mi mo (nI s) (nI (orP sg i)) (nI (orP own i)) (nI i) = if P = S ∧ orP sg P = 2 ^ S - 1 ∧ orP own P = 2 ^ S - 1 then p_X8_findRings_b118 4096 (nI S) (nI P) 0 0 0 mi mo (nI s) 0 0 else some (0, rg, wo, ln) := by
  have hpw := d_pw S hS
  have l1 := orP_lt (S := S) P (fun k hk => (hsg k hk).1)
  have l2 := orP_lt (S := S) P ho
  intro r
  induction r with
  | zero =>
    intro i fuel hi hf
    obtain ⟨f, rfl⟩ : ∃ f, fuel = f + 1 := ⟨fuel - 1, by omega⟩
    have e : i = P := by omega
    subst e
    show p_X8_findRings_b7x _ _ _ _ _ _ _ _ _ _ _ _ = _
    unfold p_X8_findRings_b7x p_X8_findRings_b95
    have e0 : (nI i = nI S) = (i = S) := propext (nI_eq (by omega) (by omega))
    have e1 : (nI (orP sg i) = nI (2 ^ S - 1)) = (orP sg i = 2 ^ S - 1) := propext (nI_eq (by omega) (by omega))
    have e2 : (nI (orP own i) = nI (2 ^ S - 1)) = (orP own i = 2 ^ S - 1) := propext (nI_eq (by omega) (by omega))
    rw [if_pos (nI_le (Nat.le_refl _) (by omega)), d_whole S hS]
    simp only [b1_some, e0, e1, e2]
    by_cases q0 : i = S
    · by_cases q1 : orP sg i = 2 ^ S - 1
      · by_cases q2 : orP own i = 2 ^ S - 1
        · rw [if_pos q0, if_pos q1, if_pos q2, if_pos ⟨q0, q1, q2⟩]
        · rw [if_pos q0, if_pos q1, if_neg q2, if_neg (fun z => q2 z.2.2)]
      · rw [if_pos q0, if_neg q1, if_neg (fun z => q1 z.2.1)]
    · rw [if_neg q0, if_neg (fun z => q0 z.1)]
  | succ r ih =>
    intro i fuel hi hf
    obtain ⟨f, rfl⟩ : ∃ f, fuel = f + 1 := ⟨fuel - 1, by omega⟩
    have hiP : i < P := by omega
    obtain ⟨g1, g2⟩ := hsg i hiP
    have o1 := ho i hiP
    rw [← ih (i + 1) f (by omega) (by omega)]
    show p_X8_findRings_b7x _ _ _ _ _ _ _ _ _ _ _ _ = _
    unfold p_X8_findRings_b7x p_X8_findRings_b48 p_X8_isSeatNow p_X8_isSeatNow_b0
    rw [if_neg (nI_ge hiP (by omega)), ix60]
    have hin : p_X8_in (nI (sg i)).toInt64 0 ((nI S - 1).toInt64) = some 1 := by
      rcases v_rng (N := S) (by omega) (nI (sg i)) with ⟨k, -, -, k3, -, -⟩ | ⟨-, k2⟩
      · exact k3
      · exact absurd (nI_lt g1 (by omega)) (k2.resolve_left (nI_pos (by omega)))
    simp only [inB_nI (show 60 * s + i < 240 by omega) (by decide), inB_nI (show i < 8 by omega) (by decide), gd_true, nm_def, nI_clamp (show i < 2 ^ 31 by omega), nI_clamp (show 60 * s + i < 2 ^ 31 by omega), nI_1, g2, h2 i hiP, hin, b1_some, z1, i10, if_false, d_sh (sg i) (by omega), d_sh (own i) (by omega), fa_or]
    rfl
theorem fol_12 {S P s : Nat} (hP : P ≤ 8) (hs : s < 4) {own sg : Nat → Nat} {Ho : Nat → Int32} (h1 : ∀ k, k < P → Ho k = nI (own k)) {si : Nat → Nat → Int32} (hsg : ∀ k, k < P → sg k < 8 ∧ si s k = nI (sg k)) (hinj : ∀ i j, i < P → j < P → sg i = sg j → i = j) {nu ch lo : Int32} : ∀ (r i fuel : Nat) (go : Nat → Int32), i + r = P → r < fuel → (∀ k, k < i → go (sg k) = nI (own k)) →
    ∃ go', (∀ k, k < P → go' (sg k) = nI (own k)) ∧ p_X4_follow_b12 fuel (nI S) (nI P) nu ch lo Ho go si s (nI i) = b3 (p_X4_countRings (nI S) nu ch lo go') fun a b c => some (1, a, b, c, go') := by
  intro r
  induction r with
  | zero =>
    intro i fuel go hi hf hg
    obtain ⟨f, rfl⟩ : ∃ f, fuel = f + 1 := ⟨fuel - 1, by omega⟩
    have e : i = P := by omega
    subst e
    refine ⟨go, hg, ?_⟩
    show p_X4_follow_b12x _ _ _ _ _ _ _ _ _ _ _ = _
    unfold p_X4_follow_b12x
    rw [if_pos (nI_le (Nat.le_refl _) (by omega))]
  | succ r ih =>
    intro i fuel go hi hf hg
    obtain ⟨f, rfl⟩ : ∃ f, fuel = f + 1 := ⟨fuel - 1, by omega⟩
    have hiP : i < P := by omega
    obtain ⟨g1, g2⟩ := hsg i hiP
    obtain ⟨go', j1, j2⟩ := ih (i + 1) f (upd go (sg i) (nI (own i))) (by omega) (by omega) (fun k hk => by
      rw [upd_at]
      by_cases q : k = i
      · rw [q, if_pos rfl]
      · rw [if_neg (fun z => q (hinj k i (by omega) hiP z))]; exact hg k (by omega))
    refine ⟨go', j1, ?_⟩
    rw [← j2]
    show p_X4_follow_b12x _ _ _ _ _ _ _ _ _ _ _ = _
    unfold p_X4_follow_b12x
    rw [if_neg (nI_ge hiP (by omega))]
    simp only [decide_eq_true hs, gd_true, inB_nI (show i < 60 by omega) (by decide), inB_nI (show i < 8 by omega) (by decide), nI_clamp (show i < 2 ^ 31 by omega), nm_def, nI_1, g2, h1 i hiP, inB_nI g1 (by decide), nI_clamp (show sg i < 2 ^ 31 by omega)]
theorem sit_5 {P s t p0 : Nat} (hP : P ≤ 8) (hs : s < 4) {sg : Nat → Nat} {mi : Nat → Int32} (hsg : ∀ k, k < P → sg k < 8 ∧ mi (60 * s + k) = nI (sg k)) (hinj : ∀ i j, i < P → j < P → sg i = sg j → i = j) (hp0 : p0 < P) (ht : sg p0 = t) : ∀ (r i fuel : Nat) (w : Int32), i + r = P → r < fuel → (p0 < i → w = nI p0) → p_X8_sitter_b5 fuel (nI P) mi (nI s) (nI t) w (nI i) = some (nI p0) := by
  intro r
  induction r with
  | zero =>
    intro i fuel w hi hf hw
    obtain ⟨f, rfl⟩ : ∃ f, fuel = f + 1 := ⟨fuel - 1, by omega⟩
    have e : i = P := by omega
    subst e
    show p_X8_sitter_b5x _ _ _ _ _ _ _ = _
    unfold p_X8_sitter_b5x
    rw [if_pos (nI_le (Nat.le_refl _) (by omega)), hw hp0]
  | succ r ih =>
    intro i fuel w hi hf hw
    obtain ⟨f, rfl⟩ : ∃ f, fuel = f + 1 := ⟨fuel - 1, by omega⟩
    have hiP : i < P := by omega
    obtain ⟨g1, g2⟩ := hsg i hiP
    obtain ⟨g3, -⟩ := hsg p0 hp0
    show p_X8_sitter_b5x _ _ _ _ _ _ _ = _
    unfold p_X8_sitter_b5x p_X8_sitter_b36
    have e : (nI (sg i) = nI t) = (i = p0) := propext ⟨fun q => hinj i p0 hiP hp0 (by rw [nI_inj q (by omega) (by omega), ht]), fun q => by rw [q, ht]⟩
    rw [if_neg (nI_ge hiP (by omega)), ix60]
    simp only [inB_nI (show 60 * s + i < 240 by omega) (by decide), gd_true, nI_clamp (show 60 * s + i < 2 ^ 31 by omega), nm_def, nI_1, g2, e]
    by_cases q : i = p0
    · rw [if_pos q]; exact ih (i + 1) f _ (by omega) (by omega) (fun _ => by rw [q])
    · rw [if_neg q]; exact ih (i + 1) f _ (by omega) (by omega) (fun z => hw (by omega))
theorem f1_pos {n : Nat} {g : Nat → Nat} {y : Nat} (h : 1 < rng n g y) (h8 : rng n g y ≤ 8) : 0 < f1 n g y := by
  unfold f1
  rw [if_pos h]
  exact Nat.div_pos (by omega) (by omega)
theorem v_rings {S P s : Nat} (hS : S < 9) (hP : P ≤ S) (hs : s < 4) {own : Nat → Nat} (ho : ∀ k, k < P → own k < S) {Ho mo : Nat → Int32} (h1 : ∀ k, k < P → Ho k = nI (own k)) (h2 : ∀ k, k < P → mo k = nI (own k)) {si : Nat → Nat → Int32} {mi : Nat → Int32} (hit : ∀ i, i < P → si s i = mi (60 * s + i)) (nu ch lo rg wo ln : Int32) (go : Nat → Int32) :
    (p_X4_follow (nI S) (nI P) nu ch lo Ho go si s = some (0, nu, ch, lo, go) ∧ p_X8_findRings (nI S) (nI P) rg wo ln mi mo (nI s) = some (0, rg, wo, ln)) ∨
    (∃ (N W lg : Nat) (lo' : Bool) (go' : Nat → Int32), p_X4_follow (nI S) (nI P) nu ch lo Ho go si s = some (1, nI N, nI (W - N), nI lg, go') ∧ p_X8_findRings (nI S) (nI P) rg wo ln mi mo (nI s) = some (1, nI N, nI W, nI lo'.toNat) ∧ N ≤ W ∧ W ≤ 8 ∧ lg < 100 ∧ (N = 0 → lg < 2) ∧ (N ≠ 0 → 2 ≤ lg ∧ (lg = 2 ↔ lo' = false))) := by
  have hpw := d_pw S hS
  unfold p_X4_follow p_X4_follow_b0 p_X8_findRings p_X8_findRings_b0 p_X4_isWhole p_X4_isWhole_b0
  by_cases hv : ∀ p, p < P → ∃ t, t < S ∧ mi (60 * s + p) = nI t
  · obtain ⟨sg, hsg⟩ := Classical.skolem.mp (fun p => (show ∃ t, p < P → (t < S ∧ mi (60 * s + p) = nI t) from by
      by_cases q : p < P
      · obtain ⟨t, ht⟩ := hv p q; exact ⟨t, fun _ => ht⟩
      · exact ⟨0, fun z => absurd z q⟩))
    have w1 := whC_ok hS hP hs ho h1 h2 hit hsg P 0 4096 (by omega) (by omega)
    have w2 := whM_ok hS hP hs ho h1 h2 hit (rg := rg) (wo := wo) (ln := ln) hsg P 0 4096 (by omega) (by omega)
    rw [show p_X4_isWhole_b7 4096 (nI S) (nI P) Ho si s 0 0 0 = _ from w1, show p_X8_findRings_b7 4096 (nI S) (nI P) rg wo ln mi mo (nI s) 0 0 0 = _ from w2, b1_some]
    by_cases hw : orP sg P = 2 ^ S - 1 ∧ orP own P = 2 ^ S - 1
    · have hPS : P = S := by
        have := orP_pc (f := sg) hS 0 P (fun k hk => (hsg k (by omega)).1)
        rw [Nat.zero_add, hw.1, (d_pcf S hS).1, show pc (orP sg 0) = 0 from (by rw [show orP sg 0 = 0 from rfl]; rfl)] at this
        omega
      subst hPS
      rw [if_pos hw, if_pos (show P = P ∧ orP sg P = 2 ^ P - 1 ∧ orP own P = 2 ^ P - 1 from ⟨rfl, hw⟩), if_neg (show ¬ (1 : Int32) = 0 by decide)]
      right
      have hf := (d_pcf P hS)
      have isg := orP_inj hS (fun k hk => (hsg k hk).1) (by rw [hw.1]; exact hf.1)
      have iow := orP_inj hS ho (by rw [hw.2]; exact hf.1)
      have ssg : ∀ y, y < P → ∃ k, k < P ∧ sg k = y := fun y hy => (orP_bit P).mp (by rw [hw.1]; exact hf.2 y hy)
      obtain ⟨go', j1, j2⟩ := fol_12 (S := P) (P := P) (s := s) (own := own) (sg := sg) (Ho := Ho) (by omega) hs h1 (si := si) (fun k hk => ⟨by have := (hsg k hk).1; omega, by rw [hit k hk]; exact (hsg k hk).2⟩) isg (nu := nu) (ch := ch) (lo := lo) P 0 4096 go (by omega) (by omega) (fun k hk => absurd hk (by omega))
      -- the class's rows
      have hgs : ∀ k, k < P → (go' (sg k)).toNatClampNeg = own k := fun k hk => by rw [j1 k hk, nI_clamp (by have := ho k hk; omega)]
      have hg : ∀ x, x < P → (go' x).toNatClampNeg < P := fun x hx => by
        obtain ⟨k, hk, e⟩ := ssg x hx
        rw [← e, hgs k hk]; exact ho k hk
      have hgo : ∀ x, x < P → go' x = nI (go' x).toNatClampNeg := fun x hx => by
        obtain ⟨k, hk, e⟩ := ssg x hx
        rw [← e, hgs k hk, j1 k hk]
      have hgi : ∀ x y, x < P → y < P → (go' x).toNatClampNeg = (go' y).toNatClampNeg → x = y := fun x y hx hy e => by
        obtain ⟨k, hk, ek⟩ := ssg x hx
        obtain ⟨l, hl, el⟩ := ssg y hy
        rw [← ek, ← el, hgs k hk, hgs l hl] at e
        rw [← ek, ← el, iow k l hk hl e]
      obtain ⟨D, N, W, lg, c1, c2, c3, c4', c5⟩ := cr_19 hS (g := fun x => (go' x).toNatClampNeg) hg hgi hgo P 0 4096 0 0 0 0 (by omega) (by omega) RI_0 ⟨fun y _ hb => by (rw [Nat.zero_testBit] at hb; cases hb), Or.inl rfl⟩ (by omega) (fun y hy => absurd hy (by omega))
      -- the model's people
      obtain ⟨iv, hiv⟩ := Classical.skolem.mp (fun y => (show ∃ k, y < P → (k < P ∧ sg k = y) from by
        by_cases q : y < P
        · obtain ⟨k, hk⟩ := ssg y q; exact ⟨k, fun _ => hk⟩
        · exact ⟨0, fun z => absurd z q⟩))
      have hh : ∀ x, x < P → iv (own x) < P := fun x hx => (hiv _ (ho x hx)).1
      have hhi : ∀ x y, x < P → y < P → iv (own x) = iv (own y) → x = y := fun x y hx hy e => by
        have e1 := (hiv _ (ho x hx)).2
        have e2 := (hiv _ (ho y hy)).2
        rw [e, e2] at e1
        exact iow x y hx hy e1.symm
      have hsit : ∀ x, x < P → p_X8_sitter (nI P) mi (nI s) (mo x) = some (nI (iv (own x))) := fun x hx => by
        obtain ⟨i1, i2⟩ := hiv _ (ho x hx)
        rw [h2 x hx]
        exact sit_5 (t := own x) (by omega) hs (fun k hk => ⟨by have := (hsg k hk).1; omega, (hsg k hk).2⟩) isg i1 i2 P 0 4096 0 (by omega) (by omega) (fun z => absurd z (by omega))
      obtain ⟨D', N', W', lo', d1, d2, d3, d4⟩ := mr_118 hS (g := fun x => iv (own x)) hh hhi (S := nI P) hsit P 0 4096 0 0 0 false (by omega) (by omega) RI_0 (by
        unfold LO
        exact ⟨fun z => (by cases z), fun ⟨y, _, hb, _⟩ => by (rw [Nat.zero_testBit] at hb; cases hb)⟩) (fun y hy => absurd hy (by omega))
      -- the same rings
      have hcj : ∀ x, x < P → ∀ k, itr (fun x => (go' x).toNatClampNeg) k (sg x) = sg (itr (fun x => iv (own x)) k x) := fun x hx k => by
        induction k with
        | zero => rfl
        | succ k ih =>
          show (go' (itr (fun x => (go' x).toNatClampNeg) k (sg x))).toNatClampNeg = sg (iv (own (itr (fun x => iv (own x)) k x)))
          have hk := itr_lt (g := fun x => iv (own x)) hh hx k
          rw [ih, hgs _ hk, (hiv _ (ho _ hk)).2]
      have hrg : ∀ x, x < P → rng P (fun x => (go' x).toNatClampNeg) (sg x) = rng P (fun x => iv (own x)) x := fun x hx => by
        refine prd_congr (fun k => ?_) P 1
        rw [hcj x hx k]
        exact ⟨fun e => isg _ _ (itr_lt (g := fun x => iv (own x)) hh hx k) hx e, fun e => by rw [e]⟩
      have s1 : fb_sm (f1 P (fun x => iv (own x))) P = fb_sm (f1 P (fun x => (go' x).toNatClampNeg)) P := by
        refine Eq.trans (sm_congr fun k hk => ?_) (sm_perm (fun k hk => (hsg k hk).1) isg ssg (f1 P (fun x => (go' x).toNatClampNeg)))
        unfold f1
        rw [hrg k hk]
      have s2 : fb_sm (f2 P (fun x => iv (own x))) P = fb_sm (f2 P (fun x => (go' x).toNatClampNeg)) P := by
        refine Eq.trans (sm_congr fun k hk => ?_) (sm_perm (fun k hk => (hsg k hk).1) isg ssg (f2 P (fun x => (go' x).toNatClampNeg)))
        unfold f2
        rw [hrg k hk]
      have eN : N' = N := by
        have a1 := c1.2.2.1
        have a2 := d1.2.2.1
        rw [smS_all c4'] at a1
        rw [smS_all d3, s1, ← a1] at a2
        omega
      have eW : W' = W := by
        have a1 := c1.2.2.2
        have a2 := d1.2.2.2
        rw [smS_all c4'] at a1
        rw [smS_all d3, s2, ← a1] at a2
        exact a2
      subst eN eW
      obtain ⟨b1', b2'⟩ := RI_bd c1
      have a1 := c1.2.2.1
      rw [smS_all c4'] at a1
      refine ⟨N', W', lg, lo', go', ?_, d4, b1', by omega, c3, fun h0 => ?_, fun h0 => ?_⟩
      · refine (show p_X4_follow_b12 4096 (nI P) (nI P) nu ch lo Ho go si s 0 = _ from j2).trans ?_
        rw [show p_X4_countRings (nI P) nu ch lo go' = _ from c5, b3_some]
      · rcases c2.2 with e | ⟨y, y1, y2, y3, y4⟩
        · omega
        · exfalso
          rw [h0, Nat.mul_zero] at a1
          have z := fb_sm_zero a1.symm y y1
          have := f1_pos (n := P) (g := fun x => (go' x).toNatClampNeg) (y := y) (by omega) (by have := (rng_at hS hg hgi y1).2.1; omega)
          omega
      · have hlg : 1 < lg := by
          rcases c2.2 with e | ⟨y, y1, y2, y3, y4⟩
          · exfalso
            apply h0
            have : fb_sm (f1 P (fun x => (go' x).toNatClampNeg)) P = 0 := sm_zero' fun y hy => by
              unfold f1
              by_cases q : 1 < rng P (fun x => (go' x).toNatClampNeg) y
              · have := c2.1 y hy (c4' y hy) q
                omega
              · rw [if_neg q]
            omega
          · exact y4
        refine ⟨by omega, ?_⟩
        constructor
        · intro e
          cases hl : lo' with
          | false => rfl
          | true =>
            exfalso
            obtain ⟨y, y1, y2, y3⟩ := d2.mp hl
            have q1 := hrg y y1
            have q2 := c2.1 (sg y) (hsg y y1).1 (c4' _ (hsg y y1).1) (by omega)
            omega
        · intro e
          rcases c2.2 with z | ⟨y, y1, y2, y3, y4⟩
          · omega
          · apply Classical.byContradiction
            intro hne
            obtain ⟨k, hk, ek⟩ := ssg y y1
            have q1 := hrg k hk
            rw [ek] at q1
            have : lo' = true := d2.mpr ⟨k, hk, d3 k hk, by omega⟩
            rw [e] at this
            cases this
    · rw [if_neg hw, if_neg (show ¬ (P = S ∧ orP sg P = 2 ^ S - 1 ∧ orP own P = 2 ^ S - 1) from fun z => hw z.2), if_pos (show (0 : Int32) = 0 from rfl)]
      exact Or.inl ⟨rfl, rfl⟩
  · left
    obtain ⟨p, hp⟩ := Classical.not_forall.mp hv
    have hp1 : p < P := Classical.byContradiction fun q => hp (fun z => absurd z q)
    have hp2 : ∀ t, t < S → mi (60 * s + p) ≠ nI t := fun t ht e => hp (fun _ => ⟨t, ht, e⟩)
    have w1 := whC_bad hS hP hs ho h1 h2 hit P 0 4096 0 0 (by omega) (by omega) ⟨p, by omega, hp1, hp2⟩
    have w2 := whM_bad hS hP hs ho h1 h2 hit (rg := rg) (wo := wo) (ln := ln) ⟨p, hp1, hp2⟩ P 0 4096 0 0 (by omega) (by omega) (Nat.pow_pos (by decide)) (Nat.zero_le _) (fun ⟨q, q1, _⟩ => absurd q1 (by omega))
    rw [show p_X4_isWhole_b7 4096 (nI S) (nI P) Ho si s 0 0 0 = _ from w1, show p_X8_findRings_b7 4096 (nI S) (nI P) rg wo ln mi mo (nI s) 0 0 0 = _ from w2, b1_some, if_pos rfl]
    exact ⟨rfl, rfl⟩
theorem v_back {S R P : Nat} {srt row own kd : Nat → Nat} {hS hR hP f0 f1 : Int32} {Hs Hr Hb Ho Hk mb mt : Nat → Int32} (h : HB S R P srt row own kd hS hR hP f0 f1 Hs Hr Hb Ho Hk mb mt) {sf sz : Nat → Int32} {si : Nat → Nat → Int32} {mf mz mi : Nat → Int32} (hH : SH sf sz si mf mz mi) (nu ch lo fd : Int32) (go : Nat → Int32) (a1 s1 r1 p1 rg wo ln : Int32) (ms mr mo mk : Nat → Int32) (x y : Int32) : ∃ (r nu' ch' lo' fd' : Int32) (go' : Nat → Int32) (q1 q2 q3 q4 q5 q6 q7 : Int32) (q8 q9 q10 q11 : Nat → Int32), p_X7_back hS hP nu ch lo fd Ho go sz si x y = some (r, nu', ch', lo', fd', go') ∧ p_X8_back fd a1 s1 r1 p1 rg wo ln mf mz mi mb mt ms mr mo mk x y = some (r, fd', q1, q2, q3, q4, q5, q6, q7, q8, q9, q10, q11) := by
  obtain ⟨rfl, rfl, rfl, hcr, hm⟩ := h
  have hHC := HB_HC hcr
  have hS := hHC.1
  have hP := hHC.2.1
  have ho : ∀ k, k < P → own k < S := fun k hk => (hHC.2.2.2 k hk).2.1
  unfold p_X7_back p_X7_back_b0 p_X7_back_b15 p_X7_back_b16 p_X7_back_b82 p_X8_back p_X8_back_b0 p_X8_back_b19 p_X8_back_b96
  have hy : (if y < 0 then (0 : Int32) else if 2 < y then 0 else 1) = (if p_X7_isNoForm y = some 0 then 1 else 0) := by
    unfold p_X7_isNoForm p_X7_isNoForm_b0 p_X7_isNoForm_b9 p_X7_isNoForm_b14
    simp only [z0, z1, gd_true]
    by_cases q : y < 0
    · rw [if_pos q, if_pos q, if_neg (show ¬ (some (1 : Int32) = some 0) by decide)]
    · rw [if_neg q, if_neg q]
      by_cases q2 : y ≤ 2
      · rw [if_pos q2, if_pos rfl, if_neg (fun z => by have a := Int32.lt_iff_toInt_lt.mp z; have b := Int32.le_iff_toInt_le.mp q2; omega)]
      · rw [if_neg q2, if_neg (show ¬ (some (1 : Int32) = some 0) by decide), if_pos (Int32.lt_iff_toInt_lt.mpr (by have : ¬ y.toInt ≤ (2 : Int32).toInt := fun z => q2 (Int32.le_iff_toInt_le.mpr z); omega))]
  rcases v_shno x with ⟨s, hs, rfl, e1, e2⟩ | ⟨e1, e2⟩
  · obtain ⟨c1, c2, c3⟩ := c4 hs
    rcases v_form y with ⟨f0, hf, hyf, e3, e4⟩ | ⟨e3, e4⟩
    · have yn : ¬ y < 0 := by rw [hyf]; exact nI_pos (by omega)
      have y2 : ¬ 2 < y := by rw [hyf]; exact nI_nlt (a := 2) (b := f0) (by omega) (by decide)
      rw [if_neg yn, if_neg y2, e2]
      simp only [b1_some, e4, i10, if_false]
      rcases v_noSit (by omega) hm hH hs e1 e2 fd a1 s1 r1 p1 ms mr mo mk with ⟨r, fd', q1, q2, q3, q4, q5, q6, q7, q8, hr, w1, w2⟩ | ⟨f, n, a3, ms', mr', mo', mk', ⟨g1, g2, g3, g4, g5, g6, g7⟩, hPn, w1, w2, m1, m2⟩
      · rw [w1, w2, b2_some, b10_some, if_neg hr, if_neg hr]
        exact ⟨_, _, _, _, _, _, _, _, _, _, _, _, _, _, _, _, _, rfl, rfl⟩
      · rw [w1, w2, b2_some, b10_some, if_pos rfl, if_pos rfl]
        simp only [c1, c2, c3, gd_true]
        rcases v_rings hS hP hs ho (fun k hk => (hHC.2.2.2 k hk).1) (fun k hk => (m2 k hk).1) (fun i hi => g7 i (by omega)) nu ch lo rg wo ln go with ⟨k1, k2⟩ | ⟨N, W, lg, lo', go', k1, k2, k3, k4, k5, k6, k7⟩
        · rw [k1, k2, b5_some, b4_some, if_pos rfl, if_pos rfl]
          exact ⟨_, _, _, _, _, _, _, _, _, _, _, _, _, _, _, _, _, rfl, rfl⟩
        · rw [k1, k2, b5_some, b4_some, if_neg (show ¬ (1 : Int32) = 0 by decide), if_neg (show ¬ (1 : Int32) = 0 by decide)]
          by_cases y0 : y = 0
          · simp only [if_pos y0]
            exact ⟨_, _, _, _, _, _, _, _, _, _, _, _, _, _, _, _, _, rfl, rfl⟩
          · simp only [if_neg y0]
            by_cases y1 : y = 1
            · simp only [if_pos y1]
              rw [pk_sub k3]
              exact ⟨_, _, _, _, _, _, _, _, _, _, _, _, _, _, _, _, _, rfl, rfl⟩
            · simp only [if_neg y1]
              unfold p_X4_rounds p_X4_rounds_b0 p_X4_rounds_b23
              have eN : (nI N = 0) = (N = 0) := propext (nI_eq (b := 0) (by omega) (by decide))
              have eL : (2 ≤ nI lg) = (2 ≤ lg) := propext (nI_leI (a := 2) (by decide) (by omega))
              have eL2 : (nI lg = 2) = (lg = 2) := propext (nI_eq (b := 2) (by omega) (by decide))
              simp only [eN, eL, eL2, nIb0]
              by_cases n0 : N = 0
              · rw [if_neg (by have := k6 n0; omega), if_pos n0]
                exact ⟨_, _, _, _, _, _, _, _, _, _, _, _, _, _, _, _, _, rfl, rfl⟩
              · obtain ⟨l1, l2⟩ := k7 n0
                rw [if_pos l1, if_neg n0]
                by_cases q : lg = 2
                · rw [if_pos q, if_pos (l2.mp q)]
                  exact ⟨_, _, _, _, _, _, _, _, _, _, _, _, _, _, _, _, _, rfl, rfl⟩
                · rw [if_neg q, if_neg (fun z => q (l2.mpr z))]
                  exact ⟨_, _, _, _, _, _, _, _, _, _, _, _, _, _, _, _, _, rfl, rfl⟩
    · have hq : p_X7_refuseSitting (nI P) fd sz (nI s) 0 = some (-2, fd) := by
        unfold p_X7_refuseSitting p_X7_refuseSitting_b0
        rw [refS_bad0 e1, b2_some, if_neg (by decide)]
      have hb : y < 0 ∨ 2 < y := by
        rw [e3, if_neg (show ¬ (some (1 : Int32) = some 0) by decide)] at hy
        by_cases q : y < 0
        · exact Or.inl q
        · rw [if_neg q] at hy
          by_cases q2 : 2 < y
          · exact Or.inr q2
          · rw [if_neg q2] at hy; exact absurd hy (by decide)
      rw [e2]
      simp only [b1_some, e4, i10, i00, if_true, if_false, hq, b2_some, show ((-2 : Int32) = 0) = False from eq_false (by decide)]
      by_cases q : y < 0
      · rw [if_pos q]
        exact ⟨_, _, _, _, _, _, _, _, _, _, _, _, _, _, _, _, _, rfl, rfl⟩
      · rw [if_neg q, if_pos (hb.resolve_left q)]
        exact ⟨_, _, _, _, _, _, _, _, _, _, _, _, _, _, _, _, _, rfl, rfl⟩
  · have q : ∀ o, p_X7_refuseSitting (nI P) fd sz x o = some (-2, fd) := fun o => by
      unfold p_X7_refuseSitting p_X7_refuseSitting_b0
      rw [refS_bad e1, b2_some, if_neg (by decide)]
    rw [e2]
    simp only [b1_some, q, b2_some, i00, if_true, if_false, show ((-2 : Int32) = 0) = False from eq_false (by decide), ite_self]
    exact ⟨_, _, _, _, _, _, _, _, _, _, _, _, _, _, _, _, _, rfl, rfl⟩
