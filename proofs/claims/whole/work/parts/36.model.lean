/-! the model's smaller pieces -/
def bsN (srt : Nat → Nat) (c : Nat) : Nat → Nat
  | 0 => 0
  | n + 1 => bsN srt c n ||| (if srt n = c then 2 ^ n else 0)
theorem bsN_lt {srt : Nat → Nat} {c : Nat} : ∀ n, bsN srt c n < 2 ^ n
  | 0 => by show (0 : Nat) < 1; decide
  | n + 1 => by
    have h1 : bsN srt c n < 2 ^ (n + 1) := Nat.lt_of_lt_of_le (bsN_lt n) (Nat.pow_le_pow_right (by decide) (by omega))
    show bsN srt c n ||| _ < _
    by_cases h : srt n = c
    · rw [if_pos h]; exact Nat.or_lt_two_pow h1 (two_lt (by omega))
    · rw [if_neg h, Nat.or_zero]; exact h1
theorem ofSort_4 {S c : Nat} {srt : Nat → Nat} {ms : Nat → Int32} (hS : S < 9) (hm : ∀ i, i < S → ms i = nI (srt i) ∧ srt i < 3) (hc : c < 3) : ∀ (r i fuel : Nat), i + r = S → r < fuel → p_X8_ofSort_b4 fuel (nI S) ms (nI c) (nI (bsN srt c i)) (nI i) = some (nI (bsN srt c S)) := by
  intro r
  induction r with
  | zero =>
    intro i fuel hi hf
    obtain ⟨f, rfl⟩ : ∃ f, fuel = f + 1 := ⟨fuel - 1, by omega⟩
    have e : i = S := by omega
    subst e
    show p_X8_ofSort_b4x _ _ _ _ _ _ = _
    unfold p_X8_ofSort_b4x
    rw [if_pos (nI_le (Nat.le_refl _) (by omega))]
  | succ r ih =>
    intro i fuel hi hf
    obtain ⟨f, rfl⟩ : ∃ f, fuel = f + 1 := ⟨fuel - 1, by omega⟩
    obtain ⟨m1, m2⟩ := hm i (by omega)
    show p_X8_ofSort_b4x _ _ _ _ _ _ = _
    unfold p_X8_ofSort_b4x p_X8_ofSort_b30
    rw [if_neg (nI_ge (show i < S by omega) (by omega)), inB_nI (by omega) (by decide), gd_true, nI_clamp (by omega), m1]
    have e : (nI (srt i) = nI c) = (srt i = c) := propext (nI_eq (by omega) (by omega))
    simp only [e, nm_def, nI_1]
    rw [← ih (i + 1) f (by omega) (by omega)]
    by_cases h : srt i = c
    · rw [if_pos h, d_sh i (by omega), fa_or]
      show _ = p_X8_ofSort_b4 f (nI S) ms (nI c) (nI (bsN srt c i ||| (if srt i = c then 2 ^ i else 0))) (nI (i + 1))
      rw [if_pos h]
    · rw [if_neg h, L0, fa_or]
      show _ = p_X8_ofSort_b4 f (nI S) ms (nI c) (nI (bsN srt c i ||| (if srt i = c then 2 ^ i else 0))) (nI (i + 1))
      rw [if_neg h]
theorem v_ofSort {S c : Nat} {srt : Nat → Nat} {ms : Nat → Int32} (hS : S < 9) (hm : ∀ i, i < S → ms i = nI (srt i) ∧ srt i < 3) (hc : c < 3) : p_X8_ofSort (nI S) ms (nI c) = some (nI (bsN srt c S)) := ofSort_4 hS hm hc S 0 4096 (by omega) (by omega)
theorem noB_17 {a b c : Int32} : ∀ (r i fuel : Nat) (ks : Nat → Int32), i + r = 8 → r < fuel → (∀ p, p < i → ks p = -1) → ∃ ks', (∀ p, p < 8 → ks' p = -1) ∧ p_X8_noBounds_b17 fuel a b c ks (nI i) = some (a, b, c, ks') := by
  intro r
  induction r with
  | zero =>
    intro i fuel ks hi hf hk
    obtain ⟨f, rfl⟩ : ∃ f, fuel = f + 1 := ⟨fuel - 1, by omega⟩
    have e : i = 8 := by omega
    subst e
    exact ⟨ks, hk, rfl⟩
  | succ r ih =>
    intro i fuel ks hi hf hk
    obtain ⟨f, rfl⟩ : ∃ f, fuel = f + 1 := ⟨fuel - 1, by omega⟩
    obtain ⟨ks', h1, h2⟩ := ih (i + 1) f (upd ks i (-1)) (by omega) (by omega) (fun p hp => by
      rw [upd_at]
      by_cases e : p = i
      · rw [if_pos e]
      · rw [if_neg e]; exact hk p (by omega))
    refine ⟨ks', h1, ?_⟩
    rw [← h2]
    show p_X8_noBounds_b17x _ _ _ _ _ _ = _
    unfold p_X8_noBounds_b17x
    rw [if_neg (show ¬ (8 : Int32) ≤ nI i from nI_ge (b := 8) (by omega) (by decide)), inB_nI (by omega) (by decide), gd_true, nm_def, nm_def, nI_clamp (by omega), nI_1]
theorem v_noB {a b c : Int32} {ks : Nat → Int32} : ∃ ks', (∀ p, p < 8 → ks' p = -1) ∧ p_X8_noBounds a b c ks = some (-1, -1, 0, ks') := noB_17 8 0 4096 ks (by omega) (by omega) (fun p h => absurd h (by omega))
theorem beg_2 {al : Int64} : ∀ (r i fuel : Nat) (wy : Nat → Int64), i + r = 256 → r < fuel → (∀ x, x < i → wy x = lN (if x = 0 then 1 else 0)) → ∃ wy', (∀ x, x < 256 → wy' x = lN (if x = 0 then 1 else 0)) ∧ p_X8_begins_b2 fuel al wy (nI i) = some (lN 1, wy') := by
  intro r
  induction r with
  | zero =>
    intro i fuel wy hi hf hk
    obtain ⟨f, rfl⟩ : ∃ f, fuel = f + 1 := ⟨fuel - 1, by omega⟩
    have e : i = 256 := by omega
    subst e
    exact ⟨wy, hk, rfl⟩
  | succ r ih =>
    intro i fuel wy hi hf hk
    obtain ⟨f, rfl⟩ : ∃ f, fuel = f + 1 := ⟨fuel - 1, by omega⟩
    obtain ⟨wy', h1, h2⟩ := ih (i + 1) f (vp_updL wy i (lN (if i = 0 then 1 else 0))) (by omega) (by omega) (fun p hp => by
      rw [updL_at]
      by_cases e : p = i
      · rw [if_pos e, e]
      · rw [if_neg e]; exact hk p (by omega))
    refine ⟨wy', h1, ?_⟩
    rw [← h2]
    show p_X8_begins_b2x _ _ _ _ = _
    unfold p_X8_begins_b2x p_X8_begins_b23
    rw [if_neg (show ¬ (256 : Int32) ≤ nI i from nI_ge (b := 256) (by omega) (by decide)), inB_nI (by omega) (by decide)]
    have e : (nI i = 0) = (i = 0) := propext (nI_eq (b := 0) (by omega) (by decide))
    simp only [e, gd_true, nm_def, nI_1]
    rw [nI_clamp (by omega)]
    by_cases h : i = 0
    · rw [if_pos h, if_pos h]; rfl
    · rw [if_neg h, if_neg h]; rfl
theorem v_beg {al : Int64} {wy : Nat → Int64} : ∃ wy', (∀ x, x < 256 → wy' x = lN (if x = 0 then 1 else 0)) ∧ p_X8_begins al wy = some (lN 1, wy') := beg_2 256 0 4096 wy (by omega) (by omega) (fun p h => absurd h (by omega))
theorem nI_m1 {p : Nat} (hp : p < 2 ^ 31) : ¬ nI p = -1 := fun h => by
  have h1 := nI_pos (n := p) hp
  rw [h] at h1
  exact h1 (by decide)
theorem v_kindNow {mk : Nat → Int32} {p : Nat} (hp : p < 8) : p_X8_kindNow (-1) mk (nI p) = some (mk p) := by
  unfold p_X8_kindNow p_X8_kindNow_b0 p_X8_kindNow_b18
  rw [if_neg (nI_m1 (by omega)), inB_nI (by omega) (by decide), gd_true, nI_clamp (by omega)]
theorem v_mayBe {oh : Int32} {ks : Nat → Int32} {p s : Nat} (hp : p < 8) (hs : s < 8) (hk : ks p = -1) : p_X8_mayBe (-1) oh 0 ks (nI p) (nI s) = some (nI (true : Bool).toNat) := by
  unfold p_X8_mayBe p_X8_mayBe_b0 p_X8_mayBe_b31 p_X8_mayBe_b47 p_X8_mayBe_b52
  rw [L0, d_isIn 0 (by decide) s (by omega), b1_some, Nat.zero_testBit]
  rw [if_pos (show nI (false : Bool).toNat = nI 0 from rfl), inB_nI (by omega) (by decide), gd_true, nI_clamp (by omega), hk, if_pos rfl, if_neg (fun h => nI_m1 (p := p) (by omega) h.symm)]
  rfl
/-- what the model's rows hold: seats, people -/
def MC (S P : Nat) (srt own knd : Nat → Nat) (ms mo mk : Nat → Int32) : Prop := S < 9 ∧ P ≤ S ∧ (∀ i, i < S → ms i = nI (srt i) ∧ srt i < 3) ∧ ∀ p, p < P → mo p = nI (own p) ∧ own p < S ∧ mk p = nI (knd p) ∧ knd p < 4
/-- the k-th who comes has the seat ow k, and is of the kind kd k -/
def cCh (S : Nat) (srt ow kd : Nat → Nat) (k u : Nat) : Nat := chN S (fun c => bsN srt c S) (ow k) (srt (ow k)) (kd k) u
theorem cCh_ok {S P : Nat} {srt ow kd : Nat → Nat} (hS : S < 9) (hP : P ≤ S) (ho : ∀ k, k < P → ow k < S) : okCh S P (cCh S srt ow kd) := fun k u hk hu hp => by
  have h1 := chN_sub (B := fun c => bsN srt c S) (c := srt (ow k)) (k := kd k) hS (ho k hk) hu (by omega)
  have h2 := chN_pc (B := fun c => bsN srt c S) (c := srt (ow k)) (k := kd k) hS (ho k hk) hu (by omega)
  rw [hp] at h2
  exact ⟨h1.1, h1.2.1, h2⟩
theorem Aw_le : ∀ S, S < 9 → ∀ k, k < 9 → k ≤ S → Aw S k ≤ 182891520000 := by decide +kernel
theorem v_chM' {S P : Nat} {srt own knd : Nat → Nat} {ms mo mk : Nat → Int32} (hM : MC S P srt own knd ms mo mk) {p k u : Nat} (hp : p < P) (hk : k < 4) (hu : u < 2 ^ S) (hpu : pc u < S) :
    p_X8_choices (nI S) ms mo (nI p) (nI k) (nI u) = some (nI (chN S (fun c => bsN srt c S) (own p) (srt (own p)) k u)) := by
  obtain ⟨hS, hP, h1, h2⟩ := hM
  obtain ⟨o1, o2, -, -⟩ := h2 p hp
  obtain ⟨s1, s2⟩ := h1 (own p) o2
  exact v_chM hS (by omega) o2 hk hu hpu s1 o1 (v_ofSort hS h1 s2)
/-- those who come, in a told order: ow, kd of the k-th; nothing barred -/
theorem mc_sits {S P : Nat} {srt own knd : Nat → Nat} {ms mo mk : Nat → Int32} (hM : MC S P srt own knd ms mo mk) {od : Nat → Nat} (hod : ∀ k, k < P → od k < P) {k : Nat} (hk : k < P) {oh : Int32} {al : Int64} {ks : Nat → Int32} {wy nx : Nat → Int64} (hks : ∀ p, p < 8 → ks p = -1)
    (hw : ∀ x, x < 2 ^ S → wy x = lN (dp (2 ^ S) S (cCh S srt (fun k => own (od k)) (fun k => knd (od k))) (fun _ _ => true) (fun _ => orT) k x)) :
    ∃ wy' nx', (∀ x, x < 2 ^ S → wy' x = lN (dp (2 ^ S) S (cCh S srt (fun k => own (od k)) (fun k => knd (od k))) (fun _ _ => true) (fun _ => orT) (k + 1) x)) ∧ p_X8_sits (nI S) (-1) (-1) oh 0 al ms mo mk ks wy nx (nI (od k)) (nI k) = some (al * lN (lc (S - k)), wy', nx') := by
  obtain ⟨hS, hP, h1, h2⟩ := id hM
  have hk' := hod k hk
  obtain ⟨o1, o2, o3, o4⟩ := h2 (od k) hk'
  have hoc : okCh S P (cCh S srt (fun k => own (od k)) (fun k => knd (od k))) := cCh_ok hS hP (fun k hk => (h2 (od k) (hod k hk)).2.1)
  have hl := (d_lcdvd (S - k) (by omega) 1 (by omega) ⟨by omega, by omega⟩).2
  obtain ⟨w', n', e1, e2⟩ := v_sits (lo := -1) (ow := -1) (oh := oh) (kf := 0) (al := al) (ms := ms) (mo := mo) (mk := mk) (ks := ks) (wy := wy) (p := od k) (pt := lc (S - k)) (D := dp (2 ^ S) S (cCh S srt (fun k => own (od k)) (fun k => knd (od k))) (fun _ _ => true) (fun _ => orT) k) (c := cCh S srt (fun k => own (od k)) (fun k => knd (od k)) k) (okb := fun _ => true) (k := k) (nx := nx) hS
    (fun u hu => ⟨hw u hu, by
      have := dp_bd (ok := fun _ _ => true) hS hP hoc (show k ≤ P by omega) u
      have := Aw_le S hS k (by omega) (by omega)
      omega⟩) hl (fun u hu hD => by
      obtain ⟨-, hpu⟩ := dp_sup hS hP hoc k (by omega) u hD
      obtain ⟨c1, -, c3, c4⟩ := hoc k u hk hu hpu
      exact ⟨⟨nI (knd (od k)), by rw [v_kindNow (by omega), o3], v_chM' hM hk' o4 hu (by omega)⟩, c1, c3, by omega⟩) (fun s hs => v_mayBe (by omega) (by omega) (hks _ (by omega))) (by omega) rfl
  exact ⟨w', n', e1, e2⟩
theorem first_10 {S P : Nat} {srt own knd : Nat → Nat} {ms mo mk : Nat → Int32} (hM : MC S P srt own knd ms mo mk) {oh : Int32} {ks : Nat → Int32} (hks : ∀ p, p < 8 → ks p = -1) {n : Nat} (hn : n ≤ P) : ∀ (r i fuel : Nat) (wy nx : Nat → Int64), i + r = n → r < fuel → (∀ x, x < 2 ^ S → wy x = lN (dp (2 ^ S) S (cCh S srt own knd) (fun _ _ => true) (fun _ => orT) i x)) →
    ∃ wy' nx', (∀ x, x < 2 ^ S → wy' x = lN (dp (2 ^ S) S (cCh S srt own knd) (fun _ _ => true) (fun _ => orT) n x)) ∧ p_X8_firstSit_b10 fuel (nI S) (-1) (-1) oh 0 (lN (Aw S i)) ms mo mk ks wy nx (nI n) (nI i) = some (-1, -1, 0, lN (Aw S n), ks, wy', nx') := by
  have hS := hM.1
  have hP := hM.2.1
  intro r
  induction r with
  | zero =>
    intro i fuel wy nx hi hf hw
    obtain ⟨f, rfl⟩ : ∃ f, fuel = f + 1 := ⟨fuel - 1, by omega⟩
    have e : i = n := by omega
    subst e
    refine ⟨wy, nx, hw, ?_⟩
    show p_X8_firstSit_b10x _ _ _ _ _ _ _ _ _ _ _ _ _ _ _ = _
    unfold p_X8_firstSit_b10x
    rw [if_pos (nI_le (Nat.le_refl _) (by omega))]
  | succ r ih =>
    intro i fuel wy nx hi hf hw
    obtain ⟨f, rfl⟩ : ∃ f, fuel = f + 1 := ⟨fuel - 1, by omega⟩
    obtain ⟨w1, n1, e1, e2⟩ := mc_sits hM (od := fun k => k) (fun k h => h) (show i < P by omega) (oh := oh) (al := lN (Aw S i)) (nx := nx) hks hw
    obtain ⟨w2, n2, e3, e4⟩ := ih (i + 1) f w1 n1 (by omega) (by omega) e1
    refine ⟨w2, n2, e3, ?_⟩
    rw [← e4]
    show p_X8_firstSit_b10x _ _ _ _ _ _ _ _ _ _ _ _ _ _ _ = _
    unfold p_X8_firstSit_b10x
    rw [if_neg (nI_ge (show i < n by omega) (by omega)), e2, b3_some, nm_def, nI_1, lN_mul]
    rfl
theorem v_first {S P : Nat} {srt own knd : Nat → Nat} {ms mo mk : Nat → Int32} (hM : MC S P srt own knd ms mo mk) {n : Nat} (hn : n ≤ P) {lo ow oh kf : Int32} {al : Int64} {ks : Nat → Int32} {wy nx : Nat → Int64} :
    ∃ ks' wy' nx', (∀ p, p < 8 → ks' p = -1) ∧ (∀ x, x < 2 ^ S → wy' x = lN (dp (2 ^ S) S (cCh S srt own knd) (fun _ _ => true) (fun _ => orT) n x)) ∧ p_X8_firstSit (nI S) lo ow oh kf al ms mo mk ks wy nx (nI n) = some (-1, -1, 0, lN (Aw S n), ks', wy', nx') := by
  obtain ⟨ks', k1, k2⟩ := v_noB (a := lo) (b := ow) (c := kf) (ks := ks)
  obtain ⟨w0, b1, b2⟩ := v_beg (al := al) (wy := wy)
  have hS := hM.1
  have hP := hM.2.1
  obtain ⟨w', n', e1, e2⟩ := first_10 hM (oh := oh) k1 hn n 0 4096 w0 nx (by omega) (by omega) (fun x hx => b1 x (Nat.lt_of_lt_of_le hx (d_pw S hS)))
  refine ⟨ks', w', n', k1, e1, ?_⟩
  unfold p_X8_firstSit p_X8_firstSit_b0
  rw [k2, b4_some, b2, b2_some]
  exact e2
/-- of the ways so far those by which one sits on a seat next -/
def nxS (S : Nat) (c : Nat → Nat) (pt : Nat) (D : Nat → Nat) (st n : Nat) : Nat := fb_sm (fun u => if (c u).testBit st = true then D u * (pt / pc (c u)) else 0) n
theorem next_17 {S p pt st : Nat} {lo : Int32} {ms mo mk : Nat → Int32} {wy : Nat → Int64} {D c : Nat → Nat} (hS : S < 9) (hst : st < S) (hD : ∀ u, u < 2 ^ S → wy u = lN (D u) ∧ D u < 2 ^ 40) (hpt : 0 < pt ∧ pt ≤ 840) (hch : ∀ u, u < 2 ^ S → D u ≠ 0 → (∃ kn, p_X8_kindNow lo mk (nI p) = some kn ∧ p_X8_choices (nI S) ms mo (nI p) kn (nI u) = some (nI (c u))) ∧ c u < 2 ^ S ∧ 1 ≤ pc (c u) ∧ pc (c u) ≤ 8) : ∀ (r i fuel : Nat), i + r = 2 ^ S → r < fuel →
    p_X8_nextOn_b17 fuel (nI S) lo ms mo mk wy (nI p) (nI st) (lN pt) (lN (nxS S c pt D st i)) (nI i) = some (lN (nxS S c pt D st (2 ^ S))) := by
  have hw := d_pw S hS
  intro r
  induction r with
  | zero =>
    intro i fuel hi hf
    obtain ⟨f, rfl⟩ : ∃ f, fuel = f + 1 := ⟨fuel - 1, by omega⟩
    have e : i = 2 ^ S := by omega
    show p_X8_nextOn_b17x _ _ _ _ _ _ _ _ _ _ _ _ = _
    unfold p_X8_nextOn_b17x
    rw [d_whole S hS, b1_some]
    simp only [nI_ltw hS (show i ≤ 256 by omega)]
    rw [if_pos (by omega), e]
  | succ r ih =>
    intro i fuel hi hf
    obtain ⟨f, rfl⟩ : ∃ f, fuel = f + 1 := ⟨fuel - 1, by omega⟩
    have hiS : i < 2 ^ S := by omega
    obtain ⟨hwi, hDi⟩ := hD i hiS
    have fin : ∀ v, v = (if (c i).testBit st = true then D i * (pt / pc (c i)) else 0) → p_X8_nextOn_b17 f (nI S) lo ms mo mk wy (nI p) (nI st) (lN pt) (lN (nxS S c pt D st i) + lN v) (nI (i + 1)) = some (lN (nxS S c pt D st (2 ^ S))) := fun v hv => by
      rw [← ih (i + 1) f (by omega) (by omega), lN_add, hv]
      rfl
    show p_X8_nextOn_b17x _ _ _ _ _ _ _ _ _ _ _ _ = _
    unfold p_X8_nextOn_b17x p_X8_nextOn_b84 p_X8_nextOn_b87
    rw [d_whole S hS, b1_some]
    simp only [nI_ltw hS (show i ≤ 256 by omega)]
    rw [if_neg (by omega), inB_nI (by omega) (by decide), gd_true, nI_clamp (by omega), hwi]
    simp only [lgc0 (show D i < 2 ^ 63 by omega), nm_def, nI_1, gd_true]
    by_cases h0 : D i = 0
    · have h9 := fin 0 (by rw [h0, Nat.zero_mul]; simp)
      rw [lN_add, Nat.add_zero] at h9
      rw [if_pos h0]
      exact h9
    · rw [if_neg h0]
      obtain ⟨⟨kn, e1, e2⟩, hc, hc1, hc8⟩ := hch i hiS h0
      rw [e1, b1_some, e2, b1_some, d_isIn _ (Nat.lt_of_lt_of_le hc hw) st (by omega), b1_some]
      simp only [nIb0]
      by_cases hb : (c i).testBit st = false
      · rw [if_pos hb]
        exact fin 0 (by rw [hb]; rfl)
      · have hb' : (c i).testBit st = true := by simpa using hb
        rw [if_neg hb, d_ones _ (Nat.lt_of_lt_of_le hc hw), b1_some, nI_l (by omega), lne0 (by omega) (by omega), gd_true, pk_lDiv (by omega) (by omega) (by omega), lN_mul]
        exact fin _ (by rw [if_pos hb'])
theorem mc_next {S P : Nat} {srt own knd : Nat → Nat} {ms mo mk : Nat → Int32} (hM : MC S P srt own knd ms mo mk) {od : Nat → Nat} (hod : ∀ k, k < P → od k < P) {k st : Nat} (hk : k < P) (hst : st < S) {wy : Nat → Int64}
    (hw : ∀ x, x < 2 ^ S → wy x = lN (dp (2 ^ S) S (cCh S srt (fun k => own (od k)) (fun k => knd (od k))) (fun _ _ => true) (fun _ => orT) k x)) :
    p_X8_nextOn (nI S) (-1) ms mo mk wy (nI (od k)) (nI st) (nI k) = some (lN (nxS S (cCh S srt (fun k => own (od k)) (fun k => knd (od k)) k) (lc (S - k)) (dp (2 ^ S) S (cCh S srt (fun k => own (od k)) (fun k => knd (od k))) (fun _ _ => true) (fun _ => orT) k) st (2 ^ S))) := by
  obtain ⟨hS, hP, h1, h2⟩ := id hM
  have hk' := hod k hk
  obtain ⟨o1, o2, o3, o4⟩ := h2 (od k) hk'
  have hoc : okCh S P (cCh S srt (fun k => own (od k)) (fun k => knd (od k))) := cCh_ok hS hP (fun k hk => (h2 (od k) (hod k hk)).2.1)
  have hl := (d_lcdvd (S - k) (by omega) 1 (by omega) ⟨by omega, by omega⟩).2
  unfold p_X8_nextOn p_X8_nextOn_b0
  rw [pk_sub (by omega), d_parts _ (by omega), b1_some]
  exact next_17 hS hst (fun u hu => ⟨hw u hu, by
      have := dp_bd (ok := fun _ _ => true) hS hP hoc (show k ≤ P by omega) u
      have := Aw_le S hS k (by omega) (by omega)
      omega⟩) hl (fun u hu hD => by
      obtain ⟨-, hpu⟩ := dp_sup hS hP hoc k (by omega) u hD
      obtain ⟨c1, -, c3, c4⟩ := hoc k u hk hu hpu
      exact ⟨⟨nI (knd (od k)), by rw [v_kindNow (by omega), o3], v_chM' hM hk' o4 hu (by omega)⟩, c1, c3, by omega⟩) (2 ^ S) 0 4096 (by omega) (by have := d_pw S hS; omega)
