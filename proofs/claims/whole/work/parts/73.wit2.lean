/-! what was seen: the class's sets, the model's bounds -/
theorem d_fb : ∀ a, a < 256 → ∀ t, t < 8 → nI a &&& (nI (2 ^ t) ^^^ (-1)) = nI (a &&& (255 ^^^ 2 ^ t)) := by decide +kernel
theorem d_fbb : ∀ t, t < 8 → ∀ s, s < 8 → (255 ^^^ 2 ^ t).testBit s = !decide (t = s) := by decide +kernel
theorem forb_2 {t : Nat} (ht : t < 8) {a0 : Nat → Nat} (ha : ∀ p, p < 8 → a0 p < 256) : ∀ (r i fuel : Nat) (wa : Nat → Int32), i + r = 8 → r < fuel → (∀ p, p < 8 → wa p = nI (if p < i then a0 p &&& (255 ^^^ 2 ^ t) else a0 p)) →
    ∃ wa', (∀ p, p < 8 → wa' p = nI (a0 p &&& (255 ^^^ 2 ^ t))) ∧ p_X6_forbid_b2 fuel wa (nI t) (nI i) = some wa' := by
  intro r
  induction r with
  | zero =>
    intro i fuel wa hi hf hw
    obtain ⟨f, rfl⟩ : ∃ f, fuel = f + 1 := ⟨fuel - 1, by omega⟩
    have e : i = 8 := by omega
    subst e
    exact ⟨wa, fun p hp => by rw [hw p hp, if_pos hp], rfl⟩
  | succ r ih =>
    intro i fuel wa hi hf hw
    obtain ⟨f, rfl⟩ : ∃ f, fuel = f + 1 := ⟨fuel - 1, by omega⟩
    obtain ⟨wa', h1, h2⟩ := ih (i + 1) f (upd wa i (wa i &&& (nI (2 ^ t) ^^^ (-1)))) (by omega) (by omega) (fun p hp => by
      rw [upd_at]
      by_cases q : p = i
      · subst q
        rw [if_pos rfl, hw p hp, if_neg (by omega), if_pos (by omega), d_fb _ (ha p hp) t ht]
      · rw [if_neg q, hw p hp]
        by_cases z : p < i
        · rw [if_pos z, if_pos (by omega)]
        · rw [if_neg z, if_neg (by omega)])
    refine ⟨wa', h1, ?_⟩
    rw [← h2]
    show p_X6_forbid_b2x _ _ _ _ = _
    unfold p_X6_forbid_b2x
    rw [if_neg (show ¬ (8 : Int32) ≤ nI i from nI_ge (b := 8) (by omega) (by decide)), inB_nI (show i < 8 by omega) (by decide)]
    simp only [gd_true, nm_def, nI_clamp (show i < 2 ^ 31 by omega), nI_1, d_sh t (by omega)]
theorem nar_16 {S P n : Nat} (hS : S < 9) (hP : P ≤ S) (hn : n ≤ 8) {sw sl : Nat → Int32} (hsg : ∀ i, i < n → (∃ q : Nat, q < 8 ∧ sl i = nI q) ∧ (sw i = -1 ∨ ∃ p : Nat, p < 8 ∧ sw i = nI p)) {wp wl : Nat → Int32} (hpp : ∀ i, i < n → wp i = sw i ∧ wl i = sl i) : ∀ (r i fuel : Nat) (wa : Nat → Int32), i + r = n → r < fuel → (∀ p, p < 8 → wa p = nI (alS S P sw sl i p)) →
    ∃ wa', (∀ p, p < 8 → wa' p = nI (alS S P sw sl n p)) ∧ p_X6_narrow_b16 fuel (nI S) (nI P) (nI n) wp wl wa (nI i) = some wa' := by
  have hpw := d_pw S hS
  have hlt : ∀ i p, alS S P sw sl i p < 256 := fun i p => Nat.lt_of_lt_of_le (alS_lt i) hpw
  intro r
  induction r with
  | zero =>
    intro i fuel wa hi hf hw
    obtain ⟨f, rfl⟩ : ∃ f, fuel = f + 1 := ⟨fuel - 1, by omega⟩
    have e : i = n := by omega
    subst e
    refine ⟨wa, hw, ?_⟩
    show p_X6_narrow_b16x _ _ _ _ _ _ _ _ = _
    unfold p_X6_narrow_b16x
    rw [if_pos (nI_le (Nat.le_refl _) (by omega))]
  | succ r ih =>
    intro i fuel wa hi hf hw
    obtain ⟨f, rfl⟩ : ∃ f, fuel = f + 1 := ⟨fuel - 1, by omega⟩
    obtain ⟨⟨t, ht, et⟩, hwho⟩ := hsg i (by omega)
    obtain ⟨p1, p2⟩ := hpp i (by omega)
    have fin : ∀ wa1, (∀ p, p < 8 → wa1 p = nI (alS S P sw sl (i + 1) p)) → ∃ wa', (∀ p, p < 8 → wa' p = nI (alS S P sw sl n p)) ∧ p_X6_narrow_b112 (p_X6_narrow_b16 f) (nI S) (nI P) (nI n) wp wl wa1 (nI i) = some wa' := fun wa1 h1 => by
      obtain ⟨wa', h2, h3⟩ := ih (i + 1) f wa1 (by omega) (by omega) h1
      refine ⟨wa', h2, ?_⟩
      unfold p_X6_narrow_b112
      rw [nm_def, nI_1]
      exact h3
    show ∃ wa', _ ∧ p_X6_narrow_b16x _ _ _ _ _ _ _ _ = _
    unfold p_X6_narrow_b16x p_X6_narrow_b56
    rw [if_neg (nI_ge (show i < n by omega) (by omega)), inB_nI (show i < 8 by omega) (by decide)]
    simp only [gd_true, nI_clamp (show i < 2 ^ 31 by omega), p1, p2, nm_def]
    by_cases q1 : nI P ≤ sw i
    · rw [if_pos q1]
      exact fin _ (fun p hp => by
        rw [alS_succ, if_pos (Or.inl q1)]
        show (if p < 8 then (0 : Int32) else _) = _
        rw [if_pos hp]; rfl)
    · rw [if_neg q1]
      by_cases q2 : sl i < nI S
      · have hor : ¬ (nI P ≤ sw i ∨ ¬ sl i < nI S) := fun z => by rcases z with z | z; exact q1 z; exact z q2
        rw [if_pos q2]
        by_cases q3 : sw i = -1
        · rw [if_pos q3, et]
          obtain ⟨wa', h1, h2⟩ := forb_2 ht (a0 := alS S P sw sl i) (fun p _ => hlt i p) 8 0 4096 wa (by omega) (by omega) (fun p hp => by rw [if_neg (by omega)]; exact hw p hp)
          rw [show p_X6_forbid wa (nI t) = some wa' from h2, b1_some]
          exact fin _ (fun p hp => by rw [alS_succ, if_neg hor, if_pos q3, et, nI_clamp (by omega)]; exact h1 p hp)
        · obtain ⟨p0, hp0, e0⟩ := hwho.resolve_left q3
          rw [if_neg q3, e0, et, inB_nI hp0 (by decide), gd_true, gd_true, nI_clamp (by omega), d_sh t (by omega), hw p0 hp0, fa_and]
          exact fin _ (fun p hp => by
            rw [alS_succ, if_neg hor, if_neg q3, e0, et, nI_clamp (by omega), upd_at]
            by_cases z : p = p0
            · rw [if_pos z, if_pos (by rw [z]), z]
            · rw [if_neg z, if_neg (fun w => z (nI_inj w (by omega) (by omega)).symm)]; exact hw p hp)
      · rw [if_neg q2]
        exact fin _ (fun p hp => by
          rw [alS_succ, if_pos (Or.inr q2)]
          show (if p < 8 then (0 : Int32) else _) = _
          rw [if_pos hp]; rfl)
theorem v_narrow {S P n : Nat} (hS : S < 9) (hP : P ≤ S) (hn : n ≤ 8) {sw sl : Nat → Int32} (hsg : ∀ i, i < n → (∃ q : Nat, q < 8 ∧ sl i = nI q) ∧ (sw i = -1 ∨ ∃ p : Nat, p < 8 ∧ sw i = nI p)) {wp wl : Nat → Int32} (hpp : ∀ i, i < n → wp i = sw i ∧ wl i = sl i) (wa : Nat → Int32) : ∃ wa', (∀ p, p < 8 → wa' p = nI (alS S P sw sl n p)) ∧ p_X6_narrow (nI S) (nI P) (nI n) wp wl wa = some wa' := by
  unfold p_X6_narrow p_X6_narrow_b0
  rw [d_all S hS, b1_some, nm_def]
  exact nar_16 hS hP hn hsg hpp n 0 4096 _ (by omega) (by omega) (fun p hp => by
    show (if p < 8 then nI (2 ^ S - 1) else _) = _
    rw [if_pos hp]; rfl)
/-- the model's bounds, as far as laid -/
def MB (S P : Nat) (sw sl : Nat → Int32) (i kf : Nat) (ks : Nat → Int32) : Prop := kf < 256 ∧ (∀ p, p < 8 → ks p = -1 ∨ ∃ t, t < S ∧ ks p = nI t) ∧ ∀ p, p < 8 → ∀ s, s < S → (alS S P sw sl i p).testBit s = (!kf.testBit s && (decide (ks p = -1) || decide (ks p = nI s)))
theorem lay_6 {S P n : Nat} (hS : S < 9) (hP : P ≤ S) (hn : n ≤ 8) {sw sl : Nat → Int32} (hsg : ∀ i, i < n → (∃ q : Nat, q < 8 ∧ sl i = nI q) ∧ (sw i = -1 ∨ ∃ p : Nat, p < 8 ∧ sw i = nI p)) (hP0 : 0 < P) {lo ow : Int32} : ∀ (r i fuel kf : Nat) (ks : Nat → Int32), i + r = n → r < fuel → MB S P sw sl i kf ks →
    (∃ (kf' : Nat) (ks' : Nat → Int32), MB S P sw sl n kf' ks' ∧ p_X8_laysBounds_b6 fuel (nI S) (nI P) lo ow (nI kf) (nI n) ks sw sl (nI i) = some (1, lo, ow, nI kf', ks')) ∨ (∃ (kf' : Int32) (ks' : Nat → Int32) (p : Nat), p < P ∧ alS S P sw sl n p = 0 ∧ p_X8_laysBounds_b6 fuel (nI S) (nI P) lo ow (nI kf) (nI n) ks sw sl (nI i) = some (0, lo, ow, kf', ks')) := by
  have hpw := d_pw S hS
  intro r
  induction r with
  | zero =>
    intro i fuel kf ks hi hf hM
    obtain ⟨f, rfl⟩ : ∃ f, fuel = f + 1 := ⟨fuel - 1, by omega⟩
    have e : i = n := by omega
    subst e
    left
    refine ⟨kf, ks, hM, ?_⟩
    show p_X8_laysBounds_b6x _ _ _ _ _ _ _ _ _ _ _ = _
    unfold p_X8_laysBounds_b6x
    rw [if_pos (nI_le (Nat.le_refl _) (by omega))]
  | succ r ih =>
    intro i fuel kf ks hi hf hM
    obtain ⟨f, rfl⟩ : ∃ f, fuel = f + 1 := ⟨fuel - 1, by omega⟩
    obtain ⟨⟨t, ht, et⟩, hwho⟩ := hsg i (by omega)
    obtain ⟨hk1, hk2, hk3⟩ := id hM
    have dead : ∀ p, p < P → alS S P sw sl (i + 1) p = 0 → ∃ p, p < P ∧ alS S P sw sl n p = 0 := fun p hp hz => by
      have := alS_z hz (n - (i + 1))
      rw [show i + 1 + (n - (i + 1)) = n by omega] at this
      exact ⟨p, hp, this⟩
    show (∃ (kf' : Nat) (ks' : Nat → Int32), _ ∧ p_X8_laysBounds_b6x _ _ _ _ _ _ _ _ _ _ _ = _) ∨ (∃ (kf' : Int32) (ks' : Nat → Int32) (p : Nat), _ ∧ _ ∧ p_X8_laysBounds_b6x _ _ _ _ _ _ _ _ _ _ _ = _)
    unfold p_X8_laysBounds_b6x p_X8_laysBounds_b44 p_X8_laysBounds_b88 p_X8_laysBounds_b95 p_X8_isSeatNow p_X8_isSeatNow_b0
    rw [if_neg (nI_ge (show i < n by omega) (by omega)), inB_nI (show i < 8 by omega) (by decide)]
    simp only [gd_true, nI_clamp (show i < 2 ^ 31 by omega), nm_def, et, nI_1]
    rcases v_rng (N := S) (by omega) (nI t) with ⟨k, k1, k2, k3, -, k5⟩ | ⟨k1, k2⟩
    · have htS : t < S := by have := nI_inj k2 (by omega) (by omega); omega
      rw [k3, b1_some, z1, gd_true, b1_some, if_neg (show ¬ (1 : Int32) = 0 by decide)]
      by_cases q1 : sw i < nI P
      · have hor : ¬ (nI P ≤ sw i ∨ ¬ sl i < nI S) := fun z => by
          rcases z with z | z
          · have a := Int32.lt_iff_toInt_lt.mp q1
            have b := Int32.le_iff_toInt_le.mp z
            omega
          · exact z (by rw [et]; exact k5)
        rw [if_pos q1]
        by_cases q3 : sw i = -1
        · rw [if_pos q3, d_sh t (by omega), fa_or]
          refine ih (i + 1) f _ _ (by omega) (by omega) ⟨?_, hk2, fun p hp s hs => ?_⟩
          · exact Nat.or_lt_two_pow (n := 8) hk1 (two_lt ht)
          · rw [alS_succ, if_neg hor, if_pos q3, et, nI_clamp (by omega), Nat.testBit_and, hk3 p hp s hs, d_fbb t ht s (by omega), tb_or]
            cases kf.testBit s <;> cases decide (t = s) <;> simp
        · obtain ⟨p0, hp0, e0⟩ := hwho.resolve_left q3
          have hp0P : p0 < P := by rw [e0] at q1; exact (nI_ltI (by omega) (by omega)).mp q1
          rw [if_neg q3, e0, inB_nI hp0 (by decide), gd_true, gd_true, gd_true, nI_clamp (by omega)]
          have good : (ks p0 = -1 ∨ ks p0 = nI t) → MB S P sw sl (i + 1) kf (upd ks p0 (nI t)) := fun hk => by
            refine ⟨hk1, fun p hp => ?_, fun p hp s hs => ?_⟩
            · rw [upd_at]
              by_cases z : p = p0
              · rw [if_pos z]; exact Or.inr ⟨t, htS, rfl⟩
              · rw [if_neg z]; exact hk2 p hp
            · rw [alS_succ, if_neg hor, if_neg q3, e0, et, nI_clamp (by omega), upd_at]
              by_cases z : p = p0
              · subst z
                rw [if_pos rfl, if_pos rfl, Nat.testBit_and, hk3 p hp s hs, Nat.testBit_two_pow]
                have e1 : decide (nI t = -1) = false := decide_eq_false (nI_m1 (by omega))
                have e2 : decide (nI t = nI s) = decide (t = s) := by
                  by_cases w : t = s
                  · rw [decide_eq_true w, w, decide_eq_true rfl]
                  · rw [decide_eq_false w, decide_eq_false (fun z => w (nI_inj z (by omega) (by omega)))]
                rw [e1, e2]
                by_cases w : t = s
                · subst w
                  rcases hk with hk | hk
                  · rw [decide_eq_true hk]; simp
                  · rw [decide_eq_true hk]; simp
                · rw [decide_eq_false w]; simp
              · rw [if_neg (fun w => z (nI_inj w (by omega) (by omega)).symm), if_neg z]; exact hk3 p hp s hs
          by_cases q4 : ks p0 = -1
          · rw [if_pos q4]
            exact ih (i + 1) f _ _ (by omega) (by omega) (good (Or.inl q4))
          · rw [if_neg q4]
            by_cases q5 : ks p0 = nI t
            · rw [if_pos q5]
              exact ih (i + 1) f _ _ (by omega) (by omega) (good (Or.inr q5))
            · rw [if_neg q5]
              right
              obtain ⟨p, hp, hz⟩ := dead p0 hp0P (by
                rw [alS_succ, if_neg hor, if_neg q3, if_pos e0, et, nI_clamp (by omega)]
                apply Nat.eq_of_testBit_eq
                intro s
                rw [Nat.testBit_and, Nat.testBit_two_pow, Nat.zero_testBit]
                by_cases w : t = s
                · subst w
                  rw [hk3 p0 hp0 t htS, decide_eq_false q4, decide_eq_false q5]; simp
                · rw [decide_eq_false w, Bool.and_false])
              exact ⟨_, _, p, hp, hz, rfl⟩
      · rw [if_neg q1]
        right
        obtain ⟨p, hp, hz⟩ := dead 0 hP0 (by
          rw [alS_succ, if_pos (Or.inl _)]
          have a : ¬ (sw i).toInt < (nI P).toInt := fun z => q1 (Int32.lt_iff_toInt_lt.mpr z)
          exact Int32.le_iff_toInt_le.mpr (by omega))
        exact ⟨_, _, p, hp, hz, rfl⟩
    · rw [k1, b1_some, z0, gd_true, b1_some, if_pos (show (0 : Int32) = 0 from rfl)]
      right
      obtain ⟨p, hp, hz⟩ := dead 0 hP0 (by
        rw [alS_succ, if_pos (Or.inr _)]
        rw [et]
        exact k2.resolve_left (nI_pos (by omega)))
      exact ⟨_, _, p, hp, hz, rfl⟩
theorem d_all1 : ∀ S, S < 9 → ∀ s, s < S → (2 ^ S - 1).testBit s = true := by decide +kernel
theorem v_lays {S P n : Nat} (hS : S < 9) (hP : P ≤ S) (hn : n ≤ 8) {sw sl : Nat → Int32} (hsg : ∀ i, i < n → (∃ q : Nat, q < 8 ∧ sl i = nI q) ∧ (sw i = -1 ∨ ∃ p : Nat, p < 8 ∧ sw i = nI p)) (hP0 : 0 < P) (lo ow kf : Int32) (ks : Nat → Int32) :
    (∃ (kf' : Nat) (ks' : Nat → Int32), MB S P sw sl n kf' ks' ∧ p_X8_laysBounds (nI S) (nI P) lo ow kf (nI n) ks sw sl = some (1, -1, -1, nI kf', ks')) ∨ (∃ (kf' : Int32) (ks' : Nat → Int32) (p : Nat), p < P ∧ alS S P sw sl n p = 0 ∧ p_X8_laysBounds (nI S) (nI P) lo ow kf (nI n) ks sw sl = some (0, -1, -1, kf', ks')) := by
  obtain ⟨ks0, k1, k2⟩ := v_noB (a := lo) (b := ow) (c := kf) (ks := ks)
  unfold p_X8_laysBounds p_X8_laysBounds_b0
  rw [k2, b4_some]
  exact lay_6 hS hP hn hsg hP0 (lo := -1) (ow := -1) n 0 4096 0 ks0 (by omega) (by omega) ⟨by decide, fun p hp => Or.inl (k1 p hp), fun p hp s hs => by
    rw [show alS S P sw sl 0 p = 2 ^ S - 1 from rfl, d_all1 S hS s hs, Nat.zero_testBit, decide_eq_true (k1 p hp)]; rfl⟩
theorem v_mayB {S kf p s : Nat} {ow oh : Int32} {ks : Nat → Int32} (hkf : kf < 256) (hp : p < 8) (hs : s < 8) : p_X8_mayBe ow oh (nI kf) ks (nI p) (nI s) = some (nI ((!kf.testBit s && (decide (ks p = -1) || decide (ks p = nI s))) && (decide (ow ≠ nI p) || decide (oh = nI s))).toNat) := by
  unfold p_X8_mayBe p_X8_mayBe_b0 p_X8_mayBe_b31 p_X8_mayBe_b47 p_X8_mayBe_b51 p_X8_mayBe_b52
  rw [d_isIn kf hkf s (by omega), b1_some, inB_nI hp (by decide)]
  simp only [gd_true, nI_clamp (show p < 2 ^ 31 by omega), nIb0, z0, z1]
  by_cases h1 : kf.testBit s = false
  · rw [if_pos h1, h1]
    have tail : (if ow = nI p then if oh = nI s then some (1 : Int32) else some 0 else some 1) = some (nI (decide (ow ≠ nI p) || decide (oh = nI s)).toNat) := by
      by_cases q1 : ow = nI p
      · rw [if_pos q1, decide_eq_false (fun z => z q1), Bool.false_or]
        by_cases q2 : oh = nI s
        · rw [if_pos q2, decide_eq_true q2]; rfl
        · rw [if_neg q2, decide_eq_false q2]; rfl
      · rw [if_neg q1, decide_eq_true q1, Bool.true_or]; rfl
    by_cases h2 : ks p = -1
    · rw [if_pos h2, tail, decide_eq_true h2]; simp
    · rw [if_neg h2]
      by_cases h3 : ks p = nI s
      · rw [if_pos h3, tail, decide_eq_true h3]; simp
      · rw [if_neg h3, decide_eq_false h2, decide_eq_false h3]; simp; rfl
  · rw [if_neg h1]
    have : kf.testBit s = true := by simpa using h1
    rw [this]; simp; rfl
