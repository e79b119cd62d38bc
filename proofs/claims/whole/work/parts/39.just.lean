/-! how many sit wrong: sets and numbers together -/
def tB (ow : Nat → Nat) (k x s : Nat) : Nat := 9 * (x / 9 ||| 2 ^ s) + x % 9 + (if s = ow k then 0 else 1)
def dB (S : Nat) (srt ow kd : Nat → Nat) : Nat → Nat → Nat := dp 2304 S (fun k x => cCh S srt ow kd k (x / 9)) (fun _ _ => true) (tB ow)
theorem tB_at {ow : Nat → Nat} {k x s : Nat} (h : x % 9 < 8) : tB ow k x s / 9 = (x / 9 ||| 2 ^ s) ∧ tB ow k x s % 9 = x % 9 + (if s = ow k then 0 else 1) := by
  unfold tB
  generalize (x / 9 ||| 2 ^ s) = a
  by_cases e : s = ow k
  · rw [if_pos e]; omega
  · rw [if_neg e]; omega
theorem dB_sup {S P : Nat} {srt ow kd : Nat → Nat} (hS : S < 9) (hP : P ≤ S) (ho : ∀ k, k < P → ow k < S) : ∀ k, k ≤ P → ∀ x, dB S srt ow kd k x ≠ 0 → x / 9 < 2 ^ S ∧ pc (x / 9) = k ∧ x % 9 ≤ k
  | 0, _, x, hx => by
    have e : x = 0 := by
      by_cases e : x = 0
      · exact e
      · exact absurd (if_neg e) hx
    subst e
    exact ⟨Nat.pow_pos (by decide), rfl, Nat.le_refl _⟩
  | k + 1, hk, x, hx => by
    have ih := dB_sup (srt := srt) (kd := kd) hS hP ho k (by omega)
    have hoc := cCh_ok (srt := srt) (kd := kd) hS hP ho
    apply Classical.byContradiction
    intro hn
    apply hx
    show stp _ _ _ _ _ _ _ x = 0
    unfold stp
    refine sm_zero' fun u hu => sm_zero' fun s hs => ?_
    by_cases hc : (cCh S srt ow kd k (u / 9)).testBit s = true ∧ (true : Bool) = true ∧ tB ow k u s = x
    · rw [if_pos hc]
      by_cases hD : dB S srt ow kd k u = 0
      · rw [show dp 2304 S (fun k x => cCh S srt ow kd k (x / 9)) (fun _ _ => true) (tB ow) k u = 0 from hD, Nat.zero_mul]
      · obtain ⟨h1, h2, h2'⟩ := ih u hD
        obtain ⟨-, h3, -⟩ := hoc k (u / 9) (by omega) h1 h2
        obtain ⟨h4, h5⟩ := h3 s hc.1
        have hu8 : u / 9 < 256 := Nat.lt_of_lt_of_le h1 (d_pw S hS)
        obtain ⟨g1, -, -⟩ := d_pcor (u / 9) hu8 s (by omega) h5
        obtain ⟨t1, t2⟩ := tB_at (ow := ow) (k := k) (x := u) (s := s) (by omega)
        rw [hc.2.2] at t1 t2
        refine absurd ⟨by rw [t1]; exact Nat.or_lt_two_pow h1 (two_lt h4), by rw [t1, g1, h2], ?_⟩ hn
        rw [t2]
        split <;> omega
    · rw [if_neg hc]
theorem dB_tau {S P : Nat} {srt ow kd : Nat → Nat} (hS : S < 9) (hP : P ≤ S) (ho : ∀ k, k < P → ow k < S) {k : Nat} (hk : k < P) : ∀ u, u < 2304 → dB S srt ow kd k u ≠ 0 → ∀ s, s < S → (cCh S srt ow kd k (u / 9)).testBit s = true → tB ow k u s < 2304 := fun u hu hD s hs _ => by
  obtain ⟨h1, h2, h3⟩ := dB_sup hS hP ho k (by omega) u hD
  have h4 : (u / 9 ||| 2 ^ s) < 2 ^ S := Nat.or_lt_two_pow h1 (two_lt hs)
  have h5 := d_pw S hS
  unfold tB
  split <;> omega
/-- a test against the next table -/
theorem dB_dual {S P : Nat} {srt ow kd : Nat → Nat} (hS : S < 9) (hP : P ≤ S) (ho : ∀ k, k < P → ow k < S) {k : Nat} (hk : k < P) (φ : Nat → Nat) :
    fb_sm (fun x => φ x * dB S srt ow kd (k + 1) x) 2304 = fb_sm (fun u => fb_sm (fun s => if (cCh S srt ow kd k (u / 9)).testBit s = true then φ (tB ow k u s) * (dB S srt ow kd k u * (lc (S - k) / pc (cCh S srt ow kd k (u / 9)))) else 0) S) 2304 := by
  have e := stp_dual (M := 2304) (S := S) (ch := fun x => cCh S srt ow kd k (x / 9)) (ok := fun _ => true) (tau := tB ow k) (pt := lc (S - k)) (D := dB S srt ow kd k) φ (dB_tau hS hP ho hk)
  refine (show fb_sm (fun x => φ x * dB S srt ow kd (k + 1) x) 2304 = _ from e).trans ?_
  refine sm_congr fun u _ => sm_congr fun s _ => ?_
  by_cases hb : (cCh S srt ow kd k (u / 9)).testBit s = true <;> simp [hb]
theorem dB_all {S P : Nat} {srt ow kd : Nat → Nat} (hS : S < 9) (hP : P ≤ S) (ho : ∀ k, k < P → ow k < S) : ∀ k, k ≤ P → fb_sm (dB S srt ow kd k) 2304 = Aw S k
  | 0, _ => by
    show fb_sm (fun x => if x = 0 then 1 else 0) 2304 = 1
    rw [sm_congr (g := fun x => if 0 = x then 1 else 0) (fun x _ => by simp [eq_comm]), sm_one, if_pos (by decide)]
  | k + 1, hk => by
    have ih := dB_all (srt := srt) (kd := kd) hS hP ho k (by omega)
    have hoc := cCh_ok (srt := srt) (kd := kd) hS hP ho
    have e1 : fb_sm (dB S srt ow kd (k + 1)) 2304 = fb_sm (fun x => 1 * dB S srt ow kd (k + 1) x) 2304 := sm_congr fun x _ => (Nat.one_mul _).symm
    rw [e1, dB_dual hS hP ho (show k < P by omega) (fun _ => 1)]
    show _ = Aw S k * lc (S - k)
    rw [← ih, ← sm_mulR]
    refine sm_congr fun u hu => ?_
    by_cases hD : dB S srt ow kd k u = 0
    · rw [hD, sm_zero' (fun s _ => by simp), Nat.zero_mul]
    · obtain ⟨h1, h2, -⟩ := dB_sup hS hP ho k (by omega) u hD
      obtain ⟨m1, m2⟩ := ch_mass hS hP hoc (show k < P by omega) h1 h2
      rw [sm_congr (g := fun s => (if (cCh S srt ow kd k (u / 9)).testBit s = true then 1 else 0) * (dB S srt ow kd k u * (lc (S - k) / pc (cCh S srt ow kd k (u / 9))))) fun s _ => by
        by_cases hb : (cCh S srt ow kd k (u / 9)).testBit s = true <;> simp [hb]]
      rw [sm_mulR, m1, Nat.mul_left_comm, m2]
theorem dB_bd {S P : Nat} {srt ow kd : Nat → Nat} (hS : S < 9) (hP : P ≤ S) (ho : ∀ k, k < P → ow k < S) {k : Nat} (hk : k ≤ P) {x : Nat} (hx : x < 2304) : dB S srt ow kd k x ≤ Aw S k := by
  have h1 := fb_sm_part (dB S srt ow kd k) hx
  have h2 := dB_all (srt := srt) (kd := kd) hS hP ho k hk
  omega
/-! the model's loops -/
theorem rem9 {i : Nat} (h : i < 2304) : nI i - nI i / 9 * 9 = nI (i % 9) := pk_rem (d := 9) (by omega) (by decide) (by decide)
theorem div9 {i : Nat} (h : i < 2304) : nI i / 9 = nI (i / 9) := pk_div (d := 9) (by omega) (by decide) (by decide)
def gB (S : Nat) (srt ow kd : Nat → Nat) (k u s x : Nat) : Nat := if (cCh S srt ow kd k (u / 9)).testBit s = true ∧ (true : Bool) = true ∧ tB ow k u s = x then dB S srt ow kd k u * (lc (S - k) / pc (cCh S srt ow kd k (u / 9))) else 0
theorem ge2304 {i : Nat} (h : i ≤ 2304) : ((2304 : Int32) ≤ nI i) = (i = 2304) := by
  rw [show ((2304 : Int32) ≤ nI i) = (2304 ≤ i) from propext (nI_leI (a := 2304) (b := i) (by decide) (by omega))]
  apply propext
  omega
theorem just_6 {S P : Nat} {srt own knd : Nat → Nat} {ms mo mk : Nat → Int32} (hM : MC S P srt own knd ms mo mk) {ks : Nat → Int32} {x1 x2 : Int32} {bn : Nat → Int64} : ∀ (r i fuel : Nat) (b : Nat → Int64), i + r = 2304 → r < fuel → (∀ x, x < i → b x = lN (dB S srt own knd 0 x)) →
    ∃ b', (∀ x, x < 2304 → b' x = lN (dB S srt own knd 0 x)) ∧ p_X8_justOf_b6 fuel (nI S) (nI P) (-1) (-1) 0 ms mo mk ks b bn x1 x2 (nI i) = p_X8_justOf_b39 4096 (nI S) (nI P) (-1) (-1) 0 ms mo mk ks b' bn x1 x2 1 0 := by
  intro r
  induction r with
  | zero =>
    intro i fuel b hi hf hb
    obtain ⟨f, rfl⟩ : ∃ f, fuel = f + 1 := ⟨fuel - 1, by omega⟩
    refine ⟨b, fun x h => hb x (by omega), ?_⟩
    show p_X8_justOf_b6x _ _ _ _ _ _ _ _ _ _ _ _ _ _ _ = _
    unfold p_X8_justOf_b6x
    simp only [ge2304 (show i ≤ 2304 by omega)]
    rw [if_pos (by omega)]
  | succ r ih =>
    intro i fuel b hi hf hb
    obtain ⟨f, rfl⟩ : ∃ f, fuel = f + 1 := ⟨fuel - 1, by omega⟩
    obtain ⟨b', h1, h2⟩ := ih (i + 1) f (vp_updL b i (lN (dB S srt own knd 0 i))) (by omega) (by omega) (fun p hp => by
      rw [updL_at]
      by_cases e : p = i
      · rw [if_pos e, e]
      · rw [if_neg e]; exact hb p (by omega))
    refine ⟨b', h1, ?_⟩
    rw [← h2]
    show p_X8_justOf_b6x _ _ _ _ _ _ _ _ _ _ _ _ _ _ _ = _
    unfold p_X8_justOf_b6x p_X8_justOf_b27
    simp only [ge2304 (show i ≤ 2304 by omega), nm_def, nI_1]
    rw [if_neg (by omega), inB_nI (by omega) (by decide), nI_clamp (by omega)]
    have e : (nI i = 0) = (i = 0) := propext (nI_eq (b := 0) (by omega) (by decide))
    simp only [e, gd_true]
    show _ = p_X8_justOf_b6 f _ _ _ _ _ _ _ _ _ (vp_updL b i (lN (if i = 0 then 1 else 0))) _ _ _ _
    by_cases h : i = 0
    · rw [if_pos h, if_pos h]; rfl
    · rw [if_neg h, if_neg h]; rfl
theorem just_68 {S P : Nat} {srt own knd : Nat → Nat} {ms mo mk : Nat → Int32} (hM : MC S P srt own knd ms mo mk) {ks : Nat → Int32} {x1 x2 x5 : Int32} {x3 x6 : Int64} {b : Nat → Int64} (K : (Int32 → Int32 → Int32 → Int32 → Int32 → (Nat → Int32) → (Nat → Int32) → (Nat → Int32) → (Nat → Int32) → (Nat → Int64) → (Nat → Int64) → Int32 → Int32 → Int64 → Int32 → Option (Int64 × Int32 × Int32 × Int32 × (Nat → Int32) × (Nat → Int64) × (Nat → Int64)))) : ∀ (r i fuel : Nat) (bn : Nat → Int64), i + r = 2304 → r < fuel → (∀ x, x < i → bn x = lN 0) →
    ∃ bn', (∀ x, x < 2304 → bn' x = lN 0) ∧ p_X8_justOf_b68 K fuel (nI S) (nI P) (-1) (-1) 0 ms mo mk ks b bn x1 x2 x3 x5 x6 (nI i) = p_X8_justOf_b93 K 4096 (nI S) (nI P) (-1) (-1) 0 ms mo mk ks b bn' x1 x2 x3 x5 x6 0 := by
  intro r
  induction r with
  | zero =>
    intro i fuel bn hi hf hb
    obtain ⟨f, rfl⟩ : ∃ f, fuel = f + 1 := ⟨fuel - 1, by omega⟩
    refine ⟨bn, fun x h => hb x (by omega), ?_⟩
    show p_X8_justOf_b68x _ _ _ _ _ _ _ _ _ _ _ _ _ _ _ _ _ _ _ = _
    unfold p_X8_justOf_b68x
    simp only [ge2304 (show i ≤ 2304 by omega)]
    rw [if_pos (by omega)]
  | succ r ih =>
    intro i fuel bn hi hf hb
    obtain ⟨f, rfl⟩ : ∃ f, fuel = f + 1 := ⟨fuel - 1, by omega⟩
    obtain ⟨b', h1, h2⟩ := ih (i + 1) f (vp_updL bn i 0) (by omega) (by omega) (fun p hp => by
      rw [updL_at]
      by_cases e : p = i
      · rw [if_pos e]; rfl
      · rw [if_neg e]; exact hb p (by omega))
    refine ⟨b', h1, ?_⟩
    rw [← h2]
    show p_X8_justOf_b68x _ _ _ _ _ _ _ _ _ _ _ _ _ _ _ _ _ _ _ = _
    unfold p_X8_justOf_b68x
    simp only [ge2304 (show i ≤ 2304 by omega)]
    rw [if_neg (by omega), inB_nI (by omega) (by decide), gd_true, nm_def, nm_def, nI_clamp (by omega), nI_1]
theorem just_233 {S P : Nat} {srt own knd : Nat → Nat} {ms mo mk : Nat → Int32} (hM : MC S P srt own knd ms mo mk) {ks : Nat → Int32} {x1 x2 x5 : Int32} {x3 : Int64} {bn : Nat → Int64} (K : (Int32 → Int32 → Int32 → Int32 → Int32 → (Nat → Int32) → (Nat → Int32) → (Nat → Int32) → (Nat → Int32) → (Nat → Int64) → (Nat → Int64) → Int32 → Int32 → Int64 → Int32 → Option (Int64 × Int32 × Int32 × Int32 × (Nat → Int32) × (Nat → Int64) × (Nat → Int64)))) : ∀ (r i fuel : Nat) (b : Nat → Int64), i + r = 2304 → r < fuel → (∀ x, x < i → b x = bn x) →
    ∃ b', (∀ x, x < 2304 → b' x = bn x) ∧ p_X8_justOf_b233 K fuel (nI S) (nI P) (-1) (-1) 0 ms mo mk ks b bn x1 x2 x3 x5 (nI i) = K (nI S) (nI P) (-1) (-1) 0 ms mo mk ks b' bn x1 x2 x3 (x5 + 1) := by
  intro r
  induction r with
  | zero =>
    intro i fuel b hi hf hb
    obtain ⟨f, rfl⟩ : ∃ f, fuel = f + 1 := ⟨fuel - 1, by omega⟩
    refine ⟨b, fun x h => hb x (by omega), ?_⟩
    show p_X8_justOf_b233x _ _ _ _ _ _ _ _ _ _ _ _ _ _ _ _ _ _ = _
    unfold p_X8_justOf_b233x
    simp only [ge2304 (show i ≤ 2304 by omega)]
    rw [if_pos (by omega), nm_def]
  | succ r ih =>
    intro i fuel b hi hf hb
    obtain ⟨f, rfl⟩ : ∃ f, fuel = f + 1 := ⟨fuel - 1, by omega⟩
    obtain ⟨b', h1, h2⟩ := ih (i + 1) f (vp_updL b i (bn i)) (by omega) (by omega) (fun p hp => by
      rw [updL_at]
      by_cases e : p = i
      · rw [if_pos e, e]
      · rw [if_neg e]; exact hb p (by omega))
    refine ⟨b', h1, ?_⟩
    rw [← h2]
    show p_X8_justOf_b233x _ _ _ _ _ _ _ _ _ _ _ _ _ _ _ _ _ _ = _
    unfold p_X8_justOf_b233x
    simp only [ge2304 (show i ≤ 2304 by omega)]
    rw [if_neg (by omega), inB_nI (by omega) (by decide), gd_true, gd_true, nm_def, nm_def, nI_clamp (by omega), nI_1]
