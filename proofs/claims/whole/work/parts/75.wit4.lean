/-! the model's loops over those who can have lost it -/
def susN (v : Nat → Nat) : Nat → Nat
  | 0 => 0
  | i + 1 => susN v i ||| (if v i = 0 then 0 else 2 ^ i)
def mxN (v : Nat → Nat) : Nat → Nat
  | 0 => 0
  | i + 1 => if v i ≤ mxN v i then mxN v i else v i
def bsI (v : Nat → Nat) : Nat → Int32
  | 0 => -1
  | i + 1 => if v i ≤ mxN v i then bsI v i else nI i
theorem susN_lt {v : Nat → Nat} : ∀ n, susN v n < 2 ^ n
  | 0 => by show (0 : Nat) < 1; decide
  | n + 1 => by
    have h1 : susN v n < 2 ^ (n + 1) := Nat.lt_of_lt_of_le (susN_lt n) (Nat.pow_le_pow_right (by decide) (by omega))
    show susN v n ||| _ < _
    split
    · rw [Nat.or_zero]; exact h1
    · exact Nat.or_lt_two_pow h1 (two_lt (by omega))
theorem susN_bit {v : Nat → Nat} {q : Nat} : ∀ n, q < n → ((susN v n).testBit q = true ↔ v q ≠ 0)
  | 0, h => absurd h (by omega)
  | n + 1, h => by
    show (susN v n ||| (if v n = 0 then 0 else 2 ^ n)).testBit q = true ↔ _
    rw [Nat.testBit_or]
    by_cases e : q = n
    · subst e
      rw [Nat.testBit_lt_two_pow (susN_lt q), Bool.false_or]
      by_cases z : v q = 0
      · rw [if_pos z, Nat.zero_testBit]; exact ⟨fun w => (by cases w), fun w => absurd z w⟩
      · rw [if_neg z, Nat.testBit_two_pow_self]; exact ⟨fun _ => z, fun _ => rfl⟩
    · have ih := susN_bit (v := v) (q := q) n (by omega)
      have hz : (if v n = 0 then 0 else 2 ^ n).testBit q = false := by
        split
        · exact Nat.zero_testBit q
        · rw [Nat.testBit_two_pow, decide_eq_false (fun w => e w.symm)]
      rw [hz, Bool.or_false]
      exact ih
theorem mxN_le {v : Nat → Nat} {B : Nat} : ∀ n, (∀ i, i < n → v i ≤ B) → mxN v n ≤ B
  | 0, _ => Nat.zero_le _
  | n + 1, h => by
    show (if _ then _ else _) ≤ _
    split
    · exact mxN_le n (fun i hi => h i (by omega))
    · exact h n (by omega)
theorem lgc2 {a b : Nat} (ha : a < 2 ^ 63) (hb : b < 2 ^ 63) : (lg_cmp (lN a) (lN b) ≤ 0) = (a ≤ b) := by
  rw [lg_le, pk_lT ha, pk_lT hb]
  exact propext ⟨fun q => by omega, fun q => by omega⟩
/-- in how many ways it is so seen, had the plain l lost it -/
def vvN (S P : Nat) (srt own kd : Nat → Nat) (sw sl : Nat → Int32) (n l : Nat) : Nat := if kd l = 0 then VL S P srt own kd sw sl n l else 0
theorem vv_le {S P n : Nat} {srt own kd : Nat → Nat} {sw sl : Nat → Int32} (hS : S < 9) (hP : P ≤ S) (ho : ∀ k, k < P → own k < S) (l : Nat) : vvN S P srt own kd sw sl n l ≤ Aw S P := by
  unfold vvN
  split
  · exact VL_le hS hP ho
  · exact Nat.zero_le _
theorem v_seen1 {S P n : Nat} {srt own kd : Nat → Nat} {ms mo mk : Nat → Int32} (hM : MC S P srt own kd ms mo mk) (hn : n ≤ 8) {sw sl : Nat → Int32} (hsg : ∀ i, i < n → (∃ q : Nat, q < 8 ∧ sl i = nI q) ∧ (sw i = -1 ∨ ∃ p : Nat, p < 8 ∧ sw i = nI p)) {l : Nat} (hl : l < P) (hk : kd l = 0) (lo w0 h0 kf : Int32) (al : Int64) (ks : Nat → Int32) (wy nx : Nat → Int64) : ∃ (a1 a2 a3 a4 : Int32) (a5 : Int64) (a6 : Nat → Int32) (a7 a8 : Nat → Int64), p_X8_seenWith (nI S) (nI P) lo w0 h0 kf (nI n) al ms mo mk ks sw sl wy nx (nI l) (-1) 0 = some (lN ((vvN S P srt own kd sw sl n) l), a1, a2, a3, a4, a5, a6, a7, a8) := by
  obtain ⟨a1, a2, a3, a4, a5, a6, a7, a8, e⟩ := v_seenW hM hn hsg hl (-1) 0 lo w0 h0 kf al ks wy nx
  refine ⟨a1, a2, a3, a4, a5, a6, a7, a8, ?_⟩
  rw [e, VW_none (by have := hM.1; have := hM.2.1; omega)]
  unfold vvN
  rw [if_pos hk]
theorem los_4 {S P n : Nat} {srt own kd : Nat → Nat} {ms mo mk : Nat → Int32} (hM : MC S P srt own kd ms mo mk) (hn : n ≤ 8) {sw sl : Nat → Int32} (hsg : ∀ i, i < n → (∃ q : Nat, q < 8 ∧ sl i = nI q) ∧ (sw i = -1 ∨ ∃ p : Nat, p < 8 ∧ sw i = nI p)) : ∀ (r i fuel : Nat) (lo w0 h0 kf : Int32) (al : Int64) (ks : Nat → Int32) (wy nx : Nat → Int64), i + r = P → r < fuel → ∃ (a1 a2 a3 a4 : Int32) (a5 : Int64) (a6 : Nat → Int32) (a7 a8 : Nat → Int64), p_X8_losersNow_b4 fuel (nI S) (nI P) lo w0 h0 kf (nI n) al ms mo mk ks sw sl wy nx (nI (susN (vvN S P srt own kd sw sl n) i)) (nI i) = some (nI (susN (vvN S P srt own kd sw sl n) P), a1, a2, a3, a4, a5, a6, a7, a8) := by
  obtain ⟨hS, hP, h1, h2⟩ := id hM
  have ho : ∀ k, k < P → own k < S := fun k hk => (h2 k hk).2.1
  intro r
  induction r with
  | zero =>
    intro i fuel lo w0 h0 kf al ks wy nx hi hf
    obtain ⟨f, rfl⟩ : ∃ f, fuel = f + 1 := ⟨fuel - 1, by omega⟩
    have e : i = P := by omega
    subst e
    show ∃ (a1 a2 a3 a4 : Int32) (a5 : Int64) (a6 : Nat → Int32) (a7 a8 : Nat → Int64), p_X8_losersNow_b4x _ _ _ _ _ _ _ _ _ _ _ _ _ _ _ _ _ _ _ = _
    unfold p_X8_losersNow_b4x
    rw [if_pos (nI_le (Nat.le_refl _) (by omega))]
    exact ⟨_, _, _, _, _, _, _, _, rfl⟩
  | succ r ih =>
    intro i fuel lo w0 h0 kf al ks wy nx hi hf
    obtain ⟨f, rfl⟩ : ∃ f, fuel = f + 1 := ⟨fuel - 1, by omega⟩
    have hiP : i < P := by omega
    obtain ⟨o1, o2, o3, o4⟩ := h2 i hiP
    have hz : (nI (kd i) = 0) = (kd i = 0) := propext (nI_eq (b := 0) (by omega) (by decide))
    have hs : susN (vvN S P srt own kd sw sl n) (i + 1) = susN (vvN S P srt own kd sw sl n) i ||| (if (vvN S P srt own kd sw sl n) i = 0 then 0 else 2 ^ i) := rfl
    show ∃ (a1 a2 a3 a4 : Int32) (a5 : Int64) (a6 : Nat → Int32) (a7 a8 : Nat → Int64), p_X8_losersNow_b4x _ _ _ _ _ _ _ _ _ _ _ _ _ _ _ _ _ _ _ = _
    unfold p_X8_losersNow_b4x p_X8_losersNow_b40 p_X8_losersNow_b41
    rw [if_neg (nI_ge hiP (by omega)), inB_nI (show i < 8 by omega) (by decide), gd_true, nI_clamp (by omega), o3]
    simp only [hz, nm_def, nI_1]
    by_cases hk : kd i = 0
    · obtain ⟨a1, a2, a3, a4, a5, a6, a7, a8, e⟩ := v_seen1 hM hn hsg hiP hk lo w0 h0 kf al ks wy nx
      have hb := vv_le (n := n) (srt := srt) (kd := kd) (sw := sw) (sl := sl) hS hP ho i
      have hA := Aw_le S hS P (by omega) (by omega)
      rw [if_pos hk, e, b9_some]
      simp only [lgc0 (show (vvN S P srt own kd sw sl n) i < 2 ^ 63 by omega)]
      by_cases hv : (vvN S P srt own kd sw sl n) i = 0
      · rw [if_pos hv] at hs
        rw [if_pos hv, L0, fa_or, ← hs]
        exact ih (i + 1) f _ _ _ _ _ _ _ _ (by omega) (by omega)
      · rw [if_neg hv] at hs
        rw [if_neg hv, d_sh i (by omega), fa_or, ← hs]
        exact ih (i + 1) f _ _ _ _ _ _ _ _ (by omega) (by omega)
    · have hv : (vvN S P srt own kd sw sl n) i = 0 := by unfold vvN; rw [if_neg hk]
      rw [if_pos hv] at hs
      rw [if_neg hk, L0, fa_or, ← hs]
      exact ih (i + 1) f _ _ _ _ _ _ _ _ (by omega) (by omega)
theorem v_losersNow {S P n : Nat} {srt own kd : Nat → Nat} {ms mo mk : Nat → Int32} (hM : MC S P srt own kd ms mo mk) (hn : n ≤ 8) {sw sl : Nat → Int32} (hsg : ∀ i, i < n → (∃ q : Nat, q < 8 ∧ sl i = nI q) ∧ (sw i = -1 ∨ ∃ p : Nat, p < 8 ∧ sw i = nI p)) (lo w0 h0 kf : Int32) (al : Int64) (ks : Nat → Int32) (wy nx : Nat → Int64) : ∃ (a1 a2 a3 a4 : Int32) (a5 : Int64) (a6 : Nat → Int32) (a7 a8 : Nat → Int64), p_X8_losersNow (nI S) (nI P) lo w0 h0 kf (nI n) al ms mo mk ks sw sl wy nx = some (nI (susN (vvN S P srt own kd sw sl n) P), a1, a2, a3, a4, a5, a6, a7, a8) := by
  have := hM.1
  have := hM.2.1
  exact los_4 hM hn hsg P 0 4096 lo w0 h0 kf al ks wy nx (by omega) (by omega)
theorem lik_7 {S P n : Nat} {srt own kd : Nat → Nat} {ms mo mk : Nat → Int32} (hM : MC S P srt own kd ms mo mk) (hn : n ≤ 8) {sw sl : Nat → Int32} (hsg : ∀ i, i < n → (∃ q : Nat, q < 8 ∧ sl i = nI q) ∧ (sw i = -1 ∨ ∃ p : Nat, p < 8 ∧ sw i = nI p)) : ∀ (r i fuel : Nat) (lo w0 h0 kf : Int32) (al : Int64) (ks : Nat → Int32) (wy nx : Nat → Int64), i + r = P → r < fuel → ∃ (a1 a2 a3 a4 : Int32) (a5 : Int64) (a6 : Nat → Int32) (a7 a8 : Nat → Int64), p_X8_likeliestNow_b7 fuel (nI S) (nI P) lo w0 h0 kf (nI n) al ms mo mk ks sw sl wy nx (bsI (vvN S P srt own kd sw sl n) i) (lN (mxN (vvN S P srt own kd sw sl n) i)) (nI i) = some (bsI (vvN S P srt own kd sw sl n) P, a1, a2, a3, a4, a5, a6, a7, a8) := by
  obtain ⟨hS, hP, h1, h2⟩ := id hM
  have ho : ∀ k, k < P → own k < S := fun k hk => (h2 k hk).2.1
  intro r
  induction r with
  | zero =>
    intro i fuel lo w0 h0 kf al ks wy nx hi hf
    obtain ⟨f, rfl⟩ : ∃ f, fuel = f + 1 := ⟨fuel - 1, by omega⟩
    have e : i = P := by omega
    subst e
    show ∃ (a1 a2 a3 a4 : Int32) (a5 : Int64) (a6 : Nat → Int32) (a7 a8 : Nat → Int64), p_X8_likeliestNow_b7x _ _ _ _ _ _ _ _ _ _ _ _ _ _ _ _ _ _ _ _ = _
    unfold p_X8_likeliestNow_b7x
    rw [if_pos (nI_le (Nat.le_refl _) (by omega))]
    exact ⟨_, _, _, _, _, _, _, _, rfl⟩
  | succ r ih =>
    intro i fuel lo w0 h0 kf al ks wy nx hi hf
    obtain ⟨f, rfl⟩ : ∃ f, fuel = f + 1 := ⟨fuel - 1, by omega⟩
    have hiP : i < P := by omega
    obtain ⟨o1, o2, o3, o4⟩ := h2 i hiP
    have hz : (nI (kd i) = 0) = (kd i = 0) := propext (nI_eq (b := 0) (by omega) (by decide))
    have hb := vv_le (n := n) (srt := srt) (kd := kd) (sw := sw) (sl := sl) hS hP ho
    have hA := Aw_le S hS P (by omega) (by omega)
    have hm := mxN_le (v := (vvN S P srt own kd sw sl n)) (B := Aw S P) i (fun j _ => hb j)
    have hbi := hb i
    have hs1 : mxN (vvN S P srt own kd sw sl n) (i + 1) = if (vvN S P srt own kd sw sl n) i ≤ mxN (vvN S P srt own kd sw sl n) i then mxN (vvN S P srt own kd sw sl n) i else (vvN S P srt own kd sw sl n) i := rfl
    have hs2 : bsI (vvN S P srt own kd sw sl n) (i + 1) = if (vvN S P srt own kd sw sl n) i ≤ mxN (vvN S P srt own kd sw sl n) i then bsI (vvN S P srt own kd sw sl n) i else nI i := rfl
    have tail : ∀ (lo w0 h0 kf : Int32) (al : Int64) (ks : Nat → Int32) (wy nx : Nat → Int64), ∃ (a1 a2 a3 a4 : Int32) (a5 : Int64) (a6 : Nat → Int32) (a7 a8 : Nat → Int64), p_X8_likeliestNow_b38 (p_X8_likeliestNow_b7 f) (nI S) (nI P) lo w0 h0 kf (nI n) al ms mo mk ks sw sl wy nx (lN ((vvN S P srt own kd sw sl n) i)) (bsI (vvN S P srt own kd sw sl n) i) (lN (mxN (vvN S P srt own kd sw sl n) i)) (nI i) = some (bsI (vvN S P srt own kd sw sl n) P, a1, a2, a3, a4, a5, a6, a7, a8) := fun lo w0 h0 kf al ks wy nx => by
      obtain ⟨a1, a2, a3, a4, a5, a6, a7, a8, e⟩ := ih (i + 1) f lo w0 h0 kf al ks wy nx (by omega) (by omega)
      refine ⟨a1, a2, a3, a4, a5, a6, a7, a8, ?_⟩
      rw [← e, hs1, hs2]
      unfold p_X8_likeliestNow_b38 p_X8_likeliestNow_b53 p_X8_likeliestNow_b67
      simp only [lgc2 (show (vvN S P srt own kd sw sl n) i < 2 ^ 63 by omega) (show mxN (vvN S P srt own kd sw sl n) i < 2 ^ 63 by omega), nm_def, nI_1]
      by_cases q : (vvN S P srt own kd sw sl n) i ≤ mxN (vvN S P srt own kd sw sl n) i
      · rw [if_pos q, if_pos q, if_pos q, if_pos q]
      · rw [if_neg q, if_neg q, if_neg q, if_neg q]
    show ∃ (a1 a2 a3 a4 : Int32) (a5 : Int64) (a6 : Nat → Int32) (a7 a8 : Nat → Int64), p_X8_likeliestNow_b7x _ _ _ _ _ _ _ _ _ _ _ _ _ _ _ _ _ _ _ _ = _
    unfold p_X8_likeliestNow_b7x
    rw [if_neg (nI_ge hiP (by omega)), inB_nI (show i < 8 by omega) (by decide), gd_true, nI_clamp (by omega), o3]
    simp only [hz]
    by_cases hk : kd i = 0
    · obtain ⟨a1, a2, a3, a4, a5, a6, a7, a8, e⟩ := v_seen1 hM hn hsg hiP hk lo w0 h0 kf al ks wy nx
      rw [if_pos hk, e, b9_some]
      exact tail _ _ _ _ _ _ _ _
    · have hv : (vvN S P srt own kd sw sl n) i = 0 := by unfold vvN; rw [if_neg hk]
      rw [if_neg hk]
      have := tail lo w0 h0 kf al ks wy nx
      rw [hv] at this
      exact this
theorem v_likeliestNow {S P n : Nat} {srt own kd : Nat → Nat} {ms mo mk : Nat → Int32} (hM : MC S P srt own kd ms mo mk) (hn : n ≤ 8) {sw sl : Nat → Int32} (hsg : ∀ i, i < n → (∃ q : Nat, q < 8 ∧ sl i = nI q) ∧ (sw i = -1 ∨ ∃ p : Nat, p < 8 ∧ sw i = nI p)) (lo w0 h0 kf : Int32) (al : Int64) (ks : Nat → Int32) (wy nx : Nat → Int64) : ∃ (a1 a2 a3 a4 : Int32) (a5 : Int64) (a6 : Nat → Int32) (a7 a8 : Nat → Int64), p_X8_likeliestNow (nI S) (nI P) lo w0 h0 kf (nI n) al ms mo mk ks sw sl wy nx = some (bsI (vvN S P srt own kd sw sl n) P, a1, a2, a3, a4, a5, a6, a7, a8) := by
  have := hM.1
  have := hM.2.1
  exact lik_7 hM hn hsg P 0 4096 lo w0 h0 kf al ks wy nx (by omega) (by omega)
/-- of those who can have lost it, how many are left, if p sits on s -/
def cnN (S P : Nat) (srt own kd : Nat → Nat) (sw sl : Nat → Int32) (n p s : Nat) (q : Nat) : Nat := if (vvN S P srt own kd sw sl n) q ≠ 0 ∧ VW S P srt own kd sw sl n q (nI p) (nI s) ≠ 0 then 1 else 0
def ctN (S P : Nat) (srt own kd : Nat → Nat) (sw sl : Nat → Int32) (n p s : Nat) : Nat := fb_sm (cnN S P srt own kd sw sl n p s) P
def wsN (S P : Nat) (srt own kd : Nat → Nat) (sw sl : Nat → Int32) (n p : Nat) : Nat := mxN (ctN S P srt own kd sw sl n p) S
theorem ct_le {S P n p s m : Nat} {srt own kd : Nat → Nat} {sw sl : Nat → Int32} : fb_sm (cnN S P srt own kd sw sl n p s) m ≤ m := by
  have : fb_sm (cnN S P srt own kd sw sl n p s) m ≤ fb_sm (fun _ => 1) m := fb_sm_le fun q _ => by
    unfold cnN
    split <;> omega
  rw [fb_sm_const] at this
  omega
theorem wb_20 {S P n : Nat} {srt own kd : Nat → Nat} {ms mo mk : Nat → Int32} (hM : MC S P srt own kd ms mo mk) (hn : n ≤ 8) {sw sl : Nat → Int32} (hsg : ∀ i, i < n → (∃ q : Nat, q < 8 ∧ sl i = nI q) ∧ (sw i = -1 ∨ ∃ p : Nat, p < 8 ∧ sw i = nI p)) (K : Int32 → Int32 → Int32 → Int32 → Int32 → Int32 → Int32 → Int64 → (Nat → Int32) → (Nat → Int32) → (Nat → Int32) → (Nat → Int32) → (Nat → Int32) → (Nat → Int32) → (Nat → Int64) → (Nat → Int64) → Int32 → Int32 → Int32 → Int32 → Option (Int32 × Int32 × Int32 × Int32 × Int32 × Int64 × (Nat → Int32) × (Nat → Int64) × (Nat → Int64))) {p s x : Nat} (hp : p < P) (hs : s < S) (hx : x ≤ 8) : ∀ (r i fuel : Nat) (lo w0 h0 kf : Int32) (al : Int64) (ks : Nat → Int32) (wy nx : Nat → Int64), i + r = P → r < fuel → ∃ (a1 a2 a3 a4 : Int32) (a5 : Int64) (a6 : Nat → Int32) (a7 a8 : Nat → Int64), p_X8_worstBy_b20 K fuel (nI S) (nI P) lo w0 h0 kf (nI n) al ms mo mk ks sw sl wy nx (nI p) (nI (susN (vvN S P srt own kd sw sl n) P)) (nI x) (nI s) (nI (fb_sm (cnN S P srt own kd sw sl n p s) i)) (nI i) = K (nI S) (nI P) a1 a2 a3 a4 (nI n) a5 ms mo mk a6 sw sl a7 a8 (nI p) (nI (susN (vvN S P srt own kd sw sl n) P)) (nI (if ctN S P srt own kd sw sl n p s ≤ x then x else ctN S P srt own kd sw sl n p s)) (nI (s + 1)) := by
  obtain ⟨hS, hP, h1, h2⟩ := id hM
  have ho : ∀ k, k < P → own k < S := fun k hk => (h2 k hk).2.1
  have hsl : susN (vvN S P srt own kd sw sl n) P < 256 := Nat.lt_of_lt_of_le (susN_lt P) (d_pw P (by omega))
  intro r
  induction r with
  | zero =>
    intro i fuel lo w0 h0 kf al ks wy nx hi hf
    obtain ⟨f, rfl⟩ : ∃ f, fuel = f + 1 := ⟨fuel - 1, by omega⟩
    have e : i = P := by omega
    subst e
    refine ⟨lo, w0, h0, kf, al, ks, wy, nx, ?_⟩
    show p_X8_worstBy_b20x _ _ _ _ _ _ _ _ _ _ _ _ _ _ _ _ _ _ _ _ _ _ _ _ = _
    unfold p_X8_worstBy_b20x p_X8_worstBy_b80
    have hc := ct_le (S := S) (P := i) (n := n) (p := p) (s := s) (m := i) (srt := srt) (own := own) (kd := kd) (sw := sw) (sl := sl)
    have e1 : (nI (fb_sm (cnN S i srt own kd sw sl n p s) i) ≤ nI x) = (fb_sm (cnN S i srt own kd sw sl n p s) i ≤ x) := propext (nI_leI (by omega) (by omega))
    rw [if_pos (nI_le (Nat.le_refl _) (by omega))]
    simp only [e1, nm_def, nI_1]
    unfold ctN
    by_cases q : fb_sm (cnN S i srt own kd sw sl n p s) i ≤ x
    · rw [if_pos q, if_pos q]
    · rw [if_neg q, if_neg q]
  | succ r ih =>
    intro i fuel lo w0 h0 kf al ks wy nx hi hf
    obtain ⟨f, rfl⟩ : ∃ f, fuel = f + 1 := ⟨fuel - 1, by omega⟩
    have hiP : i < P := by omega
    have hs1 : fb_sm (cnN S P srt own kd sw sl n p s) (i + 1) = fb_sm (cnN S P srt own kd sw sl n p s) i + cnN S P srt own kd sw sl n p s i := rfl
    have hbit := susN_bit (v := (vvN S P srt own kd sw sl n)) (q := i) P hiP
    show ∃ (a1 a2 a3 a4 : Int32) (a5 : Int64) (a6 : Nat → Int32) (a7 a8 : Nat → Int64), p_X8_worstBy_b20x _ _ _ _ _ _ _ _ _ _ _ _ _ _ _ _ _ _ _ _ _ _ _ _ = _
    unfold p_X8_worstBy_b20x p_X8_worstBy_b58 p_X8_worstBy_b59
    rw [if_neg (nI_ge hiP (by omega)), d_isIn _ hsl i (by omega), b1_some]
    simp only [nIb0, nm_def, nI_1]
    by_cases hv : (vvN S P srt own kd sw sl n) i = 0
    · have hb : (susN (vvN S P srt own kd sw sl n) P).testBit i = false := by
        cases q : (susN (vvN S P srt own kd sw sl n) P).testBit i with
        | false => rfl
        | true => exact absurd hv (hbit.mp q)
      have hc : cnN S P srt own kd sw sl n p s i = 0 := by unfold cnN; rw [if_neg (fun z => z.1 hv)]
      rw [hc] at hs1
      rw [if_pos hb, L0, nI_add, ← hs1]
      exact ih (i + 1) f _ _ _ _ _ _ _ _ (by omega) (by omega)
    · rw [if_neg (by rw [hbit.mpr hv]; decide)]
      obtain ⟨a1, a2, a3, a4, a5, a6, a7, a8, e⟩ := v_seenW hM hn hsg hiP (nI p) (nI s) lo w0 h0 kf al ks wy nx
      have hb := VW_le (n := n) (l := i) (srt := srt) (kd := kd) (sw := sw) (sl := sl) hS hP ho (ow := nI p) (oh := nI s)
      have hA := Aw_le S hS P (by omega) (by omega)
      rw [e, b9_some]
      simp only [lgc0 (show VW S P srt own kd sw sl n i (nI p) (nI s) < 2 ^ 63 by omega)]
      by_cases hw : VW S P srt own kd sw sl n i (nI p) (nI s) = 0
      · have hc : cnN S P srt own kd sw sl n p s i = 0 := by unfold cnN; rw [if_neg (fun z => z.2 hw)]
        rw [hc] at hs1
        rw [if_pos hw, L0, nI_add, ← hs1]
        exact ih (i + 1) f _ _ _ _ _ _ _ _ (by omega) (by omega)
      · have hc : cnN S P srt own kd sw sl n p s i = 1 := by unfold cnN; rw [if_pos ⟨hv, hw⟩]
        rw [hc] at hs1
        rw [if_neg hw, ← hs1]
        exact ih (i + 1) f _ _ _ _ _ _ _ _ (by omega) (by omega)
theorem wb_5 {S P n : Nat} {srt own kd : Nat → Nat} {ms mo mk : Nat → Int32} (hM : MC S P srt own kd ms mo mk) (hn : n ≤ 8) {sw sl : Nat → Int32} (hsg : ∀ i, i < n → (∃ q : Nat, q < 8 ∧ sl i = nI q) ∧ (sw i = -1 ∨ ∃ p : Nat, p < 8 ∧ sw i = nI p)) {p : Nat} (hp : p < P) : ∀ (r i fuel : Nat) (lo w0 h0 kf : Int32) (al : Int64) (ks : Nat → Int32) (wy nx : Nat → Int64), i + r = S → r < fuel → ∃ (a1 a2 a3 a4 : Int32) (a5 : Int64) (a6 : Nat → Int32) (a7 a8 : Nat → Int64), p_X8_worstBy_b5 fuel (nI S) (nI P) lo w0 h0 kf (nI n) al ms mo mk ks sw sl wy nx (nI p) (nI (susN (vvN S P srt own kd sw sl n) P)) (nI (mxN (ctN S P srt own kd sw sl n p) i)) (nI i) = some (nI (wsN S P srt own kd sw sl n p), a1, a2, a3, a4, a5, a6, a7, a8) := by
  obtain ⟨hS, hP, h1, h2⟩ := id hM
  intro r
  induction r with
  | zero =>
    intro i fuel lo w0 h0 kf al ks wy nx hi hf
    obtain ⟨f, rfl⟩ : ∃ f, fuel = f + 1 := ⟨fuel - 1, by omega⟩
    have e : i = S := by omega
    subst e
    show ∃ (a1 a2 a3 a4 : Int32) (a5 : Int64) (a6 : Nat → Int32) (a7 a8 : Nat → Int64), p_X8_worstBy_b5x _ _ _ _ _ _ _ _ _ _ _ _ _ _ _ _ _ _ _ _ _ = _
    unfold p_X8_worstBy_b5x
    rw [if_pos (nI_le (Nat.le_refl _) (by omega))]
    exact ⟨_, _, _, _, _, _, _, _, rfl⟩
  | succ r ih =>
    intro i fuel lo w0 h0 kf al ks wy nx hi hf
    obtain ⟨f, rfl⟩ : ∃ f, fuel = f + 1 := ⟨fuel - 1, by omega⟩
    have hiS : i < S := by omega
    have hm := mxN_le (v := ctN S P srt own kd sw sl n p) (B := P) i (fun j _ => ct_le)
    obtain ⟨a1, a2, a3, a4, a5, a6, a7, a8, e⟩ := wb_20 hM hn hsg (p_X8_worstBy_b5 f) hp hiS (show mxN (ctN S P srt own kd sw sl n p) i ≤ 8 by omega) P 0 4096 lo w0 h0 kf al ks wy nx (by omega) (by omega)
    obtain ⟨c1, c2, c3, c4, c5, c6, c7, c8, e2⟩ := ih (i + 1) f a1 a2 a3 a4 a5 a6 a7 a8 (by omega) (by omega)
    refine ⟨c1, c2, c3, c4, c5, c6, c7, c8, ?_⟩
    rw [← e2]
    show p_X8_worstBy_b5x _ _ _ _ _ _ _ _ _ _ _ _ _ _ _ _ _ _ _ _ _ = _
    unfold p_X8_worstBy_b5x
    rw [if_neg (nI_ge hiS (by omega))]
    exact e
theorem v_worstBy {S P n : Nat} {srt own kd : Nat → Nat} {ms mo mk : Nat → Int32} (hM : MC S P srt own kd ms mo mk) (hn : n ≤ 8) {sw sl : Nat → Int32} (hsg : ∀ i, i < n → (∃ q : Nat, q < 8 ∧ sl i = nI q) ∧ (sw i = -1 ∨ ∃ p : Nat, p < 8 ∧ sw i = nI p)) {p : Nat} (hp : p < P) (lo w0 h0 kf : Int32) (al : Int64) (ks : Nat → Int32) (wy nx : Nat → Int64) : ∃ (a1 a2 a3 a4 : Int32) (a5 : Int64) (a6 : Nat → Int32) (a7 a8 : Nat → Int64), p_X8_worstBy (nI S) (nI P) lo w0 h0 kf (nI n) al ms mo mk ks sw sl wy nx (nI p) (nI (susN (vvN S P srt own kd sw sl n) P)) = some (nI (wsN S P srt own kd sw sl n p), a1, a2, a3, a4, a5, a6, a7, a8) := by
  have := hM.1
  exact wb_5 hM hn hsg hp S 0 4096 lo w0 h0 kf al ks wy nx (by omega) (by omega)
theorem ws_le {S P n p : Nat} {srt own kd : Nat → Nat} {sw sl : Nat → Int32} : wsN S P srt own kd sw sl n p ≤ P := mxN_le S (fun j _ => ct_le)
