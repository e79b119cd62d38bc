/-! how long one looks -/
def lkN (S f o : Nat) : Nat := if o ≤ nfs S f 8 o then nfs S f 8 o - o else nfs S f 8 o + S - o
theorem d_lk1 : ∀ z, z < 8 → ∀ o, o < 8 → (0 ≤ nI z - nI o) = (o ≤ z) := by decide +kernel
theorem d_lk2 : ∀ z, z < 8 → ∀ o, o < 8 → ∀ S, S < 9 → (nI z - nI o) + nI S = nI (z + S) - nI o := by decide +kernel
/-- looks of the k-th, over the sets below n -/
def oC (S : Nat) (srt ow kd : Nat → Nat) (k n : Nat) : Nat := fb_sm (fun u => if kd k = 2 then dC S srt ow kd k u * lkN S (fr S u) (ow k) else 0) n
def sL (S : Nat) (srt ow kd : Nat → Nat) : Nat → Nat
  | 0 => 0
  | k + 1 => (sL S srt ow kd k + oC S srt ow kd k (2 ^ S)) * lc (S - k)
theorem lkN_le {S f o : Nat} (hS : S < 9) (hf : f < 2 ^ S) (h0 : f ≠ 0) (ho : o < S) : lkN S f o ≤ 8 := by
  have := (d_nfs S hS f hf h0 o ho).1
  unfold lkN
  split <;> omega
theorem dC_fr {S P : Nat} {srt ow kd : Nat → Nat} (hS : S < 9) (hP : P ≤ S) (ho : ∀ k, k < P → ow k < S) {k u : Nat} (hk : k < P) (hD : dC S srt ow kd k u ≠ 0) : u < 2 ^ S ∧ pc u = k ∧ fr S u < 2 ^ S ∧ fr S u ≠ 0 := by
  obtain ⟨h1, h2⟩ := dp_sup hS hP (cCh_ok hS hP ho) k (by omega) u hD
  have h3 := d_frpc S hS u h1
  refine ⟨h1, h2, (d_fr S hS u (Nat.lt_of_lt_of_le h1 (d_pw S hS))).2.1, fun e => ?_⟩
  rw [e, show pc 0 = 0 from rfl] at h3
  omega
theorem oC_le {S P : Nat} {srt ow kd : Nat → Nat} (hS : S < 9) (hP : P ≤ S) (ho : ∀ k, k < P → ow k < S) {k : Nat} (hk : k < P) : oC S srt ow kd k (2 ^ S) ≤ Aw S k * 8 := by
  rw [← dp_all (ch := cCh S srt ow kd) hS hP (cCh_ok hS hP ho) k (by omega), ← sm_mulR]
  refine fb_sm_le fun u _ => ?_
  show (if _ then dC S srt ow kd k u * lkN S (fr S u) (ow k) else 0) ≤ dC S srt ow kd k u * 8
  split
  · by_cases hD : dC S srt ow kd k u = 0
    · rw [hD, Nat.zero_mul]; exact Nat.zero_le _
    · obtain ⟨-, -, h3, h4⟩ := dC_fr hS hP ho hk hD
      exact Nat.mul_le_mul_left _ (lkN_le hS h3 h4 (ho k hk))
  · exact Nat.zero_le _
theorem sL_le {S P : Nat} {srt ow kd : Nat → Nat} (hS : S < 9) (hP : P ≤ S) (ho : ∀ k, k < P → ow k < S) : ∀ k, k ≤ P → sL S srt ow kd k ≤ 8 * k * Aw S k
  | 0, _ => Nat.zero_le _
  | k + 1, hk => by
    have h1 := sL_le (srt := srt) (kd := kd) hS hP ho k (by omega)
    have h2 := oC_le (srt := srt) (kd := kd) hS hP ho (show k < P by omega)
    show (sL S srt ow kd k + _) * lc (S - k) ≤ 8 * (k + 1) * (Aw S k * lc (S - k))
    rw [← Nat.mul_assoc]
    refine Nat.mul_le_mul_right _ ?_
    rw [Nat.mul_add, Nat.add_mul]
    omega
theorem looks_28 {S P : Nat} {srt own knd : Nat → Nat} {ms mo mk : Nat → Int32} (hM : MC S P srt own knd ms mo mk) {oh : Int32} {ks : Nat → Int32} (hks : ∀ p, p < 8 → ks p = -1) {w : Int32} {k : Nat} (hk : k < P) {wy : Nat → Int64} (hw : ∀ x, x < 2 ^ S → wy x = lN (dC S srt own knd k x)) (K : Int32 → Int32 → Int32 → Int32 → Int32 → Int32 → Int64 → (Nat → Int32) → (Nat → Int32) → (Nat → Int32) → (Nat → Int32) → (Nat → Int64) → (Nat → Int64) → Int32 → Int64 → Int32 → Option (Int64 × Int32 × Int32 × Int32 × Int64 × (Nat → Int32) × (Nat → Int64) × (Nat → Int64))) {sm : Nat} {nx : Nat → Int64} : ∀ (r i fuel : Nat), i + r = 2 ^ S → r < fuel →
    ∃ wy' nx', (∀ x, x < 2 ^ S → wy' x = lN (dC S srt own knd (k + 1) x)) ∧ p_X8_looksNow_b28 K fuel (nI S) (nI P) (-1) (-1) oh 0 (lN (Aw S k)) ms mo mk ks wy nx w (lN sm) (nI k) (lN (oC S srt own knd k i)) (nI i) = K (nI S) (nI P) (-1) (-1) oh 0 (lN (Aw S (k + 1))) ms mo mk ks wy' nx' w (lN ((sm + oC S srt own knd k (2 ^ S)) * lc (S - k))) (nI (k + 1)) := by
  obtain ⟨hS, hP, h1, h2⟩ := id hM
  obtain ⟨o1, o2, o3, o4⟩ := h2 k hk
  have hpw := d_pw S hS
  have hoS : ∀ k, k < P → own k < S := fun k hk => (h2 k hk).2.1
  intro r
  induction r with
  | zero =>
    intro i fuel hi hf
    obtain ⟨f, rfl⟩ : ∃ f, fuel = f + 1 := ⟨fuel - 1, by omega⟩
    have e : i = 2 ^ S := by omega
    obtain ⟨w1, n1, e1, e2⟩ := mc_sits hM (od := fun k => k) (fun k h => h) hk (oh := oh) (al := lN (Aw S k)) (nx := nx) hks hw
    refine ⟨w1, n1, e1, ?_⟩
    show p_X8_looksNow_b28x _ _ _ _ _ _ _ _ _ _ _ _ _ _ _ _ _ _ _ _ = _
    unfold p_X8_looksNow_b28x
    rw [d_whole S hS, b1_some]
    simp only [nI_ltw hS (show i ≤ 256 by omega)]
    rw [if_pos (by omega), e, pk_sub (by omega), d_parts _ (by omega), b1_some, nm_def, e2, b3_some, nm_def, nI_1, lN_add, lN_mul, lN_mul]
    rfl
  | succ r ih =>
    intro i fuel hi hf
    obtain ⟨f, rfl⟩ : ∃ f, fuel = f + 1 := ⟨fuel - 1, by omega⟩
    have hiS : i < 2 ^ S := by omega
    have hb : dC S srt own knd k i ≤ Aw S k := dp_bd hS hP (cCh_ok hS hP hoS) (by omega) i
    have hA := Aw_le S hS k (by omega) (by omega)
    obtain ⟨w1, n1, e1, e2⟩ := ih (i + 1) f (by omega) (by omega)
    refine ⟨w1, n1, e1, ?_⟩
    rw [← e2]
    show p_X8_looksNow_b28x _ _ _ _ _ _ _ _ _ _ _ _ _ _ _ _ _ _ _ _ = _
    unfold p_X8_looksNow_b28x p_X8_looksNow_b116 p_X8_looksNow_b121
    rw [d_whole S hS, b1_some]
    simp only [nI_ltw hS (show i ≤ 256 by omega), nm_def, nI_1, b1_some]
    rw [if_neg (by omega), inB_nI (show i < 256 by omega) (by decide), gd_true, nI_clamp (by omega), hw i hiS]
    simp only [lgc0 (show dC S srt own knd k i < 2 ^ 63 by omega), gd_true]
    have k2 : (nI (knd k) = 2) = (knd k = 2) := propext (nI_eq (b := 2) (by omega) (by decide))
    show _ = p_X8_looksNow_b28 K f _ _ _ _ _ _ _ _ _ _ _ _ _ _ _ _ (lN (oC S srt own knd k i + (if knd k = 2 then dC S srt own knd k i * lkN S (fr S i) (own k) else 0))) _
    by_cases h0 : dC S srt own knd k i = 0
    · rw [if_pos h0, h0, Nat.zero_mul]
      simp
    · rw [if_neg h0, inB_nI (show k < 8 by omega) (by decide), gd_true, nI_clamp (by omega), o3]
      simp only [k2]
      by_cases hk2 : knd k = 2
      · rw [if_pos hk2, if_pos hk2, gd_true]
        obtain ⟨-, -, f3, f4⟩ := dC_fr hS hP hoS hk h0
        have hz := (d_nfs S hS (fr S i) f3 f4 (own k) o2).1
        rw [(d_fr S hS i (by omega)).1, o1, d_nfM S hS _ f3 f4 (own k) o2, b1_some, gd_true]
        simp only [d_lk1 _ (show nfs S (fr S i) 8 (own k) < 8 by omega) _ (show own k < 8 by omega)]
        unfold lkN
        by_cases hoz : own k ≤ nfs S (fr S i) 8 (own k)
        · rw [if_pos hoz, if_pos hoz, pk_sub hoz, nI_l (by omega), lN_mul, lN_add]
        · rw [if_neg hoz, if_neg hoz, d_lk2 _ (by omega) _ (by omega) S hS, pk_sub (by omega), nI_l (by omega), lN_mul, lN_add]
      · rw [if_neg hk2, if_neg hk2]; rfl
theorem looks_13 {S P : Nat} {srt own knd : Nat → Nat} {ms mo mk : Nat → Int32} (hM : MC S P srt own knd ms mo mk) {oh : Int32} {ks : Nat → Int32} (hks : ∀ p, p < 8 → ks p = -1) {w : Nat} (hw2 : w < 2) : ∀ (r i fuel : Nat) (wy nx : Nat → Int64), i + r = P → r < fuel → (∀ x, x < 2 ^ S → wy x = lN (dC S srt own knd i x)) →
    ∃ wy' nx', p_X8_looksNow_b13 fuel (nI S) (nI P) (-1) (-1) oh 0 (lN (Aw S i)) ms mo mk ks wy nx (nI w) (lN (sL S srt own knd i)) (nI i) = some (lN (fp (sL S srt own knd P) (Aw S P) w), -1, -1, 0, lN (Aw S P), ks, wy', nx') := by
  obtain ⟨hS, hP, h1, h2⟩ := id hM
  have hpw := d_pw S hS
  intro r
  induction r with
  | zero =>
    intro i fuel wy nx hi hf hw
    obtain ⟨f, rfl⟩ : ∃ f, fuel = f + 1 := ⟨fuel - 1, by omega⟩
    have e : i = P := by omega
    subst e
    have b1' := sL_le (srt := srt) (kd := knd) hS hP (fun k hk => (h2 k hk).2.1) i (Nat.le_refl _)
    have b2' := Aw_le S hS i (by omega) (by omega)
    have b3' := (d_AV S hS i (by omega) (by omega)).2.1
    have b4' : 8 * i * Aw S i ≤ 64 * 182891520000 := Nat.mul_le_mul (by omega) b2'
    refine ⟨wy, nx, ?_⟩
    show p_X8_looksNow_b13x _ _ _ _ _ _ _ _ _ _ _ _ _ _ _ _ _ = _
    unfold p_X8_looksNow_b13x
    rw [if_pos (nI_le (Nat.le_refl _) (by omega)), v_partM (by omega) b3' (by omega) hw2, b1_some]
  | succ r ih =>
    intro i fuel wy nx hi hf hw
    obtain ⟨f, rfl⟩ : ∃ f, fuel = f + 1 := ⟨fuel - 1, by omega⟩
    obtain ⟨w1, n1, e1, e2⟩ := looks_28 hM (oh := oh) hks (w := nI w) (show i < P by omega) hw (p_X8_looksNow_b13 f) (sm := sL S srt own knd i) (nx := nx) (2 ^ S) 0 4096 (by omega) (by omega)
    obtain ⟨w2, n2, e3⟩ := ih (i + 1) f w1 n1 (by omega) (by omega) e1
    refine ⟨w2, n2, ?_⟩
    rw [← e3]
    show p_X8_looksNow_b13x _ _ _ _ _ _ _ _ _ _ _ _ _ _ _ _ _ = _
    unfold p_X8_looksNow_b13x
    rw [if_neg (nI_ge (show i < P by omega) (by omega))]
    exact e2
theorem v_looksNow {S P : Nat} {srt own knd : Nat → Nat} {ms mo mk : Nat → Int32} (hM : MC S P srt own knd ms mo mk) {w : Nat} (hw : w < 2) {lo ow oh kf : Int32} {al : Int64} {ks : Nat → Int32} {wy nx : Nat → Int64} :
    ∃ a1 a2 a3 a4 a5 a6 a7, p_X8_looksNow (nI S) (nI P) lo ow oh kf al ms mo mk ks wy nx (nI w) = some (lN (fp (sL S srt own knd P) (Aw S P) w), a1, a2, a3, a4, a5, a6, a7) := by
  obtain ⟨hS, hP, h1, h2⟩ := id hM
  obtain ⟨ks', k1, k2⟩ := v_noB (a := lo) (b := ow) (c := kf) (ks := ks)
  obtain ⟨w0, b1', b2'⟩ := v_beg (al := al) (wy := wy)
  obtain ⟨w', n', e2⟩ := looks_13 hM (oh := oh) k1 hw P 0 4096 w0 nx (by omega) (by omega) (fun x hx => b1' x (Nat.lt_of_lt_of_le hx (d_pw S hS)))
  unfold p_X8_looksNow p_X8_looksNow_b0
  rw [k2, b4_some, b2', b2_some]
  exact ⟨_, _, _, _, _, _, _, e2⟩
