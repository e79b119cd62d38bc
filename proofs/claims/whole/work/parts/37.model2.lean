/-- nothing barred -/
def dC (S : Nat) (srt ow kd : Nat → Nat) (k x : Nat) : Nat := dp (2 ^ S) S (cCh S srt ow kd) (fun _ _ => true) (fun _ => orT) k x
def nC (S : Nat) (srt ow kd : Nat → Nat) (k st : Nat) : Nat := nxS S (cCh S srt ow kd k) (lc (S - k)) (dC S srt ow kd k) st (2 ^ S)
def rC (S : Nat) (srt ow kd : Nat → Nat) : Nat → Nat
  | 0 => 0
  | k + 1 => rC S srt ow kd k * lc (S - k) + nC S srt ow kd k (ow k)
theorem nC_le {S P : Nat} {srt ow kd : Nat → Nat} (hS : S < 9) (hP : P ≤ S) (ho : ∀ k, k < P → ow k < S) {k st : Nat} (hk : k < P) : nC S srt ow kd k st ≤ Aw S (k + 1) := by
  show _ ≤ Aw S k * lc (S - k)
  rw [← dp_all (ch := cCh S srt ow kd) hS hP (cCh_ok hS hP ho) k (by omega), ← sm_mulR]
  refine fb_sm_le fun u _ => ?_
  show (if _ then dC S srt ow kd k u * (lc (S - k) / _) else 0) ≤ dC S srt ow kd k u * lc (S - k)
  split
  · exact Nat.mul_le_mul_left _ (Nat.div_le_self _ _)
  · exact Nat.zero_le _
theorem rC_le {S P : Nat} {srt ow kd : Nat → Nat} (hS : S < 9) (hP : P ≤ S) (ho : ∀ k, k < P → ow k < S) : ∀ k, k ≤ P → rC S srt ow kd k ≤ k * Aw S k
  | 0, _ => Nat.zero_le _
  | k + 1, hk => by
    have h1 := rC_le (srt := srt) (kd := kd) hS hP ho k (by omega)
    have h2 := nC_le (srt := srt) (kd := kd) (st := ow k) hS hP ho (show k < P by omega)
    show rC S srt ow kd k * lc (S - k) + _ ≤ _
    have h3 : rC S srt ow kd k * lc (S - k) ≤ k * Aw S k * lc (S - k) := Nat.mul_le_mul_right _ h1
    have h4 : k * Aw S k * lc (S - k) = k * Aw S (k + 1) := Nat.mul_assoc _ _ _
    rw [Nat.add_mul, Nat.one_mul]
    omega
theorem v_likelyOf {S P : Nat} {srt own knd : Nat → Nat} {ms mo mk : Nat → Int32} (hM : MC S P srt own knd ms mo mk) {p st w : Nat} (hp : p < P) (hst : st < S) (hw : w < 2) {lo ow oh kf : Int32} {al : Int64} {ks : Nat → Int32} {wy nx : Nat → Int64} :
    ∃ a1 a2 a3 a4 a5 a6 a7, p_X8_likelyOf (nI S) lo ow oh kf al ms mo mk ks wy nx (nI p) (nI st) (nI w) = some (lN (fp (nC S srt own knd p st) (Aw S (p + 1)) w), a1, a2, a3, a4, a5, a6, a7) := by
  obtain ⟨hS, hP, h1, h2⟩ := id hM
  obtain ⟨k1, w1, n1, -, f2, f3⟩ := v_first hM (n := p) (by omega) (lo := lo) (ow := ow) (oh := oh) (kf := kf) (al := al) (ks := ks) (wy := wy) (nx := nx)
  have e := mc_next hM (od := fun k => k) (fun k h => h) hp hst f2
  have b1' := nC_le (srt := srt) (kd := knd) (st := st) hS hP (fun k hk => (h2 k hk).2.1) hp
  have b2' := Aw_le S hS (p + 1) (by omega) (by omega)
  have b3' := (d_AV S hS (p + 1) (by omega) (by omega)).2.1
  unfold p_X8_likelyOf p_X8_likelyOf_b0
  rw [f3, b7_some, e, b1_some, pk_sub (by omega), d_parts _ (by omega), b1_some, lN_mul]
  have e2 := v_partM (a := nC S srt own knd p st) (b := Aw S (p + 1)) (w := w) (by omega) b3' (by omega) hw
  have e3 : p_X8_part (lN (nxS S (cCh S srt (fun k => own k) (fun k => knd k) p) (lc (S - p)) (dp (2 ^ S) S (cCh S srt (fun k => own k) (fun k => knd k)) (fun _ _ => true) (fun _ => orT) p) st (2 ^ S))) (lN (Aw S p * lc (S - p))) (nI w) = some (lN (fp (nC S srt own knd p st) (Aw S (p + 1)) w)) := e2
  rw [e3, b1_some]
  exact ⟨_, _, _, _, _, _, _, rfl⟩
theorem v_takenOf {S P : Nat} {srt own knd : Nat → Nat} {ms mo mk : Nat → Int32} (hM : MC S P srt own knd ms mo mk) {k x w : Nat} (hk : k ≤ P) (hx : x < 2 ^ S) (hw : w < 2) {lo ow oh kf : Int32} {al : Int64} {ks : Nat → Int32} {wy nx : Nat → Int64} :
    ∃ a1 a2 a3 a4 a5 a6 a7, p_X8_takenOf (nI S) lo ow oh kf al ms mo mk ks wy nx (nI k) (nI x) (nI w) = some (lN (fp (dC S srt own knd k x) (Aw S k) w), a1, a2, a3, a4, a5, a6, a7) := by
  obtain ⟨hS, hP, h1, h2⟩ := id hM
  obtain ⟨k1, w1, n1, -, f2, f3⟩ := v_first hM (n := k) hk (lo := lo) (ow := ow) (oh := oh) (kf := kf) (al := al) (ks := ks) (wy := wy) (nx := nx)
  have b1' : dC S srt own knd k x ≤ Aw S k := dp_bd hS hP (cCh_ok hS hP (fun k hk => (h2 k hk).2.1)) hk x
  have b2' := Aw_le S hS k (by omega) (by omega)
  have b3' := (d_AV S hS k (by omega) (by omega)).2.1
  have hx8 := Nat.lt_of_lt_of_le hx (d_pw S hS)
  unfold p_X8_takenOf p_X8_takenOf_b0
  rw [f3, b7_some, inB_nI (by omega) (by decide), gd_true, nI_clamp (by omega), f2 x hx]
  have e2 := v_partM (a := dC S srt own knd k x) (b := Aw S k) (w := w) (by omega) b3' (by omega) hw
  have e3 : p_X8_part (lN (dp (2 ^ S) S (cCh S srt own knd) (fun _ _ => true) (fun _ => orT) k x)) (lN (Aw S k)) (nI w) = some (lN (fp (dC S srt own knd k x) (Aw S k) w)) := e2
  rw [e3, b1_some]
  exact ⟨_, _, _, _, _, _, _, rfl⟩
/-- the ways by which a seat is free at last -/
def lC (S : Nat) (srt ow kd : Nat → Nat) (P st n : Nat) : Nat := fb_sm (fun u => if u.testBit st = true then 0 else dC S srt ow kd P u) n
theorem left_13 {S P : Nat} {srt own knd : Nat → Nat} {ms mo mk : Nat → Int32} (hM : MC S P srt own knd ms mo mk) {st w : Nat} (hst : st < S) (hw : w < 2) {lo ow oh kf : Int32} {ks : Nat → Int32} {wy nx : Nat → Int64} (hwy : ∀ x, x < 2 ^ S → wy x = lN (dC S srt own knd P x)) : ∀ (r i fuel : Nat), i + r = 2 ^ S → r < fuel →
    p_X8_leftOf_b13 fuel (nI S) (nI P) lo ow oh kf (lN (Aw S P)) ms mo mk ks wy nx (nI st) (nI w) (lN (lC S srt own knd P st i)) (nI i) = some (lN (fp (lC S srt own knd P st (2 ^ S)) (Aw S P) w), lo, ow, kf, lN (Aw S P), ks, wy, nx) := by
  obtain ⟨hS, hP, h1, h2⟩ := id hM
  have hpw := d_pw S hS
  have b1' : lC S srt own knd P st (2 ^ S) ≤ Aw S P := by
    refine Nat.le_trans (fb_sm_le fun u _ => ?_) (dp_le (ok := fun _ _ => true) hS hP (cCh_ok (srt := srt) (kd := knd) hS hP (fun k hk => (h2 k hk).2.1)) P (Nat.le_refl _))
    split
    · exact Nat.zero_le _
    · exact Nat.le_refl _
  have b2' := Aw_le S hS P (by omega) (by omega)
  have b3' := (d_AV S hS P (by omega) (by omega)).2.1
  intro r
  induction r with
  | zero =>
    intro i fuel hi hf
    obtain ⟨f, rfl⟩ : ∃ f, fuel = f + 1 := ⟨fuel - 1, by omega⟩
    have e : i = 2 ^ S := by omega
    show p_X8_leftOf_b13x _ _ _ _ _ _ _ _ _ _ _ _ _ _ _ _ _ _ = _
    unfold p_X8_leftOf_b13x
    rw [d_whole S hS, b1_some]
    simp only [nI_ltw hS (show i ≤ 256 by omega)]
    rw [if_pos (by omega), e, v_partM (by omega) b3' (by omega) hw, b1_some]
  | succ r ih =>
    intro i fuel hi hf
    obtain ⟨f, rfl⟩ : ∃ f, fuel = f + 1 := ⟨fuel - 1, by omega⟩
    rw [← ih (i + 1) f (by omega) (by omega)]
    show p_X8_leftOf_b13x _ _ _ _ _ _ _ _ _ _ _ _ _ _ _ _ _ _ = _
    unfold p_X8_leftOf_b13x p_X8_leftOf_b43
    rw [d_whole S hS, b1_some]
    simp only [nI_ltw hS (show i ≤ 256 by omega), nm_def, nI_1]
    rw [if_neg (by omega), d_isIn i (by omega) st (by omega), b1_some]
    simp only [nIb0]
    rw [inB_nI (by omega) (by decide), gd_true, nI_clamp (by omega), hwy i (by omega), LL0, lN_add, lN_add]
    show _ = p_X8_leftOf_b13 f _ _ _ _ _ _ _ _ _ _ _ _ _ _ _ (lN (lC S srt own knd P st i + (if i.testBit st = true then 0 else dC S srt own knd P i))) _
    by_cases hb : i.testBit st = false
    · rw [if_pos hb, if_neg (by rw [hb]; decide)]
    · rw [if_neg hb, if_pos (by simpa using hb)]
theorem v_leftOf {S P : Nat} {srt own knd : Nat → Nat} {ms mo mk : Nat → Int32} (hM : MC S P srt own knd ms mo mk) {st w : Nat} (hst : st < S) (hw : w < 2) {lo ow oh kf : Int32} {al : Int64} {ks : Nat → Int32} {wy nx : Nat → Int64} :
    ∃ a1 a2 a3 a4 a5 a6 a7, p_X8_leftOf (nI S) (nI P) lo ow oh kf al ms mo mk ks wy nx (nI st) (nI w) = some (lN (fp (lC S srt own knd P st (2 ^ S)) (Aw S P) w), a1, a2, a3, a4, a5, a6, a7) := by
  obtain ⟨hS, hP, h1, h2⟩ := id hM
  have hpw := d_pw S hS
  obtain ⟨k1, w1, n1, -, f2, f3⟩ := v_first hM (n := P) (Nat.le_refl _) (lo := lo) (ow := ow) (oh := oh) (kf := kf) (al := al) (ks := ks) (wy := wy) (nx := nx)
  unfold p_X8_leftOf p_X8_leftOf_b0
  rw [f3, b7_some]
  exact ⟨_, _, _, _, _, _, _, left_13 hM hst hw f2 (2 ^ S) 0 4096 (by omega) (by omega)⟩
theorem right_13 {S P : Nat} {srt own knd : Nat → Nat} {ms mo mk : Nat → Int32} (hM : MC S P srt own knd ms mo mk) {od : Nat → Nat} (hod : ∀ k, k < P → od k < P) {oh : Int32} {ks ordr : Nat → Int32} (hks : ∀ p, p < 8 → ks p = -1) (hor : ∀ k, k < P → ordr k = nI (od k)) : ∀ (r i fuel : Nat) (wy nx : Nat → Int64), i + r = P → r < fuel → (∀ x, x < 2 ^ S → wy x = lN (dC S srt (fun k => own (od k)) (fun k => knd (od k)) i x)) →
    ∃ wy' nx', p_X8_rightByOrder_b13 fuel (nI S) (-1) (-1) oh 0 (lN (Aw S i)) ms mo mk ks ordr wy nx (nI P) (lN (rC S srt (fun k => own (od k)) (fun k => knd (od k)) i)) (nI i) = some (lN (rC S srt (fun k => own (od k)) (fun k => knd (od k)) P), -1, -1, 0, lN (Aw S P), ks, wy', nx') := by
  obtain ⟨hS, hP, h1, h2⟩ := id hM
  intro r
  induction r with
  | zero =>
    intro i fuel wy nx hi hf hw
    obtain ⟨f, rfl⟩ : ∃ f, fuel = f + 1 := ⟨fuel - 1, by omega⟩
    have e : i = P := by omega
    subst e
    refine ⟨wy, nx, ?_⟩
    show p_X8_rightByOrder_b13x _ _ _ _ _ _ _ _ _ _ _ _ _ _ _ _ _ = _
    unfold p_X8_rightByOrder_b13x
    rw [if_pos (nI_le (Nat.le_refl _) (by omega))]
  | succ r ih =>
    intro i fuel wy nx hi hf hw
    obtain ⟨f, rfl⟩ : ∃ f, fuel = f + 1 := ⟨fuel - 1, by omega⟩
    have hiP : i < P := by omega
    have hoi := hod i hiP
    obtain ⟨o1, o2, o3, o4⟩ := h2 (od i) hoi
    obtain ⟨w1, n1, e1, e2⟩ := mc_sits hM hod hiP (oh := oh) (al := lN (Aw S i)) (nx := nx) hks hw
    have e5 := mc_next hM hod hiP o2 hw
    obtain ⟨w2, n2, e4⟩ := ih (i + 1) f w1 n1 (by omega) (by omega) e1
    refine ⟨w2, n2, ?_⟩
    rw [← e4]
    show p_X8_rightByOrder_b13x _ _ _ _ _ _ _ _ _ _ _ _ _ _ _ _ _ = _
    unfold p_X8_rightByOrder_b13x
    rw [if_neg (nI_ge (show i < P by omega) (by omega)), inB_nI (by omega) (by decide), gd_true, nI_clamp (by omega), hor i hiP, nm_def, pk_sub (by omega), d_parts _ (by omega), b1_some, inB_nI (by omega) (by decide), gd_true, nI_clamp (by omega), o1, e5, b1_some, nm_def, e2, b3_some, nm_def, nI_1, lN_mul, lN_mul, lN_add]
    rfl
theorem v_right {S P : Nat} {srt own knd : Nat → Nat} {ms mo mk : Nat → Int32} (hM : MC S P srt own knd ms mo mk) {od : Nat → Nat} (hod : ∀ k, k < P → od k < P) {ordr : Nat → Int32} (hor : ∀ k, k < P → ordr k = nI (od k)) {lo ow oh kf : Int32} {al : Int64} {ks : Nat → Int32} {wy nx : Nat → Int64} :
    ∃ ks' wy' nx', p_X8_rightByOrder (nI S) lo ow oh kf al ms mo mk ks ordr wy nx (nI P) = some (lN (rC S srt (fun k => own (od k)) (fun k => knd (od k)) P), -1, -1, 0, lN (Aw S P), ks', wy', nx') := by
  obtain ⟨hS, hP, h1, h2⟩ := id hM
  obtain ⟨ks', k1, k2⟩ := v_noB (a := lo) (b := ow) (c := kf) (ks := ks)
  obtain ⟨w0, b1', b2'⟩ := v_beg (al := al) (wy := wy)
  obtain ⟨w', n', e2⟩ := right_13 hM hod (oh := oh) k1 hor P 0 4096 w0 nx (by omega) (by omega) (fun x hx => b1' x (Nat.lt_of_lt_of_le hx (d_pw S hS)))
  refine ⟨ks', w', n', ?_⟩
  unfold p_X8_rightByOrder p_X8_rightByOrder_b0
  rw [k2, b4_some, b2', b2_some]
  exact e2
theorem asC_2 {P : Nat} (hP : P < 9) : ∀ (r i fuel : Nat) (o : Nat → Int32), i + r = P → r < fuel → (∀ k, k < i → o k = nI k) → ∃ o', (∀ k, k < P → o' k = nI k) ∧ p_X8_asTheyCome_b2 fuel (nI P) o (nI i) = some o' := by
  intro r
  induction r with
  | zero =>
    intro i fuel o hi hf hk
    obtain ⟨f, rfl⟩ : ∃ f, fuel = f + 1 := ⟨fuel - 1, by omega⟩
    have e : i = P := by omega
    subst e
    refine ⟨o, hk, ?_⟩
    show p_X8_asTheyCome_b2x _ _ _ _ = _
    unfold p_X8_asTheyCome_b2x
    rw [if_pos (nI_le (Nat.le_refl _) (by omega))]
  | succ r ih =>
    intro i fuel o hi hf hk
    obtain ⟨f, rfl⟩ : ∃ f, fuel = f + 1 := ⟨fuel - 1, by omega⟩
    obtain ⟨o', h1, h2⟩ := ih (i + 1) f (upd o i (nI i)) (by omega) (by omega) (fun p hp => by
      rw [upd_at]
      by_cases e : p = i
      · rw [if_pos e, e]
      · rw [if_neg e]; exact hk p (by omega))
    refine ⟨o', h1, ?_⟩
    rw [← h2]
    show p_X8_asTheyCome_b2x _ _ _ _ = _
    unfold p_X8_asTheyCome_b2x
    rw [if_neg (nI_ge (show i < P by omega) (by omega)), inB_nI (by omega) (by decide), gd_true, nm_def, nm_def, nI_clamp (by omega), nI_1]
theorem v_asC {P : Nat} (hP : P < 9) {o : Nat → Int32} : ∃ o', (∀ k, k < P → o' k = nI k) ∧ p_X8_asTheyCome (nI P) o = some o' := asC_2 hP P 0 4096 o (by omega) (by omega) (fun k h => absurd h (by omega))
theorem v_meanOf {S P : Nat} {srt own knd : Nat → Nat} {ms mo mk : Nat → Int32} (hM : MC S P srt own knd ms mo mk) {w : Nat} (hw : w < 2) {ordr : Nat → Int32} {lo ow oh kf : Int32} {al : Int64} {ks : Nat → Int32} {wy nx : Nat → Int64} :
    ∃ a1 a2 a3 a4 a5 a6 a7 a8, p_X8_meanOf (nI S) (nI P) lo ow oh kf al ms mo mk ks ordr wy nx (nI w) = some (lN (fp (P * Aw S P - rC S srt own knd P) (Aw S P) w), a1, a2, a3, a4, a5, a6, a7, a8) := by
  obtain ⟨hS, hP, h1, h2⟩ := id hM
  obtain ⟨o', q1, q2⟩ := v_asC (P := P) (by omega) (o := ordr)
  obtain ⟨k1, w1, n1, e⟩ := v_right hM (od := fun k => k) (fun k h => h) q1 (lo := lo) (ow := ow) (oh := oh) (kf := kf) (al := al) (ks := ks) (wy := wy) (nx := nx)
  have b1' := rC_le (srt := srt) (kd := knd) hS hP (fun k hk => (h2 k hk).2.1) P (Nat.le_refl _)
  have b2' := Aw_le S hS P (by omega) (by omega)
  have b3' := (d_AV S hS P (by omega) (by omega)).2.1
  have b4' : P * Aw S P ≤ 8 * 182891520000 := Nat.mul_le_mul (by omega) b2'
  unfold p_X8_meanOf p_X8_meanOf_b0
  rw [q2, b1_some, e, b8_some, nI_l (by omega), lN_mul, lN_sub b1', v_partM (by omega) b3' (by omega) hw, b1_some]
  exact ⟨_, _, _, _, _, _, _, _, rfl⟩
