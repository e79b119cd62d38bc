/-! the model's seenWith -/
def kdL (kd : Nat → Nat) (l : Nat) : Nat → Nat := fun p => if p = l then 1 else kd p
def okA (S P : Nat) (sw sl : Nat → Int32) (n k t : Nat) : Bool := (alS S P sw sl n k).testBit t
def okW (S P : Nat) (sw sl : Nat → Int32) (n : Nat) (ow oh : Int32) (k t : Nat) : Bool := (alS S P sw sl n k).testBit t && (decide (ow ≠ nI k) || decide (oh = nI t))
def VW (S P : Nat) (srt own kd : Nat → Nat) (sw sl : Nat → Int32) (n l : Nat) (ow oh : Int32) : Nat := fb_sm (dp (2 ^ S) S (cCh S srt own (kdL kd l)) (okW S P sw sl n ow oh) (fun _ => orT) P) (2 ^ S)
theorem kdL_lt {kd : Nat → Nat} {l P : Nat} (h : ∀ k, k < P → kd k < 4) {k : Nat} (hk : k < P) : kdL kd l k < 4 := by
  unfold kdL
  split
  · omega
  · exact h k hk
theorem v_kindL {mk : Nat → Int32} {kd : Nat → Nat} {p l : Nat} (hp : p < 8) (hl : l < 8) (h : mk p = nI (kd p)) : p_X8_kindNow (nI l) mk (nI p) = some (nI (kdL kd l p)) := by
  unfold p_X8_kindNow p_X8_kindNow_b0 p_X8_kindNow_b18 kdL
  have e : (nI p = nI l) = (p = l) := propext (nI_eq (by omega) (by omega))
  simp only [e]
  by_cases q : p = l
  · rw [if_pos q, if_pos q]; rfl
  · rw [if_neg q, if_neg q, inB_nI hp (by decide), gd_true, nI_clamp (by omega), h]
theorem sw_60 {S P n : Nat} {srt own kd : Nat → Nat} {ms mo mk : Nat → Int32} (hM : MC S P srt own kd ms mo mk) (hn : n ≤ 8) {sw sl : Nat → Int32} (hsg : ∀ i, i < n → (∃ q : Nat, q < 8 ∧ sl i = nI q) ∧ (sw i = -1 ∨ ∃ p : Nat, p < 8 ∧ sw i = nI p)) {lo ow oh kf : Int32} {al : Int64} {ks : Nat → Int32} {wy nx : Nat → Int64} {D : Nat → Nat} (hD : ∀ x, x < 2 ^ S → wy x = lN (D x)) : ∀ (r i fuel : Nat), i + r = 2 ^ S → r < fuel → p_X8_seenWith_b60 fuel (nI S) (nI P) lo ow oh kf (nI n) al ms mo mk ks sw sl wy nx (lN (fb_sm D i)) (nI i) = some (lN (fb_sm D (2 ^ S)), lo, ow, oh, kf, al, ks, wy, nx) := by
  have hS := hM.1
  have hpw := d_pw S hS
  intro r
  induction r with
  | zero =>
    intro i fuel hi hf
    obtain ⟨f, rfl⟩ : ∃ f, fuel = f + 1 := ⟨fuel - 1, by omega⟩
    show p_X8_seenWith_b60x _ _ _ _ _ _ _ _ _ _ _ _ _ _ _ _ _ _ _ = _
    unfold p_X8_seenWith_b60x
    rw [d_whole S hS, b1_some]
    simp only [nI_ltw hS (show i ≤ 256 by omega)]
    rw [if_pos (by omega), show i = 2 ^ S by omega]
  | succ r ih =>
    intro i fuel hi hf
    obtain ⟨f, rfl⟩ : ∃ f, fuel = f + 1 := ⟨fuel - 1, by omega⟩
    rw [← ih (i + 1) f (by omega) (by omega)]
    show p_X8_seenWith_b60x _ _ _ _ _ _ _ _ _ _ _ _ _ _ _ _ _ _ _ = _
    unfold p_X8_seenWith_b60x
    rw [d_whole S hS, b1_some]
    simp only [nI_ltw hS (show i ≤ 256 by omega)]
    rw [if_neg (by omega), inB_nI (by omega) (by decide), gd_true, nm_def, nm_def, nI_clamp (by omega), nI_1, hD i (by omega), lN_add]
    rfl
theorem sw_31 {S P n : Nat} {srt own kd : Nat → Nat} {ms mo mk : Nat → Int32} (hM : MC S P srt own kd ms mo mk) (hn : n ≤ 8) {sw sl : Nat → Int32} (hsg : ∀ i, i < n → (∃ q : Nat, q < 8 ∧ sl i = nI q) ∧ (sw i = -1 ∨ ∃ p : Nat, p < 8 ∧ sw i = nI p)) {l kf : Nat} (hl : l < P) {ow oh : Int32} {ks : Nat → Int32} (hMB : MB S P sw sl n kf ks) : ∀ (r i fuel : Nat) (al : Int64) (wy nx : Nat → Int64), i + r = P → r < fuel → (∀ x, x < 2 ^ S → wy x = lN (dp (2 ^ S) S (cCh S srt own (kdL kd l)) (okW S P sw sl n ow oh) (fun _ => orT) i x)) →
    ∃ (al' : Int64) (wy' nx' : Nat → Int64), p_X8_seenWith_b31 fuel (nI S) (nI P) (nI l) ow oh (nI kf) (nI n) al ms mo mk ks sw sl wy nx (nI i) = some (lN (VW S P srt own kd sw sl n l ow oh), nI l, ow, oh, nI kf, al', ks, wy', nx') := by
  obtain ⟨hS, hP, h1, h2⟩ := id hM
  have hpw := d_pw S hS
  have hoc : okCh S P (cCh S srt own (kdL kd l)) := cCh_ok hS hP (fun k hk => (h2 k hk).2.1)
  intro r
  induction r with
  | zero =>
    intro i fuel al wy nx hi hf hw
    obtain ⟨f, rfl⟩ : ∃ f, fuel = f + 1 := ⟨fuel - 1, by omega⟩
    have e : i = P := by omega
    subst e
    refine ⟨al, wy, nx, ?_⟩
    show p_X8_seenWith_b31x _ _ _ _ _ _ _ _ _ _ _ _ _ _ _ _ _ _ = _
    unfold p_X8_seenWith_b31x
    rw [if_pos (nI_le (Nat.le_refl _) (by omega))]
    exact sw_60 hM hn hsg hw (2 ^ S) 0 4096 (by omega) (by omega)
  | succ r ih =>
    intro i fuel al wy nx hi hf hw
    obtain ⟨f, rfl⟩ : ∃ f, fuel = f + 1 := ⟨fuel - 1, by omega⟩
    have hk : i < P := by omega
    obtain ⟨o1, o2, o3, o4⟩ := h2 i hk
    have hlc := (d_lcdvd (S - i) (by omega) 1 (by omega) ⟨by omega, by omega⟩).2
    obtain ⟨w', n', e1, e2⟩ := v_sits (lo := nI l) (ow := ow) (oh := oh) (kf := nI kf) (al := al) (ms := ms) (mo := mo) (mk := mk) (ks := ks) (wy := wy) (p := i) (pt := lc (S - i)) (D := dp (2 ^ S) S (cCh S srt own (kdL kd l)) (okW S P sw sl n ow oh) (fun _ => orT) i) (c := cCh S srt own (kdL kd l) i) (okb := okW S P sw sl n ow oh i) (k := i) (nx := nx) hS
      (fun u hu => ⟨hw u hu, by
        have := dp_bd (ok := okW S P sw sl n ow oh) hS hP hoc (show i ≤ P by omega) u
        have := Aw_le S hS i (by omega) (by omega)
        omega⟩) hlc (fun u hu hD => by
        obtain ⟨-, hpu⟩ := dp_sup hS hP hoc i (by omega) u hD
        obtain ⟨c1, -, c3, c4⟩ := hoc i u hk hu hpu
        exact ⟨⟨nI (kdL kd l i), v_kindL (by omega) (by omega) o3, v_chM' hM hk (kdL_lt (fun k hk => (h2 k hk).2.2.2) hk) hu (by omega)⟩, c1, c3, by omega⟩) (fun s hs => by
        rw [v_mayB (S := S) hMB.1 (by omega) (by omega)]
        unfold okW
        rw [hMB.2.2 i (by omega) s hs]) (by omega) rfl
    obtain ⟨al2, w2, n2, e4⟩ := ih (i + 1) f _ w' n' (by omega) (by omega) e1
    refine ⟨al2, w2, n2, ?_⟩
    rw [← e4]
    show p_X8_seenWith_b31x _ _ _ _ _ _ _ _ _ _ _ _ _ _ _ _ _ _ = _
    unfold p_X8_seenWith_b31x
    rw [if_neg (nI_ge hk (by omega)), e2, b3_some, nm_def, nI_1]
theorem v_seenW {S P n : Nat} {srt own kd : Nat → Nat} {ms mo mk : Nat → Int32} (hM : MC S P srt own kd ms mo mk) (hn : n ≤ 8) {sw sl : Nat → Int32} (hsg : ∀ i, i < n → (∃ q : Nat, q < 8 ∧ sl i = nI q) ∧ (sw i = -1 ∨ ∃ p : Nat, p < 8 ∧ sw i = nI p)) {l : Nat} (hl : l < P) (ow oh : Int32) (lo w0 h0 kf : Int32) (al : Int64) (ks : Nat → Int32) (wy nx : Nat → Int64) :
    ∃ (a1 a2 a3 a4 : Int32) (a5 : Int64) (a6 : Nat → Int32) (a7 a8 : Nat → Int64), p_X8_seenWith (nI S) (nI P) lo w0 h0 kf (nI n) al ms mo mk ks sw sl wy nx (nI l) ow oh = some (lN (VW S P srt own kd sw sl n l ow oh), a1, a2, a3, a4, a5, a6, a7, a8) := by
  obtain ⟨hS, hP, h1, h2⟩ := id hM
  have hpw := d_pw S hS
  unfold p_X8_seenWith p_X8_seenWith_b0
  rcases v_lays hS hP hn hsg (by omega) lo w0 kf ks with ⟨kf', ks', hMB, e⟩ | ⟨kf', ks', p, hp, hz, e⟩
  · obtain ⟨wb, b1', b2'⟩ := v_beg (al := al) (wy := wy)
    rw [e, b5_some, if_neg (by decide), b2', b2_some]
    obtain ⟨al', wy', nx', e2⟩ := sw_31 hM hn hsg hl (ow := ow) (oh := oh) hMB P 0 4096 (lN 1) wb nx (by omega) (by omega) (fun x hx => b1' x (by omega))
    exact ⟨_, _, _, _, _, _, _, _, e2⟩
  · rw [e, b5_some, if_pos rfl]
    have hv : VW S P srt own kd sw sl n l ow oh = 0 := by
      unfold VW
      refine sm_zero' fun x _ => dp_dead (p := p) (fun s _ => ?_) P hp x
      unfold okW
      rw [hz, Nat.zero_testBit, Bool.false_and]
    rw [hv]
    exact ⟨_, _, _, _, _, _, _, _, rfl⟩
def VL (S P : Nat) (srt own kd : Nat → Nat) (sw sl : Nat → Int32) (n l : Nat) : Nat := fb_sm (dp (2 ^ S) S (cCh S srt own (kdL kd l)) (okA S P sw sl n) (fun _ => orT) P) (2 ^ S)
def AN (S P : Nat) (srt own kd : Nat → Nat) (sw sl : Nat → Int32) (n l k s : Nat) : Prop := anK S P (cCh S srt own (kdL kd l)) (okA S P sw sl n) k s
theorem VW_none {S P n l : Nat} {srt own kd : Nat → Nat} {sw sl : Nat → Int32} (hP : P ≤ 8) {oh : Int32} : VW S P srt own kd sw sl n l (-1) oh = VL S P srt own kd sw sl n l := by
  unfold VW VL
  refine sm_congr fun x _ => dp_congr P (fun _ _ _ _ _ => rfl) (fun j hj s _ => ?_) x
  unfold okW okA
  rw [decide_eq_true (show (-1 : Int32) ≠ nI j from fun z => nI_m1 (by omega) z.symm), Bool.true_or, Bool.and_true]
theorem VW_on {S P n l p s : Nat} {srt own kd : Nat → Nat} {sw sl : Nat → Int32} (hS : S < 9) (hP : P ≤ S) (ho : ∀ k, k < P → own k < S) (hp : p < P) (hs : s < S) : VW S P srt own kd sw sl n l (nI p) (nI s) ≠ 0 ↔ AN S P srt own kd sw sl n l p s := by
  unfold AN
  rw [← an_on hS hP (cCh_ok hS hP ho) hp hs]
  have e : VW S P srt own kd sw sl n l (nI p) (nI s) = fb_sm (dp (2 ^ S) S (cCh S srt own (kdL kd l)) (onK (okA S P sw sl n) p s) (fun _ => orT) P) (2 ^ S) := by
    unfold VW
    refine sm_congr fun x _ => dp_congr P (fun _ _ _ _ _ => rfl) (fun j hj t ht => ?_) x
    unfold okW onK okA
    have e1 : decide (nI p ≠ nI j) = decide (j ≠ p) := by
      by_cases w : j = p
      · rw [w, decide_eq_false (fun z => z rfl), decide_eq_false (fun z => z rfl)]
      · rw [decide_eq_true w, decide_eq_true (show nI p ≠ nI j from fun z => w (nI_inj z (by omega) (by omega)).symm)]
    have e2 : decide (nI s = nI t) = decide (t = s) := by
      by_cases w : t = s
      · rw [w, decide_eq_true rfl, decide_eq_true rfl]
      · rw [decide_eq_false w, decide_eq_false (fun z => w (nI_inj z (by omega) (by omega)).symm)]
    rw [e1, e2]
  rw [e]
theorem VW_le {S P n l : Nat} {srt own kd : Nat → Nat} {sw sl : Nat → Int32} (hS : S < 9) (hP : P ≤ S) (ho : ∀ k, k < P → own k < S) {ow oh : Int32} : VW S P srt own kd sw sl n l ow oh ≤ Aw S P := dp_le hS hP (cCh_ok hS hP ho) P (Nat.le_refl _)
theorem VL_le {S P n l : Nat} {srt own kd : Nat → Nat} {sw sl : Nat → Int32} (hS : S < 9) (hP : P ≤ S) (ho : ∀ k, k < P → own k < S) : VL S P srt own kd sw sl n l ≤ Aw S P := dp_le hS hP (cCh_ok hS hP ho) P (Nat.le_refl _)
