/-! the class: one after the other of the plain ones -/
theorem v_susp {S P n : Nat} {srt own kd : Nat → Nat} {Hs Hb Ho Hk : Nat → Int32} (hH : HC S P srt own kd Hs Hb Ho Hk) {sw sl : Nat → Int32} {wa : Nat → Int32} (hwa : ∀ p, p < 8 → wa p = nI (alS S P sw sl n p)) {l : Nat} (hl : l < P) (su T : Nat) (wk wn : Nat → Int32) (ww re : Nat → Int64) (hz : ∀ k, k < P → wn (8 * l + k) = 0) :
    ∃ (wk' wn' : Nat → Int32) (re' : Nat → Int64), (∀ z, z / 8 ≠ l → wn' z = wn z) ∧ (∀ k, k < P → ∃ a, a < 256 ∧ wn' (8 * l + k) = nI a ∧ ∀ s, s < S → (a.testBit s = true ↔ VL S P srt own kd sw sl n l ≠ 0 ∧ AN S P srt own kd sw sl n l k s)) ∧
      p_X6_suspect (nI S) (nI P) (nI su) (lN T) Hs Hb Ho Hk wa wk wn ww re (nI l) = some (nI (su ||| (if VL S P srt own kd sw sl n l = 0 then 0 else 2 ^ l)), lN (T + VL S P srt own kd sw sl n l * Vw S P), wk', wn', vp_updL ww l (lN (VL S P srt own kd sw sl n l * Vw S P)), re') := by
  obtain ⟨hS, hP, h1, h2⟩ := id hH
  have hpw := d_pw S hS
  have ho : ∀ k, k < P → own k < S := fun k hk => (h2 k hk).2.1
  have hoc : okCh S P (cCh S srt own (kdL kd l)) := cCh_ok hS hP ho
  have hAV := d_AV S hS P (by omega) (by omega)
  have hVL : VL S P srt own kd sw sl n l * Vw S P ≤ UN := by rw [← hAV.1]; exact Nat.mul_le_mul_right _ (VL_le hS hP ho)
  have hU := UN_lt
  have hwk : ∀ p, p < P → upd (va_cpy Hk wk (0 : Int32).toNatClampNeg (0 : Int32).toNatClampNeg (8 : Int32).toNatClampNeg) l 1 p = nI (kdL kd l p) := fun p hp => by
    rw [upd_at]
    unfold kdL
    by_cases e : p = l
    · rw [if_pos e, if_pos e]; rfl
    · rw [if_neg e, if_neg e, pk_cpy_in (show (0 : Int32).toNatClampNeg ≤ p from Nat.zero_le _) (show p < (0 : Int32).toNatClampNeg + (8 : Int32).toNatClampNeg from by show p < 0 + 8; omega)]
      have e0 : (0 : Int32).toNatClampNeg + (p - (0 : Int32).toNatClampNeg) = p := by show 0 + (p - 0) = p; omega
      rw [e0, (h2 p hp).2.2.1]
  obtain ⟨re1, r1, r2⟩ := v_walkF hH hwa hwk re
  have r3 : p_X6_weightAtLast (nI S) (nI P) re1 = some (lN (VL S P srt own kd sw sl n l * Vw S P)) := v_weight hS hP hoc r1
  have e0 : (VL S P srt own kd sw sl n l * Vw S P = 0) = (VL S P srt own kd sw sl n l = 0) := propext ⟨fun z => by
    rcases Nat.mul_eq_zero.mp z with z | z
    · exact z
    · omega, fun z => by rw [z, Nat.zero_mul]⟩
  unfold p_X6_suspect p_X6_suspect_b0 p_X6_suspect_b82
  rw [show cpB 0 0 8 8 8 = true from by decide, gd_true, nm_def, inB_nI (show l < 8 by omega) (by decide), gd_true, nm_def, nI_clamp (by omega), r2, b1_some, r3, b1_some, gd_true, nm_def, gd_true, nm_def, gd_true, pk_uLs, lN_add]
  simp only [lgc1 (show VL S P srt own kd sw sl n l * Vw S P < 2 ^ 63 by omega), e0]
  by_cases h0 : VL S P srt own kd sw sl n l = 0
  · rw [if_pos h0, if_pos h0, Nat.or_zero]
    refine ⟨_, wn, _, fun _ _ => rfl, fun k hk => ⟨0, by decide, hz k hk, fun s _ => ?_⟩, rfl⟩
    rw [Nat.zero_testBit]
    exact ⟨fun q => (by cases q), fun q => absurd h0 q.1⟩
  · rw [if_neg h0, if_neg h0, nm_def, d_sh l (by omega), fa_or]
    obtain ⟨re', wn', y', a', k1, k2, k3, k4⟩ := wb_8 hH hwa hwk hl (2 ^ S) (2 ^ S) 4096 re1 wn (Xc S P (cCh S srt own (kdL kd l)) (okA S P sw sl n)) (fun _ => 0) rfl (Nat.le_refl _) (by omega) r1 (fun k hk => hz k hk) ⟨fun x hx => ⟨X_le hS hP hoc x, fun _ => rfl, fun q => absurd q (by omega)⟩, fun k hk => ⟨(by decide : 0 < 256), fun s hs => by
      show (0 : Nat).testBit s = true ↔ _
      rw [Nat.zero_testBit]
      exact ⟨fun q => (by cases q), fun ⟨u, u1, u2, _⟩ => absurd u1 (by omega)⟩⟩⟩
    have k4' : p_X6_walkBackward (nI S) (nI P) Hs Hb Ho wa (upd (va_cpy Hk wk (0 : Int32).toNatClampNeg (0 : Int32).toNatClampNeg (8 : Int32).toNatClampNeg) l 1) wn re1 (nI l) = some (wn', re') := by
      unfold p_X6_walkBackward p_X6_walkBackward_b0
      rw [d_all S hS, b1_some]
      have : nI (2 ^ S) + (-1) = nI (2 ^ S - 1) := by
        obtain ⟨m, hm⟩ : ∃ m, 2 ^ S = m + 1 := ⟨2 ^ S - 1, by have : 0 < 2 ^ S := Nat.pow_pos (by decide); omega⟩
        rw [hm, pk_m1]
        rfl
      rw [← this]
      exact k4
    rw [k4', b2_some]
    refine ⟨_, wn', _, k2, fun k hk => ⟨a' k, (k3.2 k hk).1, k1 k hk, fun s hs => ?_⟩, rfl⟩
    rw [(k3.2 k hk).2 s hs]
    constructor
    · rintro ⟨u, -, u2, u3, u4, u5⟩
      exact ⟨h0, u, u2, (Xc_dp hS hP (by omega) u3).mp u4, u5⟩
    · rintro ⟨-, u, u2, u4, u5⟩
      have u3 := (dp_sup hS hP hoc k (by omega) u u4).2
      exact ⟨u, Nat.zero_le _, u2, u3, (Xc_dp hS hP (by omega) u3).mpr u4, u5⟩
def WV (S P : Nat) (srt own kd : Nat → Nat) (sw sl : Nat → Int32) (n : Nat) (su : Int32) (tot : Int64) (wn : Nat → Int32) (ww : Nat → Int64) : Prop :=
  su = nI (susN (vvN S P srt own kd sw sl n) P) ∧ tot = lN (fb_sm (vvN S P srt own kd sw sl n) P * Vw S P) ∧ (∀ l, l < P → ww l = lN ((vvN S P srt own kd sw sl n) l * Vw S P)) ∧ ∀ l k, l < P → k < P → ∃ a, a < 256 ∧ wn (8 * l + k) = nI a ∧ ∀ s, s < S → (a.testBit s = true ↔ (vvN S P srt own kd sw sl n) l ≠ 0 ∧ AN S P srt own kd sw sl n l k s)
theorem rf_40 {S P n : Nat} {srt own kd : Nat → Nat} {Hs Hb Ho Hk : Nat → Int32} (hH : HC S P srt own kd Hs Hb Ho Hk) {sw sl : Nat → Int32} {wa : Nat → Int32} (hwa : ∀ p, p < 8 → wa p = nI (alS S P sw sl n p)) {sz : Int32} {wp wl : Nat → Int32} : ∀ (r i fuel : Nat) (wk wn : Nat → Int32) (ww re : Nat → Int64), i + r = P → r < fuel →
    (∀ l, l < P → ww l = lN (if l < i then (vvN S P srt own kd sw sl n) l * Vw S P else 0)) → (∀ l k, l < P → k < P → (i ≤ l → wn (8 * l + k) = 0) ∧ (l < i → ∃ a, a < 256 ∧ wn (8 * l + k) = nI a ∧ ∀ s, s < S → (a.testBit s = true ↔ (vvN S P srt own kd sw sl n) l ≠ 0 ∧ AN S P srt own kd sw sl n l k s))) →
    ∃ (su : Int32) (tot : Int64) (wk' wn' : Nat → Int32) (ww' re' : Nat → Int64), WV S P srt own kd sw sl n su tot wn' ww' ∧ p_X6_refresh_b40 fuel (nI S) (nI P) sz (nI (susN (vvN S P srt own kd sw sl n) i)) 0 (lN (fb_sm (vvN S P srt own kd sw sl n) i * Vw S P)) Hs Hb Ho Hk wp wl wa wk wn ww re (nI i) = some (su, 1, tot, wa, wk', wn', ww', re') := by
  obtain ⟨hS, hP, h1, h2⟩ := id hH
  intro r
  induction r with
  | zero =>
    intro i fuel wk wn ww re hi hf hw ha
    obtain ⟨f, rfl⟩ : ∃ f, fuel = f + 1 := ⟨fuel - 1, by omega⟩
    have e : i = P := by omega
    subst e
    refine ⟨_, _, wk, wn, ww, re, ⟨rfl, rfl, fun l hl => by rw [hw l hl, if_pos hl], fun l k hl hk => (ha l k hl hk).2 hl⟩, ?_⟩
    show p_X6_refresh_b40x _ _ _ _ _ _ _ _ _ _ _ _ _ _ _ _ _ _ _ = _
    unfold p_X6_refresh_b40x
    rw [if_pos (nI_le (Nat.le_refl _) (by omega))]
  | succ r ih =>
    intro i fuel wk wn ww re hi hf hw ha
    obtain ⟨f, rfl⟩ : ∃ f, fuel = f + 1 := ⟨fuel - 1, by omega⟩
    have hiP : i < P := by omega
    obtain ⟨o1, o2, o3, o4⟩ := h2 i hiP
    have hz : (nI (kd i) = 0) = (kd i = 0) := propext (nI_eq (b := 0) (by omega) (by decide))
    show ∃ (su : Int32) (tot : Int64) (wk' wn' : Nat → Int32) (ww' re' : Nat → Int64), _ ∧ p_X6_refresh_b40x _ _ _ _ _ _ _ _ _ _ _ _ _ _ _ _ _ _ _ = _
    unfold p_X6_refresh_b40x p_X6_refresh_b68
    rw [if_neg (nI_ge hiP (by omega)), inB_nI (show i < 8 by omega) (by decide), gd_true, nI_clamp (by omega), o3]
    simp only [hz]
    by_cases hk : kd i = 0
    · have hv : (vvN S P srt own kd sw sl n) i = VL S P srt own kd sw sl n i := by unfold vvN; rw [if_pos hk]
      obtain ⟨wk', wn', re', g1, g2, g3⟩ := v_susp hH hwa hiP (susN (vvN S P srt own kd sw sl n) i) (fb_sm (vvN S P srt own kd sw sl n) i * Vw S P) wk wn ww re (fun k hk => (ha i k hiP hk).1 (Nat.le_refl _))
      rw [if_pos hk, g3, b6_some, nm_def, nI_1]
      have hs1 : susN (vvN S P srt own kd sw sl n) (i + 1) = susN (vvN S P srt own kd sw sl n) i ||| (if VL S P srt own kd sw sl n i = 0 then 0 else 2 ^ i) := by
        show susN (vvN S P srt own kd sw sl n) i ||| (if (vvN S P srt own kd sw sl n) i = 0 then 0 else 2 ^ i) = _
        rw [hv]
      have hs2 : fb_sm (vvN S P srt own kd sw sl n) (i + 1) * Vw S P = fb_sm (vvN S P srt own kd sw sl n) i * Vw S P + VL S P srt own kd sw sl n i * Vw S P := by rw [fb_sm_succ, hv, Nat.add_mul]
      rw [← hs1, ← hs2]
      refine ih (i + 1) f wk' wn' _ re' (by omega) (by omega) (fun l hl => ?_) (fun l k hl hk' => ⟨fun q => ?_, fun q => ?_⟩)
      · rw [updL_at]
        by_cases e : l = i
        · rw [if_pos e, if_pos (by omega), e, hv]
        · rw [if_neg e, hw l hl]
          by_cases z : l < i
          · rw [if_pos z, if_pos (by omega)]
          · rw [if_neg z, if_neg (by omega)]
      · rw [g1 _ (by omega)]; exact (ha l k hl hk').1 (by omega)
      · by_cases e : l = i
        · subst e
          obtain ⟨a, a1, a2, a3⟩ := g2 k hk'
          exact ⟨a, a1, a2, fun s hs => by rw [a3 s hs, hv]⟩
        · obtain ⟨a, a1, a2, a3⟩ := (ha l k hl hk').2 (by omega)
          exact ⟨a, a1, by rw [g1 _ (by omega)]; exact a2, a3⟩
    · have hv : (vvN S P srt own kd sw sl n) i = 0 := by unfold vvN; rw [if_neg hk]
      rw [if_neg hk, nm_def, nI_1]
      have hs1 : susN (vvN S P srt own kd sw sl n) (i + 1) = susN (vvN S P srt own kd sw sl n) i := by
        show susN (vvN S P srt own kd sw sl n) i ||| (if (vvN S P srt own kd sw sl n) i = 0 then 0 else 2 ^ i) = _
        rw [if_pos hv, Nat.or_zero]
      have hs2 : fb_sm (vvN S P srt own kd sw sl n) (i + 1) * Vw S P = fb_sm (vvN S P srt own kd sw sl n) i * Vw S P := by rw [fb_sm_succ, hv, Nat.add_zero]
      rw [← hs1, ← hs2]
      refine ih (i + 1) f wk wn ww re (by omega) (by omega) (fun l hl => ?_) (fun l k hl hk' => ⟨fun q => (ha l k hl hk').1 (by omega), fun q => ?_⟩)
      · rw [hw l hl]
        by_cases e : l = i
        · rw [if_neg (by omega), if_pos (by omega), e, hv, Nat.zero_mul]
        · by_cases z : l < i
          · rw [if_pos z, if_pos (by omega)]
          · rw [if_neg z, if_neg (by omega)]
      · by_cases e : l = i
        · subst e
          refine ⟨0, by decide, (ha l k hl hk').1 (Nat.le_refl _), fun s _ => ?_⟩
          rw [Nat.zero_testBit]
          exact ⟨fun q => (by cases q), fun q => absurd hv q.1⟩
        · exact (ha l k hl hk').2 (by omega)
def WR (S P : Nat) (srt own kd : Nat → Nat) (sw sl : Nat → Int32) (n : Nat) (rd su : Int32) (tot : Int64) (wn : Nat → Int32) (ww : Nat → Int64) : Prop := rd = 0 ∨ (rd = 1 ∧ WV S P srt own kd sw sl n su tot wn ww)
theorem v_refrW {S P n : Nat} {srt own kd : Nat → Nat} {Hs Hb Ho Hk : Nat → Int32} (hH : HC S P srt own kd Hs Hb Ho Hk) (hn : n ≤ 8) {sw sl : Nat → Int32} (hsg : ∀ i, i < n → (∃ q : Nat, q < 8 ∧ sl i = nI q) ∧ (sw i = -1 ∨ ∃ p : Nat, p < 8 ∧ sw i = nI p)) {wp wl : Nat → Int32} (hpp : ∀ i, i < n → wp i = sw i ∧ wl i = sl i) {rd su : Int32} {tot : Int64} {wa wk wn : Nat → Int32} {ww re : Nat → Int64} (hr : WR S P srt own kd sw sl n rd su tot wn ww) :
    ∃ (su' : Int32) (tot' : Int64) (wa' wk' wn' : Nat → Int32) (ww' re' : Nat → Int64), WV S P srt own kd sw sl n su' tot' wn' ww' ∧ p_X6_refresh (nI S) (nI P) (nI n) su rd tot Hs Hb Ho Hk wp wl wa wk wn ww re = some (su', 1, tot', wa', wk', wn', ww', re') := by
  have hS := hH.1
  have hP := hH.2.1
  unfold p_X6_refresh p_X6_refresh_b0
  rcases hr with rfl | ⟨rfl, hr⟩
  · obtain ⟨wa1, e1, e2⟩ := v_narrow hS hP hn hsg hpp wa
    rw [if_pos rfl, nm_def, nm_def, e2, b1_some]
    obtain ⟨su', tot', wk', wn', ww', re', g1, g2⟩ := rf_40 hH e1 (sz := nI n) (wp := wp) (wl := wl) P 0 4096 wk (fillF 64 0 wn) (fillL 8 0 ww) re (by omega) (by omega) (fun l hl => by
      rw [if_neg (by omega)]
      show (if l < 8 then (0 : Int64) else _) = _
      rw [if_pos (by omega)]; rfl) (fun l k hl hk => ⟨fun _ => by
      show (if 8 * l + k < 64 then (0 : Int32) else _) = _
      rw [if_pos (by omega)], fun q => absurd q (by omega)⟩)
    have z : fb_sm (vvN S P srt own kd sw sl n) 0 * Vw S P = 0 := Nat.zero_mul _
    rw [z] at g2
    exact ⟨su', tot', wa1, wk', wn', ww', re', g1, g2⟩
  · rw [if_neg (by decide)]
    exact ⟨_, _, _, _, _, _, _, hr, rfl⟩
