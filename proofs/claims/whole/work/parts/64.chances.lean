/-! likely, taken, wrong, left, looks: both sides -/
def HB (S R P : Nat) (srt row own kd : Nat → Nat) (hS hR hP f0 f1 : Int32) (Hs Hr Hb Ho Hk mb mt : Nat → Int32) : Prop := hS = nI S ∧ hR = nI R ∧ hP = nI P ∧ cRows S R P srt row own kd Hs Hr Hb Ho Hk ∧ mRead mb mt f0 f1 S R P srt row own kd
def CR (S P : Nat) (srt own kd : Nat → Nat) (rd : Int32) (mw ml : Int64) (re si wr fe : Nat → Int64) : Prop := rd = 0 ∨ (rd = 1 ∧ CV S P srt own kd mw ml re si wr fe)
theorem HB_HC {S R P : Nat} {srt row own kd : Nat → Nat} {Hs Hr Hb Ho Hk : Nat → Int32} (h : cRows S R P srt row own kd Hs Hr Hb Ho Hk) : HC S P srt own kd Hs Hb Ho Hk := by
  obtain ⟨hS, hR, hP, hc1, hc2, hc3⟩ := h
  exact ⟨hS, hP, fun i hi => ⟨(hc1 i hi).1, (hc1 i hi).2.2, hc2 (by omega) _ (hc1 i hi).2.2⟩, fun p hp => ⟨(hc3 p hp).1, (hc3 p hp).2.2.1, (hc3 p hp).2.1, (hc3 p hp).2.2.2⟩⟩
theorem mk_MC {S R P : Nat} {srt row own kd : Nat → Nat} {Hs Hr Hb Ho Hk ms mr mo mk : Nat → Int32} (h : cRows S R P srt row own kd Hs Hr Hb Ho Hk) (m1 : ∀ i, i < S → ms i = nI (srt i) ∧ mr i = nI (row i)) (m2 : ∀ i, i < P → mo i = nI (own i) ∧ mk i = nI (kd i)) : MC S P srt own kd ms mo mk := by
  obtain ⟨hS, hR, hP, hc1, hc2, hc3⟩ := h
  exact ⟨hS, hP, fun i hi => ⟨(m1 i hi).1, (hc1 i hi).2.2⟩, fun p hp => ⟨(m2 p hp).1, (hc3 p hp).2.2.1, (m2 p hp).2, (hc3 p hp).2.2.2⟩⟩
theorem v_refr {S P : Nat} {srt own kd : Nat → Nat} {Hs Hb Ho Hk : Nat → Int32} (hH : HC S P srt own kd Hs Hb Ho Hk) {rd : Int32} {mw ml : Int64} {re si wr fe wi : Nat → Int64} (hc : CR S P srt own kd rd mw ml re si wr fe) :
    ∃ mw' ml' re' si' wr' fe' wi', CV S P srt own kd mw' ml' re' si' wr' fe' ∧ p_X0_refresh (nI S) (nI P) rd mw ml Hs Hb Ho Hk re si wr fe wi = some (1, mw', ml', re', si', wr', fe', wi') := by
  rcases hc with rfl | ⟨rfl, hc⟩
  · exact v_refresh hH
  · exact ⟨mw, ml, re, si, wr, fe, wi, hc, rfl⟩
theorem u64 : 64 * UN < 2 ^ 62 := by
  have e : UN = 182891520000 := rfl
  omega
theorem u8 : 8 * UN < 2 ^ 62 := by
  have e : UN = 182891520000 := rfl
  omega
theorem uUN : (182891520000 : Int64) = lN UN := rfl
theorem pfp {a A V w : Nat} (hAV : A * V = UN) (hV : 0 < V) (ha : a * V < 2 ^ 62) (hw : w < 2) : p_X7_part (lN (a * V)) 182891520000 (nI w) = some (lN (fp a A w)) := by
  rw [uUN, v_partC ha (by decide) (by decide) hw, ← hAV, fp_mul hV]
theorem v_wt (x : Int32) : (∃ w, w < 2 ∧ x = nI w ∧ p_X7_isNoPart x = some 0 ∧ p_X8_isTwo x = some 1) ∨ (p_X7_isNoPart x = some 1 ∧ p_X8_isTwo x = some 0) := by
  have e : p_X7_isNoPart x = p_X7_isNoText x := rfl
  rw [e]
  rcases v_text x with ⟨hx, e1, e2⟩ | ⟨e1, e2⟩
  · left
    rcases hx with hx | hx <;> subst hx
    · exact ⟨0, by omega, rfl, e1, e2⟩
    · exact ⟨1, by omega, rfl, e1, e2⟩
  · exact Or.inr ⟨e1, e2⟩
theorem asL (x : Int32) : p_X7_asLong x = p_X8_no x := rfl
theorem v_likely {S R P : Nat} {srt row own kd : Nat → Nat} {hS hR hP f0 f1 : Int32} {Hs Hr Hb Ho Hk mb mt : Nat → Int32} (h : HB S R P srt row own kd hS hR hP f0 f1 Hs Hr Hb Ho Hk mb mt) {rd : Int32} {mw ml : Int64} {re si wr fe wi : Nat → Int64} (hc : CR S P srt own kd rd mw ml re si wr fe) (a1 s1 r1 p1 lo ow oh kf : Int32) (al : Int64) (ms mr mo mk ks : Nat → Int32) (wy nx : Nat → Int64) (x y z : Int32) : ∃ (r : Int64) (rd' : Int32) (mw' ml' : Int64) (re' si' wr' fe' wi' : Nat → Int64) (q1 q2 q3 q4 q5 q6 q7 : Int32) (q8 : Int64) (q9 q10 q11 q12 q13 : Nat → Int32) (q14 q15 : Nat → Int64), p_X7_likely hS hP rd mw ml Hs Hb Ho Hk re si wr fe wi x y z = some (r, rd', mw', ml', re', si', wr', fe', wi') ∧ p_X8_likely a1 s1 r1 p1 lo ow oh kf al mb mt ms mr mo mk ks wy nx x y z = some (r, q1, q2, q3, q4, q5, q6, q7, q8, q9, q10, q11, q12, q13, q14, q15) ∧ CR S P srt own kd rd' mw' ml' re' si' wr' fe' := by
  obtain ⟨rfl, rfl, rfl, hcr, hm⟩ := h
  have hH := HB_HC hcr
  have hS := hH.1
  have hP := hH.2.1
  have ho : ∀ k, k < P → own k < S := fun k hk => (hH.2.2.2 k hk).2.1
  obtain ⟨a3, ms', mr', mo', mk', q, m1, m2⟩ := v_find hm a1 s1 r1 p1 ms mr mo mk
  obtain ⟨b3, ms2, mr2, mo2, mk2, q', n1, n2⟩ := v_find hm a3 (nI S) (nI R) (nI P) ms' mr' mo' mk'
  obtain ⟨mw', ml', re', si', wr', fe', wi', hCV, hq⟩ := v_refr hH hc (wi := wi)
  unfold p_X7_likely p_X7_likely_b0 p_X7_likely_b23 p_X8_likely p_X8_likely_b0 p_X8_likely_b33 p_X8_likely_b38 p_X8_isPerson p_X8_isPerson_b0 p_X8_isSeat p_X8_isSeat_b0
  rw [q, b8_some]
  rcases v_noSeat (S := P) (by omega) x with ⟨p, hp, rfl, -, e1, e2⟩ | ⟨-, e1, e2⟩
  · rw [e1, e2]
    simp only [b1_some, z1, gd_true, b9_some, i00, i10, if_true, if_false, q', b8_some]
    rcases v_noSeat (S := S) (by omega) y with ⟨s, hs, rfl, e3, -, e4⟩ | ⟨e3, -, e4⟩
    · rw [e3, e4]
      simp only [b1_some, z1, gd_true, b9_some, i00, i10, if_true, if_false]
      rcases v_wt z with ⟨w, hw, rfl, e5, e6⟩ | ⟨e5, e6⟩
      · rw [e5, e6]
        simp only [b1_some, i00, i10, if_true, if_false, hq, b8_some]
        obtain ⟨g1, g2, g3, g4, g5, g6, g7, g8⟩ := v_likelyOf (mk_MC hcr n1 n2) hp hs hw (lo := lo) (ow := ow) (oh := oh) (kf := kf) (al := al) (ks := ks) (wy := wy) (nx := nx)
        have hAV := d_AV S hS (p + 1) (by omega) (by omega)
        have hn := nC_le (srt := srt) (kd := kd) (st := s) hS hP ho hp
        have hb : nC S srt own kd p s * Vw S (p + 1) ≤ UN := by rw [← hAV.1]; exact Nat.mul_le_mul_right _ hn
        rw [g8, b8_some, show nI p * 8 + nI s = nI (8 * p + s) from by rw [show (8 : Int32) = nI 8 from rfl, pk_mul, nI_add, Nat.mul_comm], inB_nI (by omega) (by decide), gd_true, nI_clamp (by omega), hCV.2.2.2.1 p s hp hs, pfp hAV.1 hAV.2.2 (Nat.lt_of_le_of_lt hb (by decide)) hw, b1_some]
        exact ⟨_, _, _, _, _, _, _, _, _, _, _, _, _, _, _, _, _, _, _, _, _, _, _, _, rfl, rfl, Or.inr ⟨rfl, hCV⟩⟩
      · rw [e5, e6]
        simp only [b1_some, i00, i10, if_true, if_false, asL]
        exact ⟨_, _, _, _, _, _, _, _, _, _, _, _, _, _, _, _, _, _, _, _, _, _, _, _, rfl, rfl, hc⟩
    · rw [e3, e4]
      simp only [b1_some, z0, gd_true, b9_some, i00, i10, if_true, if_false, asL]
      exact ⟨_, _, _, _, _, _, _, _, _, _, _, _, _, _, _, _, _, _, _, _, _, _, _, _, rfl, rfl, hc⟩
  · rw [e1, e2]
    simp only [b1_some, z0, gd_true, b9_some, i00, i10, if_true, if_false, asL]
    exact ⟨_, _, _, _, _, _, _, _, _, _, _, _, _, _, _, _, _, _, _, _, _, _, _, _, rfl, rfl, hc⟩
theorem v_left {S R P : Nat} {srt row own kd : Nat → Nat} {hS hR hP f0 f1 : Int32} {Hs Hr Hb Ho Hk mb mt : Nat → Int32} (h : HB S R P srt row own kd hS hR hP f0 f1 Hs Hr Hb Ho Hk mb mt) {rd : Int32} {mw ml : Int64} {re si wr fe wi : Nat → Int64} (hc : CR S P srt own kd rd mw ml re si wr fe) (a1 s1 r1 p1 lo ow oh kf : Int32) (al : Int64) (ms mr mo mk ks : Nat → Int32) (wy nx : Nat → Int64) (x y : Int32) : ∃ (r : Int64) (rd' : Int32) (mw' ml' : Int64) (re' si' wr' fe' wi' : Nat → Int64) (q1 q2 q3 q4 q5 q6 q7 : Int32) (q8 : Int64) (q9 q10 q11 q12 q13 : Nat → Int32) (q14 q15 : Nat → Int64), p_X7_left hS hP rd mw ml Hs Hb Ho Hk re si wr fe wi x y = some (r, rd', mw', ml', re', si', wr', fe', wi') ∧ p_X8_left a1 s1 r1 p1 lo ow oh kf al mb mt ms mr mo mk ks wy nx x y = some (r, q1, q2, q3, q4, q5, q6, q7, q8, q9, q10, q11, q12, q13, q14, q15) ∧ CR S P srt own kd rd' mw' ml' re' si' wr' fe' := by
  obtain ⟨rfl, rfl, rfl, hcr, hm⟩ := h
  have hH := HB_HC hcr
  have hS := hH.1
  have hP := hH.2.1
  have ho : ∀ k, k < P → own k < S := fun k hk => (hH.2.2.2 k hk).2.1
  obtain ⟨a3, ms', mr', mo', mk', q, m1, m2⟩ := v_find hm a1 s1 r1 p1 ms mr mo mk
  obtain ⟨mw', ml', re', si', wr', fe', wi', hCV, hq⟩ := v_refr hH hc (wi := wi)
  unfold p_X7_left p_X7_left_b0 p_X7_left_b15 p_X8_left p_X8_left_b0 p_X8_left_b24 p_X8_left_b29 p_X8_isSeat p_X8_isSeat_b0
  rw [q, b8_some]
  rcases v_noSeat (S := S) (by omega) x with ⟨s, hs, rfl, e3, -, e4⟩ | ⟨e3, -, e4⟩
  · rw [e3, e4]
    simp only [b1_some, z1, gd_true, b9_some, i00, i10, if_true, if_false]
    rcases v_wt y with ⟨w, hw, rfl, e5, e6⟩ | ⟨e5, e6⟩
    · rw [e5, e6]
      simp only [b1_some, i00, i10, if_true, if_false, hq, b8_some]
      obtain ⟨g1, g2, g3, g4, g5, g6, g7, g8⟩ := v_leftOf (mk_MC hcr m1 m2) hs hw (lo := lo) (ow := ow) (oh := oh) (kf := kf) (al := al) (ks := ks) (wy := wy) (nx := nx)
      have hAV := d_AV S hS P (by omega) (by omega)
      have hn : lC S srt own kd P s (2 ^ S) ≤ Aw S P := by
        refine Nat.le_trans (fb_sm_le fun u _ => ?_) (dp_le (ok := fun _ _ => true) hS hP (cCh_ok (srt := srt) (kd := kd) hS hP ho) P (Nat.le_refl _))
        split
        · exact Nat.zero_le _
        · exact Nat.le_refl _
      have hb : lC S srt own kd P s (2 ^ S) * Vw S P ≤ UN := by rw [← hAV.1]; exact Nat.mul_le_mul_right _ hn
      rw [g8, b8_some, inB_nI (show s < 8 by omega) (by decide), gd_true, nI_clamp (by omega), hCV.2.2.2.2.2 s hs, pfp hAV.1 hAV.2.2 (Nat.lt_of_le_of_lt hb (by decide)) hw, b1_some]
      exact ⟨_, _, _, _, _, _, _, _, _, _, _, _, _, _, _, _, _, _, _, _, _, _, _, _, rfl, rfl, Or.inr ⟨rfl, hCV⟩⟩
    · rw [e5, e6]
      simp only [b1_some, i00, i10, if_true, if_false, asL]
      exact ⟨_, _, _, _, _, _, _, _, _, _, _, _, _, _, _, _, _, _, _, _, _, _, _, _, rfl, rfl, hc⟩
  · rw [e3, e4]
    simp only [b1_some, z0, gd_true, b9_some, i00, i10, if_true, if_false, asL]
    exact ⟨_, _, _, _, _, _, _, _, _, _, _, _, _, _, _, _, _, _, _, _, _, _, _, _, rfl, rfl, hc⟩
theorem sLV_le {S P : Nat} {srt own kd : Nat → Nat} (hS : S < 9) (hP : P ≤ S) (ho : ∀ k, k < P → own k < S) : sL S srt own kd P * Vw S P ≤ 64 * UN := by
  have hAV := (d_AV S hS P (by omega) (by omega)).1
  have hn := sL_le (srt := srt) (kd := kd) hS hP ho P (Nat.le_refl _)
  have h8 : 8 * P ≤ 64 := by omega
  generalize Vw S P = V at *
  generalize Aw S P = A at *
  generalize sL S srt own kd P = X at *
  generalize UN = U at *
  have h1 : X * V ≤ 8 * P * A * V := Nat.mul_le_mul_right _ hn
  have h2 : 8 * P * A * V = 8 * P * U := by rw [Nat.mul_assoc, hAV]
  have h3 : 8 * P * U ≤ 64 * U := Nat.mul_le_mul_right _ h8
  omega
theorem sLV_p {S P w : Nat} {srt own kd : Nat → Nat} (hS : S < 9) (hP : P ≤ S) (ho : ∀ k, k < P → own k < S) (hw : w < 2) : p_X7_part (lN (sL S srt own kd P * Vw S P)) 182891520000 (nI w) = some (lN (fp (sL S srt own kd P) (Aw S P) w)) := by
  have hAV := d_AV S hS P (by omega) (by omega)
  exact pfp hAV.1 hAV.2.2 (Nat.lt_of_le_of_lt (sLV_le hS hP ho) u64) hw
theorem v_looks {S R P : Nat} {srt row own kd : Nat → Nat} {hS hR hP f0 f1 : Int32} {Hs Hr Hb Ho Hk mb mt : Nat → Int32} (h : HB S R P srt row own kd hS hR hP f0 f1 Hs Hr Hb Ho Hk mb mt) {rd : Int32} {mw ml : Int64} {re si wr fe wi : Nat → Int64} (hc : CR S P srt own kd rd mw ml re si wr fe) (a1 s1 r1 p1 lo ow oh kf : Int32) (al : Int64) (ms mr mo mk ks : Nat → Int32) (wy nx : Nat → Int64) (x : Int32) : ∃ (r : Int64) (rd' : Int32) (mw' ml' : Int64) (re' si' wr' fe' wi' : Nat → Int64) (q1 q2 q3 q4 q5 q6 q7 : Int32) (q8 : Int64) (q9 q10 q11 q12 q13 : Nat → Int32) (q14 q15 : Nat → Int64), p_X7_looks hS hP rd mw ml Hs Hb Ho Hk re si wr fe wi x = some (r, rd', mw', ml', re', si', wr', fe', wi') ∧ p_X8_looks a1 s1 r1 p1 lo ow oh kf al mb mt ms mr mo mk ks wy nx x = some (r, q1, q2, q3, q4, q5, q6, q7, q8, q9, q10, q11, q12, q13, q14, q15) ∧ CR S P srt own kd rd' mw' ml' re' si' wr' fe' := by
  obtain ⟨rfl, rfl, rfl, hcr, hm⟩ := h
  have hH := HB_HC hcr
  have hS := hH.1
  have hP := hH.2.1
  have ho : ∀ k, k < P → own k < S := fun k hk => (hH.2.2.2 k hk).2.1
  obtain ⟨a3, ms', mr', mo', mk', q, m1, m2⟩ := v_find hm a1 s1 r1 p1 ms mr mo mk
  obtain ⟨mw', ml', re', si', wr', fe', wi', hCV, hq⟩ := v_refr hH hc (wi := wi)
  unfold p_X7_looks p_X7_looks_b0 p_X8_looks p_X8_looks_b0 p_X8_looks_b24
  rw [q, b8_some]
  rcases v_wt x with ⟨w, hw, rfl, e5, e6⟩ | ⟨e5, e6⟩
  · obtain ⟨g1, g2, g3, g4, g5, g6, g7, g8⟩ := v_looksNow (mk_MC hcr m1 m2) hw (lo := lo) (ow := ow) (oh := oh) (kf := kf) (al := al) (ks := ks) (wy := wy) (nx := nx)
    have hp : p_X7_part ml' 182891520000 (nI w) = some (lN (fp (sL S srt own kd P) (Aw S P) w)) := by
      rw [hCV.2.1]
      exact sLV_p hS hP ho hw
    rw [e5, e6, hq, g8]
    rw [b1_some, b1_some, if_pos rfl, if_neg (show ¬ (1 : Int32) = 0 by decide), b8_some, b8_some, hp, b1_some]
    exact ⟨_, _, _, _, _, _, _, _, _, _, _, _, _, _, _, _, _, _, _, _, _, _, _, _, rfl, rfl, Or.inr ⟨rfl, hCV⟩⟩
  · rw [e5, e6, b1_some, b1_some, if_neg (show ¬ (1 : Int32) = 0 by decide), if_pos rfl]
    exact ⟨_, _, _, _, _, _, _, _, _, _, _, _, _, _, _, _, _, _, _, _, _, _, _, _, rfl, rfl, hc⟩
theorem i32_split (x m : Int32) : x = (x &&& m) ||| (x &&& (m ^^^ (-1))) := by
  apply Int32.toBitVec_inj.mp
  rw [Int32.toBitVec_or, Int32.toBitVec_and, Int32.toBitVec_and, Int32.toBitVec_xor, show (-1 : Int32).toBitVec = BitVec.allOnes 32 from by decide, BitVec.xor_allOnes]
  apply BitVec.eq_of_getLsbD_eq
  intro i hi
  rw [BitVec.getLsbD_or, BitVec.getLsbD_and, BitVec.getLsbD_and, BitVec.getLsbD_not]
  cases x.toBitVec.getLsbD i <;> cases m.toBitVec.getLsbD i <;> simp [hi]
theorem d_set : ∀ S, S < 9 → ∀ j, j < 2 ^ S → nI j &&& (nI (2 ^ S - 1) ^^^ (-1)) = 0 := by decide +kernel
theorem d_mask : ∀ S, S < 9 → (nI (2 ^ S - 1)).toBitVec.toNat = 2 ^ S - 1 := by decide +kernel
theorem v_set {S : Nat} (hS : S < 9) (x : Int32) : (∃ u, u < 2 ^ S ∧ x = nI u ∧ x &&& (nI (2 ^ S - 1) ^^^ (-1)) = 0 ∧ p_X8_in x.toInt64 0 (nI (2 ^ S - 1)).toInt64 = some 1) ∨ (¬ x &&& (nI (2 ^ S - 1) ^^^ (-1)) = 0 ∧ p_X8_in x.toInt64 0 (nI (2 ^ S - 1)).toInt64 = some 0) := by
  have hp := d_pw S hS
  have h0 : 0 < 2 ^ S := Nat.pow_pos (by decide)
  have hr := v_rng (N := 2 ^ S) (by omega) x
  rw [L1, pk_sub (by omega)] at hr
  rcases hr with ⟨u, h1, h2, h3, -, -⟩ | ⟨h1, h2⟩
  · exact Or.inl ⟨u, h1, h2, by rw [h2]; exact d_set S hS u h1, h3⟩
  · refine Or.inr ⟨fun q => ?_, h1⟩
    have e := i32_split x (nI (2 ^ S - 1))
    rw [q, pk_and x S (d_mask S hS), L0, fa_or, Nat.or_zero] at e
    have hlt : x.toBitVec.toNat % 2 ^ S < 2 ^ S := Nat.mod_lt _ h0
    rw [e] at h2
    rcases h2 with h2 | h2
    · exact nI_pos (by omega) h2
    · exact h2 (nI_lt (by omega) (by omega))
theorem v_upto {P : Nat} (hP : P < 9) (x : Int32) : (∃ k, k ≤ P ∧ x = nI k ∧ ¬ x < 0 ∧ ¬ nI P < x ∧ p_X8_in x.toInt64 0 (nI P).toInt64 = some 1) ∨ ((x < 0 ∨ nI P < x) ∧ p_X8_in x.toInt64 0 (nI P).toInt64 = some 0) := by
  have hr := v_rng (N := P + 1) (by omega) x
  rw [nI_pred] at hr
  have e : (x < nI (P + 1)) = ¬ (nI P < x) := by
    rw [propext Int32.lt_iff_toInt_lt, propext Int32.lt_iff_toInt_lt, nI_toInt (by omega), nI_toInt (by omega)]
    exact propext ⟨fun q => by omega, fun q => by omega⟩
  rw [e] at hr
  rcases hr with ⟨k, h1, h2, h3, h4, h5⟩ | ⟨h1, h2⟩
  · exact Or.inl ⟨k, by omega, h2, h4, h5, h3⟩
  · exact Or.inr ⟨by rcases h2 with h2 | h2; exact Or.inl h2; exact Or.inr (Classical.byContradiction h2), h1⟩
