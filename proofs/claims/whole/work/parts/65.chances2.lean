theorem v_taken {S R P : Nat} {srt row own kd : Nat → Nat} {hS hR hP f0 f1 : Int32} {Hs Hr Hb Ho Hk mb mt : Nat → Int32} (h : HB S R P srt row own kd hS hR hP f0 f1 Hs Hr Hb Ho Hk mb mt) {rd : Int32} {mw ml : Int64} {re si wr fe wi : Nat → Int64} (hc : CR S P srt own kd rd mw ml re si wr fe) (a1 s1 r1 p1 lo ow oh kf : Int32) (al : Int64) (ms mr mo mk ks : Nat → Int32) (wy nx : Nat → Int64) (x y z : Int32) : ∃ (r : Int64) (rd' : Int32) (mw' ml' : Int64) (re' si' wr' fe' wi' : Nat → Int64) (q1 q2 q3 q4 q5 q6 q7 : Int32) (q8 : Int64) (q9 q10 q11 q12 q13 : Nat → Int32) (q14 q15 : Nat → Int64), p_X7_taken hS hP rd mw ml Hs Hb Ho Hk re si wr fe wi x y z = some (r, rd', mw', ml', re', si', wr', fe', wi') ∧ p_X8_taken a1 s1 r1 p1 lo ow oh kf al mb mt ms mr mo mk ks wy nx x y z = some (r, q1, q2, q3, q4, q5, q6, q7, q8, q9, q10, q11, q12, q13, q14, q15) ∧ CR S P srt own kd rd' mw' ml' re' si' wr' fe' := by
  obtain ⟨rfl, rfl, rfl, hcr, hm⟩ := h
  have hH := HB_HC hcr
  have hS := hH.1
  have hP := hH.2.1
  have hpw := d_pw S hS
  have ho : ∀ k, k < P → own k < S := fun k hk => (hH.2.2.2 k hk).2.1
  obtain ⟨a3, ms', mr', mo', mk', q, m1, m2⟩ := v_find hm a1 s1 r1 p1 ms mr mo mk
  obtain ⟨mw', ml', re', si', wr', fe', wi', hCV, hq⟩ := v_refr hH hc (wi := wi)
  unfold p_X7_taken p_X7_taken_b0 p_X7_taken_b36 p_X7_taken_b70 p_X8_taken p_X8_taken_b0 p_X8_taken_b49 p_X8_taken_b54
  rw [q, b8_some]
  rcases v_upto (P := P) (by omega) x with ⟨k, hk, rfl, e1, e2, e3⟩ | ⟨e1, e3⟩
  · rw [e3, if_neg e1, if_neg e2, d_all S hS, d_whole S hS]
    simp only [b1_some, i00, i10, if_true, if_false]
    rcases v_set hS y with ⟨u, hu, rfl, e4, e5⟩ | ⟨e4, e5⟩
    · rw [e5, if_pos e4]
      simp only [b1_some, i00, i10, if_true, if_false]
      rcases v_wt z with ⟨w, hw, rfl, e6, e7⟩ | ⟨e6, e7⟩
      · rw [e6, e7]
        simp only [b1_some, i00, i10, if_true, if_false, hq, b8_some]
        obtain ⟨g1, g2, g3, g4, g5, g6, g7, g8⟩ := v_takenOf (mk_MC hcr m1 m2) hk hu hw (lo := lo) (ow := ow) (oh := oh) (kf := kf) (al := al) (ks := ks) (wy := wy) (nx := nx)
        have hAV := d_AV S hS k (by omega) (by omega)
        have hn : dC S srt own kd k u ≤ Aw S k := dp_bd hS hP (cCh_ok hS hP ho) hk u
        have hb : dC S srt own kd k u * Vw S k ≤ UN := by rw [← hAV.1]; exact Nat.mul_le_mul_right _ hn
        have hpf := pfp (a := dC S srt own kd k u) hAV.1 hAV.2.2 (Nat.lt_of_le_of_lt hb (by decide)) hw
        rw [g8, b8_some, d_pc u (by omega), b1_some]
        have e : (nI (pc u) = nI k) = (pc u = k) := propext (nI_eq (by have := d_pcS S hS u hu; omega) (by omega))
        simp only [e]
        by_cases hpk : pc u = k
        · rw [if_pos hpk, inB_nI (show u < 256 by omega) (by decide), gd_true, nI_clamp (by omega), hCV.2.2.1 u hu, XA_at hS hP ho hk hpk, hpf, b1_some]
          exact ⟨_, _, _, _, _, _, _, _, _, _, _, _, _, _, _, _, _, _, _, _, _, _, _, _, rfl, rfl, Or.inr ⟨rfl, hCV⟩⟩
        · rw [dC_ne hS hP ho hk hpk, Nat.zero_mul] at hpf
          rw [if_neg hpk, LL0, hpf, b1_some, dC_ne hS hP ho hk hpk]
          exact ⟨_, _, _, _, _, _, _, _, _, _, _, _, _, _, _, _, _, _, _, _, _, _, _, _, rfl, rfl, Or.inr ⟨rfl, hCV⟩⟩
      · rw [e6, e7]
        simp only [b1_some, i00, i10, if_true, if_false, asL]
        exact ⟨_, _, _, _, _, _, _, _, _, _, _, _, _, _, _, _, _, _, _, _, _, _, _, _, rfl, rfl, hc⟩
    · rw [e5, if_neg e4]
      simp only [b1_some, i00, i10, if_true, if_false, asL]
      exact ⟨_, _, _, _, _, _, _, _, _, _, _, _, _, _, _, _, _, _, _, _, _, _, _, _, rfl, rfl, hc⟩
  · rw [e3]
    simp only [b1_some, i00, i10, if_true, if_false, asL]
    by_cases hx : x < 0
    · rw [if_pos hx]
      exact ⟨_, _, _, _, _, _, _, _, _, _, _, _, _, _, _, _, _, _, _, _, _, _, _, _, rfl, rfl, hc⟩
    · rw [if_neg hx, if_pos (e1.resolve_left hx)]
      exact ⟨_, _, _, _, _, _, _, _, _, _, _, _, _, _, _, _, _, _, _, _, _, _, _, _, rfl, rfl, hc⟩
theorem v_from1 {P : Nat} (hP : P < 9) (x : Int32) : (x = -1 ∧ p_X8_in x.toInt64 (-1) (nI P).toInt64 = some 1) ∨ (∃ k, k ≤ P ∧ x = nI k ∧ ¬ x < -1 ∧ ¬ nI P < x ∧ p_X8_in x.toInt64 (-1) (nI P).toInt64 = some 1) ∨ ((x < -1 ∨ nI P < x) ∧ p_X8_in x.toInt64 (-1) (nI P).toInt64 = some 0) := by
  rw [v_in, Int32.toInt_toInt64, Int32.toInt_toInt64, nI_toInt (by omega), show (-1 : Int64).toInt = -1 from by decide]
  have e1 : (x < -1) = (x.toInt < -1) := propext Int32.lt_iff_toInt_lt
  have e2 : (nI P < x) = ((P : Int) < x.toInt) := by rw [propext Int32.lt_iff_toInt_lt, nI_toInt (by omega)]
  rw [e1, e2]
  by_cases h : -1 ≤ x.toInt ∧ x.toInt ≤ P
  · rw [if_pos h]
    by_cases h1 : x.toInt = -1
    · exact Or.inl ⟨Int32.toInt_inj.mp (by rw [h1]; decide), rfl⟩
    · exact Or.inr (Or.inl ⟨x.toInt.toNat, by omega, Int32.toInt_inj.mp (by rw [nI_toInt (by omega)]; omega), by omega, by omega, rfl⟩)
  · rw [if_neg h]
    exact Or.inr (Or.inr ⟨by omega, rfl⟩)
theorem jC_le {S P : Nat} {srt ow kd : Nat → Nat} (hS : S < 9) (hP : P ≤ S) (ho : ∀ k, k < P → ow k < S) {c : Nat} : jC S srt ow kd P c 2304 ≤ Aw S P := by
  rw [← dB_all (srt := srt) (kd := kd) hS hP ho P (Nat.le_refl _)]
  refine fb_sm_le fun x _ => ?_
  split
  · exact Nat.le_refl _
  · exact Nat.zero_le _
theorem v_wrong {S R P : Nat} {srt row own kd : Nat → Nat} {hS hR hP f0 f1 : Int32} {Hs Hr Hb Ho Hk mb mt : Nat → Int32} (h : HB S R P srt row own kd hS hR hP f0 f1 Hs Hr Hb Ho Hk mb mt) {rd : Int32} {mw ml : Int64} {re si wr fe wi : Nat → Int64} (hc : CR S P srt own kd rd mw ml re si wr fe) (a1 s1 r1 p1 lo ow oh kf : Int32) (al : Int64) (ms mr mo mk ks : Nat → Int32) (wy nx : Nat → Int64) (od : Nat → Int32) (bo bn : Nat → Int64) (x y : Int32) : ∃ (r : Int64) (rd' : Int32) (mw' ml' : Int64) (re' si' wr' fe' wi' : Nat → Int64) (q1 q2 q3 q4 q5 q6 q7 : Int32) (q8 : Int64) (q9 q10 q11 q12 q13 q14 : Nat → Int32) (q15 q16 q17 q18 : Nat → Int64), p_X7_wrong hS hP rd mw ml Hs Hb Ho Hk re si wr fe wi x y = some (r, rd', mw', ml', re', si', wr', fe', wi') ∧ p_X8_wrong a1 s1 r1 p1 lo ow oh kf al mb mt ms mr mo mk ks od wy nx bo bn x y = some (r, q1, q2, q3, q4, q5, q6, q7, q8, q9, q10, q11, q12, q13, q14, q15, q16, q17, q18) ∧ CR S P srt own kd rd' mw' ml' re' si' wr' fe' := by
  obtain ⟨rfl, rfl, rfl, hcr, hm⟩ := h
  have hH := HB_HC hcr
  have hS := hH.1
  have hP := hH.2.1
  have ho : ∀ k, k < P → own k < S := fun k hk => (hH.2.2.2 k hk).2.1
  have hAV := d_AV S hS P (by omega) (by omega)
  obtain ⟨a3, ms', mr', mo', mk', q, m1, m2⟩ := v_find hm a1 s1 r1 p1 ms mr mo mk
  obtain ⟨mw', ml', re', si', wr', fe', wi', hCV, hq⟩ := v_refr hH hc (wi := wi)
  unfold p_X7_wrong p_X7_wrong_b0 p_X7_wrong_b23 p_X7_wrong_b60 p_X8_wrong p_X8_wrong_b0 p_X8_wrong_b27 p_X8_wrong_b52
  rw [q, b8_some]
  rcases v_from1 (P := P) (by omega) x with ⟨rfl, e3⟩ | ⟨k, hk, rfl, e1, e2, e3⟩ | ⟨e1, e3⟩
  · rw [e3, if_neg (by decide), if_neg (fun z => by rw [propext Int32.lt_iff_toInt_lt, nI_toInt (by omega), show (-1 : Int32).toInt = -1 from by decide] at z; omega), b1_some, if_neg (show ¬ (1 : Int32) = 0 by decide)]
    rcases v_wt y with ⟨w, hw, rfl, e6, e7⟩ | ⟨e6, e7⟩
    · obtain ⟨g1, g2, g3, g4, g5, g6, g7, g8, g9⟩ := v_meanOf (mk_MC hcr m1 m2) hw (ordr := od) (lo := lo) (ow := ow) (oh := oh) (kf := kf) (al := al) (ks := ks) (wy := wy) (nx := nx)
      have hb : (P * Aw S P - rC S srt own kd P) * Vw S P ≤ 8 * UN := by
        rw [← hAV.1, ← Nat.mul_assoc]
        exact Nat.mul_le_mul_right _ (Nat.le_trans (Nat.sub_le _ _) (Nat.mul_le_mul_right _ (by omega)))
      have hp : p_X7_part mw' 182891520000 (nI w) = some (lN (fp (P * Aw S P - rC S srt own kd P) (Aw S P) w)) := by
        rw [hCV.1]
        exact pfp hAV.1 hAV.2.2 (Nat.lt_of_le_of_lt hb u8) hw
      rw [e6, e7, hq, g9]
      rw [b1_some, b1_some, if_pos (show (0 : Int32) = 0 from rfl), if_neg (show ¬ (1 : Int32) = 0 by decide), b8_some, if_pos (show (-1 : Int32) = -1 from rfl), if_pos (show (-1 : Int32) = -1 from rfl), b9_some, hp, b1_some]
      exact ⟨_, _, _, _, _, _, _, _, _, _, _, _, _, _, _, _, _, _, _, _, _, _, _, _, _, _, _, rfl, rfl, Or.inr ⟨rfl, hCV⟩⟩
    · rw [e6, e7, b1_some, b1_some, if_neg (show ¬ (1 : Int32) = 0 by decide), if_pos (show (0 : Int32) = 0 from rfl)]
      exact ⟨_, _, _, _, _, _, _, _, _, _, _, _, _, _, _, _, _, _, _, _, _, _, _, _, _, _, _, rfl, rfl, hc⟩
  · rw [e3, if_neg e1, if_neg e2, b1_some, if_neg (show ¬ (1 : Int32) = 0 by decide)]
    rcases v_wt y with ⟨w, hw, rfl, e6, e7⟩ | ⟨e6, e7⟩
    · obtain ⟨g1, g2, g3, g4, g5, g6, g7⟩ := v_justOf (mk_MC hcr m1 m2) (c := k) (by omega) hw (lo := lo) (ow := ow) (kf := kf) (ks := ks) (b := bo) (bn := bn)
      have hb : jC S srt own kd P k 2304 * Vw S P ≤ UN := by rw [← hAV.1]; exact Nat.mul_le_mul_right _ (jC_le hS hP ho)
      have hp : p_X7_part (wr' k) 182891520000 (nI w) = some (lN (fp (jC S srt own kd P k 2304) (Aw S P) w)) := by
        rw [hCV.2.2.2.2.1 k hk]
        exact pfp hAV.1 hAV.2.2 (Nat.lt_of_le_of_lt hb (by decide)) hw
      rw [e6, e7, hq, g7]
      rw [b1_some, b1_some, if_pos (show (0 : Int32) = 0 from rfl), if_neg (show ¬ (1 : Int32) = 0 by decide), b8_some, if_neg (nI_m1 (show k < 2 ^ 31 by omega)), if_neg (nI_m1 (show k < 2 ^ 31 by omega)), b7_some, inB_nI (show k < 9 by omega) (by decide), gd_true, nI_clamp (by omega), hp, b1_some]
      exact ⟨_, _, _, _, _, _, _, _, _, _, _, _, _, _, _, _, _, _, _, _, _, _, _, _, _, _, _, rfl, rfl, Or.inr ⟨rfl, hCV⟩⟩
    · rw [e6, e7, b1_some, b1_some, if_neg (show ¬ (1 : Int32) = 0 by decide), if_pos (show (0 : Int32) = 0 from rfl)]
      exact ⟨_, _, _, _, _, _, _, _, _, _, _, _, _, _, _, _, _, _, _, _, _, _, _, _, _, _, _, rfl, rfl, hc⟩
  · rw [e3, b1_some, if_pos (show (0 : Int32) = 0 from rfl)]
    by_cases hx : x < -1
    · rw [if_pos hx]
      exact ⟨_, _, _, _, _, _, _, _, _, _, _, _, _, _, _, _, _, _, _, _, _, _, _, _, _, _, _, rfl, rfl, hc⟩
    · rw [if_neg hx, if_pos (e1.resolve_left hx)]
      exact ⟨_, _, _, _, _, _, _, _, _, _, _, _, _, _, _, _, _, _, _, _, _, _, _, _, _, _, _, rfl, rfl, hc⟩
