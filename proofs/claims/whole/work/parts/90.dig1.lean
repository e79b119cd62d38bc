/-! digest: what each call of the class tells -/
theorem ok_seat {S s : Nat} (hS : S < 9) (hs : s < S) : p_X7_isNoSeat (nI S) (nI s) = some 0 ∧ p_X7_isNobody (nI S) (nI s) = some 0 := by
  unfold p_X7_isNoSeat p_X7_isNoSeat_b0 p_X7_isNoSeat_b15 p_X7_isNoSeat_b20 p_X7_isNobody p_X7_isNobody_b0 p_X7_isNobody_b15 p_X7_isNobody_b20
  rw [if_neg (nI_pos (by omega)), if_pos (nI_lt hs (by omega)), z0, gd_true]
  exact ⟨rfl, rfl⟩
theorem ok_part {w : Nat} (hw : w < 2) : p_X7_isNoPart (nI w) = some 0 := by
  have : w = 0 ∨ w = 1 := by omega
  rcases this with q | q <;> subst q <;> decide
theorem c_left {S P : Nat} {srt own kd : Nat → Nat} {Hs Hb Ho Hk : Nat → Int32} (hH : HC S P srt own kd Hs Hb Ho Hk) {rd : Int32} {mw ml : Int64} {re si wr fe wi : Nat → Int64} (hc : CR S P srt own kd rd mw ml re si wr fe) {s w : Nat} (hs : s < S) (hw : w < 2) : ∃ (rd' : Int32) (mw' ml' : Int64) (re' si' wr' fe' wi' : Nat → Int64), CR S P srt own kd rd' mw' ml' re' si' wr' fe' ∧ p_X7_left (nI S) (nI P) rd mw ml Hs Hb Ho Hk re si wr fe wi (nI s) (nI w) = some (lN (fp (lC S srt own kd P s (2 ^ S)) (Aw S P) w), rd', mw', ml', re', si', wr', fe', wi') := by
  have hS := hH.1; have hP := hH.2.1; have ho : ∀ k, k < P → own k < S := (fun k hk => (hH.2.2.2 k hk).2.1); have hAV := d_AV S hS P (by omega) (by omega); obtain ⟨mw', ml', re', si', wr', fe', wi', hCV, hq⟩ := v_refr hH hc (wi := wi)
  have hn : lC S srt own kd P s (2 ^ S) ≤ Aw S P := by
    refine Nat.le_trans (fb_sm_le fun u _ => ?_) (dp_le (ok := fun _ _ => true) hS hP (cCh_ok (srt := srt) (kd := kd) hS hP ho) P (Nat.le_refl _))
    split
    · exact Nat.zero_le _
    · exact Nat.le_refl _
  have hb : lC S srt own kd P s (2 ^ S) * Vw S P ≤ UN := by rw [← hAV.1]; exact Nat.mul_le_mul_right _ hn
  have hp : p_X7_part (fe' s) 182891520000 (nI w) = some (lN (fp (lC S srt own kd P s (2 ^ S)) (Aw S P) w)) := by
    rw [hCV.2.2.2.2.2 s hs]
    exact pfp hAV.1 hAV.2.2 (Nat.lt_of_le_of_lt hb (by decide)) hw
  unfold p_X7_left p_X7_left_b0
  rw [(ok_seat hS hs).1, b1_some, if_pos (show (0 : Int32) = 0 from rfl), ok_part hw, b1_some, if_pos (show (0 : Int32) = 0 from rfl), hq, b8_some, inB_nI (show s < 8 by omega) (by decide), gd_true, nI_clamp (by omega), hp, b1_some]
  exact ⟨_, _, _, _, _, _, _, _, Or.inr ⟨rfl, hCV⟩, rfl⟩
theorem c_likely {S P : Nat} {srt own kd : Nat → Nat} {Hs Hb Ho Hk : Nat → Int32} (hH : HC S P srt own kd Hs Hb Ho Hk) {rd : Int32} {mw ml : Int64} {re si wr fe wi : Nat → Int64} (hc : CR S P srt own kd rd mw ml re si wr fe) {p s w : Nat} (hp : p < P) (hs : s < S) (hw : w < 2) : ∃ (rd' : Int32) (mw' ml' : Int64) (re' si' wr' fe' wi' : Nat → Int64), CR S P srt own kd rd' mw' ml' re' si' wr' fe' ∧ p_X7_likely (nI S) (nI P) rd mw ml Hs Hb Ho Hk re si wr fe wi (nI p) (nI s) (nI w) = some (lN (fp (nC S srt own kd p s) (Aw S (p + 1)) w), rd', mw', ml', re', si', wr', fe', wi') := by
  have hS := hH.1; have hP := hH.2.1; have ho : ∀ k, k < P → own k < S := (fun k hk => (hH.2.2.2 k hk).2.1); have hAV := d_AV S hS P (by omega) (by omega); obtain ⟨mw', ml', re', si', wr', fe', wi', hCV, hq⟩ := v_refr hH hc (wi := wi)
  have hAV := d_AV S hS (p + 1) (by omega) (by omega)
  have hn := nC_le (srt := srt) (kd := kd) (st := s) hS hP ho hp
  have hb : nC S srt own kd p s * Vw S (p + 1) ≤ UN := by rw [← hAV.1]; exact Nat.mul_le_mul_right _ hn
  have hpt : p_X7_part (si' (8 * p + s)) 182891520000 (nI w) = some (lN (fp (nC S srt own kd p s) (Aw S (p + 1)) w)) := by
    rw [hCV.2.2.2.1 p s hp hs]
    exact pfp hAV.1 hAV.2.2 (Nat.lt_of_le_of_lt hb (by decide)) hw
  unfold p_X7_likely p_X7_likely_b0
  rw [(ok_seat (show P < 9 by omega) hp).2, b1_some, if_pos (show (0 : Int32) = 0 from rfl), (ok_seat hS hs).1, b1_some, if_pos (show (0 : Int32) = 0 from rfl), ok_part hw, b1_some, if_pos (show (0 : Int32) = 0 from rfl), hq, b8_some, show nI p * 8 + nI s = nI (8 * p + s) from by rw [show (8 : Int32) = nI 8 from rfl, pk_mul, nI_add, Nat.mul_comm], inB_nI (by omega) (by decide), gd_true, nI_clamp (by omega), hpt, b1_some]
  exact ⟨_, _, _, _, _, _, _, _, Or.inr ⟨rfl, hCV⟩, rfl⟩
theorem c_wrong {S P : Nat} {srt own kd : Nat → Nat} {Hs Hb Ho Hk : Nat → Int32} (hH : HC S P srt own kd Hs Hb Ho Hk) {rd : Int32} {mw ml : Int64} {re si wr fe wi : Nat → Int64} (hc : CR S P srt own kd rd mw ml re si wr fe) {w : Nat} (hw : w < 2) : ∃ (rd' : Int32) (mw' ml' : Int64) (re' si' wr' fe' wi' : Nat → Int64), CR S P srt own kd rd' mw' ml' re' si' wr' fe' ∧ p_X7_wrong (nI S) (nI P) rd mw ml Hs Hb Ho Hk re si wr fe wi (-1) (nI w) = some (lN (fp (P * Aw S P - rC S srt own kd P) (Aw S P) w), rd', mw', ml', re', si', wr', fe', wi') := by
  have hS := hH.1; have hP := hH.2.1; have ho : ∀ k, k < P → own k < S := (fun k hk => (hH.2.2.2 k hk).2.1); have hAV := d_AV S hS P (by omega) (by omega); obtain ⟨mw', ml', re', si', wr', fe', wi', hCV, hq⟩ := v_refr hH hc (wi := wi)
  have hb : (P * Aw S P - rC S srt own kd P) * Vw S P ≤ 8 * UN := by
    rw [← hAV.1, ← Nat.mul_assoc]
    exact Nat.mul_le_mul_right _ (Nat.le_trans (Nat.sub_le _ _) (Nat.mul_le_mul_right _ (by omega)))
  have hp : p_X7_part mw' 182891520000 (nI w) = some (lN (fp (P * Aw S P - rC S srt own kd P) (Aw S P) w)) := by
    rw [hCV.1]
    exact pfp hAV.1 hAV.2.2 (Nat.lt_of_le_of_lt hb u8) hw
  unfold p_X7_wrong p_X7_wrong_b0 p_X7_wrong_b60
  rw [if_neg (show ¬ (-1 : Int32) < -1 by decide), if_neg (show ¬ nI P < -1 from fun z => by rw [propext Int32.lt_iff_toInt_lt, nI_toInt (by omega), show (-1 : Int32).toInt = -1 from by decide] at z; omega), ok_part hw, b1_some, if_pos (show (0 : Int32) = 0 from rfl), hq, b8_some, if_pos (show (-1 : Int32) = -1 from rfl), hp, b1_some]
  exact ⟨_, _, _, _, _, _, _, _, Or.inr ⟨rfl, hCV⟩, rfl⟩
theorem c_looks {S P : Nat} {srt own kd : Nat → Nat} {Hs Hb Ho Hk : Nat → Int32} (hH : HC S P srt own kd Hs Hb Ho Hk) {rd : Int32} {mw ml : Int64} {re si wr fe wi : Nat → Int64} (hc : CR S P srt own kd rd mw ml re si wr fe) {w : Nat} (hw : w < 2) : ∃ (rd' : Int32) (mw' ml' : Int64) (re' si' wr' fe' wi' : Nat → Int64), CR S P srt own kd rd' mw' ml' re' si' wr' fe' ∧ p_X7_looks (nI S) (nI P) rd mw ml Hs Hb Ho Hk re si wr fe wi (nI w) = some (lN (fp (sL S srt own kd P) (Aw S P) w), rd', mw', ml', re', si', wr', fe', wi') := by
  have hS := hH.1; have hP := hH.2.1; have ho : ∀ k, k < P → own k < S := (fun k hk => (hH.2.2.2 k hk).2.1); have hAV := d_AV S hS P (by omega) (by omega); obtain ⟨mw', ml', re', si', wr', fe', wi', hCV, hq⟩ := v_refr hH hc (wi := wi)
  have hp : p_X7_part ml' 182891520000 (nI w) = some (lN (fp (sL S srt own kd P) (Aw S P) w)) := by
    rw [hCV.2.1]
    exact sLV_p hS hP ho hw
  unfold p_X7_looks p_X7_looks_b0
  rw [ok_part hw, b1_some, if_pos (show (0 : Int32) = 0 from rfl), hq, b8_some, hp, b1_some]
  exact ⟨_, _, _, _, _, _, _, _, Or.inr ⟨rfl, hCV⟩, rfl⟩
theorem c_taken {S P : Nat} {srt own kd : Nat → Nat} {Hs Hb Ho Hk : Nat → Int32} (hH : HC S P srt own kd Hs Hb Ho Hk) {rd : Int32} {mw ml : Int64} {re si wr fe wi : Nat → Int64} (hc : CR S P srt own kd rd mw ml re si wr fe) {u w : Nat} (hu : u < 2 ^ S) (hpu : pc u = P) (hw : w < 2) : ∃ (rd' : Int32) (mw' ml' : Int64) (re' si' wr' fe' wi' : Nat → Int64), CR S P srt own kd rd' mw' ml' re' si' wr' fe' ∧ p_X7_taken (nI S) (nI P) rd mw ml Hs Hb Ho Hk re si wr fe wi (nI P) (nI u) (nI w) = some (lN (fp (dC S srt own kd P u) (Aw S P) w), rd', mw', ml', re', si', wr', fe', wi') := by
  have hS := hH.1; have hP := hH.2.1; have ho : ∀ k, k < P → own k < S := (fun k hk => (hH.2.2.2 k hk).2.1); have hAV := d_AV S hS P (by omega) (by omega); obtain ⟨mw', ml', re', si', wr', fe', wi', hCV, hq⟩ := v_refr hH hc (wi := wi)
  have hpw := d_pw S hS
  have hn : dC S srt own kd P u ≤ Aw S P := dp_bd hS hP (cCh_ok hS hP ho) (Nat.le_refl _) u
  have hb : dC S srt own kd P u * Vw S P ≤ UN := by rw [← hAV.1]; exact Nat.mul_le_mul_right _ hn
  have hp : p_X7_part (re' u) 182891520000 (nI w) = some (lN (fp (dC S srt own kd P u) (Aw S P) w)) := by
    rw [hCV.2.2.1 u hu, XA_at hS hP ho (Nat.le_refl _) hpu]
    exact pfp hAV.1 hAV.2.2 (Nat.lt_of_le_of_lt hb (by decide)) hw
  unfold p_X7_taken p_X7_taken_b0 p_X7_taken_b70
  rw [if_neg (nI_pos (show P < 2 ^ 31 by omega)), if_neg (nI_nlt (Nat.le_refl P) (by omega)), d_all S hS, b1_some, if_pos (d_set S hS u hu), ok_part hw, b1_some, if_pos (show (0 : Int32) = 0 from rfl), hq, b8_some, d_pc u (by omega), b1_some, hpu, if_pos rfl, inB_nI (show u < 256 by omega) (by decide), gd_true, nI_clamp (by omega), hp, b1_some]
  exact ⟨_, _, _, _, _, _, _, _, Or.inr ⟨rfl, hCV⟩, rfl⟩
theorem c_best {S P : Nat} {srt own kd : Nat → Nat} {Hs Hb Ho Hk : Nat → Int32} (hH : HC S P srt own kd Hs Hb Ho Hk) {rd : Int32} {ls : Int64} {be row : Nat → Int32} {re tb : Nat → Int64} (hr : DR S P srt own kd rd ls be tb) {w : Nat} (hw : w < 2) : ∃ (be0 : Nat → Int32) (rd' : Int32) (ls' : Int64) (be' row' : Nat → Int32) (re' tb' : Nat → Int64), DR S P srt own kd rd' ls' be' tb' ∧ ∀ R, R ≤ P * Aw S P → (P ≤ 6 → (stF S P srt own kd be0).1 = (P * Aw S P - R) * Vw S P) → p_X7_best (nI S) (nI P) rd ls Hs Hb Ho Hk be row re tb (nI w) = some (bsV S P srt own kd w R, rd', ls', be', row', re', tb') := by
  have hS := hH.1
  have hP := hH.2.1
  have hAV := d_AV S hS P (by omega) (by omega)
  unfold p_X7_best p_X7_best_b0
  have e6 : (nI P ≤ 6) = (P ≤ 6) := propext (nI_leI (b := 6) (by omega) (by decide))
  rw [ok_part hw, b1_some, if_pos (show (0 : Int32) = 0 from rfl)]
  by_cases h6 : P ≤ 6
  · obtain ⟨ls', be', rw', re', tb', ⟨be0, d1, d2⟩, hz, hq⟩ := v_refrD hH h6 hr (row := row) (re := re)
    refine ⟨be0, 1, ls', be', rw', re', tb', ⟨hz, Or.inr ⟨rfl, h6, be0, d1, d2⟩⟩, fun R hR g2 => ?_⟩
    have hb : (P * Aw S P - R) * Vw S P ≤ 8 * UN := by
      rw [← hAV.1, ← Nat.mul_assoc]
      exact Nat.mul_le_mul_right _ (Nat.le_trans (Nat.sub_le _ _) (Nat.mul_le_mul_right _ (by omega)))
    have hp : p_X7_part ls' 182891520000 (nI w) = some (bsV S P srt own kd w R) := by
      unfold bsV
      rw [if_pos h6, d1, g2 h6]
      exact pfp hAV.1 hAV.2.2 (Nat.lt_of_le_of_lt hb u8) hw
    rw [if_pos (by rw [e6]; exact h6), hq, b6_some, hp, b1_some]
  · refine ⟨be, rd, ls, be, row, re, tb, hr, fun R hR g2 => ?_⟩
    rw [if_neg (by rw [e6]; exact h6)]
    unfold bsV
    rw [if_neg h6]
    rfl
theorem c_losers {S P n : Nat} {srt own kd : Nat → Nat} {Hs Hb Ho Hk : Nat → Int32} (hH : HC S P srt own kd Hs Hb Ho Hk) (hn : n ≤ 8) {wp wl sw sl : Nat → Int32} (hse : ∀ i, i < n → wp i = sw i ∧ wl i = sl i ∧ (∃ q : Nat, q < 8 ∧ sl i = nI q) ∧ (sw i = -1 ∨ ∃ p : Nat, p < 8 ∧ sw i = nI p)) {rd su : Int32} {tot : Int64} {wa wk wn : Nat → Int32} {ww re : Nat → Int64} (hr : WR S P srt own kd sw sl n rd su tot wn ww) : ∃ (su' : Int32) (tot' : Int64) (wa' wk' wn' : Nat → Int32) (ww' re' : Nat → Int64), WV S P srt own kd sw sl n su' tot' wn' ww' ∧ p_X7_losers (nI S) (nI P) (nI n) su rd tot Hs Hb Ho Hk wp wl wa wk wn ww re = some (nI (susN (vvN S P srt own kd sw sl n) P), su', 1, tot', wa', wk', wn', ww', re') := by
  have hS := hH.1; have hP := hH.2.1; have ho : ∀ k, k < P → own k < S := (fun k hk => (hH.2.2.2 k hk).2.1); obtain ⟨su', tot', wa', wk', wn', ww', re', hW, hq⟩ := v_refrW hH hn (fun i hi => (hse i hi).2.2) (fun i hi => ⟨(hse i hi).1, (hse i hi).2.1⟩) hr (wa := wa) (wk := wk) (re := re)
  unfold p_X7_losers p_X7_losers_b0
  rw [hq, b8_some]
  refine ⟨su', tot', wa', wk', wn', ww', re', hW, ?_⟩
  rw [← hW.1]
theorem c_likeliest {S P n : Nat} {srt own kd : Nat → Nat} {Hs Hb Ho Hk : Nat → Int32} (hH : HC S P srt own kd Hs Hb Ho Hk) (hn : n ≤ 8) {wp wl sw sl : Nat → Int32} (hse : ∀ i, i < n → wp i = sw i ∧ wl i = sl i ∧ (∃ q : Nat, q < 8 ∧ sl i = nI q) ∧ (sw i = -1 ∨ ∃ p : Nat, p < 8 ∧ sw i = nI p)) {rd su : Int32} {tot : Int64} {wa wk wn : Nat → Int32} {ww re : Nat → Int64} (hr : WR S P srt own kd sw sl n rd su tot wn ww) : ∃ (su' : Int32) (tot' : Int64) (wa' wk' wn' : Nat → Int32) (ww' re' : Nat → Int64), WV S P srt own kd sw sl n su' tot' wn' ww' ∧ p_X7_likeliest (nI S) (nI P) (nI n) su rd tot Hs Hb Ho Hk wp wl wa wk wn ww re = some (bsI (vvN S P srt own kd sw sl n) P, su', 1, tot', wa', wk', wn', ww', re') := by
  have hS := hH.1; have hP := hH.2.1; have ho : ∀ k, k < P → own k < S := (fun k hk => (hH.2.2.2 k hk).2.1); obtain ⟨su', tot', wa', wk', wn', ww', re', hW, hq⟩ := v_refrW hH hn (fun i hi => (hse i hi).2.2) (fun i hi => ⟨(hse i hi).1, (hse i hi).2.1⟩) hr (wa := wa) (wk := wk) (re := re)
  have hU := UN_lt
  have hh : p_X6_heaviest (nI P) ww' = some (bsI (vvN S P srt own kd sw sl n) P) := by
    have := he_7 (P := P) (V := Vw S P) (by omega) (d_AV S hS P (by omega) (by omega)).2.2 (v := vvN S P srt own kd sw sl n) (fun i => by have := vvV_lt (n := n) (srt := srt) (kd := kd) (sw := sw) (sl := sl) hS hP ho i; omega) hW.2.2.1 P 0 4096 (by omega) (by omega)
    have z : mxN (vvN S P srt own kd sw sl n) 0 * Vw S P = 0 := Nat.zero_mul _
    rw [z] at this
    exact this
  unfold p_X7_likeliest p_X7_likeliest_b0
  rw [hq, b8_some, hh, b1_some]
  exact ⟨su', tot', wa', wk', wn', ww', re', hW, rfl⟩
theorem c_ask {S P n : Nat} {srt own kd : Nat → Nat} {Hs Hb Ho Hk : Nat → Int32} (hH : HC S P srt own kd Hs Hb Ho Hk) (hn : n ≤ 8) {wp wl sw sl : Nat → Int32} (hse : ∀ i, i < n → wp i = sw i ∧ wl i = sl i ∧ (∃ q : Nat, q < 8 ∧ sl i = nI q) ∧ (sw i = -1 ∨ ∃ p : Nat, p < 8 ∧ sw i = nI p)) {rd su : Int32} {tot : Int64} {wa wk wn : Nat → Int32} {ww re : Nat → Int64} (hr : WR S P srt own kd sw sl n rd su tot wn ww) {ms mo mk : Nat → Int32} (hM : MC S P srt own kd ms mo mk) {w : Nat} (hw : w < 2) (lo w0 h0 kf : Int32) (al : Int64) (ks : Nat → Int32) (wy nx : Nat → Int64) : ∃ (su' : Int32) (tot' : Int64) (wa' wk' wn' : Nat → Int32) (ww' re' : Nat → Int64) (r : Int32) (a1 a2 a3 a4 : Int32) (a5 : Int64) (a6 : Nat → Int32) (a7 a8 : Nat → Int64), WV S P srt own kd sw sl n su' tot' wn' ww' ∧ p_X7_ask (nI S) (nI P) (nI n) su rd tot Hs Hb Ho Hk wp wl wa wk wn ww re (nI w) = some (r, su', 1, tot', wa', wk', wn', ww', re') ∧ p_X8_askNow (nI S) (nI P) lo w0 h0 kf (nI n) al ms mo mk ks sw sl wy nx (nI w) = some (r, a1, a2, a3, a4, a5, a6, a7, a8) := by
  have hS := hH.1; have hP := hH.2.1; have ho : ∀ k, k < P → own k < S := (fun k hk => (hH.2.2.2 k hk).2.1); obtain ⟨su', tot', wa', wk', wn', ww', re', hW, hq⟩ := v_refrW hH hn (fun i hi => (hse i hi).2.2) (fun i hi => ⟨(hse i hi).1, (hse i hi).2.1⟩) hr (wa := wa) (wk := wk) (re := re)
  obtain ⟨fo', res, c1, c2, c3, c4, c5, c6, c7, c8, k1, k2, k3⟩ := v_askNow hM hn (fun i hi => (hse i hi).2.2) (fun i hi => (hse i hi).1) hW.2.2.2 (nI w) lo w0 h0 kf al ks wy nx
  rw [← hW.1] at k1
  unfold p_X7_ask p_X7_ask_b0 p_X7_ask_b49
  rw [ok_part hw, b1_some, if_pos (show (0 : Int32) = 0 from rfl), hq, b8_some, k1, b1_some, k2]
  rcases k3 with ⟨rfl, rfl⟩ | ⟨b, hb, rfl, rfl⟩
  · rw [if_pos rfl]
    exact ⟨_, _, _, _, _, _, _, _, _, _, _, _, _, _, _, _, hW, rfl, rfl⟩
  · rw [if_neg (nI_m1 (show b < 2 ^ 31 by omega)), v_worst hS hP ho hW.2.2.2 hb, b1_some]
    by_cases z : nI w = 0
    · rw [if_pos z, if_pos z]
      exact ⟨_, _, _, _, _, _, _, _, _, _, _, _, _, _, _, _, hW, rfl, rfl⟩
    · rw [if_neg z, if_neg z]
      exact ⟨_, _, _, _, _, _, _, _, _, _, _, _, _, _, _, _, hW, rfl, rfl⟩
