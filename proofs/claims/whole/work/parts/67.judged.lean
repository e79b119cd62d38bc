/-! judged, sitting: both sides -/
theorem v_noSit {S R P : Nat} {srt row own kd : Nat → Nat} {f0 f1 : Int32} {mb mt : Nat → Int32} (hP : P < 9) (hm : mRead mb mt f0 f1 S R P srt row own kd) {sf sz : Nat → Int32} {si : Nat → Nat → Int32} {mf mz mi : Nat → Int32} (hH : SH sf sz si mf mz mi) {s : Nat} (hs : s < 4) (e1 : p_X7_isNoSheet (nI s) = some 0) (e2 : p_X8_isSheet (nI s) = some 1) (fd a1 s1 r1 p1 : Int32) (ms mr mo mk : Nat → Int32) :
    (∃ (r fd' q1 q2 q3 q4 : Int32) (q5 q6 q7 q8 : Nat → Int32), r ≠ 0 ∧ p_X7_refuseSitting (nI P) fd sz (nI s) 1 = some (r, fd') ∧ p_X8_noSitting fd a1 s1 r1 p1 mf mz mb mt ms mr mo mk (nI s) = some (r, fd', q1, q2, q3, q4, q5, q6, q7, q8)) ∨
    (∃ (f n : Nat) (a3 : Int32) (ms' mr' mo' mk' : Nat → Int32), (f < 3 ∧ n ≤ 60 ∧ sf s = nI f ∧ mf s = nI f ∧ sz s = nI n ∧ mz s = nI n ∧ ∀ i, i < n → si s i = mi (60 * s + i)) ∧ P ≤ n ∧ p_X7_refuseSitting (nI P) fd sz (nI s) 1 = some (0, fd) ∧ p_X8_noSitting fd a1 s1 r1 p1 mf mz mb mt ms mr mo mk (nI s) = some (0, fd, a3, nI S, nI R, nI P, ms', mr', mo', mk') ∧ (∀ i, i < S → ms' i = nI (srt i) ∧ mr' i = nI (row i)) ∧ (∀ i, i < P → mo' i = nI (own i) ∧ mk' i = nI (kd i))) := by
  obtain ⟨c1, c2, c3⟩ := c4 hs
  obtain ⟨a3, ms', mr', mo', mk', q, m1, m2⟩ := v_find hm a1 s1 r1 p1 ms mr mo mk
  unfold p_X7_refuseSitting p_X7_refuseSitting_b0 p_X7_refuseSitting_b38 p_X8_noSitting p_X8_noSitting_b0 p_X8_noSitting_b48 p_X8_met p_X8_met_b0
  rcases hH s hs with ⟨g1, g2⟩ | ⟨f, n, g1, g2, g3, g4, g5, g6, g7⟩
  · left
    rw [refS_lost hs e1 g1, e2]
    simp only [b1_some, b2_some, i10, if_false, c1, c2, gd_true, g2, if_neg m1_neg, show ((-10 - 1 : Int32) = 0) = False from eq_false (by decide)]
    exact ⟨_, _, _, _, _, _, _, _, _, _, by decide, rfl, rfl⟩
  · rw [refS_row hs e1 g5 g2, e2]
    simp only [b1_some, b2_some, i10, i00, if_false, if_true, c1, c2, c3, gd_true, g4, g5, g6, if_pos (nI_pos' (show f < 2 ^ 31 by omega)), q, b8_some]
    by_cases hn : P ≤ n
    · right
      rw [if_pos (nI_le hn (by omega)), if_pos (nI_le hn (by omega))]
      exact ⟨f, n, a3, ms', mr', mo', mk', ⟨g1, g2, g3, rfl, rfl, rfl, g7⟩, hn, rfl, rfl, m1, m2⟩
    · left
      rw [if_neg (nI_ge (by omega) (by omega)), if_neg (nI_ge (by omega) (by omega))]
      exact ⟨_, _, _, _, _, _, _, _, _, _, by decide, rfl, rfl⟩
theorem v_isIn {S c : Nat} (hS : S < 9) (hc : c < 256) (x : Int32) : (∃ s, s < S ∧ x = nI s ∧ c.testBit s = true ∧ p_X3_isIn (nI S) (nI c) x = some 1 ∧ p_X8_isSeatNow (nI S) x = some 1 ∧ p_X8_isIn (nI c) x = some 1) ∨ (p_X3_isIn (nI S) (nI c) x = some 0 ∧ (p_X8_isSeatNow (nI S) x = some 0 ∨ (p_X8_isSeatNow (nI S) x = some 1 ∧ p_X8_isIn (nI c) x = some 0))) := by
  unfold p_X3_isIn p_X3_isIn_b0 p_X3_isIn_b24 p_X3_isIn_b25 p_X8_isSeatNow p_X8_isSeatNow_b0
  rw [z0, z1]
  simp only [gd_true]
  rcases v_rng (N := S) (by omega) x with ⟨k, h1, rfl, h3, h4, h5⟩ | ⟨h1, h2⟩
  · rw [h3, if_neg h4, if_neg (nI_ge h1 (by omega)), d_has c hc k (by omega), d_isIn c hc k (by omega)]
    simp only [b1_some, z1, gd_true, nIb0]
    by_cases hb : c.testBit k = true
    · left
      refine ⟨k, h1, rfl, hb, ?_, trivial, ?_⟩
      · rw [if_neg (by rw [hb]; decide)]
      · rw [hb]; rfl
    · right
      have hb' : c.testBit k = false := by simpa using hb
      refine ⟨by rw [if_pos hb'], Or.inr ⟨trivial, ?_⟩⟩
      rw [hb']; rfl
  · right
    rw [h1]
    simp only [b1_some, z0, gd_true]
    refine ⟨?_, Or.inl trivial⟩
    by_cases q : x < 0
    · rw [if_pos q]
    · obtain ⟨j, hj, rfl⟩ := nI_of q
      have h2 := h2.resolve_left q
      rw [if_neg q, if_pos (nI_le (Nat.le_of_not_lt fun z => h2 (nI_lt z (by omega))) hj)]
theorem jud_sim {S P : Nat} {srt own kd : Nat → Nat} {Hs Hb Ho Hk ms mo mk : Nat → Int32} (hHC : HC S P srt own kd Hs Hb Ho Hk) (hM : MC S P srt own kd ms mo mk) {s n : Nat} (hs : s < 4) (hn : n ≤ 60) (hPn : P ≤ n) {si : Nat → Nat → Int32} {mi : Nat → Int32} (hi : ∀ i, i < n → si s i = mi (60 * s + i)) {fd a rr : Int32} {mf mz mb mt mr : Nat → Int32} : ∀ (r p fC fM u : Nat), p + r = P → r < fC → r < fM → u < 2 ^ S → pc u = p →
    ∃ v, p_X3_firstWhoCannot_b4 fC (nI S) (nI P) Hs Hb Ho Hk si s (nI u) (nI p) = some v ∧ p_X8_judged_b17 fM fd a (nI S) rr (nI P) mf mz mi mb mt ms mr mo mk (nI s) (nI u) (nI p) = some (v, fd, a, nI S, rr, nI P, ms, mr, mo, mk) := by
  have hS := hHC.1
  have hP := hHC.2.1
  have hpw := d_pw S hS
  have ho : ∀ k, k < P → own k < S := fun k hk => (hHC.2.2.2 k hk).2.1
  intro r
  induction r with
  | zero =>
    intro p fC fM u hp hC hM' hu hpu
    obtain ⟨c, rfl⟩ : ∃ c, fC = c + 1 := ⟨fC - 1, by omega⟩
    obtain ⟨m, rfl⟩ : ∃ m, fM = m + 1 := ⟨fM - 1, by omega⟩
    have e : p = P := by omega
    subst e
    refine ⟨-1, ?_, ?_⟩
    · show p_X3_firstWhoCannot_b4x _ _ _ _ _ _ _ _ _ _ _ = _
      unfold p_X3_firstWhoCannot_b4x
      rw [if_pos (nI_le (Nat.le_refl _) (by omega))]
    · show p_X8_judged_b17x _ _ _ _ _ _ _ _ _ _ _ _ _ _ _ _ _ _ = _
      unfold p_X8_judged_b17x
      rw [if_pos (nI_le (Nat.le_refl _) (by omega))]
  | succ r ih =>
    intro p fC fM u hp hC hM' hu hpu
    obtain ⟨c, rfl⟩ : ∃ c, fC = c + 1 := ⟨fC - 1, by omega⟩
    obtain ⟨m, rfl⟩ : ∃ m, fM = m + 1 := ⟨fM - 1, by omega⟩
    have hpP : p < P := by omega
    obtain ⟨o1, o2, o3, o4⟩ := hHC.2.2.2 p hpP
    obtain ⟨k1, k2, k3, k4⟩ := hM.2.2.2 p hpP
    have ch1 := v_chC' hHC o2 o4 hu (by omega)
    have ch2 := v_chM' hM hpP o4 hu (by omega)
    obtain ⟨d1, d2, d3, d4⟩ := cCh_ok (srt := srt) (kd := kd) hS hP ho p u hpP hu hpu
    show ∃ v, p_X3_firstWhoCannot_b4x _ _ _ _ _ _ _ _ _ _ _ = _ ∧ p_X8_judged_b17x _ _ _ _ _ _ _ _ _ _ _ _ _ _ _ _ _ _ = _
    unfold p_X3_firstWhoCannot_b4x p_X8_judged_b17x p_X8_judged_b71
    rw [if_neg (nI_ge hpP (by omega)), if_neg (nI_ge hpP (by omega)), ix60]
    simp only [inB_nI (show p < 8 by omega) (by decide), inB_nI (show p < 60 by omega) (by decide), inB_nI (show 60 * s + p < 240 by omega) (by decide), gd_true, nm_def, nI_clamp (show p < 2 ^ 31 by omega), nI_clamp (show 60 * s + p < 2 ^ 31 by omega), o1, o3, k3, ch1, ch2, b1_some, decide_eq_true hs, nI_1, hi p (by omega)]
    rcases v_isIn hS (c := cCh S srt own kd p u) (by omega) (mi (60 * s + p)) with ⟨st, hst, hx, hb, w1, w2, w3⟩ | ⟨w1, w2⟩
    · have w1' : p_X3_isIn (nI S) (nI (chN S (fun c => bsN srt c S) (own p) (srt (own p)) (kd p) u)) (mi (60 * s + p)) = some 1 := w1
      have w3' : p_X8_isIn (nI (chN S (fun c => bsN srt c S) (own p) (srt (own p)) (kd p) u)) (mi (60 * s + p)) = some 1 := w3
      simp only [w1', w2, w3', b1_some, i10, if_false]
      rw [hx, d_sh st (by omega), fa_or]
      have hf := (d2 st hb).2
      obtain ⟨g1, g2, g3⟩ := d_pcor u (by omega) st (by omega) hf
      exact ih (p + 1) c m (u ||| 2 ^ st) (by omega) (by omega) (by omega) (Nat.or_lt_two_pow hu (two_lt hst)) (by omega)
    · have w1' : p_X3_isIn (nI S) (nI (chN S (fun c => bsN srt c S) (own p) (srt (own p)) (kd p) u)) (mi (60 * s + p)) = some 0 := w1
      rcases w2 with w2 | ⟨w2, w3⟩
      · simp only [w1', w2, b1_some, i00, if_true]
        exact ⟨_, rfl, rfl⟩
      · have w3' : p_X8_isIn (nI (chN S (fun c => bsN srt c S) (own p) (srt (own p)) (kd p) u)) (mi (60 * s + p)) = some 0 := w3
        simp only [w1', w2, w3', b1_some, i00, i10, if_true, if_false]
        exact ⟨_, rfl, rfl⟩
theorem v_judged {S R P : Nat} {srt row own kd : Nat → Nat} {hS hR hP f0 f1 : Int32} {Hs Hr Hb Ho Hk mb mt : Nat → Int32} (h : HB S R P srt row own kd hS hR hP f0 f1 Hs Hr Hb Ho Hk mb mt) {sf sz : Nat → Int32} {si : Nat → Nat → Int32} {mf mz mi : Nat → Int32} (hH : SH sf sz si mf mz mi) (fd a1 s1 r1 p1 : Int32) (ms mr mo mk : Nat → Int32) (x : Int32) : ∃ (r : Int32) (fd' : Int32) (q1 q2 q3 q4 : Int32) (q5 q6 q7 q8 : Nat → Int32), p_X7_judged hS hP fd Hs Hb Ho Hk sz si x = some (r, fd') ∧ p_X8_judged fd a1 s1 r1 p1 mf mz mi mb mt ms mr mo mk x = some (r, fd', q1, q2, q3, q4, q5, q6, q7, q8) := by
  obtain ⟨rfl, rfl, rfl, hcr, hm⟩ := h
  have hHC := HB_HC hcr
  have hS := hHC.1
  have hP := hHC.2.1
  unfold p_X7_judged p_X7_judged_b0 p_X7_judged_b31 p_X8_judged p_X8_judged_b0
  rcases v_shno x with ⟨s, hs, rfl, e1, e2⟩ | ⟨e1, e2⟩
  · obtain ⟨c1, c2, c3⟩ := c4 hs
    rcases v_noSit (by omega) hm hH hs e1 e2 fd a1 s1 r1 p1 ms mr mo mk with ⟨r, fd', q1, q2, q3, q4, q5, q6, q7, q8, hr, w1, w2⟩ | ⟨f, n, a3, ms', mr', mo', mk', ⟨g1, g2, g3, g4, g5, g6, g7⟩, hPn, w1, w2, m1, m2⟩
    · rw [w1, w2, b2_some, b10_some, if_neg hr, if_neg hr]
      exact ⟨_, _, _, _, _, _, _, _, _, _, rfl, rfl⟩
    · obtain ⟨v, j1, j2⟩ := jud_sim hHC (mk_MC hcr m1 m2) hs g2 hPn g7 (fd := fd) (a := a3) (rr := nI R) (mf := mf) (mz := mz) (mb := mb) (mt := mt) (mr := mr') P 0 4096 4096 0 (by omega) (by omega) (by omega) (Nat.pow_pos (by decide)) rfl
      have j1' : p_X3_firstWhoCannot (nI S) (nI P) Hs Hb Ho Hk si s = some v := j1
      rw [w1, w2, b2_some, b10_some, if_pos rfl, if_pos rfl, c2, c1, c3, gd_true, gd_true, j1', b1_some]
      exact ⟨_, _, _, _, _, _, _, _, _, _, rfl, j2⟩
  · unfold p_X7_refuseSitting p_X7_refuseSitting_b0 p_X8_noSitting p_X8_noSitting_b0
    rw [refS_bad e1, e2]
    simp only [b1_some, b2_some, b10_some, i00, if_true, show ((-2 : Int32) = 0) = False from eq_false (by decide), if_false]
    exact ⟨_, _, _, _, _, _, _, _, _, _, rfl, rfl⟩
/-- what is told of a whole sitting: W in parts of UN, 1 by M -/
theorem one_by {M W w : Nat} (h : W * M = UN) (hw : w < 2) : p_X7_part (lN W) 182891520000 (nI w) = some (lN (if w = 0 then 1 else M)) := by
  have hW : 0 < W := Nat.pos_of_ne_zero fun e => by rw [e, Nat.zero_mul] at h; exact absurd h (by decide)
  have hM : 0 < M := Nat.pos_of_ne_zero fun e => by rw [e, Nat.mul_zero] at h; exact absurd h (by decide)
  have hle : 1 * W ≤ UN := by rw [Nat.one_mul, ← h]; exact Nat.le_mul_of_pos_right _ hM
  have e := pfp (a := 1) (A := M) (V := W) (w := w) (by rw [Nat.mul_comm]; exact h) hW (Nat.lt_of_le_of_lt hle (by decide)) hw
  rw [Nat.one_mul] at e
  rw [e]
  unfold fp
  rw [Nat.gcd_one_left, Nat.div_one]
theorem zero_by {w : Nat} (hw : w < 2) : p_X7_part 0 182891520000 (nI w) = some (if w = 0 then 0 else 1) := by
  have : w = 0 ∨ w = 1 := by omega
  rcases this with q | q <;> subst q <;> decide +kernel
theorem sit_sim {S P : Nat} {srt own kd : Nat → Nat} {Hs Hb Ho Hk ms mo mk : Nat → Int32} (hHC : HC S P srt own kd Hs Hb Ho Hk) (hM : MC S P srt own kd ms mo mk) {s n : Nat} (hs : s < 4) (hn : n ≤ 60) (hPn : P ≤ n) {si : Nat → Nat → Int32} {mi : Nat → Int32} (hi : ∀ i, i < n → si s i = mi (60 * s + i)) {w : Nat} (hw : w < 2) : ∀ (r p fC fM u W M : Nat), p + r = P → r < fC → r < fM → u < 2 ^ S → pc u = p → W * M = UN → (∃ X, M * X = Aw S p) → M < 2 ^ 62 →
    ∃ t v, p_X3_chanceOf_b9 fC (nI S) (nI P) Hs Hb Ho Hk si s (nI u) (lN W) (nI p) = some t ∧ p_X7_part t 182891520000 (nI w) = some v ∧ p_X8_sittingOf_b8 fM (nI S) (nI P) mi ms mo mk (nI s) (nI w) (nI u) (lN M) (nI p) = some v := by
  have hS := hHC.1
  have hP := hHC.2.1
  have hpw := d_pw S hS
  have ho : ∀ k, k < P → own k < S := fun k hk => (hHC.2.2.2 k hk).2.1
  have w0 : (nI w = 0) = (w = 0) := propext (nI_eq (b := 0) (by omega) (by decide))
  intro r
  induction r with
  | zero =>
    intro p fC fM u W M hp hC hM' hu hpu hWM hX hM62
    obtain ⟨c, rfl⟩ : ∃ c, fC = c + 1 := ⟨fC - 1, by omega⟩
    obtain ⟨m, rfl⟩ : ∃ m, fM = m + 1 := ⟨fM - 1, by omega⟩
    have e : p = P := by omega
    subst e
    refine ⟨lN W, lN (if w = 0 then 1 else M), ?_, one_by hWM hw, ?_⟩
    · show p_X3_chanceOf_b9x _ _ _ _ _ _ _ _ _ _ _ _ = _
      unfold p_X3_chanceOf_b9x
      rw [if_pos (nI_le (Nat.le_refl _) (by omega))]
    · show p_X8_sittingOf_b8x _ _ _ _ _ _ _ _ _ _ _ _ = _
      unfold p_X8_sittingOf_b8x p_X8_sittingOf_b110
      rw [if_pos (nI_le (Nat.le_refl _) (by omega))]
      simp only [w0]
      by_cases q : w = 0
      · rw [if_pos q, if_pos q]; rfl
      · rw [if_neg q, if_neg q]
  | succ r ih =>
    intro p fC fM u W M hp hC hM' hu hpu hWM hX hM62
    obtain ⟨c, rfl⟩ : ∃ c, fC = c + 1 := ⟨fC - 1, by omega⟩
    obtain ⟨m, rfl⟩ : ∃ m, fM = m + 1 := ⟨fM - 1, by omega⟩
    have hpP : p < P := by omega
    obtain ⟨o1, o2, o3, o4⟩ := hHC.2.2.2 p hpP
    obtain ⟨k1, k2, k3, k4⟩ := hM.2.2.2 p hpP
    have ch1 := v_chC' hHC o2 o4 hu (by omega)
    have ch2 := v_chM' hM hpP o4 hu (by omega)
    obtain ⟨d1, d2, d3, d4⟩ := cCh_ok (srt := srt) (kd := kd) hS hP ho p u hpP hu hpu
    have hW : 0 < W := Nat.pos_of_ne_zero fun e => by rw [e, Nat.zero_mul] at hWM; exact absurd hWM (by decide)
    show ∃ t v, p_X3_chanceOf_b9x _ _ _ _ _ _ _ _ _ _ _ _ = _ ∧ _ ∧ p_X8_sittingOf_b8x _ _ _ _ _ _ _ _ _ _ _ _ = _
    unfold p_X3_chanceOf_b9x p_X3_chanceOf_b64 p_X8_sittingOf_b8x p_X8_sittingOf_b66 p_X8_sittingOf_b75
    rw [if_neg (nI_ge hpP (by omega)), if_neg (nI_ge hpP (by omega)), ix60]
    simp only [inB_nI (show p < 8 by omega) (by decide), inB_nI (show p < 60 by omega) (by decide), inB_nI (show 60 * s + p < 240 by omega) (by decide), gd_true, nm_def, nI_clamp (show p < 2 ^ 31 by omega), nI_clamp (show 60 * s + p < 2 ^ 31 by omega), o1, o3, k3, ch1, ch2, b1_some, decide_eq_true hs, nI_1, hi p (by omega)]
    change ∃ t v, (b1 (p_J6_bitCount_0f7a4 (nI (cCh S srt own kd p u))) _ = _) ∧ _ ∧ _
    have hc8 : cCh S srt own kd p u < 256 := by omega
    have hpc := d_pc _ hc8
    have hon := d_ones _ hc8
    have hC : chN S (fun c => bsN srt c S) (own p) (srt (own p)) (kd p) u = cCh S srt own kd p u := rfl
    rw [hC]
    generalize hcc : cCh S srt own kd p u = cc at *
    rw [hpc, hon, b1_some, if_neg (nI_ne0 (show 0 < pc cc by omega) (by omega)), nI_l (show pc cc < 2 ^ 31 by omega), lne0 (by omega) (by omega), pk_lDiv (by have : W * 1 ≤ W * M := Nat.mul_le_mul_left _ (Nat.pos_of_ne_zero fun e => by rw [e, Nat.mul_zero] at hWM; exact absurd hWM (by decide)); have : UN < 2 ^ 40 := UN_lt; omega) (by omega) (by omega)]
    simp only [gd_true]
    rcases v_isIn hS (c := cc) (by omega) (mi (60 * s + p)) with ⟨st, hst, hx, hb, w1, w2, w3⟩ | ⟨w1, w2⟩
    · simp only [w1, w2, w3, b1_some, i10, if_false]
      rw [hx, d_sh st (by omega), fa_or, nI_l (show pc cc < 2 ^ 31 by omega), lN_mul]
      have hf := (d2 st hb).2
      obtain ⟨g1, g2, g3⟩ := d_pcor u (by omega) st (by omega) hf
      obtain ⟨X, hX⟩ := hX
      have hdv := (d_lcdvd (S - p) (by omega) (pc cc) (by omega) ⟨d3, d4⟩).1
      obtain ⟨y, hy⟩ := Nat.dvd_of_mod_eq_zero hdv
      have hA : M * pc cc * (X * y) = Aw S (p + 1) := by
        show _ = Aw S p * lc (S - p)
        rw [← hX, hy]
        ac_rfl
      have hAV := (d_AV S hS (p + 1) (by omega) (by omega))
      have hWd : W / pc cc * (M * pc cc) = UN := by
        have hM0 : 0 < M := Nat.pos_of_ne_zero fun e => by rw [e, Nat.mul_zero] at hWM; exact absurd hWM (by decide)
        have e1 : W = X * y * Vw S (p + 1) * pc cc := by
          apply Nat.eq_of_mul_eq_mul_right hM0
          rw [hWM, ← hAV.1, ← hA]
          ac_rfl
        have e2 : W / pc cc = X * y * Vw S (p + 1) := by rw [e1, Nat.mul_div_cancel _ (by omega)]
        rw [e2, ← hAV.1, ← hA]
        ac_rfl
      have hM2 : M * pc cc < 2 ^ 62 := by
        have h1 : M * pc cc * 1 ≤ M * pc cc * (X * y) := Nat.mul_le_mul_left _ (Nat.pos_of_ne_zero fun e => by rw [e, Nat.mul_zero] at hA; omega)
        have h2 := Aw_le S hS (p + 1) (by omega) (by omega)
        omega
      exact ih (p + 1) c m (u ||| 2 ^ st) (W / pc cc) (M * pc cc) (by omega) (by omega) (by omega) (Nat.or_lt_two_pow hu (two_lt hst)) (by omega) hWd ⟨X * y, hA⟩ hM2
    · have fin : ∃ (t v : Int64), (some (0 : Int64) : Option Int64) = some t ∧ p_X7_part t 182891520000 (nI w) = some v ∧ (if nI w = 0 then some (0 : Int64) else some 1) = some v := by
        refine ⟨0, _, rfl, zero_by hw, ?_⟩
        simp only [w0]
        by_cases q : w = 0
        · rw [if_pos q, if_pos q]
        · rw [if_neg q, if_neg q]
      rcases w2 with w2 | ⟨w2, w3⟩
      · simp only [w1, w2, b1_some, i00, if_true]
        exact fin
      · simp only [w1, w2, w3, b1_some, i00, i10, if_true, if_false]
        exact fin
theorem v_sitting {S R P : Nat} {srt row own kd : Nat → Nat} {hS hR hP f0 f1 : Int32} {Hs Hr Hb Ho Hk mb mt : Nat → Int32} (h : HB S R P srt row own kd hS hR hP f0 f1 Hs Hr Hb Ho Hk mb mt) {sf sz : Nat → Int32} {si : Nat → Nat → Int32} {mf mz mi : Nat → Int32} (hH : SH sf sz si mf mz mi) (fd a1 s1 r1 p1 : Int32) (ms mr mo mk : Nat → Int32) (x y : Int32) : ∃ (r : Int64) (fd' : Int32) (q1 q2 q3 q4 : Int32) (q5 q6 q7 q8 : Nat → Int32), p_X7_sitting hS hP fd Hs Hb Ho Hk sz si x y = some (r, fd') ∧ p_X8_sitting fd a1 s1 r1 p1 mf mz mi mb mt ms mr mo mk x y = some (r, fd', q1, q2, q3, q4, q5, q6, q7, q8) := by
  obtain ⟨rfl, rfl, rfl, hcr, hm⟩ := h
  have hHC := HB_HC hcr
  have hS := hHC.1
  have hP := hHC.2.1
  unfold p_X7_sitting p_X7_sitting_b0 p_X7_sitting_b14 p_X7_sitting_b52 p_X8_sitting p_X8_sitting_b0 p_X8_sitting_b14 p_X8_sitting_b43
  rcases v_shno x with ⟨s, hs, rfl, e1, e2⟩ | ⟨e1, e2⟩
  · obtain ⟨c1, c2, c3⟩ := c4 hs
    rcases v_wt y with ⟨w, hw, rfl, e6, e7⟩ | ⟨e6, e7⟩
    · rcases v_noSit (by omega) hm hH hs e1 e2 fd a1 s1 r1 p1 ms mr mo mk with ⟨r, fd', q1, q2, q3, q4, q5, q6, q7, q8, hr, w1, w2⟩ | ⟨f, n, a3, ms', mr', mo', mk', ⟨g1, g2, g3, g4, g5, g6, g7⟩, hPn, w1, w2, m1, m2⟩
      · rw [e6, b1_some, if_pos (show (0 : Int32) = 0 from rfl), w1, b2_some, if_neg hr, asL, e2, b1_some, if_neg (show ¬ (1 : Int32) = 0 by decide), e7, b1_some, if_neg (show ¬ (1 : Int32) = 0 by decide), w2, b10_some, if_neg hr]
        exact ⟨_, _, _, _, _, _, _, _, _, _, rfl, rfl⟩
      · obtain ⟨t, v, j1, j2, j3⟩ := sit_sim hHC (mk_MC hcr m1 m2) hs g2 hPn g7 hw P 0 4096 4096 0 UN 1 (by omega) (by omega) (by omega) (Nat.pow_pos (by decide)) rfl (Nat.mul_one _) ⟨1, rfl⟩ (by decide)
        have j1' : p_X3_chanceOf (nI S) (nI P) Hs Hb Ho Hk si s = some t := j1
        have j3' : p_X8_sittingOf (nI S) (nI P) mi ms' mo' mk' (nI s) (nI w) = some v := j3
        rw [e6, b1_some, if_pos (show (0 : Int32) = 0 from rfl), w1, b2_some, if_pos (show (0 : Int32) = 0 from rfl), c2, gd_true, c1, c3, gd_true, j1', b1_some, j2, b1_some, e2, b1_some, if_neg (show ¬ (1 : Int32) = 0 by decide), e7, b1_some, if_neg (show ¬ (1 : Int32) = 0 by decide), w2, b10_some, if_pos (show (0 : Int32) = 0 from rfl), j3', b1_some]
        exact ⟨_, _, _, _, _, _, _, _, _, _, rfl, rfl⟩
    · have q0 : p_X7_refuseSitting (nI P) fd sz (nI s) 0 = some (-2, fd) := by
        unfold p_X7_refuseSitting p_X7_refuseSitting_b0
        rw [refS_bad0 e1, b2_some, if_neg (by decide)]
      rw [e6, b1_some, if_neg (show ¬ (1 : Int32) = 0 by decide), q0, b2_some, if_neg (show ¬ (-2 : Int32) = 0 by decide), asL, e2, b1_some, if_neg (show ¬ (1 : Int32) = 0 by decide), e7, b1_some, if_pos (show (0 : Int32) = 0 from rfl)]
      exact ⟨_, _, _, _, _, _, _, _, _, _, rfl, rfl⟩
  · have q : ∀ o, p_X7_refuseSitting (nI P) fd sz x o = some (-2, fd) := fun o => by
      unfold p_X7_refuseSitting p_X7_refuseSitting_b0
      rw [refS_bad e1, b2_some, if_neg (by decide)]
    rw [q, q, e2, b2_some, if_neg (show ¬ (-2 : Int32) = 0 by decide), asL, b1_some, if_pos (show (0 : Int32) = 0 from rfl)]
    rcases v_wt y with ⟨w, hw, rfl, e6, e7⟩ | ⟨e6, e7⟩
    · rw [e6, b1_some, if_pos (show (0 : Int32) = 0 from rfl)]
      exact ⟨_, _, _, _, _, _, _, _, _, _, rfl, rfl⟩
    · rw [e6, b1_some, if_neg (show ¬ (1 : Int32) = 0 by decide)]
      exact ⟨_, _, _, _, _, _, _, _, _, _, rfl, rfl⟩
