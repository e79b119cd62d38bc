/-! digest: both sides -/
theorem g213 {n : Nat} : p_X8_digest_b213 (n + 1) = p_X8_digest_b213x (p_X8_digest_b213 n) := rfl
theorem g238 {n : Nat} : p_X8_digest_b238 (n + 1) = p_X8_digest_b238x (p_X8_digest_b238 n) := rfl
theorem g263 {n : Nat} : p_X8_digest_b263 (n + 1) = p_X8_digest_b263x (p_X8_digest_b263 n) := rfl
theorem g300 {n : Nat} : p_X8_digest_b300 (n + 1) = p_X8_digest_b300x (p_X8_digest_b300 n) := rfl
theorem g390 {n : Nat} : p_X8_digest_b390 (n + 1) = p_X8_digest_b390x (p_X8_digest_b390 n) := rfl
theorem gm6 {n : Nat} : p_X8_digest_b6 (n + 1) = p_X8_digest_b6x (p_X8_digest_b6 n) := rfl
theorem gc6 {n : Nat} : p_X7_digest_b6 (n + 1) = p_X7_digest_b6x (p_X7_digest_b6 n) := rfl
theorem d_t5 : (p_X7_turned 5 2 0 = p_X8_turnedOf 5 2 0 ∧ (p_X7_turned 5 2 0).isSome = true) ∧ (p_X7_turned 5 2 1 = p_X8_turnedOf 5 2 1 ∧ (p_X7_turned 5 2 1).isSome = true) := by decide +kernel
theorem m_213 {S R P : Nat} {srt row own kd : Nat → Nat} {Hs Hr Hb Ho Hk : Nat → Int32} (hcr : cRows S R P srt row own kd Hs Hr Hb Ho Hk) {ms mr mo mk : Nat → Int32} (m1 : ∀ i, i < S → ms i = nI (srt i) ∧ mr i = nI (row i)) (m2 : ∀ i, i < P → mo i = nI (own i) ∧ mk i = nI (kd i)) {fd a3 sg : Int32} {mb mt sw sl : Nat → Int32} (h : Int64) (lo ow oh kf sd : Int32) (al br : Int64) (ks od bo ev : Nat → Int32) (wy nx : Nat → Int64) : ∃ (lo' ow' kf' : Int32) (al' : Int64) (ks' od' : Nat → Int32) (wy' nx' : Nat → Int64), p_X8_digest_b213 4096 fd a3 (nI S) (nI R) (nI P) lo ow oh kf sg sd al br mb mt ms mr mo mk ks od bo sw sl ev wy nx h 0 = p_X8_digest_b238 4096 fd a3 (nI S) (nI R) (nI P) lo' ow' oh kf' sg sd al' br mb mt ms mr mo mk ks' od' bo sw sl ev wy' nx' (31 * (31 * h + lN (fp (P * Aw S P - rC S srt own kd P) (Aw S P) 0)) + lN (fp (P * Aw S P - rC S srt own kd P) (Aw S P) 1)) 0 := by
  have hM := mk_MC hcr m1 m2
  obtain ⟨c1, c2, c3, c4, c5, c6, c7, c8, k1⟩ := v_meanOf hM (show 0 < 2 by omega) (ordr := od) (lo := lo) (ow := ow) (oh := oh) (kf := kf) (al := al) (ks := ks) (wy := wy) (nx := nx)
  obtain ⟨d1, d2, d3, d4, d5, d6, d7, d8, k2⟩ := v_meanOf hM (show 1 < 2 by omega) (ordr := c6) (lo := c1) (ow := c2) (oh := oh) (kf := c3) (al := c4) (ks := c5) (wy := c7) (nx := c8)
  refine ⟨d1, d2, d3, d4, d5, d6, d7, d8, ?_⟩
  rw [show p_X8_digest_b213 4096 = p_X8_digest_b213 (4093 + 1 + 1 + 1) from rfl, g213]
  unfold p_X8_digest_b213x
  rw [if_neg (show ¬ (2 : Int32) ≤ 0 by decide), show p_X8_meanOf (nI S) (nI P) lo ow oh kf al ms mo mk ks od wy nx 0 = _ from k1, b9_some, nm_def, nm_def, a01, g213]
  unfold p_X8_digest_b213x
  rw [if_neg (show ¬ (2 : Int32) ≤ 1 by decide), show p_X8_meanOf (nI S) (nI P) c1 c2 oh c3 c4 ms mo mk c5 c6 c7 c8 1 = _ from k2, b9_some, nm_def, nm_def, a12, g213]
  unfold p_X8_digest_b213x
  rw [if_pos (show (2 : Int32) ≤ 2 by decide)]
theorem m_238 {S R P : Nat} {srt row own kd : Nat → Nat} {Hs Hr Hb Ho Hk : Nat → Int32} (hcr : cRows S R P srt row own kd Hs Hr Hb Ho Hk) {ms mr mo mk : Nat → Int32} (m1 : ∀ i, i < S → ms i = nI (srt i) ∧ mr i = nI (row i)) (m2 : ∀ i, i < P → mo i = nI (own i) ∧ mk i = nI (kd i)) {fd a3 sg : Int32} {mb mt sw sl : Nat → Int32} (h : Int64) (lo ow oh kf sd : Int32) (al br : Int64) (ks od bo ev : Nat → Int32) (wy nx : Nat → Int64) : ∃ (lo' ow' kf' : Int32) (al' : Int64) (ks' : Nat → Int32) (wy' nx' : Nat → Int64), p_X8_digest_b238 4096 fd a3 (nI S) (nI R) (nI P) lo ow oh kf sg sd al br mb mt ms mr mo mk ks od bo sw sl ev wy nx h 0 = p_X8_digest_b263 4096 fd a3 (nI S) (nI R) (nI P) lo' ow' oh kf' sg sd al' br mb mt ms mr mo mk ks' od bo sw sl ev wy' nx' (31 * (31 * h + lN (fp (sL S srt own kd P) (Aw S P) 0)) + lN (fp (sL S srt own kd P) (Aw S P) 1)) 0 := by
  have hM := mk_MC hcr m1 m2
  obtain ⟨c1, c2, c3, c4, c5, c6, c7, k1⟩ := v_looksNow hM (show 0 < 2 by omega) (lo := lo) (ow := ow) (oh := oh) (kf := kf) (al := al) (ks := ks) (wy := wy) (nx := nx)
  obtain ⟨d1, d2, d3, d4, d5, d6, d7, k2⟩ := v_looksNow hM (show 1 < 2 by omega) (lo := c1) (ow := c2) (oh := oh) (kf := c3) (al := c4) (ks := c5) (wy := c6) (nx := c7)
  refine ⟨d1, d2, d3, d4, d5, d6, d7, ?_⟩
  rw [show p_X8_digest_b238 4096 = p_X8_digest_b238 (4093 + 1 + 1 + 1) from rfl, g238]
  unfold p_X8_digest_b238x
  rw [if_neg (show ¬ (2 : Int32) ≤ 0 by decide), show p_X8_looksNow (nI S) (nI P) lo ow oh kf al ms mo mk ks wy nx 0 = _ from k1, b8_some, nm_def, nm_def, a01, g238]
  unfold p_X8_digest_b238x
  rw [if_neg (show ¬ (2 : Int32) ≤ 1 by decide), show p_X8_looksNow (nI S) (nI P) c1 c2 oh c3 c4 ms mo mk c5 c6 c7 1 = _ from k2, b8_some, nm_def, nm_def, a12, g238]
  unfold p_X8_digest_b238x
  rw [if_pos (show (2 : Int32) ≤ 2 by decide)]
theorem m_263 {S R P : Nat} {srt row own kd : Nat → Nat} {Hs Hr Hb Ho Hk : Nat → Int32} (hcr : cRows S R P srt row own kd Hs Hr Hb Ho Hk) {ms mr mo mk : Nat → Int32} (m1 : ∀ i, i < S → ms i = nI (srt i) ∧ mr i = nI (row i)) (m2 : ∀ i, i < P → mo i = nI (own i) ∧ mk i = nI (kd i)) {fd a3 sg : Int32} {mb mt sw sl : Nat → Int32} (h : Int64) (lo ow oh kf sd : Int32) (al br : Int64) (ks od bo ev : Nat → Int32) (wy nx : Nat → Int64) : ∃ (lo' ow' kf' : Int32) (al' : Int64) (ks' : Nat → Int32) (wy' nx' : Nat → Int64), p_X8_digest_b263 4096 fd a3 (nI S) (nI R) (nI P) lo ow oh kf sg sd al br mb mt ms mr mo mk ks od bo sw sl ev wy nx h 0 = p_X8_digest_b300 4096 fd a3 (nI S) (nI R) (nI P) lo' ow' oh kf' sg sd al' br mb mt ms mr mo mk ks' od bo sw sl ev wy' nx' (31 * (31 * h + lN (fp (dC S srt own kd P (2 ^ P - 1)) (Aw S P) 0)) + lN (fp (dC S srt own kd P (2 ^ P - 1)) (Aw S P) 1)) 0 := by
  have hM := mk_MC hcr m1 m2
  have hS := hM.1
  have hP := hM.2.1
  have h0 : 0 < 2 ^ P := Nat.pow_pos (by decide)
  have hu : 2 ^ P - 1 < 2 ^ S := by have := Nat.pow_le_pow_right (show 0 < 2 by decide) hP; omega
  obtain ⟨c1, c2, c3, c4, c5, c6, c7, k1⟩ := v_takenOf hM (Nat.le_refl P) hu (show 0 < 2 by omega) (lo := lo) (ow := ow) (oh := oh) (kf := kf) (al := al) (ks := ks) (wy := wy) (nx := nx)
  obtain ⟨d1, d2, d3, d4, d5, d6, d7, k2⟩ := v_takenOf hM (Nat.le_refl P) hu (show 1 < 2 by omega) (lo := c1) (ow := c2) (oh := oh) (kf := c3) (al := c4) (ks := c5) (wy := c6) (nx := c7)
  refine ⟨d1, d2, d3, d4, d5, d6, d7, ?_⟩
  rw [show p_X8_digest_b263 4096 = p_X8_digest_b263 (4093 + 1 + 1 + 1) from rfl, g263]
  unfold p_X8_digest_b263x
  rw [if_neg (show ¬ (2 : Int32) ≤ 0 by decide), d_sh P (by omega), L1, pk_sub (by omega), show p_X8_takenOf (nI S) lo ow oh kf al ms mo mk ks wy nx (nI P) (nI (2 ^ P - 1)) 0 = _ from k1, b8_some, nm_def, nm_def, show (0 : Int32) + nI 1 = 1 from rfl, g263]
  unfold p_X8_digest_b263x
  rw [if_neg (show ¬ (2 : Int32) ≤ 1 by decide), d_sh P (by omega)]
  rw [show nI (2 ^ P) - 1 = nI (2 ^ P - 1) from pk_sub (b := 1) (by omega)]
  rw [show p_X8_takenOf (nI S) c1 c2 oh c3 c4 ms mo mk c5 c6 c7 (nI P) (nI (2 ^ P - 1)) 1 = _ from k2, b8_some, nm_def, nm_def, a12, g263]
  unfold p_X8_digest_b263x
  rw [if_pos (show (2 : Int32) ≤ 2 by decide)]
theorem v_faultF {mb mt : Nat → Int32} {f0 f1 : Int32} {S R P : Nat} {srt row own kd : Nat → Nat} (h : mRead mb mt f0 f1 S R P srt row own kd) (a1 s1 r1 p1 : Int32) (ms mr mo mk : Nat → Int32) (x : Int32) :
    ∃ (a3 : Int32) (ms' mr' mo' mk' : Nat → Int32), p_X8_faultOf a1 s1 r1 p1 mb mt ms mr mo mk x = some (if x = 0 then f0 else f1, a3, nI S, nI R, nI P, ms', mr', mo', mk') ∧ (∀ i, i < S → ms' i = nI (srt i) ∧ mr' i = nI (row i)) ∧ (∀ i, i < P → mo' i = nI (own i) ∧ mk' i = nI (kd i)) := by
  obtain ⟨a2, a3, ms', mr', mo', mk', h1, h2, h3, h4⟩ := h a1 s1 r1 p1 ms mr mo mk
  refine ⟨a3, ms', mr', mo', mk', ?_, h3, h4⟩
  unfold p_X8_faultOf p_X8_faultOf_b0 p_X8_faultOf_b19
  rw [h1, b6_some, h2, b5_some]
  split <;> rfl
theorem dig_end {S R P : Nat} {srt row own kd : Nat → Nat} {Hs Hr Hb Ho Hk : Nat → Int32} (hcr : cRows S R P srt row own kd Hs Hr Hb Ho Hk) {n : Nat} {wp wl sw sl : Nat → Int32} (hn : n ≤ 8) (hse : ∀ i, i < n → wp i = sw i ∧ wl i = sl i ∧ (∃ q : Nat, q < 8 ∧ sl i = nI q) ∧ (sw i = -1 ∨ ∃ p : Nat, p < 8 ∧ sw i = nI p)) {mb mt : Nat → Int32} {rd dd su wd ew es fd : Int32} {mw ml ls tot : Int64} {L fl be rw_ wa wk wn pl : Nat → Int32} {re si wr fe wi dre tb ww wre : Nat → Int64} (hc : CR S P srt own kd rd mw ml re si wr fe) (hd : DR S P srt own kd dd ls be tb) (hw : WR S P srt own kd sw sl n wd su tot wn ww) (hm : mRead mb mt (fl 0) (fl 1) S R P srt row own kd) (h : Int64) (a1 s1 r1 p1 : Int32) (ms mr mo mk : Nat → Int32) (lo ow oh kf sd : Int32) (al br : Int64) (ks od bo ev : Nat → Int32) (wy nx : Nat → Int64) (f g : Nat) : ∃ (r : Int64) (rd' dd' su' wd' ew' es' : Int32) (mw' ml' ls' tot' : Int64) (be' rw' wa' wk' wn' pl' : Nat → Int32) (re' si' wr' fe' wi' dre' tb' ww' wre' : Nat → Int64) (q1 q2 q3 q4 q5 q6 q7 q8 q9 : Int32) (q10 q11 : Int64) (q12 q13 q14 q15 q16 q17 q18 q19 : Nat → Int32) (q20 q21 : Nat → Int64), p_X7_digest_b6 (f + 1) (nI S) (nI R) (nI P) rd dd (nI n) su wd ew es fd mw ml ls tot L fl Hs Hr Hb Ho Hk be rw_ wp wl wa wk wn pl re si wr fe wi dre tb ww wre h 8 = some (r, rd', dd', su', wd', ew', es', mw', ml', ls', tot', be', rw', wa', wk', wn', pl', re', si', wr', fe', wi', dre', tb', ww', wre') ∧ p_X8_digest_b6 (g + 1) fd a1 s1 r1 p1 lo ow oh kf (nI n) sd al br mb mt ms mr mo mk ks od bo sw sl ev wy nx h 8 = some (r, q1, q2, q3, q4, q5, q6, q7, q8, q9, q10, q11, q12, q13, q14, q15, q16, q17, q18, q19, q20, q21) ∧ CR S P srt own kd rd' mw' ml' re' si' wr' fe' ∧ DR S P srt own kd dd' ls' be' tb' ∧ WR S P srt own kd sw sl n wd' su' tot' wn' ww' := by
  have hH := HB_HC hcr
  have hS := hH.1
  have hP := hH.2.1
  have h0 : 0 < 2 ^ P := Nat.pow_pos (by decide)
  have hu : 2 ^ P - 1 < 2 ^ S := by have := Nat.pow_le_pow_right (show 0 < 2 by decide) hP; omega
  obtain ⟨b1', u1, u2, u3, u4, e1, -, -⟩ := v_faultF hm a1 s1 r1 p1 ms mr mo mk 0
  obtain ⟨a3, ms', mr', mo', mk', e2, m1, m2⟩ := v_faultF hm b1' (nI S) (nI R) (nI P) u1 u2 u3 u4 1
  rw [if_pos (show (0 : Int32) = 0 from rfl)] at e1
  rw [if_neg (show ¬ (1 : Int32) = 0 by decide)] at e2
  have hM := mk_MC hcr m1 m2
  have c0 : p_X7_fault fl 0 = some (fl 0) := rfl
  have c1 : p_X7_fault fl 1 = some (fl 1) := rfl
  -- seats, people
  obtain ⟨h1, rd1, mw1, ml1, re1, si1, wr1, fe1, wi1, lo1, ow1, kf1, al1, ks1, wy1, nx1, hc1, x1, y1⟩ := seats_sim hcr m1 m2 (fd := fd) (a3 := a3) (sg := nI n) (mb := mb) (mt := mt) (sw := sw) (sl := sl) (oh := oh) (sd := sd) (br := br) (od := od) (bo := bo) (ev := ev) S 0 4096 4096 (31 * (31 * h + (fl 0).toInt64) + (fl 1).toInt64) rd mw ml re si wr fe wi lo ow kf al ks wy nx (by omega) (by omega) (by omega) hc
  obtain ⟨h2, rd2, mw2, ml2, re2, si2, wr2, fe2, wi2, lo2, ow2, kf2, al2, ks2, wy2, nx2, hc2, x2, y2⟩ := people_sim hcr m1 m2 (fd := fd) (a3 := a3) (sg := nI n) (mb := mb) (mt := mt) (sw := sw) (sl := sl) (oh := oh) (sd := sd) (br := br) (od := od) (bo := bo) (ev := ev) P 0 4096 4096 h1 rd1 mw1 ml1 re1 si1 wr1 fe1 wi1 lo1 ow1 kf1 al1 ks1 wy1 nx1 (by omega) (by omega) (by omega) hc1
  have x1' : p_X7_mixSeats (nI S) (nI P) rd mw ml Hs Hr Hb Ho Hk re si wr fe wi (31 * (31 * h + (fl 0).toInt64) + (fl 1).toInt64) = _ := x1
  have x2' : p_X7_mixPeople (nI S) (nI P) rd1 mw1 ml1 Hs Hb Ho Hk re1 si1 wr1 fe1 wi1 h1 = _ := x2
  -- wrong, looks, taken: class
  obtain ⟨rd3, mw3, ml3, re3, si3, wr3, fe3, wi3, hc3, k3⟩ := c_wrong hH hc2 (wi := wi2) (show 0 < 2 by omega)
  obtain ⟨rd4, mw4, ml4, re4, si4, wr4, fe4, wi4, hc4, k4⟩ := c_wrong hH hc3 (wi := wi3) (show 1 < 2 by omega)
  obtain ⟨rd5, mw5, ml5, re5, si5, wr5, fe5, wi5, hc5, k5⟩ := c_looks hH hc4 (wi := wi4) (show 0 < 2 by omega)
  obtain ⟨rd6, mw6, ml6, re6, si6, wr6, fe6, wi6, hc6, k6⟩ := c_looks hH hc5 (wi := wi5) (show 1 < 2 by omega)
  obtain ⟨rd7, mw7, ml7, re7, si7, wr7, fe7, wi7, hc7, k7⟩ := c_taken hH hc6 (wi := wi6) hu (d_pcp P (by omega)) (show 0 < 2 by omega)
  obtain ⟨rd8, mw8, ml8, re8, si8, wr8, fe8, wi8, hc8, k8⟩ := c_taken hH hc7 (wi := wi7) hu (d_pcp P (by omega)) (show 1 < 2 by omega)
  -- the same: model
  obtain ⟨lo3, ow3, kf3, al3, ks3, od3, wy3, nx3, y3⟩ := m_213 hcr m1 m2 (fd := fd) (a3 := a3) (sg := nI n) (mb := mb) (mt := mt) (sw := sw) (sl := sl) h2 lo2 ow2 oh kf2 sd al2 br ks2 od bo ev wy2 nx2
  obtain ⟨lo4, ow4, kf4, al4, ks4, wy4, nx4, y4⟩ := m_238 hcr m1 m2 (fd := fd) (a3 := a3) (sg := nI n) (mb := mb) (mt := mt) (sw := sw) (sl := sl) (31 * (31 * h2 + lN (fp (P * Aw S P - rC S srt own kd P) (Aw S P) 0)) + lN (fp (P * Aw S P - rC S srt own kd P) (Aw S P) 1)) lo3 ow3 oh kf3 sd al3 br ks3 od3 bo ev wy3 nx3
  obtain ⟨lo5, ow5, kf5, al5, ks5, wy5, nx5, y5⟩ := m_263 hcr m1 m2 (fd := fd) (a3 := a3) (sg := nI n) (mb := mb) (mt := mt) (sw := sw) (sl := sl) (31 * (31 * (31 * (31 * h2 + lN (fp (P * Aw S P - rC S srt own kd P) (Aw S P) 0)) + lN (fp (P * Aw S P - rC S srt own kd P) (Aw S P) 1)) + lN (fp (sL S srt own kd P) (Aw S P) 0)) + lN (fp (sL S srt own kd P) (Aw S P) 1)) lo4 ow4 oh kf4 sd al4 br ks4 od3 bo ev wy4 nx4
  -- best
  obtain ⟨be0, dd1, ls1, be1, row1, dre1, tb1, hd1, k9⟩ := c_best hH hd (row := rw_) (re := dre) (show 0 < 2 by omega)
  obtain ⟨R0, z1, z2, z3, z4, z5, z6, z7, z8, z9, z10, r1', r2', y6⟩ := v_bestM hM be0 (show 0 < 2 by omega) lo5 ow5 oh kf5 al5 ks5 wy5 nx5 br od3 bo
  obtain ⟨be2, dd2, ls2, be3, row2, dre2, tb2, hd2, k10⟩ := c_best hH hd1 (row := row1) (re := dre1) (show 1 < 2 by omega)
  obtain ⟨R1, t1, t2, t3, t4, t5, t6, t7, t8, t9, t10, r3', r4', y7⟩ := v_bestM hM be2 (show 1 < 2 by omega) z1 z2 oh z3 z4 z6 z9 z10 z5 z7 z8
  have k9 := k9 R0 r1' r2'
  have k10 := k10 R1 r3' r4'
  -- losers
  obtain ⟨su1, tot1, wa1, wk1, wn1, ww1, wre1, hw1, k11⟩ := c_losers hH hn hse hw (wa := wa) (wk := wk) (re := wre)
  obtain ⟨su2, tot2, wa2, wk2, wn2, ww2, wre2, hw2, k12⟩ := c_likeliest hH hn hse (Or.inr ⟨rfl, hw1⟩ : WR S P srt own kd sw sl n 1 su1 tot1 wn1 ww1) (wa := wa1) (wk := wk1) (re := wre1)
  obtain ⟨v1, v2, v3, v4, v5, v6, v7, v8, y8⟩ := v_losersNow hM hn (fun i hi => (hse i hi).2.2) t1 t2 oh t3 t4 t6 t9 t10
  obtain ⟨w1, w2, w3, w4, w5, w6, w7, w8, y9⟩ := v_likeliestNow hM hn (fun i hi => (hse i hi).2.2) v1 v2 v3 v4 v5 v6 v7 v8
  obtain ⟨su3, tot3, wa3, wk3, wn3, ww3, wre3, ra, n1, n2, n3, n4, n5, n6, n7, n8, hw3, k13, y10⟩ := c_ask hH hn hse (Or.inr ⟨rfl, hw2⟩ : WR S P srt own kd sw sl n 1 su2 tot2 wn2 ww2) (wa := wa2) (wk := wk2) (re := wre2) hM (show 0 < 2 by omega) w1 w2 w3 w4 w5 w6 w7 w8
  obtain ⟨su4, tot4, wa4, wk4, wn4, ww4, wre4, rb, o1, o2, o3, o4, o5, o6, o7, o8, hw4, k14, y11⟩ := c_ask hH hn hse (Or.inr ⟨rfl, hw3⟩ : WR S P srt own kd sw sl n 1 su3 tot3 wn3 ww3) (wa := wa3) (wk := wk3) (re := wre3) hM (show 1 < 2 by omega) n1 n2 n3 n4 n5 n6 n7 n8
  -- evening, turned
  obtain ⟨wr', st', pl', ev', -, g2, g3⟩ := v_run hH hM ew es sd 7 pl ev
  obtain ⟨⟨q1, q2⟩, q3, q4⟩ := d_t5
  obtain ⟨t50, p50⟩ := Option.isSome_iff_exists.mp q2
  obtain ⟨t51, p51⟩ := Option.isSome_iff_exists.mp q4
  have p60 : p_X8_turnedOf 5 2 0 = some t50 := by rw [← q1]; exact p50
  have p61 : p_X8_turnedOf 5 2 1 = some t51 := by rw [← q3]; exact p51
  have ce : p_X7_evening (nI S) (nI P) ew es Hs Hb Ho Hk pl 7 (-1) = some (wr', wr', st', pl') := by
    unfold p_X7_evening p_X7_evening_b0 p_X7_evening_b16 p_X7_evening_b48
    rw [if_pos rfl, g2, b3_some, if_pos rfl]
  have me : p_X8_eveningOf (nI S) (nI P) sd ms' mo' mk' ev 7 (-1) = some (wr', st', ev') := by
    unfold p_X8_eveningOf p_X8_eveningOf_b0 p_X8_eveningOf_b21
    rw [g3, b3_some, if_pos rfl]
  refine ⟨31 * (31 * (31 * (31 * (31 * (31 * (31 * (31 * (31 * (31 * (31 * (31 * (31 * (31 * (31 * h2 + lN (fp (P * Aw S P - rC S srt own kd P) (Aw S P) 0)) + lN (fp (P * Aw S P - rC S srt own kd P) (Aw S P) 1)) + lN (fp (sL S srt own kd P) (Aw S P) 0)) + lN (fp (sL S srt own kd P) (Aw S P) 1)) + lN (fp (dC S srt own kd P (2 ^ P - 1)) (Aw S P) 0)) + lN (fp (dC S srt own kd P (2 ^ P - 1)) (Aw S P) 1)) + bsV S P srt own kd 0 R0) + bsV S P srt own kd 1 R1) + (nI (susN (vvN S P srt own kd sw sl n) P)).toInt64) + (bsI (vvN S P srt own kd sw sl n) P).toInt64) + ra.toInt64) + rb.toInt64) + wr'.toInt64) + t50) + t51, rd8, dd2, su4, 1, wr', st', mw8, ml8, ls2, tot4, be3, row2, wa4, wk4, wn4, pl', re8, si8, wr8, fe8, wi8, dre2, tb2, ww4, wre4, a3, nI S, nI R, nI P, o1, o2, o3, o4, st', o5, t5, ms', mr', mo', mk', o6, t7, t8, ev', o7, o8, ?_, ?_, hc8, hd2, Or.inr ⟨rfl, hw4⟩⟩
  · rw [gc6]
    unfold p_X7_digest_b6x
    rw [if_pos (show (7 : Int32) < 8 by decide), c0, b1_some, nm_def, c1, b1_some, nm_def, x1', b9_some, x2', b9_some]
    rw [show p_X7_wrong (nI S) (nI P) rd2 mw2 ml2 Hs Hb Ho Hk re2 si2 wr2 fe2 wi2 (-1) 0 = _ from k3, b9_some, show p_X7_wrong (nI S) (nI P) rd3 mw3 ml3 Hs Hb Ho Hk re3 si3 wr3 fe3 wi3 (-1) 1 = _ from k4, b9_some]
    unfold p_X7_mix p_X7_mix_b0
    rw [b1_some, show p_X7_looks (nI S) (nI P) rd4 mw4 ml4 Hs Hb Ho Hk re4 si4 wr4 fe4 wi4 0 = _ from k5, b9_some, show p_X7_looks (nI S) (nI P) rd5 mw5 ml5 Hs Hb Ho Hk re5 si5 wr5 fe5 wi5 1 = _ from k6, b9_some, b1_some, nm_def, d_sh P (by omega), show nI (2 ^ P) - 1 = nI (2 ^ P - 1) from pk_sub (b := 1) (by omega)]
    rw [show p_X7_taken (nI S) (nI P) rd6 mw6 ml6 Hs Hb Ho Hk re6 si6 wr6 fe6 wi6 (nI P) (nI (2 ^ P - 1)) 0 = _ from k7, b9_some, show p_X7_taken (nI S) (nI P) rd7 mw7 ml7 Hs Hb Ho Hk re7 si7 wr7 fe7 wi7 (nI P) (nI (2 ^ P - 1)) 1 = _ from k8, b9_some, b1_some]
    rw [show p_X7_best (nI S) (nI P) dd ls Hs Hb Ho Hk be rw_ dre tb 0 = _ from k9, b7_some, show p_X7_best (nI S) (nI P) dd1 ls1 Hs Hb Ho Hk be1 row1 dre1 tb1 1 = _ from k10, b7_some, b1_some]
    rw [k11, b9_some, k12, b9_some, b1_some, show p_X7_ask (nI S) (nI P) (nI n) su2 1 tot2 Hs Hb Ho Hk wp wl wa2 wk2 wn2 ww2 wre2 0 = _ from k13, b9_some, show p_X7_ask (nI S) (nI P) (nI n) su3 1 tot3 Hs Hb Ho Hk wp wl wa3 wk3 wn3 ww3 wre3 1 = _ from k14, b9_some, b1_some]
    rw [ce, b4_some, nm_def, p50, b1_some, p51, b1_some, b1_some]
  · rw [gm6]
    unfold p_X8_digest_b6x
    rw [if_pos (show (8 : Int32) ≤ 8 by decide), e1, b9_some, nm_def, e2, b9_some, nm_def]
    refine (show p_X8_digest_b59 4096 fd a3 (nI S) (nI R) (nI P) lo ow oh kf (nI n) sd al br mb mt ms' mr' mo' mk' ks od bo sw sl ev wy nx (31 * (31 * h + (fl 0).toInt64) + (fl 1).toInt64) 0 = _ from y1).trans ?_
    refine (show p_X8_digest_b134 4096 fd a3 (nI S) (nI R) (nI P) lo1 ow1 oh kf1 (nI n) sd al1 br mb mt ms' mr' mo' mk' ks1 od bo sw sl ev wy1 nx1 h1 0 = _ from y2).trans ?_
    refine y3.trans (y4.trans (y5.trans ?_))
    rw [show p_X8_digest_b300 4096 = p_X8_digest_b300 (4093 + 1 + 1 + 1) from rfl, g300]
    unfold p_X8_digest_b300x
    rw [if_neg (show ¬ (2 : Int32) ≤ 0 by decide), show p_X8_bestOf (nI S) (nI P) lo5 ow5 oh kf5 al5 br ms' mo' mk' ks5 od3 bo wy5 nx5 0 = _ from y6, b11_some, nm_def, nm_def, a01, g300]
    unfold p_X8_digest_b300x
    rw [if_neg (show ¬ (2 : Int32) ≤ 1 by decide), show p_X8_bestOf (nI S) (nI P) z1 z2 oh z3 z4 z5 ms' mo' mk' z6 z7 z8 z9 z10 1 = _ from y7, b11_some, nm_def, nm_def, a12, g300]
    unfold p_X8_digest_b300x
    rw [if_pos (show (2 : Int32) ≤ 2 by decide), y8, b9_some, nm_def, y9, b9_some, nm_def, show p_X8_askNow (nI S) (nI P) w1 w2 w3 w4 (nI n) w5 ms' mo' mk' w6 sw sl w7 w8 0 = _ from y10, b9_some, nm_def, show p_X8_askNow (nI S) (nI P) n1 n2 n3 n4 (nI n) n5 ms' mo' mk' n6 sw sl n7 n8 1 = _ from y11, b9_some, nm_def, me, b3_some, nm_def]
    rw [show p_X8_digest_b390 4096 = p_X8_digest_b390 (4093 + 1 + 1 + 1) from rfl, g390]
    unfold p_X8_digest_b390x
    rw [if_neg (show ¬ (2 : Int32) ≤ 0 by decide), p60, b1_some, nm_def, nm_def, a01, g390]
    unfold p_X8_digest_b390x
    rw [if_neg (show ¬ (2 : Int32) ≤ 1 by decide), p61, b1_some, nm_def, nm_def, a12, g390]
    unfold p_X8_digest_b390x
    rw [if_pos (show (2 : Int32) ≤ 2 by decide)]
