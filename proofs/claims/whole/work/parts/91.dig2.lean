/-! digest: seats and people -/
theorem s20 {K} {n : Nat} : p_X7_mixSeats_b20 K (n + 1) = p_X7_mixSeats_b20x K (p_X7_mixSeats_b20 K n) := rfl
theorem s5 {n : Nat} : p_X7_mixSeats_b5 (n + 1) = p_X7_mixSeats_b5x (p_X7_mixSeats_b5 n) := rfl
theorem q5 {n : Nat} : p_X7_mixPeople_b5 (n + 1) = p_X7_mixPeople_b5x (p_X7_mixPeople_b5 n) := rfl
theorem g70 {K} {n : Nat} : p_X8_digest_b70 K (n + 1) = p_X8_digest_b70x K (p_X8_digest_b70 K n) := rfl
theorem g100 {K} {n : Nat} : p_X8_digest_b100 K (n + 1) = p_X8_digest_b100x K (p_X8_digest_b100 K n) := rfl
theorem g59 {n : Nat} : p_X8_digest_b59 (n + 1) = p_X8_digest_b59x (p_X8_digest_b59 n) := rfl
theorem g173 {K} {n : Nat} : p_X8_digest_b173 K (n + 1) = p_X8_digest_b173x K (p_X8_digest_b173 K n) := rfl
theorem g134 {n : Nat} : p_X8_digest_b134 (n + 1) = p_X8_digest_b134x (p_X8_digest_b134 n) := rfl
theorem a01 : (0 : Int32) + 1 = 1 := rfl
theorem a12 : (1 : Int32) + 1 = 2 := rfl
theorem a23 : (2 : Int32) + 1 = 3 := rfl
theorem seat3 {S R P : Nat} {srt row own kd : Nat → Nat} {Hs Hr Hb Ho Hk : Nat → Int32} (hcr : cRows S R P srt row own kd Hs Hr Hb Ho Hk) {ms mr mo mk : Nat → Int32} (m1 : ∀ i, i < S → ms i = nI (srt i) ∧ mr i = nI (row i)) (m2 : ∀ i, i < P → mo i = nI (own i) ∧ mk i = nI (kd i)) {s : Nat} (hs : s < S) : ∃ v : Int32, p_X7_seat (nI S) (nI P) Hs Hr Ho (nI s) 0 = some (nI (srt s)) ∧ p_X7_seat (nI S) (nI P) Hs Hr Ho (nI s) 1 = some (nI (row s)) ∧ p_X7_seat (nI S) (nI P) Hs Hr Ho (nI s) 2 = some v ∧ p_X8_seatOf (nI P) ms mr mo (nI s) 0 = some (nI (srt s)) ∧ p_X8_seatOf (nI P) ms mr mo (nI s) 1 = some (nI (row s)) ∧ p_X8_seatOf (nI P) ms mr mo (nI s) 2 = some v := by
  obtain ⟨hS, hR, hP, hc1, hc2, hc3⟩ := hcr
  obtain ⟨v, w1, w2⟩ := v_owners (P := P) (by omega) (fun i hi => (hc3 i hi).1.trans (m2 i hi).1.symm) (nI s)
  unfold p_X7_seat p_X7_seat_b0 p_X8_seatOf p_X8_seatOf_b0 p_X8_seatOf_b32
  rw [(ok_seat hS hs).1, w1, w2, inB_nI (show s < 8 by omega) (by decide), nI_clamp (by omega), (m1 s hs).1, (m1 s hs).2, (hc1 s hs).1, (hc1 s hs).2.1]
  exact ⟨v, rfl, rfl, rfl, rfl, rfl, rfl⟩
theorem cs_20 {S R P : Nat} {srt row own kd : Nat → Nat} {Hs Hr Hb Ho Hk : Nat → Int32} (hcr : cRows S R P srt row own kd Hs Hr Hb Ho Hk) {rd : Int32} {mw ml : Int64} {re si wr fe wi : Nat → Int64} (hc : CR S P srt own kd rd mw ml re si wr fe) (K : Int32 → Int32 → Int32 → Int64 → Int64 → (Nat → Int32) → (Nat → Int32) → (Nat → Int32) → (Nat → Int32) → (Nat → Int32) → (Nat → Int64) → (Nat → Int64) → (Nat → Int64) → (Nat → Int64) → (Nat → Int64) → Int64 → Int32 → Option (Int64 × Int32 × Int64 × Int64 × (Nat → Int64) × (Nat → Int64) × (Nat → Int64) × (Nat → Int64) × (Nat → Int64))) {s : Nat} (hs : s < S) {v : Int32} (e0 : p_X7_seat (nI S) (nI P) Hs Hr Ho (nI s) 0 = some (nI (srt s))) (e1 : p_X7_seat (nI S) (nI P) Hs Hr Ho (nI s) 1 = some (nI (row s))) (e2 : p_X7_seat (nI S) (nI P) Hs Hr Ho (nI s) 2 = some v) (h : Int64) (f : Nat) : ∃ (rd' : Int32) (mw' ml' : Int64) (re' si' wr' fe' wi' : Nat → Int64), CR S P srt own kd rd' mw' ml' re' si' wr' fe' ∧ p_X7_mixSeats_b20 K (f + 1 + 1 + 1 + 1) (nI S) (nI P) rd mw ml Hs Hr Hb Ho Hk re si wr fe wi h (nI s) 0 = K (nI S) (nI P) rd' mw' ml' Hs Hr Hb Ho Hk re' si' wr' fe' wi' (31 * (31 * (31 * (31 * (31 * h + (nI (srt s)).toInt64) + (nI (row s)).toInt64) + v.toInt64) + (lN (fp (lC S srt own kd P s (2 ^ S)) (Aw S P) 0))) + (lN (fp (lC S srt own kd P s (2 ^ S)) (Aw S P) 1))) (nI (s + 1)) := by
  have hH := HB_HC hcr
  obtain ⟨rd1, mw1, ml1, re1, si1, wr1, fe1, wi1, hc1, k1⟩ := c_left hH hc (wi := wi) hs (show 0 < 2 by omega)
  obtain ⟨rd2, mw2, ml2, re2, si2, wr2, fe2, wi2, hc2, k2⟩ := c_left hH hc1 (wi := wi1) hs (show 1 < 2 by omega)
  refine ⟨rd2, mw2, ml2, re2, si2, wr2, fe2, wi2, hc2, ?_⟩
  rw [s20]
  unfold p_X7_mixSeats_b20x
  rw [if_neg (show ¬ (2 : Int32) < 0 by decide), e0, b1_some, nm_def, nm_def, a01, s20]
  unfold p_X7_mixSeats_b20x
  rw [if_neg (show ¬ (2 : Int32) < 1 by decide), e1, b1_some, nm_def, nm_def, a12, s20]
  unfold p_X7_mixSeats_b20x
  rw [if_neg (show ¬ (2 : Int32) < 2 by decide), e2, b1_some, nm_def, nm_def, a23, s20]
  unfold p_X7_mixSeats_b20x
  rw [if_pos (show (2 : Int32) < 3 by decide)]
  rw [show p_X7_left (nI S) (nI P) rd mw ml Hs Hb Ho Hk re si wr fe wi (nI s) 0 = _ from k1, b9_some, show p_X7_left (nI S) (nI P) rd1 mw1 ml1 Hs Hb Ho Hk re1 si1 wr1 fe1 wi1 (nI s) 1 = _ from k2, b9_some]
  unfold p_X7_mix p_X7_mix_b0
  rw [b1_some, nm_def, nI_1]
theorem ms_70 {S R P : Nat} {srt row own kd : Nat → Nat} {Hs Hr Hb Ho Hk : Nat → Int32} (hcr : cRows S R P srt row own kd Hs Hr Hb Ho Hk) {ms mr mo mk : Nat → Int32} (m1 : ∀ i, i < S → ms i = nI (srt i) ∧ mr i = nI (row i)) (m2 : ∀ i, i < P → mo i = nI (own i) ∧ mk i = nI (kd i)) {fd a3 sg : Int32} {mb mt sw sl : Nat → Int32} (K) {s : Nat} (hs : s < S) {v : Int32} (e0 : p_X8_seatOf (nI P) ms mr mo (nI s) 0 = some (nI (srt s))) (e1 : p_X8_seatOf (nI P) ms mr mo (nI s) 1 = some (nI (row s))) (e2 : p_X8_seatOf (nI P) ms mr mo (nI s) 2 = some v) (h : Int64) (f : Nat) (lo ow oh kf sd : Int32) (al br : Int64) (ks od bo ev : Nat → Int32) (wy nx : Nat → Int64) : ∃ (lo' ow' kf' : Int32) (al' : Int64) (ks' : Nat → Int32) (wy' nx' : Nat → Int64), p_X8_digest_b70 K (f + 1 + 1 + 1 + 1) fd a3 (nI S) (nI R) (nI P) lo ow oh kf sg sd al br mb mt ms mr mo mk ks od bo sw sl ev wy nx h (nI s) 0 = K fd a3 (nI S) (nI R) (nI P) lo' ow' oh kf' sg sd al' br mb mt ms mr mo mk ks' od bo sw sl ev wy' nx' (31 * (31 * (31 * (31 * (31 * h + (nI (srt s)).toInt64) + (nI (row s)).toInt64) + v.toInt64) + (lN (fp (lC S srt own kd P s (2 ^ S)) (Aw S P) 0))) + (lN (fp (lC S srt own kd P s (2 ^ S)) (Aw S P) 1))) (nI (s + 1)) := by
  have hM := mk_MC hcr m1 m2
  obtain ⟨c1, c2, c3, c4, c5, c6, c7, k1⟩ := v_leftOf hM hs (show 0 < 2 by omega) (lo := lo) (ow := ow) (oh := oh) (kf := kf) (al := al) (ks := ks) (wy := wy) (nx := nx)
  obtain ⟨d1, d2, d3, d4, d5, d6, d7, k2⟩ := v_leftOf hM hs (show 1 < 2 by omega) (lo := c1) (ow := c2) (oh := oh) (kf := c3) (al := c4) (ks := c5) (wy := c6) (nx := c7)
  refine ⟨d1, d2, d3, d4, d5, d6, d7, ?_⟩
  rw [g70]
  unfold p_X8_digest_b70x
  rw [if_neg (show ¬ (3 : Int32) ≤ 0 by decide), e0, b1_some, nm_def, nm_def, a01, g70]
  unfold p_X8_digest_b70x
  rw [if_neg (show ¬ (3 : Int32) ≤ 1 by decide), e1, b1_some, nm_def, nm_def, a12, g70]
  unfold p_X8_digest_b70x
  rw [if_neg (show ¬ (3 : Int32) ≤ 2 by decide), e2, b1_some, nm_def, nm_def, a23, g70]
  unfold p_X8_digest_b70x
  rw [if_pos (show (3 : Int32) ≤ 3 by decide), show (4096 : Nat) = 4093 + 1 + 1 + 1 from rfl, g100]
  unfold p_X8_digest_b100x
  rw [if_neg (show ¬ (2 : Int32) ≤ 0 by decide), show p_X8_leftOf (nI S) (nI P) lo ow oh kf al ms mo mk ks wy nx (nI s) 0 = _ from k1, b8_some, nm_def, nm_def, a01, g100]
  unfold p_X8_digest_b100x
  rw [if_neg (show ¬ (2 : Int32) ≤ 1 by decide), show p_X8_leftOf (nI S) (nI P) c1 c2 oh c3 c4 ms mo mk c5 c6 c7 (nI s) 1 = _ from k2, b8_some, nm_def, nm_def, a12, g100]
  unfold p_X8_digest_b100x
  rw [if_pos (show (2 : Int32) ≤ 2 by decide), nm_def, nI_1]
theorem seats_sim {S R P : Nat} {srt row own kd : Nat → Nat} {Hs Hr Hb Ho Hk : Nat → Int32} (hcr : cRows S R P srt row own kd Hs Hr Hb Ho Hk) {ms mr mo mk : Nat → Int32} (m1 : ∀ i, i < S → ms i = nI (srt i) ∧ mr i = nI (row i)) (m2 : ∀ i, i < P → mo i = nI (own i) ∧ mk i = nI (kd i)) {fd a3 sg : Int32} {mb mt sw sl : Nat → Int32} {oh sd : Int32} {br : Int64} {od bo ev : Nat → Int32} : ∀ (r i fC fM : Nat) (h : Int64) (rd : Int32) (mw ml : Int64) (re si wr fe wi : Nat → Int64) (lo ow kf : Int32) (al : Int64) (ks : Nat → Int32) (wy nx : Nat → Int64), i + r = S → r < fC → r < fM → CR S P srt own kd rd mw ml re si wr fe →
    ∃ (h' : Int64) (rd' : Int32) (mw' ml' : Int64) (re' si' wr' fe' wi' : Nat → Int64) (lo' ow' kf' : Int32) (al' : Int64) (ks' : Nat → Int32) (wy' nx' : Nat → Int64), CR S P srt own kd rd' mw' ml' re' si' wr' fe' ∧ p_X7_mixSeats_b5 fC (nI S) (nI P) rd mw ml Hs Hr Hb Ho Hk re si wr fe wi h (nI i) = some (h', rd', mw', ml', re', si', wr', fe', wi') ∧ p_X8_digest_b59 fM fd a3 (nI S) (nI R) (nI P) lo ow oh kf sg sd al br mb mt ms mr mo mk ks od bo sw sl ev wy nx h (nI i) = p_X8_digest_b134 4096 fd a3 (nI S) (nI R) (nI P) lo' ow' oh kf' sg sd al' br mb mt ms mr mo mk ks' od bo sw sl ev wy' nx' h' 0 := by
  have hS := hcr.1
  intro r
  induction r with
  | zero =>
    intro i fC fM h rd mw ml re si wr fe wi lo ow kf al ks wy nx hi hC hM hc
    obtain ⟨f, rfl⟩ : ∃ f, fC = f + 1 := ⟨fC - 1, by omega⟩
    obtain ⟨g, rfl⟩ : ∃ g, fM = g + 1 := ⟨fM - 1, by omega⟩
    have e : i = S := by omega
    subst e
    refine ⟨h, rd, mw, ml, re, si, wr, fe, wi, lo, ow, kf, al, ks, wy, nx, hc, ?_, ?_⟩
    · rw [s5]; unfold p_X7_mixSeats_b5x; rw [if_pos (nI_le (Nat.le_refl _) (by omega))]
    · rw [g59]; unfold p_X8_digest_b59x; rw [if_pos (nI_le (Nat.le_refl _) (by omega))]
  | succ r ih =>
    intro i fC fM h rd mw ml re si wr fe wi lo ow kf al ks wy nx hi hC hM hc
    obtain ⟨f, rfl⟩ : ∃ f, fC = f + 1 := ⟨fC - 1, by omega⟩
    obtain ⟨g, rfl⟩ : ∃ g, fM = g + 1 := ⟨fM - 1, by omega⟩
    have hiS : i < S := by omega
    obtain ⟨v, e0, e1, e2, e3, e4, e5⟩ := seat3 hcr m1 m2 hiS
    obtain ⟨rd1, mw1, ml1, re1, si1, wr1, fe1, wi1, hc1, k1⟩ := cs_20 hcr hc (wi := wi) (p_X7_mixSeats_b5 f) hiS e0 e1 e2 h 4092
    obtain ⟨lo1, ow1, kf1, al1, ks1, wy1, nx1, k2⟩ := ms_70 hcr m1 m2 (fd := fd) (a3 := a3) (sg := sg) (mb := mb) (mt := mt) (sw := sw) (sl := sl) (p_X8_digest_b59 g) hiS e3 e4 e5 h 4092 lo ow oh kf sd al br ks od bo ev wy nx
    obtain ⟨h', rd', mw', ml', re', si', wr', fe', wi', lo', ow', kf', al', ks', wy', nx', j1, j2, j3⟩ := ih (i + 1) f g _ rd1 mw1 ml1 re1 si1 wr1 fe1 wi1 lo1 ow1 kf1 al1 ks1 wy1 nx1 (by omega) (by omega) (by omega) hc1
    refine ⟨h', rd', mw', ml', re', si', wr', fe', wi', lo', ow', kf', al', ks', wy', nx', j1, ?_, ?_⟩
    · rw [s5]; unfold p_X7_mixSeats_b5x; rw [if_neg (nI_ge hiS (by omega))]
      exact (show p_X7_mixSeats_b20 (p_X7_mixSeats_b5 f) 4096 (nI S) (nI P) rd mw ml Hs Hr Hb Ho Hk re si wr fe wi h (nI i) 0 = _ from k1).trans j2
    · rw [g59]; unfold p_X8_digest_b59x; rw [if_neg (nI_ge hiS (by omega))]
      exact (show p_X8_digest_b70 (p_X8_digest_b59 g) 4096 fd a3 (nI S) (nI R) (nI P) lo ow oh kf sg sd al br mb mt ms mr mo mk ks od bo sw sl ev wy nx h (nI i) 0 = _ from k2).trans j3
theorem people_sim {S R P : Nat} {srt row own kd : Nat → Nat} {Hs Hr Hb Ho Hk : Nat → Int32} (hcr : cRows S R P srt row own kd Hs Hr Hb Ho Hk) {ms mr mo mk : Nat → Int32} (m1 : ∀ i, i < S → ms i = nI (srt i) ∧ mr i = nI (row i)) (m2 : ∀ i, i < P → mo i = nI (own i) ∧ mk i = nI (kd i)) {fd a3 sg : Int32} {mb mt sw sl : Nat → Int32} {oh sd : Int32} {br : Int64} {od bo ev : Nat → Int32} : ∀ (r i fC fM : Nat) (h : Int64) (rd : Int32) (mw ml : Int64) (re si wr fe wi : Nat → Int64) (lo ow kf : Int32) (al : Int64) (ks : Nat → Int32) (wy nx : Nat → Int64), i + r = P → r < fC → r < fM → CR S P srt own kd rd mw ml re si wr fe →
    ∃ (h' : Int64) (rd' : Int32) (mw' ml' : Int64) (re' si' wr' fe' wi' : Nat → Int64) (lo' ow' kf' : Int32) (al' : Int64) (ks' : Nat → Int32) (wy' nx' : Nat → Int64), CR S P srt own kd rd' mw' ml' re' si' wr' fe' ∧ p_X7_mixPeople_b5 fC (nI S) (nI P) rd mw ml Hs Hb Ho Hk re si wr fe wi h (nI i) = some (h', rd', mw', ml', re', si', wr', fe', wi') ∧ p_X8_digest_b134 fM fd a3 (nI S) (nI R) (nI P) lo ow oh kf sg sd al br mb mt ms mr mo mk ks od bo sw sl ev wy nx h (nI i) = p_X8_digest_b213 4096 fd a3 (nI S) (nI R) (nI P) lo' ow' oh kf' sg sd al' br mb mt ms mr mo mk ks' od bo sw sl ev wy' nx' h' 0 := by
  have hH := HB_HC hcr
  have hS := hH.1
  have hP := hH.2.1
  have hM := mk_MC hcr m1 m2
  intro r
  induction r with
  | zero =>
    intro i fC fM h rd mw ml re si wr fe wi lo ow kf al ks wy nx hi hC hM' hc
    obtain ⟨f, rfl⟩ : ∃ f, fC = f + 1 := ⟨fC - 1, by omega⟩
    obtain ⟨g, rfl⟩ : ∃ g, fM = g + 1 := ⟨fM - 1, by omega⟩
    have e : i = P := by omega
    subst e
    refine ⟨h, rd, mw, ml, re, si, wr, fe, wi, lo, ow, kf, al, ks, wy, nx, hc, ?_, ?_⟩
    · rw [q5]; unfold p_X7_mixPeople_b5x; rw [if_pos (nI_le (Nat.le_refl _) (by omega))]
    · rw [g134]; unfold p_X8_digest_b134x; rw [if_pos (nI_le (Nat.le_refl _) (by omega))]
  | succ r ih =>
    intro i fC fM h rd mw ml re si wr fe wi lo ow kf al ks wy nx hi hC hM' hc
    obtain ⟨f, rfl⟩ : ∃ f, fC = f + 1 := ⟨fC - 1, by omega⟩
    obtain ⟨g, rfl⟩ : ∃ g, fM = g + 1 := ⟨fM - 1, by omega⟩
    have hiP : i < P := by omega
    obtain ⟨o1, o2, o3, o4⟩ := hH.2.2.2 i hiP
    have p0 : p_X7_person (nI P) Ho Hk (nI i) 0 = some (nI (own i)) := by
      unfold p_X7_person p_X7_person_b0 p_X7_person_b43
      rw [(ok_seat (show P < 9 by omega) hiP).2, b1_some, if_pos (show (0 : Int32) = 0 from rfl), show p_X7_isNoPart 0 = some 0 from ok_part (w := 0) (by omega), b1_some, if_pos (show (0 : Int32) = 0 from rfl), if_pos (show (0 : Int32) = 0 from rfl), inB_nI (show i < 8 by omega) (by decide), gd_true, nI_clamp (by omega), o1]
    have p1 : p_X7_person (nI P) Ho Hk (nI i) 1 = some (nI (kd i)) := by
      unfold p_X7_person p_X7_person_b0 p_X7_person_b43
      rw [(ok_seat (show P < 9 by omega) hiP).2, b1_some, if_pos (show (0 : Int32) = 0 from rfl), show p_X7_isNoPart 1 = some 0 from ok_part (w := 1) (by omega), b1_some, if_pos (show (0 : Int32) = 0 from rfl), if_neg (show ¬ (1 : Int32) = 0 by decide), inB_nI (show i < 8 by omega) (by decide), gd_true, nI_clamp (by omega), o3]
    obtain ⟨rd1, mw1, ml1, re1, si1, wr1, fe1, wi1, hc1, k1⟩ := c_likely hH hc (wi := wi) hiP o2 (show 0 < 2 by omega)
    obtain ⟨rd2, mw2, ml2, re2, si2, wr2, fe2, wi2, hc2, k2⟩ := c_likely hH hc1 (wi := wi1) hiP o2 (show 1 < 2 by omega)
    obtain ⟨c1, c2, c3, c4, c5, c6, c7, l1⟩ := v_likelyOf hM hiP o2 (show 0 < 2 by omega) (lo := lo) (ow := ow) (oh := oh) (kf := kf) (al := al) (ks := ks) (wy := wy) (nx := nx)
    obtain ⟨d1, d2, d3, d4, d5, d6, d7, l2⟩ := v_likelyOf hM hiP o2 (show 1 < 2 by omega) (lo := c1) (ow := c2) (oh := oh) (kf := c3) (al := c4) (ks := c5) (wy := c6) (nx := c7)
    obtain ⟨h', rd', mw', ml', re', si', wr', fe', wi', lo', ow', kf', al', ks', wy', nx', j1, j2, j3⟩ := ih (i + 1) f g (31 * (31 * (31 * (31 * h + (nI (own i)).toInt64) + (nI (kd i)).toInt64) + (lN (fp (nC S srt own kd i (own i)) (Aw S (i + 1)) 0))) + (lN (fp (nC S srt own kd i (own i)) (Aw S (i + 1)) 1))) rd2 mw2 ml2 re2 si2 wr2 fe2 wi2 d1 d2 d3 d4 d5 d6 d7 (by omega) (by omega) (by omega) hc2
    refine ⟨h', rd', mw', ml', re', si', wr', fe', wi', lo', ow', kf', al', ks', wy', nx', j1, ?_, ?_⟩
    · rw [q5]
      unfold p_X7_mixPeople_b5x
      rw [if_neg (nI_ge hiP (by omega)), p0, b1_some, p1, b1_some]
      unfold p_X7_mix p_X7_mix_b0
      rw [b1_some, show p_X7_likely (nI S) (nI P) rd mw ml Hs Hb Ho Hk re si wr fe wi (nI i) (nI (own i)) 0 = _ from k1, b9_some, show p_X7_likely (nI S) (nI P) rd1 mw1 ml1 Hs Hb Ho Hk re1 si1 wr1 fe1 wi1 (nI i) (nI (own i)) 1 = _ from k2, b9_some, b1_some, nm_def, nI_1]
      exact j2
    · rw [g134]
      unfold p_X8_digest_b134x
      rw [if_neg (nI_ge hiP (by omega)), inB_nI (show i < 8 by omega) (by decide), gd_true, nm_def, gd_true, nm_def, nI_clamp (by omega), (m2 i hiP).1, (m2 i hiP).2, show (4096 : Nat) = 4093 + 1 + 1 + 1 from rfl, g173]
      unfold p_X8_digest_b173x
      rw [if_neg (show ¬ (2 : Int32) ≤ 0 by decide), inB_nI (show i < 8 by omega) (by decide), gd_true, nI_clamp (by omega), (m2 i hiP).1, show p_X8_likelyOf (nI S) lo ow oh kf al ms mo mk ks wy nx (nI i) (nI (own i)) 0 = _ from l1, b8_some, nm_def, nm_def, a01, g173]
      unfold p_X8_digest_b173x
      rw [if_neg (show ¬ (2 : Int32) ≤ 1 by decide), inB_nI (show i < 8 by omega) (by decide), gd_true, nI_clamp (by omega), (m2 i hiP).1, show p_X8_likelyOf (nI S) c1 c2 oh c3 c4 ms mo mk c5 c6 c7 (nI i) (nI (own i)) 1 = _ from l2, b8_some, nm_def, nm_def, a12, g173]
      unfold p_X8_digest_b173x
      rw [if_pos (show (2 : Int32) ≤ 2 by decide), nm_def, nI_1]
      exact j3
