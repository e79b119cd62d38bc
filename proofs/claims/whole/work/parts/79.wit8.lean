/-! losers, share, likeliest: both sides -/
theorem v_losers {S R P : Nat} {srt row own kd : Nat → Nat} {hS hR hP f0 f1 : Int32} {Hs Hr Hb Ho Hk mb mt : Nat → Int32} (h : HB S R P srt row own kd hS hR hP f0 f1 Hs Hr Hb Ho Hk mb mt) {n : Nat} {sz sg : Int32} {wp wl sw sl : Nat → Int32} (hn : n ≤ 8) (hsz : sz = nI n) (hsgn : sg = nI n) (hse : ∀ i, i < n → wp i = sw i ∧ wl i = sl i ∧ (∃ q : Nat, q < 8 ∧ sl i = nI q) ∧ (sw i = -1 ∨ ∃ p : Nat, p < 8 ∧ sw i = nI p)) {rd su : Int32} {tot : Int64} {wa wk wn : Nat → Int32} {ww re : Nat → Int64} (hr : WR S P srt own kd sw sl n rd su tot wn ww) (a1 s1 r1 p1 lo w0 h0 kf : Int32) (al : Int64) (ms mr mo mk ks : Nat → Int32) (wy nx : Nat → Int64) : ∃ (r : Int32) (su' rd' : Int32) (tot' : Int64) (wa' wk' wn' : Nat → Int32) (ww' re' : Nat → Int64) (q1 q2 q3 q4 q5 q6 q7 q8 : Int32) (q9 : Int64) (q10 q11 q12 q13 q14 : Nat → Int32) (q15 q16 : Nat → Int64), p_X7_losers hS hP sz su rd tot Hs Hb Ho Hk wp wl wa wk wn ww re = some (r, su', rd', tot', wa', wk', wn', ww', re') ∧ p_X8_losers a1 s1 r1 p1 lo w0 h0 kf sg al mb mt ms mr mo mk ks sw sl wy nx = some (r, q1, q2, q3, q4, q5, q6, q7, q8, q9, q10, q11, q12, q13, q14, q15, q16) ∧ WR S P srt own kd sw sl n rd' su' tot' wn' ww' := by
  obtain ⟨rfl, rfl, rfl, hcr, hm⟩ := h
  subst hsz hsgn
  have hH := HB_HC hcr
  obtain ⟨a3, ms', mr', mo', mk', q, m1, m2⟩ := v_find hm a1 s1 r1 p1 ms mr mo mk
  obtain ⟨su', tot', wa', wk', wn', ww', re', hW, hq⟩ := v_refrW hH hn (fun i hi => (hse i hi).2.2) (fun i hi => ⟨(hse i hi).1, (hse i hi).2.1⟩) hr (wa := wa) (wk := wk) (re := re)
  obtain ⟨c1, c2, c3, c4, c5, c6, c7, c8, e⟩ := v_losersNow (mk_MC hcr m1 m2) hn (fun i hi => (hse i hi).2.2) lo w0 h0 kf al ks wy nx
  unfold p_X7_losers p_X7_losers_b0 p_X8_losers p_X8_losers_b0
  rw [hq, b8_some, q, b8_some, e, b9_some, ← hW.1]
  exact ⟨_, _, _, _, _, _, _, _, _, _, _, _, _, _, _, _, _, _, _, _, _, _, _, _, _, rfl, rfl, Or.inr ⟨rfl, hW⟩⟩
theorem he_7 {P V : Nat} (hP : P ≤ 8) (hV : 0 < V) {v : Nat → Nat} (hb : ∀ i, v i * V < 2 ^ 63) {ww : Nat → Int64} (hw : ∀ l, l < P → ww l = lN (v l * V)) : ∀ (r i fuel : Nat), i + r = P → r < fuel → p_X6_heaviest_b7 fuel (nI P) ww (bsI v i) (lN (mxN v i * V)) (nI i) = some (bsI v P) := by
  have hmx : ∀ i, mxN v i * V < 2 ^ 63 := fun i => by
    induction i with
    | zero => show 0 * V < _; rw [Nat.zero_mul]; decide
    | succ i ih =>
      show (if _ then _ else _) * V < _
      split
      · exact ih
      · exact hb i
  intro r
  induction r with
  | zero =>
    intro i fuel hi hf
    obtain ⟨f, rfl⟩ : ∃ f, fuel = f + 1 := ⟨fuel - 1, by omega⟩
    have e : i = P := by omega
    subst e
    show p_X6_heaviest_b7x _ _ _ _ _ _ = _
    unfold p_X6_heaviest_b7x
    rw [if_pos (nI_le (Nat.le_refl _) (by omega))]
  | succ r ih =>
    intro i fuel hi hf
    obtain ⟨f, rfl⟩ : ∃ f, fuel = f + 1 := ⟨fuel - 1, by omega⟩
    have hiP : i < P := by omega
    have hs1 : mxN v (i + 1) = if v i ≤ mxN v i then mxN v i else v i := rfl
    have hs2 : bsI v (i + 1) = if v i ≤ mxN v i then bsI v i else nI i := rfl
    rw [← ih (i + 1) f (by omega) (by omega), hs1, hs2]
    show p_X6_heaviest_b7x _ _ _ _ _ _ = _
    unfold p_X6_heaviest_b7x p_X6_heaviest_b42
    rw [if_neg (nI_ge hiP (by omega)), inB_nI (show i < 8 by omega) (by decide), gd_true, gd_true, nI_clamp (by omega), hw i hiP]
    have e : (v i * V ≤ mxN v i * V) = (v i ≤ mxN v i) := propext ⟨fun z => Nat.le_of_mul_le_mul_right z hV, fun z => Nat.mul_le_mul_right _ z⟩
    simp only [lgc2 (hb i) (hmx i), e, nm_def, nI_1]
    by_cases q : v i ≤ mxN v i
    · rw [if_pos q, if_pos q, if_pos q]
    · rw [if_neg q, if_neg q, if_neg q]
theorem vvV_lt {S P n : Nat} {srt own kd : Nat → Nat} {sw sl : Nat → Int32} (hS : S < 9) (hP : P ≤ S) (ho : ∀ k, k < P → own k < S) (l : Nat) : (vvN S P srt own kd sw sl n) l * Vw S P ≤ UN := by
  rw [← (d_AV S hS P (by omega) (by omega)).1]
  exact Nat.mul_le_mul_right _ (vv_le hS hP ho l)
theorem v_likeliest {S R P : Nat} {srt row own kd : Nat → Nat} {hS hR hP f0 f1 : Int32} {Hs Hr Hb Ho Hk mb mt : Nat → Int32} (h : HB S R P srt row own kd hS hR hP f0 f1 Hs Hr Hb Ho Hk mb mt) {n : Nat} {sz sg : Int32} {wp wl sw sl : Nat → Int32} (hn : n ≤ 8) (hsz : sz = nI n) (hsgn : sg = nI n) (hse : ∀ i, i < n → wp i = sw i ∧ wl i = sl i ∧ (∃ q : Nat, q < 8 ∧ sl i = nI q) ∧ (sw i = -1 ∨ ∃ p : Nat, p < 8 ∧ sw i = nI p)) {rd su : Int32} {tot : Int64} {wa wk wn : Nat → Int32} {ww re : Nat → Int64} (hr : WR S P srt own kd sw sl n rd su tot wn ww) (a1 s1 r1 p1 lo w0 h0 kf : Int32) (al : Int64) (ms mr mo mk ks : Nat → Int32) (wy nx : Nat → Int64) : ∃ (r : Int32) (su' rd' : Int32) (tot' : Int64) (wa' wk' wn' : Nat → Int32) (ww' re' : Nat → Int64) (q1 q2 q3 q4 q5 q6 q7 q8 : Int32) (q9 : Int64) (q10 q11 q12 q13 q14 : Nat → Int32) (q15 q16 : Nat → Int64), p_X7_likeliest hS hP sz su rd tot Hs Hb Ho Hk wp wl wa wk wn ww re = some (r, su', rd', tot', wa', wk', wn', ww', re') ∧ p_X8_likeliest a1 s1 r1 p1 lo w0 h0 kf sg al mb mt ms mr mo mk ks sw sl wy nx = some (r, q1, q2, q3, q4, q5, q6, q7, q8, q9, q10, q11, q12, q13, q14, q15, q16) ∧ WR S P srt own kd sw sl n rd' su' tot' wn' ww' := by
  obtain ⟨rfl, rfl, rfl, hcr, hm⟩ := h
  subst hsz hsgn
  have hH := HB_HC hcr
  have hS := hH.1
  have hP := hH.2.1
  have ho : ∀ k, k < P → own k < S := fun k hk => (hH.2.2.2 k hk).2.1
  have hU := UN_lt
  obtain ⟨a3, ms', mr', mo', mk', q, m1, m2⟩ := v_find hm a1 s1 r1 p1 ms mr mo mk
  obtain ⟨su', tot', wa', wk', wn', ww', re', hW, hq⟩ := v_refrW hH hn (fun i hi => (hse i hi).2.2) (fun i hi => ⟨(hse i hi).1, (hse i hi).2.1⟩) hr (wa := wa) (wk := wk) (re := re)
  obtain ⟨c1, c2, c3, c4, c5, c6, c7, c8, e⟩ := v_likeliestNow (mk_MC hcr m1 m2) hn (fun i hi => (hse i hi).2.2) lo w0 h0 kf al ks wy nx
  have hh : p_X6_heaviest (nI P) ww' = some (bsI (vvN S P srt own kd sw sl n) P) := by
    have := he_7 (P := P) (V := Vw S P) (by omega) (d_AV S hS P (by omega) (by omega)).2.2 (v := (vvN S P srt own kd sw sl n)) (fun i => by have := vvV_lt (n := n) (srt := srt) (kd := kd) (sw := sw) (sl := sl) hS hP ho i; omega) hW.2.2.1 P 0 4096 (by omega) (by omega)
    have z : mxN (vvN S P srt own kd sw sl n) 0 * Vw S P = 0 := Nat.zero_mul _
    rw [z] at this
    exact this
  unfold p_X7_likeliest p_X7_likeliest_b0 p_X8_likeliest p_X8_likeliest_b0
  rw [hq, b8_some, hh, b1_some, q, b8_some, e, b9_some]
  exact ⟨_, _, _, _, _, _, _, _, _, _, _, _, _, _, _, _, _, _, _, _, _, _, _, _, _, rfl, rfl, Or.inr ⟨rfl, hW⟩⟩
theorem vsum_le {S P n i : Nat} {srt own kd : Nat → Nat} {sw sl : Nat → Int32} (hS : S < 9) (hP : P ≤ S) (ho : ∀ k, k < P → own k < S) (hi : i ≤ 8) : fb_sm (vvN S P srt own kd sw sl n) i < 2 ^ 62 := by
  have h1 : fb_sm (vvN S P srt own kd sw sl n) i ≤ i * Aw S P := fb_sm_bound fun k _ => vv_le hS hP ho k
  have h2 := Aw_le S hS P (by omega) (by omega)
  have h3 : i * Aw S P ≤ 8 * 182891520000 := Nat.mul_le_mul hi h2
  omega
theorem sh_35 {S P n : Nat} {srt own kd : Nat → Nat} {ms mo mk : Nat → Int32} (hM : MC S P srt own kd ms mo mk) (hn : n ≤ 8) {sw sl : Nat → Int32} (hsg : ∀ i, i < n → (∃ q : Nat, q < 8 ∧ sl i = nI q) ∧ (sw i = -1 ∨ ∃ p : Nat, p < 8 ∧ sw i = nI p)) {p w : Nat} (hp : p < P) (hkp : kd p = 0) (hw : w < 2) {a1 r1 : Int32} {mb mt mr : Nat → Int32} : ∀ (r i fuel : Nat) (lo w0 h0 kf : Int32) (al : Int64) (ks : Nat → Int32) (wy nx : Nat → Int64), i + r = P → r < fuel → ∃ (q5 q6 q7 q8 : Int32) (q9 : Int64) (q14 : Nat → Int32) (q15 q16 : Nat → Int64), p_X8_share_b35 fuel a1 (nI S) r1 (nI P) lo w0 h0 kf (nI n) al mb mt ms mr mo mk ks sw sl wy nx (nI p) (nI w) (lN (fb_sm (vvN S P srt own kd sw sl n) i)) (nI i) = some ((if fb_sm (vvN S P srt own kd sw sl n) P = 0 then -9223372036854775808 - (-3 : Int32).toInt64 else lN (fp ((vvN S P srt own kd sw sl n) p) (fb_sm (vvN S P srt own kd sw sl n) P) w)), a1, nI S, r1, nI P, q5, q6, q7, q8, q9, ms, mr, mo, mk, q14, q15, q16) := by
  obtain ⟨hS, hP, h1, h2⟩ := id hM
  have ho : ∀ k, k < P → own k < S := fun k hk => (h2 k hk).2.1
  intro r
  induction r with
  | zero =>
    intro i fuel lo w0 h0 kf al ks wy nx hi hf
    obtain ⟨f, rfl⟩ : ∃ f, fuel = f + 1 := ⟨fuel - 1, by omega⟩
    have e : i = P := by omega
    subst e
    have hsl := vsum_le (n := n) (i := i) (srt := srt) (kd := kd) (sw := sw) (sl := sl) hS hP ho (by omega)
    show ∃ (q5 q6 q7 q8 : Int32) (q9 : Int64) (q14 : Nat → Int32) (q15 q16 : Nat → Int64), p_X8_share_b35x _ _ _ _ _ _ _ _ _ _ _ _ _ _ _ _ _ _ _ _ _ _ _ _ _ _ = _
    unfold p_X8_share_b35x p_X8_share_b101
    rw [if_pos (nI_le (Nat.le_refl _) (by omega))]
    simp only [lgc1 (show fb_sm (vvN S i srt own kd sw sl n) i < 2 ^ 63 by omega)]
    by_cases hz : fb_sm (vvN S i srt own kd sw sl n) i = 0
    · rw [if_pos hz, if_pos hz]
      exact ⟨_, _, _, _, _, _, _, _, rfl⟩
    · obtain ⟨c1, c2, c3, c4, c5, c6, c7, c8, e⟩ := v_seen1 hM hn hsg hp hkp lo w0 h0 kf al ks wy nx
      have hb := vv_le (n := n) (srt := srt) (kd := kd) (sw := sw) (sl := sl) hS hP ho p
      have hA := Aw_le S hS i (by omega) (by omega)
      rw [if_neg hz, if_neg hz, e, b9_some, v_partM (by omega) (Nat.pos_of_ne_zero hz) hsl hw, b1_some]
      exact ⟨_, _, _, _, _, _, _, _, rfl⟩
  | succ r ih =>
    intro i fuel lo w0 h0 kf al ks wy nx hi hf
    obtain ⟨f, rfl⟩ : ∃ f, fuel = f + 1 := ⟨fuel - 1, by omega⟩
    have hiP : i < P := by omega
    obtain ⟨o1, o2, o3, o4⟩ := h2 i hiP
    have hz : (nI (kd i) = 0) = (kd i = 0) := propext (nI_eq (b := 0) (by omega) (by decide))
    have hs : fb_sm (vvN S P srt own kd sw sl n) (i + 1) = fb_sm (vvN S P srt own kd sw sl n) i + (vvN S P srt own kd sw sl n) i := rfl
    show ∃ (q5 q6 q7 q8 : Int32) (q9 : Int64) (q14 : Nat → Int32) (q15 q16 : Nat → Int64), p_X8_share_b35x _ _ _ _ _ _ _ _ _ _ _ _ _ _ _ _ _ _ _ _ _ _ _ _ _ _ = _
    unfold p_X8_share_b35x p_X8_share_b67
    rw [if_neg (nI_ge hiP (by omega)), inB_nI (show i < 8 by omega) (by decide), gd_true, nI_clamp (by omega), o3]
    simp only [hz]
    by_cases hk : kd i = 0
    · obtain ⟨c1, c2, c3, c4, c5, c6, c7, c8, e⟩ := v_seen1 hM hn hsg hiP hk lo w0 h0 kf al ks wy nx
      rw [if_pos hk, e, b9_some, nm_def, nm_def, lN_add, nI_1, ← hs]
      exact ih (i + 1) f _ _ _ _ _ _ _ _ (by omega) (by omega)
    · have hv : (vvN S P srt own kd sw sl n) i = 0 := by unfold vvN; rw [if_neg hk]
      rw [hv] at hs
      rw [if_neg hk, nm_def, nm_def, LL0, lN_add, nI_1, ← hs]
      exact ih (i + 1) f _ _ _ _ _ _ _ _ (by omega) (by omega)
theorem v_share {S R P : Nat} {srt row own kd : Nat → Nat} {hS hR hP f0 f1 : Int32} {Hs Hr Hb Ho Hk mb mt : Nat → Int32} (h : HB S R P srt row own kd hS hR hP f0 f1 Hs Hr Hb Ho Hk mb mt) {n : Nat} {sz sg : Int32} {wp wl sw sl : Nat → Int32} (hn : n ≤ 8) (hsz : sz = nI n) (hsgn : sg = nI n) (hse : ∀ i, i < n → wp i = sw i ∧ wl i = sl i ∧ (∃ q : Nat, q < 8 ∧ sl i = nI q) ∧ (sw i = -1 ∨ ∃ p : Nat, p < 8 ∧ sw i = nI p)) {rd su : Int32} {tot : Int64} {wa wk wn : Nat → Int32} {ww re : Nat → Int64} (hr : WR S P srt own kd sw sl n rd su tot wn ww) (a1 s1 r1 p1 lo w0 h0 kf : Int32) (al : Int64) (ms mr mo mk ks : Nat → Int32) (wy nx : Nat → Int64) (x y : Int32) : ∃ (r : Int64) (su' rd' : Int32) (tot' : Int64) (wa' wk' wn' : Nat → Int32) (ww' re' : Nat → Int64) (q1 q2 q3 q4 q5 q6 q7 q8 : Int32) (q9 : Int64) (q10 q11 q12 q13 q14 : Nat → Int32) (q15 q16 : Nat → Int64), p_X7_share hS hP sz su rd tot Hs Hb Ho Hk wp wl wa wk wn ww re x y = some (r, su', rd', tot', wa', wk', wn', ww', re') ∧ p_X8_share a1 s1 r1 p1 lo w0 h0 kf sg al mb mt ms mr mo mk ks sw sl wy nx x y = some (r, q1, q2, q3, q4, q5, q6, q7, q8, q9, q10, q11, q12, q13, q14, q15, q16) ∧ WR S P srt own kd sw sl n rd' su' tot' wn' ww' := by
  obtain ⟨rfl, rfl, rfl, hcr, hm⟩ := h
  subst hsz hsgn
  have hH := HB_HC hcr
  have hS := hH.1
  have hP := hH.2.1
  have ho : ∀ k, k < P → own k < S := fun k hk => (hH.2.2.2 k hk).2.1
  have hU := UN_lt
  have hAV := d_AV S hS P (by omega) (by omega)
  obtain ⟨a3, ms', mr', mo', mk', q, m1, m2⟩ := v_find hm a1 s1 r1 p1 ms mr mo mk
  obtain ⟨su', tot', wa', wk', wn', ww', re', hW, hq⟩ := v_refrW hH hn (fun i hi => (hse i hi).2.2) (fun i hi => ⟨(hse i hi).1, (hse i hi).2.1⟩) hr (wa := wa) (wk := wk) (re := re)
  unfold p_X7_share p_X7_share_b0 p_X7_share_b27 p_X7_share_b80 p_X8_share p_X8_share_b0 p_X8_share_b24 p_X8_isPerson p_X8_isPerson_b0
  rw [q, b8_some]
  rcases v_noSeat (S := P) (by omega) x with ⟨p, hp, rfl, -, e1, e2⟩ | ⟨-, e1, e2⟩
  · obtain ⟨o1, o2, o3, o4⟩ := hH.2.2.2 p hp
    have hkz : (nI (kd p) = 0) = (kd p = 0) := propext (nI_eq (b := 0) (by omega) (by decide))
    rw [e1, e2, b1_some, b1_some, z1, gd_true, b9_some, if_pos (show (0 : Int32) = 0 from rfl), if_neg (show ¬ (1 : Int32) = 0 by decide), inB_nI (show p < 8 by omega) (by decide), gd_true, gd_true, nI_clamp (by omega), (m2 p hp).2, o3]
    simp only [hkz]
    rcases v_wt y with ⟨w, hw, rfl, e5, e6⟩ | ⟨e5, e6⟩
    · rw [e5, e6, b1_some, b1_some, if_pos (show (0 : Int32) = 0 from rfl), if_neg (show ¬ (1 : Int32) = 0 by decide)]
      by_cases hk : kd p = 0
      · rw [if_pos hk, if_pos hk, hq, b8_some, gd_true]
        obtain ⟨q5, q6, q7, q8, q9, q14, q15, q16, e⟩ := sh_35 (mk_MC hcr m1 m2) hn (fun i hi => (hse i hi).2.2) hp hk hw (a1 := a3) (r1 := nI R) (mb := mb) (mt := mt) (mr := mr') P 0 4096 lo w0 h0 kf al ks wy nx (by omega) (by omega)
        rw [show p_X8_share_b35 4096 a3 (nI S) (nI R) (nI P) lo w0 h0 kf (nI n) al mb mt ms' mr' mo' mk' ks sw sl wy nx (nI p) (nI w) 0 0 = _ from e]
        have hT := vsum_le (n := n) (i := P) (srt := srt) (kd := kd) (sw := sw) (sl := sl) hS hP ho (by omega)
        have hTV : fb_sm (vvN S P srt own kd sw sl n) P * Vw S P ≤ 8 * UN := by
          have h1 : fb_sm (vvN S P srt own kd sw sl n) P ≤ P * Aw S P := fb_sm_bound fun k _ => vv_le hS hP ho k
          rw [← hAV.1, ← Nat.mul_assoc]
          exact Nat.mul_le_mul_right _ (Nat.le_trans h1 (Nat.mul_le_mul_right _ (by omega)))
        have hu8 := u8
        have ez : (fb_sm (vvN S P srt own kd sw sl n) P * Vw S P = 0) = (fb_sm (vvN S P srt own kd sw sl n) P = 0) := propext ⟨fun z => by
          rcases Nat.mul_eq_zero.mp z with z | z
          · exact z
          · omega, fun z => by rw [z, Nat.zero_mul]⟩
        have elg : (lg_cmp tot' 0 = 0) = (fb_sm (vvN S P srt own kd sw sl n) P = 0) := by rw [hW.2.1, lgc1 (by omega), ez]
        simp only [elg]
        by_cases hz : fb_sm (vvN S P srt own kd sw sl n) P = 0
        · rw [if_pos hz, if_pos hz]
          exact ⟨_, _, _, _, _, _, _, _, _, _, _, _, _, _, _, _, _, _, _, _, _, _, _, _, _, rfl, rfl, Or.inr ⟨rfl, hW⟩⟩
        · have hvb := vvV_lt (n := n) (srt := srt) (kd := kd) (sw := sw) (sl := sl) hS hP ho p
          have hpt : p_X7_part (ww' p) tot' (nI w) = some (lN (fp ((vvN S P srt own kd sw sl n) p) (fb_sm (vvN S P srt own kd sw sl n) P) w)) := by
            rw [hW.2.2.1 p hp, hW.2.1, v_partC (by omega) (Nat.mul_pos (Nat.pos_of_ne_zero hz) hAV.2.2) (by omega) hw, fp_mul hAV.2.2]
          rw [if_neg hz, if_neg hz, hpt, b1_some]
          exact ⟨_, _, _, _, _, _, _, _, _, _, _, _, _, _, _, _, _, _, _, _, _, _, _, _, _, rfl, rfl, Or.inr ⟨rfl, hW⟩⟩
      · rw [if_neg hk, if_neg hk]
        exact ⟨_, _, _, _, _, _, _, _, _, _, _, _, _, _, _, _, _, _, _, _, _, _, _, _, _, rfl, rfl, hr⟩
    · rw [e5, e6, b1_some, b1_some, if_neg (show ¬ (1 : Int32) = 0 by decide), if_pos (show (0 : Int32) = 0 from rfl)]
      by_cases hk : kd p = 0
      · rw [if_pos hk]
        exact ⟨_, _, _, _, _, _, _, _, _, _, _, _, _, _, _, _, _, _, _, _, _, _, _, _, _, rfl, rfl, hr⟩
      · rw [if_neg hk]
        exact ⟨_, _, _, _, _, _, _, _, _, _, _, _, _, _, _, _, _, _, _, _, _, _, _, _, _, rfl, rfl, hr⟩
  · rw [e1, e2, b1_some, b1_some, z0, gd_true, b9_some, if_neg (show ¬ (1 : Int32) = 0 by decide), if_pos (show (0 : Int32) = 0 from rfl)]
    exact ⟨_, _, _, _, _, _, _, _, _, _, _, _, _, _, _, _, _, _, _, _, _, _, _, _, _, rfl, rfl, hr⟩
