/-! evenings, both sides -/
def mth (c : Nat) : Nat → Nat → Nat → Nat
  | 0, _, s => s
  | r + 1, j, s => if c.testBit s = true then (if j = 0 then s else mth c r (j - 1) (s + 1)) else mth c r j (s + 1)
theorem d_mth : ∀ c, c < 256 → ∀ j, j < 8 → (pc c ≤ j ∨ (mth c 8 j 0 < 8 ∧ c.testBit (mth c 8 j 0) = true)) := by decide +kernel
theorem d_mem : ∀ S, S < 9 → ∀ c, c < 2 ^ S → ∀ j, j < 8 → (pc c ≤ j ∨ p_X2_member (nI S) (nI c) (nI j) = some (nI (mth c 8 j 0))) := by decide +kernel
theorem v_lot {m : Nat} (h1 : 1 ≤ m) (h8 : m ≤ 8) (st : Int32) : ∃ (j : Nat) (st' : Int32), j < m ∧ p_X2_lot st (nI m) = some (nI j, st') ∧ p_X8_lot st (nI m) = some (nI j, st') := by
  unfold p_X2_lot p_X2_lot_b0 p_X2_lot_b32 p_X8_lot p_X8_lot_b0
  simp only [nm_def]
  generalize 1103515245 * st + 12345 = x
  have hq : ∃ q : Nat, q < 65536 ∧ (x.toUInt32 >>> ((16 : Int32).toUInt32 &&& Int32.toUInt32 31)).toInt32 = nI q := by
    refine ⟨x.toBitVec.toNat / 2 ^ 16, by have := x.toBitVec.isLt; omega, ?_⟩
    apply Int32.toBitVec_inj.mp
    apply BitVec.eq_of_toNat_eq
    rw [pk_ushr x 16 16 (by decide), pk_tn (by have := x.toBitVec.isLt; omega)]
  obtain ⟨q, hq, e⟩ := hq
  rw [e, if_neg (nI_nle (by omega) (by omega)), decide_eq_true (nI_ne0 (n := m) (by omega) (by omega)), gd_true, pk_rem (by omega) (by omega) (by omega)]
  exact ⟨q % m, x, Nat.mod_lt _ (by omega), rfl, rfl⟩
theorem eve_103 (K12 : Int32 → Int32 → Int32 → (Nat → Int32) → (Nat → Int32) → (Nat → Int32) → (Nat → Int32) → Int32 → Int32 → Int32 → Option (Int32 × Int32 × (Nat → Int32))) {S P : Int32} {st wr : Int32} {ms mo mk ev : Nat → Int32} {u p c : Nat} (hp : p < 8) (hc : c < 256) : ∀ (r j s fuel : Nat), r < fuel → s + r ≤ 8 → j < 2 ^ 30 → mth c r j s < s + r →
    p_X8_findEvening_b103 K12 fuel S P st ms mo mk ev (nI u) wr (nI p) (nI c) (nI j) (nI s) = (if nI (mth c r j s) = mo p then p_X8_findEvening_b178 K12 S P st ms mo mk (upd ev p (nI (mth c r j s))) wr 0 (nI (u ||| 2 ^ mth c r j s)) (nI p) else p_X8_findEvening_b178 K12 S P st ms mo mk (upd ev p (nI (mth c r j s))) wr 1 (nI (u ||| 2 ^ mth c r j s)) (nI p)) := by
  intro r
  induction r with
  | zero => intro j s fuel _ _ _ h; exact absurd h (by show ¬ s < s + 0; omega)
  | succ r ih =>
    intro j s fuel hf hs hj h
    obtain ⟨f, rfl⟩ : ∃ f, fuel = f + 1 := ⟨fuel - 1, by omega⟩
    show p_X8_findEvening_b103x _ _ _ _ _ _ _ _ _ _ _ _ _ _ _ = _
    unfold p_X8_findEvening_b103x p_X8_findEvening_b118 p_X8_findEvening_b135
    have hm : mth c (r + 1) j s = if c.testBit s = true then (if j = 0 then s else mth c r (j - 1) (s + 1)) else mth c r j (s + 1) := rfl
    rw [d_isIn c hc s (by omega)]
    simp only [b1_some, nIb0, nm_def, nI_1, gd_true, inB_nI hp (by decide), nI_clamp (show p < 2 ^ 31 by omega)]
    by_cases hb : c.testBit s = false
    · rw [if_pos hb, if_pos hb]
      rw [if_neg (by rw [hb]; decide)] at hm
      rw [hm] at h ⊢
      rw [L0, pk_sub (by omega)]
      exact ih j (s + 1) f (by omega) (by omega) hj (by omega)
    · have hb' : c.testBit s = true := by simpa using hb
      rw [if_neg hb, if_neg hb]
      rw [if_pos hb'] at hm
      by_cases h0 : j = 0
      · rw [if_pos h0] at hm
        rw [hm, h0, if_pos (show nI 0 ≤ 0 by decide), d_sh s (by omega), fa_or]
      · rw [if_neg h0] at hm
        rw [hm] at h ⊢
        rw [if_neg (nI_nle (by omega) (by omega)), L1, pk_sub (by omega)]
        exact ih (j - 1) (s + 1) f (by omega) (by omega) (by omega) (by omega)
theorem v_place {S P : Nat} {srt own kd : Nat → Nat} {Hs Hb Ho Hk ms mo mk : Nat → Int32} (hHC : HC S P srt own kd Hs Hb Ho Hk) (hM : MC S P srt own kd ms mo mk) (K12 : Int32 → Int32 → Int32 → (Nat → Int32) → (Nat → Int32) → (Nat → Int32) → (Nat → Int32) → Int32 → Int32 → Int32 → Option (Int32 × Int32 × (Nat → Int32))) {p u : Nat} (hp : p < P) (hu : u < 2 ^ S) (hpu : pc u = p) (st wr : Int32) (ev : Nat → Int32) : ∃ (j : Nat) (st' : Int32), j < pc (cCh S srt own kd p u) ∧ p_X2_place (nI S) st Hs Hb (nI u) (nI (own p)) (nI (kd p)) = some (nI (mth (cCh S srt own kd p u) 8 j 0), st') ∧
    p_X8_findEvening_b12x K12 (nI S) (nI P) st ms mo mk ev (nI u) wr (nI p) = p_X8_findEvening_b98 K12 (nI S) (nI P) st' ms mo mk ev (nI j) (nI u) wr (nI p) (nI (cCh S srt own kd p u)) := by
  have hS := hHC.1
  have hP := hHC.2.1
  have hpw := d_pw S hS
  have ho : ∀ k, k < P → own k < S := fun k hk => (hHC.2.2.2 k hk).2.1
  obtain ⟨o1, o2, o3, o4⟩ := hHC.2.2.2 p hp
  obtain ⟨k1, k2, k3, k4⟩ := hM.2.2.2 p hp
  have ch1 : p_X3_choices (nI S) Hs Hb (nI u) (nI (own p)) (nI (kd p)) = some (nI (cCh S srt own kd p u)) := v_chC' hHC o2 o4 hu (by omega)
  have ch2 : p_X8_choices (nI S) ms mo (nI p) (nI (kd p)) (nI u) = some (nI (cCh S srt own kd p u)) := v_chM' hM hp o4 hu (by omega)
  obtain ⟨d1, d2, d3, d4⟩ := cCh_ok (srt := srt) (kd := kd) hS hP ho p u hp hu hpu
  unfold p_X2_place p_X2_place_b0 p_X2_place_b30 p_X2_place_b34 p_X2_place_b35 p_X2_place_b58 p_X8_findEvening_b12x p_X8_findEvening_b73 p_X8_findEvening_b77 p_X8_findEvening_b78
  rw [if_neg (nI_ge hp (by omega))]
  simp only [inB_nI (show p < 8 by omega) (by decide), gd_true, nI_clamp (show p < 2 ^ 31 by omega), k1, k3, ch1, ch2, b1_some, i10, i00, if_true, if_false]
  rw [d_has u (by omega) (own p) (by omega), d_isIn u (by omega) (own p) (by omega)]
  generalize hcc : cCh S srt own kd p u = cc at *
  have hc8 : cc < 256 := by omega
  obtain ⟨j, st', hj, l1, l2⟩ := v_lot d3 (show pc cc ≤ 8 by omega) st
  have mem : ∀ j, j < pc cc → p_X2_member (nI S) (nI cc) (nI j) = some (nI (mth cc 8 j 0)) := fun j hj => (d_mem S hS cc d1 j (by omega)).resolve_left (by omega)
  have m0 : p_X2_member (nI S) (nI cc) 0 = some (nI (mth cc 8 0 0)) := mem 0 (by omega)
  have mj := mem j hj
  simp only [b1_some, nIb0, d_pc cc hc8, d_ones cc hc8, l1, l2, b2_some, m0, mj]
  by_cases q1 : nI (kd p) = 1
  · simp only [if_pos q1]
    exact ⟨j, st', hj, rfl, rfl⟩
  · simp only [if_neg q1]
    by_cases q2 : nI (kd p) = 2
    · simp only [if_pos q2]
      exact ⟨0, st, by omega, rfl, rfl⟩
    · simp only [if_neg q2]
      by_cases q3 : u.testBit (own p) = false
      · simp only [if_pos q3]
        exact ⟨0, st, by omega, rfl, rfl⟩
      · simp only [if_neg q3]
        exact ⟨j, st', hj, rfl, rfl⟩
theorem eve_sim {S P : Nat} {srt own kd : Nat → Nat} {Hs Hb Ho Hk ms mo mk : Nat → Int32} (hHC : HC S P srt own kd Hs Hb Ho Hk) (hM : MC S P srt own kd ms mo mk) : ∀ (r p fC fM u : Nat) (wr st : Int32) (pl ev : Nat → Int32), p + r = P → r < fC → r < fM → u < 2 ^ S → pc u = p → (∀ i, i < p → pl i = ev i) →
    ∃ (wr' st' : Int32) (pl' ev' : Nat → Int32), (∀ i, i < P → pl' i = ev' i) ∧ p_X2_run_b14 fC (nI S) (nI P) wr st Hs Hb Ho Hk pl (nI u) (nI p) = some (wr', st', pl') ∧ p_X8_findEvening_b12 fM (nI S) (nI P) st ms mo mk ev (nI u) wr (nI p) = some (wr', st', ev') := by
  have hS := hHC.1
  have hP := hHC.2.1
  have hpw := d_pw S hS
  have ho : ∀ k, k < P → own k < S := fun k hk => (hHC.2.2.2 k hk).2.1
  intro r
  induction r with
  | zero =>
    intro p fC fM u wr st pl ev hp hC hM' hu hpu he
    obtain ⟨c, rfl⟩ : ∃ c, fC = c + 1 := ⟨fC - 1, by omega⟩
    obtain ⟨m, rfl⟩ : ∃ m, fM = m + 1 := ⟨fM - 1, by omega⟩
    have e : p = P := by omega
    subst e
    refine ⟨wr, st, pl, ev, he, ?_, ?_⟩
    · show p_X2_run_b14x _ _ _ _ _ _ _ _ _ _ _ _ = _
      unfold p_X2_run_b14x
      rw [if_pos (nI_le (Nat.le_refl _) (by omega))]
    · show p_X8_findEvening_b12x _ _ _ _ _ _ _ _ _ _ _ = _
      unfold p_X8_findEvening_b12x
      rw [if_pos (nI_le (Nat.le_refl _) (by omega))]
  | succ r ih =>
    intro p fC fM u wr st pl ev hp hC hM' hu hpu he
    obtain ⟨c, rfl⟩ : ∃ c, fC = c + 1 := ⟨fC - 1, by omega⟩
    obtain ⟨m, rfl⟩ : ∃ m, fM = m + 1 := ⟨fM - 1, by omega⟩
    have hpP : p < P := by omega
    obtain ⟨o1, o2, o3, o4⟩ := hHC.2.2.2 p hpP
    obtain ⟨k1, k2, k3, k4⟩ := hM.2.2.2 p hpP
    obtain ⟨d1, d2, d3, d4⟩ := cCh_ok (srt := srt) (kd := kd) hS hP ho p u hpP hu hpu
    obtain ⟨j, st', hj, w1, w2⟩ := v_place hHC hM (p_X8_findEvening_b12 m) hpP hu hpu st wr ev
    obtain ⟨t1, t2⟩ := (d_mth (cCh S srt own kd p u) (by omega) j (by omega)).resolve_left (by omega)
    have w3 := eve_103 (p_X8_findEvening_b12 m) (S := nI S) (P := nI P) (st := st') (wr := wr) (ms := ms) (mo := mo) (mk := mk) (ev := ev) (u := u) (p := p) (c := cCh S srt own kd p u) (by omega) (by omega) 8 j 0 4096 (by omega) (by omega) (by omega) (by omega)
    have w3' : p_X8_findEvening_b12x (p_X8_findEvening_b12 m) (nI S) (nI P) st ms mo mk ev (nI u) wr (nI p) = _ := w2.trans w3
    generalize mth (cCh S srt own kd p u) 8 j 0 = z at *
    obtain ⟨hz1, hz2⟩ := d2 z t2
    obtain ⟨g1, g2, g3⟩ := d_pcor u (by omega) z (by omega) hz2
    show ∃ (wr' st' : Int32) (pl' ev' : Nat → Int32), _ ∧ p_X2_run_b14x _ _ _ _ _ _ _ _ _ _ _ _ = _ ∧ p_X8_findEvening_b12x _ _ _ _ _ _ _ _ _ _ _ = _
    rw [w3']
    unfold p_X2_run_b14x p_X2_run_b93 p_X8_findEvening_b178
    rw [if_neg (nI_ge hpP (by omega))]
    simp only [inB_nI (show p < 8 by omega) (by decide), gd_true, nI_clamp (show p < 2 ^ 31 by omega), o1, o3, k1, w1, b2_some, nm_def, nI_1, pk_us, d_sh z (by omega), fa_or]
    have he' : ∀ i, i < p + 1 → upd pl p (nI z) i = upd ev p (nI z) i := fun i hi => by
      rw [upd_at, upd_at]
      by_cases q : i = p
      · rw [if_pos q, if_pos q]
      · rw [if_neg q, if_neg q]; exact he i (by omega)
    by_cases q : nI z = nI (own p)
    · simp only [if_pos q]
      exact ih (p + 1) c m (u ||| 2 ^ z) _ _ _ _ (by omega) (by omega) (by omega) (Nat.or_lt_two_pow hu (two_lt hz1)) (by omega) he'
    · simp only [if_neg q]
      exact ih (p + 1) c m (u ||| 2 ^ z) _ _ _ _ (by omega) (by omega) (by omega) (Nat.or_lt_two_pow hu (two_lt hz1)) (by omega) he'
theorem v_run {S P : Nat} {srt own kd : Nat → Nat} {Hs Hb Ho Hk ms mo mk : Nat → Int32} (hHC : HC S P srt own kd Hs Hb Ho Hk) (hM : MC S P srt own kd ms mo mk) (w0 e0 s0 x : Int32) (pl ev : Nat → Int32) : ∃ (wr' st' : Int32) (pl' ev' : Nat → Int32), (∀ i, i < P → pl' i = ev' i) ∧ p_X2_run (nI S) (nI P) w0 e0 Hs Hb Ho Hk pl x = some (wr', st', pl') ∧ p_X8_findEvening (nI S) (nI P) s0 ms mo mk ev x = some (wr', st', ev') := by
  have hS := hHC.1
  have hP := hHC.2.1
  exact eve_sim hHC hM P 0 4096 4096 0 0 x pl ev (by omega) (by omega) (by omega) (Nat.pow_pos (by decide)) rfl (fun i hi => absurd hi (by omega))
theorem v_who {P : Nat} (hP : P < 9) (x : Int32) : (x = -1 ∧ p_X8_in x.toInt64 (-1) ((nI P - 1).toInt64) = some 1) ∨ (∃ k, k < P ∧ x = nI k ∧ p_X7_isNobody (nI P) x = some 0 ∧ p_X8_in x.toInt64 (-1) ((nI P - 1).toInt64) = some 1) ∨ (¬ x = -1 ∧ p_X7_isNobody (nI P) x = some 1 ∧ p_X8_in x.toInt64 (-1) ((nI P - 1).toInt64) = some 0) := by
  have e3 : (nI P - 1).toInt = (P : Int) - 1 := by
    by_cases h0 : P = 0
    · subst h0; decide
    · rw [L1, pk_sub (by omega), nI_toInt (by omega)]; omega
  have hin : p_X8_in x.toInt64 (-1) ((nI P - 1).toInt64) = some (if -1 ≤ x.toInt ∧ x.toInt ≤ (P : Int) - 1 then 1 else 0) := by
    rw [v_in, Int32.toInt_toInt64, Int32.toInt_toInt64, e3, show (-1 : Int64).toInt = -1 from by decide]
  by_cases h1 : x = -1
  · left
    refine ⟨h1, ?_⟩
    rw [hin, h1, show (-1 : Int32).toInt = -1 from by decide, if_pos (by omega)]
  · right
    have h1' : ¬ x.toInt = -1 := fun q => h1 (Int32.toInt_inj.mp (by rw [q]; decide))
    rcases v_noSeat (S := P) hP x with ⟨k, hk, rfl, -, e1, e2⟩ | ⟨-, e1, e2⟩
    · left
      refine ⟨k, hk, rfl, e1, ?_⟩
      rw [hin, nI_toInt (by omega), if_pos (by omega)]
    · right
      refine ⟨h1, e1, ?_⟩
      rw [v_in, Int32.toInt_toInt64, Int32.toInt_toInt64, e3, show (0 : Int64).toInt = 0 from by decide] at e2
      rw [hin]
      by_cases q : -1 ≤ x.toInt ∧ x.toInt ≤ (P : Int) - 1
      · rw [if_pos (by omega)] at e2
        exact absurd e2 (by decide)
      · rw [if_neg q]
theorem v_evening {S R P : Nat} {srt row own kd : Nat → Nat} {hS hR hP f0 f1 : Int32} {Hs Hr Hb Ho Hk mb mt : Nat → Int32} (h : HB S R P srt row own kd hS hR hP f0 f1 Hs Hr Hb Ho Hk mb mt) (w0 e0 : Int32) (pl : Nat → Int32) (a1 s1 r1 p1 sd : Int32) (ms mr mo mk ev : Nat → Int32) (x y : Int32) : ∃ (r : Int32) (w' e' : Int32) (pl' : Nat → Int32) (q1 q2 q3 q4 q5 : Int32) (q6 q7 q8 q9 q10 : Nat → Int32), p_X7_evening hS hP w0 e0 Hs Hb Ho Hk pl x y = some (r, w', e', pl') ∧ p_X8_evening a1 s1 r1 p1 sd mb mt ms mr mo mk ev x y = some (r, q1, q2, q3, q4, q5, q6, q7, q8, q9, q10) := by
  obtain ⟨rfl, rfl, rfl, hcr, hm⟩ := h
  have hHC := HB_HC hcr
  have hS := hHC.1
  have hP := hHC.2.1
  obtain ⟨a3, ms', mr', mo', mk', q, m1, m2⟩ := v_find hm a1 s1 r1 p1 ms mr mo mk
  obtain ⟨wr', st', pl', ev', g1, g2, g3⟩ := v_run hHC (mk_MC hcr m1 m2) w0 e0 sd x pl ev
  unfold p_X7_evening p_X7_evening_b0 p_X7_evening_b16 p_X7_evening_b48 p_X8_evening p_X8_evening_b0 p_X8_evening_b33 p_X8_eveningOf p_X8_eveningOf_b0 p_X8_eveningOf_b21
  rw [q, b8_some, g2, g3]
  rcases v_who (P := P) (by omega) y with ⟨rfl, e1⟩ | ⟨k, hk, rfl, e1, e2⟩ | ⟨h1, e1, e2⟩
  · rw [e1]
    simp only [b1_some, b3_some, i10, if_false, if_true]
    exact ⟨_, _, _, _, _, _, _, _, _, _, _, _, _, _, rfl, rfl⟩
  · rw [e1, e2]
    simp only [b1_some, b3_some, i10, i00, if_false, if_true, if_neg (nI_m1 (show k < 2 ^ 31 by omega)), inB_nI (show k < 8 by omega) (by decide), gd_true, nI_clamp (show k < 2 ^ 31 by omega), g1 k hk]
    exact ⟨_, _, _, _, _, _, _, _, _, _, _, _, _, _, rfl, rfl⟩
  · rw [e1, e2]
    simp only [b1_some, i10, i00, if_false, if_true, if_neg h1]
    exact ⟨_, _, _, _, _, _, _, _, _, _, _, _, _, _, rfl, rfl⟩
theorem write_sim {S P R : Int32} {s f n N : Nat} (hs : s < 4) (hn : n ≤ 60) (hN : N ≤ n) (hN8 : N ≤ 8) {sf sz : Nat → Int32} {mf mz : Nat → Int32} (hsf : sf s = nI f) (hmf : mf s = nI f) (hz : sz s = nI n) {pl ev : Nat → Int32} (he : ∀ i, i < N → pl i = ev i) {w e fd a3 sd : Int32} {Hs Hb Ho Hk mb mt ms mr mo mk : Nat → Int32} : ∀ (r i fC fM : Nat) (si : Nat → Nat → Int32) (mi : Nat → Int32), i + r = N → r < fC → r < fM → SH sf sz si mf mz mi →
    ∃ (si' : Nat → Nat → Int32) (mi' : Nat → Int32), p_X7_write_b45 fC S P w e fd Hs Hb Ho Hk pl sf sz si (nI s) (nI N) (nI i) = some (nI N, w, e, fd, pl, si') ∧ p_X8_write_b65 fM fd a3 S R P sd mf mz mi mb mt ms mr mo mk ev (nI s) (nI N) (nI i) = some (nI N, fd, a3, S, R, P, sd, mi', ms, mr, mo, mk, ev) ∧ SH sf sz si' mf mz mi' := by
  obtain ⟨c1, c2, c3⟩ := c4 hs
  intro r
  induction r with
  | zero =>
    intro i fC fM si mi hi hC hM h
    obtain ⟨c, rfl⟩ : ∃ c, fC = c + 1 := ⟨fC - 1, by omega⟩
    obtain ⟨m, rfl⟩ : ∃ m, fM = m + 1 := ⟨fM - 1, by omega⟩
    have e : i = N := by omega
    subst e
    refine ⟨si, mi, ?_, ?_, h⟩
    · show p_X7_write_b45x _ _ _ _ _ _ _ _ _ _ _ _ _ _ _ _ _ = _
      unfold p_X7_write_b45x
      rw [if_pos (nI_le (Nat.le_refl _) (by omega))]
    · show p_X8_write_b65x _ _ _ _ _ _ _ _ _ _ _ _ _ _ _ _ _ _ _ _ = _
      unfold p_X8_write_b65x
      rw [if_pos (nI_le (Nat.le_refl _) (by omega))]
  | succ r ih =>
    intro i fC fM si mi hi hC hM h
    obtain ⟨c, rfl⟩ : ∃ c, fC = c + 1 := ⟨fC - 1, by omega⟩
    obtain ⟨m, rfl⟩ : ∃ m, fM = m + 1 := ⟨fM - 1, by omega⟩
    show ∃ (si' : Nat → Nat → Int32) (mi' : Nat → Int32), p_X7_write_b45x _ _ _ _ _ _ _ _ _ _ _ _ _ _ _ _ _ = _ ∧ p_X8_write_b65x _ _ _ _ _ _ _ _ _ _ _ _ _ _ _ _ _ _ _ _ = _ ∧ _
    unfold p_X7_write_b45x p_X8_write_b65x
    rw [if_neg (nI_ge (show i < N by omega) (by omega)), if_neg (nI_ge (show i < N by omega) (by omega)), ix60]
    simp only [c1, c2, c3, gd_true, inB_nI (show i < 8 by omega) (by decide), nI_clamp (show i < 2 ^ 31 by omega), v_put hs (show i < 60 by omega), v_cut, b1_some, inB_nI (show 60 * s + i < 240 by omega) (by decide), nI_clamp (show 60 * s + i < 2 ^ 31 by omega), nm_def, nI_1, he i (by omega), hsf, hmf]
    exact ih (i + 1) c m _ _ (by omega) (by omega) (by omega) (SH_put (f := f) h hs hz hn (by omega))
theorem v_write {S R P : Nat} {srt row own kd : Nat → Nat} {hS hR hP f0 f1 : Int32} {Hs Hr Hb Ho Hk mb mt : Nat → Int32} (h : HB S R P srt row own kd hS hR hP f0 f1 Hs Hr Hb Ho Hk mb mt) {sf sz : Nat → Int32} {si : Nat → Nat → Int32} {mf mz mi : Nat → Int32} (hH : SH sf sz si mf mz mi) (w0 e0 fd : Int32) (pl : Nat → Int32) (a1 s1 r1 p1 sd : Int32) (ms mr mo mk ev : Nat → Int32) (x y : Int32) : ∃ (r : Int32) (w' e' fd' : Int32) (pl' : Nat → Int32) (si' : Nat → Nat → Int32) (q1 q2 q3 q4 q5 : Int32) (mi' q8 q9 q10 q11 q12 : Nat → Int32), p_X7_write hS hP w0 e0 fd Hs Hb Ho Hk pl sf sz si x y = some (r, w', e', fd', pl', si') ∧ p_X8_write fd a1 s1 r1 p1 sd mf mz mi mb mt ms mr mo mk ev x y = some (r, fd', q1, q2, q3, q4, q5, mi', q8, q9, q10, q11, q12) ∧ SH sf sz si' mf mz mi' := by
  obtain ⟨rfl, rfl, rfl, hcr, hm⟩ := h
  have hHC := HB_HC hcr
  have hS := hHC.1
  have hP := hHC.2.1
  obtain ⟨a3, ms', mr', mo', mk', q, m1, m2⟩ := v_find hm a1 s1 r1 p1 ms mr mo mk
  obtain ⟨wr', st', pl', ev', g1, g2, g3⟩ := v_run hHC (mk_MC hcr m1 m2) w0 e0 sd x pl ev
  unfold p_X7_write p_X7_write_b0 p_X8_write p_X8_write_b0 p_X8_write_b61 p_X8_met p_X8_met_b0
  rcases v_shno y with ⟨s, hs, rfl, e1, e2⟩ | ⟨e1, e2⟩
  · obtain ⟨c1, c2, c3⟩ := c4 hs
    rcases hH s hs with ⟨k1, k2⟩ | ⟨f, n, k1, k2, k3, k4, k5, k6, k7⟩
    · rw [refS_lost hs e1 k1, e2]
      simp only [b1_some, b2_some, i10, if_false, c1, c2, gd_true, k2, if_neg m1_neg, show ((-10 - 1 : Int32) = 0) = False from eq_false (by decide)]
      exact ⟨_, _, _, _, _, _, _, _, _, _, _, _, _, _, _, _, _, rfl, rfl, hH⟩
    · rw [refS_row hs e1 k5 k2, e2]
      simp only [b1_some, b2_some, b3_some, b8_some, i10, i00, if_false, if_true, c1, c2, c3, gd_true, nm_def, k4, k5, k6, if_pos (nI_pos' (show f < 2 ^ 31 by omega)), q, g2, g3]
      by_cases hn : P ≤ n
      · rw [if_neg (nI_nlt hn (by omega)), if_pos (nI_le hn (by omega))]
        obtain ⟨si', mi', j1, j2, j3⟩ := write_sim (S := nI S) (P := nI P) (R := nI R) (N := P) hs k2 hn (by omega) k3 k4 k5 g1 (w := wr') (e := st') (fd := fd) (a3 := a3) (sd := st') (Hs := Hs) (Hb := Hb) (Ho := Ho) (Hk := Hk) (mb := mb) (mt := mt) (ms := ms') (mr := mr') (mo := mo') (mk := mk') P 0 4096 4096 si mi (by omega) (by omega) (by omega) hH
        exact ⟨_, _, _, _, _, _, _, _, _, _, _, _, _, _, _, _, _, j1, j2, j3⟩
      · rw [if_pos (nI_lt (by omega) (by omega)), if_neg (nI_ge (by omega) (by omega))]
        obtain ⟨si', mi', j1, j2, j3⟩ := write_sim (S := nI S) (P := nI P) (R := nI R) (N := n) hs k2 (Nat.le_refl _) (by omega) k3 k4 k5 (fun i hi => g1 i (by omega)) (w := wr') (e := st') (fd := fd) (a3 := a3) (sd := st') (Hs := Hs) (Hb := Hb) (Ho := Ho) (Hk := Hk) (mb := mb) (mt := mt) (ms := ms') (mr := mr') (mo := mo') (mk := mk') n 0 4096 4096 si mi (by omega) (by omega) (by omega) hH
        exact ⟨_, _, _, _, _, _, _, _, _, _, _, _, _, _, _, _, _, j1, j2, j3⟩
  · rw [refS_bad e1, e2]
    simp only [b1_some, b2_some, i00, if_true, show ((-2 : Int32) = 0) = False from eq_false (by decide), if_false]
    exact ⟨_, _, _, _, _, _, _, _, _, _, _, _, _, _, _, _, _, rfl, rfl, hH⟩
