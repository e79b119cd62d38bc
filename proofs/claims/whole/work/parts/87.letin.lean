/-! the class: letting in, all rows -/
theorem TKO_le {S P d : Nat} {srt own kd : Nat → Nat} (hS : S < 9) (hP : P ≤ S) (hO : ∀ p, p < P → own p < S) {od : Nat → Nat} (hd : d ≤ P) (h1 : ∀ k, k < d → od k < P) (s : Nat) : TKO S srt own kd od d s ≤ UN := by
  have := TK_fr (srt := srt) (ow := fun k => own (od k)) (kd := fun k => kd (od k)) (P := d) hS (by omega) (fun k hk => hO _ (h1 k hk)) (Nat.le_refl _) s
  unfold TKO
  omega
theorem oS_congr {I n : Nat} {f g : Nat → Nat} (h : ∀ p, p < n → I.testBit p = false → f p = g p) : oS I f n = oS I g n := sm_congr fun p hp => by
  by_cases q : I.testBit p = true
  · rw [if_pos q, if_pos q]
  · rw [if_neg q, if_neg q, h p hp (by simpa using q)]
theorem DI_back {S d p : Nat} {srt own kd od : Nat → Nat} {re tb : Nat → Int64} (h : DI S (d + 1) srt own kd (updN od d p) re tb) : DI S d srt own kd od re tb := by
  refine ⟨fun j hj u hu hpu => ?_, fun j hj s hs => ?_⟩
  · rw [h.1 j (by omega) u hu hpu, dC_congr (fun i hi => by rw [upd_lt (by omega)]; exact ⟨rfl, rfl⟩) u]
  · rw [h.2 j (by omega) s hs, TKO_upd hj]
theorem fdT_bd {P : Nat} {cost : (Nat → Nat) → Nat} {r d : Nat} {od : Nat → Nat} {I : Nat} {st : StT} (h : st.1 < 2 ^ 63) : (fdT P cost r d od I st).1 < 2 ^ 63 := Nat.lt_of_le_of_lt (fdT_le r d od I st) h
theorem c_le {S : Nat} {srt own kd od : Nat → Nat} {d : Nat} (hd : d ≤ 8) : fb_sm (wrO S srt own kd od) d ≤ 8 * UN := Nat.le_trans (fb_sm_bound (c := UN) fun k _ => wr_le k) (Nat.mul_le_mul_right _ hd)
theorem li_59 {S P : Nat} {srt own kd : Nat → Nat} {Hs Hb Ho Hk : Nat → Int32} (hH : HC S P srt own kd Hs Hb Ho Hk) (hP6 : P ≤ 6) {r dep : Nat}
    (ih : ∀ (d : Nat) (od : Nat → Nat) (I c L : Nat) (be row : Nat → Int32) (re tb : Nat → Int64) (be0 : Nat → Int32), d + r = P → (∀ k, k < d → od k < P) → I < 2 ^ P → pc I = d → (∀ k, k < d → row k = nI (od k)) → DI S d srt own kd od re tb → c = fb_sm (wrO S srt own kd od) d → L < 2 ^ 63 → (∀ k, k < P → be k = be0 k) → ∀ st', st' = fdT P (costD S P srt own kd) r d od I (L, be0) → ∃ (be' row' : Nat → Int32) (re' tb' : Nat → Int64), (∀ k, k < P → be' k = st'.2 k) ∧ (∀ k, k < d → row' k = nI (od k)) ∧ DI S d srt own kd od re' tb' ∧ (∀ y, y < 8 → tb' y = tb y) ∧ p_X1_letInr dep (nI S) (nI P) (lN L) Hs Hb Ho Hk be row re tb (nI d) (nI I) (lN c) = some (lN st'.1, be', row', re', tb'))
    {d : Nat} {od : Nat → Nat} {I c : Nat} (hdr : d + (r + 1) = P) (hod : ∀ k, k < d → od k < P) (hI : I < 2 ^ P) (hpc : pc I = d) (hc : c = fb_sm (wrO S srt own kd od) d) {st0 : StT} (hL0 : st0.1 < 2 ^ 63) : ∀ (rr i fuel : Nat) (be row : Nat → Int32) (re tb : Nat → Int64), i + rr = P → rr < fuel → (∀ k, k < d → row k = nI (od k)) → DI S d srt own kd od re tb → (∀ k, k < P → be k = (lpN (fun p st => if I.testBit p = true then st else fdT P (costD S P srt own kd) r (d + 1) (updN od d p) (I ||| 2 ^ p) st) i st0).2 k) →
    ∀ st', st' = lpN (fun p st => if I.testBit p = true then st else fdT P (costD S P srt own kd) r (d + 1) (updN od d p) (I ||| 2 ^ p) st) P st0 → ∃ (be' row' : Nat → Int32) (re' tb' : Nat → Int64), (∀ k, k < P → be' k = st'.2 k) ∧ (∀ k, k < d → row' k = nI (od k)) ∧ DI S d srt own kd od re' tb' ∧ (∀ y, y < 8 → tb' y = tb y) ∧ p_X1_letIn_b59 (p_X1_letInr dep) fuel (nI S) (nI P) (lN (lpN (fun p st => if I.testBit p = true then st else fdT P (costD S P srt own kd) r (d + 1) (updN od d p) (I ||| 2 ^ p) st) i st0).1) Hs Hb Ho Hk be row re tb (nI d) (nI I) (lN c) (nI i) = some (lN st'.1, be', row', re', tb') := by
  obtain ⟨hS, hP, g1, g2⟩ := id hH
  have hO : ∀ p, p < P → own p < S := fun p hp => (g2 p hp).2.1
  have hI8 : I < 256 := Nat.lt_of_lt_of_le hI (d_pw P (by omega))
  have hu8 := u8
  have hU := UN_lt
  have hcl : c ≤ 8 * UN := by rw [hc]; exact c_le (by omega)
  intro rr
  induction rr with
  | zero =>
    intro i fuel be row re tb hi hf hrow hDI hbe st' hst
    obtain ⟨f, rfl⟩ : ∃ f, fuel = f + 1 := ⟨fuel - 1, by omega⟩
    have e : i = P := by omega
    subst e
    subst hst
    refine ⟨be, row, re, tb, hbe, hrow, hDI, fun _ _ => rfl, ?_⟩
    show p_X1_letIn_b59x _ _ _ _ _ _ _ _ _ _ _ _ _ _ _ _ _ = _
    unfold p_X1_letIn_b59x
    rw [if_pos (nI_le (Nat.le_refl _) (by omega))]
  | succ rr ihr =>
    intro i fuel be row re tb hi hf hrow hDI hbe st' hst
    obtain ⟨f, rfl⟩ : ∃ f, fuel = f + 1 := ⟨fuel - 1, by omega⟩
    have hiP : i < P := by omega
    have hLi : (lpN (fun p st => if I.testBit p = true then st else fdT P (costD S P srt own kd) r (d + 1) (updN od d p) (I ||| 2 ^ p) st) i st0).1 < 2 ^ 63 := by
      have := lp_mono (f := (fun p st => if I.testBit p = true then st else fdT P (costD S P srt own kd) r (d + 1) (updN od d p) (I ||| 2 ^ p) st)) (fun p st => fF_le p st) st0 0 i
      rw [Nat.zero_add] at this
      exact Nat.lt_of_le_of_lt this hL0
    have hstep : lpN (fun p st => if I.testBit p = true then st else fdT P (costD S P srt own kd) r (d + 1) (updN od d p) (I ||| 2 ^ p) st) (i + 1) st0 = if I.testBit i = true then lpN (fun p st => if I.testBit p = true then st else fdT P (costD S P srt own kd) r (d + 1) (updN od d p) (I ||| 2 ^ p) st) i st0 else fdT P (costD S P srt own kd) r (d + 1) (updN od d i) (I ||| 2 ^ i) (lpN (fun p st => if I.testBit p = true then st else fdT P (costD S P srt own kd) r (d + 1) (updN od d p) (I ||| 2 ^ p) st) i st0) := rfl
    have skip : lpN (fun p st => if I.testBit p = true then st else fdT P (costD S P srt own kd) r (d + 1) (updN od d p) (I ||| 2 ^ p) st) (i + 1) st0 = lpN (fun p st => if I.testBit p = true then st else fdT P (costD S P srt own kd) r (d + 1) (updN od d p) (I ||| 2 ^ p) st) i st0 → ∃ (be' row' : Nat → Int32) (re' tb' : Nat → Int64), (∀ k, k < P → be' k = st'.2 k) ∧ (∀ k, k < d → row' k = nI (od k)) ∧ DI S d srt own kd od re' tb' ∧ (∀ y, y < 8 → tb' y = tb y) ∧ p_X1_letIn_b144 (p_X1_letInr dep) (p_X1_letIn_b59 (p_X1_letInr dep) f) (nI S) (nI P) (lN (lpN (fun p st => if I.testBit p = true then st else fdT P (costD S P srt own kd) r (d + 1) (updN od d p) (I ||| 2 ^ p) st) i st0).1) Hs Hb Ho Hk be row re tb (nI d) (nI I) (lN c) (nI i) = some (lN st'.1, be', row', re', tb') := fun he => by
      have hr := ihr (i + 1) f be row re tb (by omega) (by omega) hrow hDI (by rw [he]; exact hbe) st' hst
      rw [he] at hr
      unfold p_X1_letIn_b144
      rw [nm_def, nI_1]
      exact hr
    show ∃ (be' row' : Nat → Int32) (re' tb' : Nat → Int64), (∀ k, k < P → be' k = st'.2 k) ∧ (∀ k, k < d → row' k = nI (od k)) ∧ DI S d srt own kd od re' tb' ∧ (∀ y, y < 8 → tb' y = tb y) ∧ p_X1_letIn_b59x _ _ _ _ _ _ _ _ _ _ _ _ _ _ _ _ _ = _
    unfold p_X1_letIn_b59x
    rw [if_neg (nI_ge hiP (by omega)), d_has I hI8 i (by omega), b1_some]
    simp only [nIb0]
    by_cases hb : I.testBit i = false
    · rw [if_pos hb]
      have hbt : ¬ I.testBit i = true := by rw [hb]; decide
      rw [if_neg hbt] at hstep
      obtain ⟨b, t1, t2⟩ := tw_2 (I := I) (by omega) hI8 hiP (own := own) (kd := kd) (Ho := Ho) (Hk := Hk) (fun p hp => ⟨(g2 p hp).1, by have := (g2 p hp).2.1; omega, (g2 p hp).2.2.1, (g2 p hp).2.2.2⟩) i 0 4096 (by omega) (by omega)
      have t1' : p_X1_hasTwinOutside Ho Hk (nI i) (nI I) = some (nI b.toNat) := t1
      rw [t1', b1_some]
      simp only [nIb0]
      by_cases hbf : b = false
      · have hT : ∀ s, s < S → tb (8 * d + s) = lN (TKO S srt own kd od d s) ∧ TKO S srt own kd od d s ≤ UN := fun s hs => ⟨hDI.2 d (Nat.le_refl _) s hs, TKO_le hS hP hO (by omega) hod s⟩
        rw [if_pos hbf, v_wrongN hH (by omega) hT (by omega) hiP, b1_some, nm_def, lN_add, waN_next hS hP hO (by omega) hod hiP]
        have hwl : wrO S srt own kd (updN od d i) d ≤ UN := wr_le d
        have hcm : c + wrO S srt own kd (updN od d i) d = fb_sm (wrO S srt own kd (updN od d i)) (d + 1) := by rw [hc, smW_upd]
        simp only [lgc3 (show c + wrO S srt own kd (updN od d i) d < 2 ^ 63 by omega) hLi]
        by_cases hm : (lpN (fun p st => if I.testBit p = true then st else fdT P (costD S P srt own kd) r (d + 1) (updN od d p) (I ||| 2 ^ p) st) i st0).1 ≤ c + wrO S srt own kd (updN od d i) d
        · rw [if_pos hm]
          exact skip (by
            rw [hstep]
            exact fdT_id r (d + 1) _ _ _ (geA_c hS hP hO r (d + 1) _ _ (by omega) (od_upd hod hiP) (by rw [← hcm]; exact hm)))
        · rw [if_neg hm, inB_nI (show d < 6 by omega) (by decide), gd_true, nm_def, nI_clamp (by omega)]
          obtain ⟨re1, tb1, s1, s2, s3, s4⟩ := v_seatN hH (show d < P by omega) (by omega) hod hiP hDI
          obtain ⟨i1, i2⟩ := in_more (by omega) hI hpc hiP hb
          rw [s4, b2_some, nI_1, d_sh i (by omega), fa_or]
          obtain ⟨be2, row2, re2, tb2, k1, k2, k3, k5, k4⟩ := ih (d + 1) (updN od d i) (I ||| 2 ^ i) (c + wrO S srt own kd (updN od d i) d) (lpN (fun p st => if I.testBit p = true then st else fdT P (costD S P srt own kd) r (d + 1) (updN od d p) (I ||| 2 ^ p) st) i st0).1 be (upd row d (nI i)) re1 tb1 (lpN (fun p st => if I.testBit p = true then st else fdT P (costD S P srt own kd) r (d + 1) (updN od d p) (I ||| 2 ^ p) st) i st0).2 (by omega) (od_upd hod hiP) i1 i2 (fun k hk => by
            rw [upd_at]
            by_cases w : k = d
            · rw [if_pos w, w, upd_eq]
            · rw [if_neg w, upd_lt (by omega)]; exact hrow k (by omega)) s1 hcm hLi hbe _ rfl
          rw [k4, b5_some]
          unfold p_X1_letIn_b144
          rw [nm_def, nI_1]
          have hse : fdT P (costD S P srt own kd) r (d + 1) (updN od d i) (I ||| 2 ^ i) ((lpN (fun p st => if I.testBit p = true then st else fdT P (costD S P srt own kd) r (d + 1) (updN od d p) (I ||| 2 ^ p) st) i st0).1, (lpN (fun p st => if I.testBit p = true then st else fdT P (costD S P srt own kd) r (d + 1) (updN od d p) (I ||| 2 ^ p) st) i st0).2) = lpN (fun p st => if I.testBit p = true then st else fdT P (costD S P srt own kd) r (d + 1) (updN od d p) (I ||| 2 ^ p) st) (i + 1) st0 := hstep.symm
          rw [hse] at k1 ⊢
          obtain ⟨be3, row3, re3, tb3, j1, j2, j3, j4, j5⟩ := ihr (i + 1) f be2 row2 re2 tb2 (by omega) (by omega) (fun k hk => by rw [k2 k (by omega), upd_lt hk]) (DI_back k3) k1 st' hst
          exact ⟨be3, row3, re3, tb3, j1, j2, j3, fun y hy => by rw [j4 y hy, k5 y hy, s3 y (by omega)], j5⟩
      · have hbt2 : b = true := by simpa using hbf
        obtain ⟨q, q1, q2, q3, q4⟩ := t2 hbt2
        rw [if_neg hbf]
        exact skip (by
          rw [hstep]
          exact fdT_id r (d + 1) _ _ _ (twin_ge (own := own) (kd := kd) (costD_congr hS hP hO) (by omega) hod hiP (by omega) (by omega) hb q2 q3 q4 (lp_ge q1 q2)))
    · have hbt : I.testBit i = true := by simpa using hb
      rw [if_neg hb]
      exact skip (by rw [hstep, if_pos hbt])
theorem v_letIn {S P : Nat} {srt own kd : Nat → Nat} {Hs Hb Ho Hk : Nat → Int32} (hH : HC S P srt own kd Hs Hb Ho Hk) (hP6 : P ≤ 6) : ∀ (r dep : Nat), r < dep → ∀ (d : Nat) (od : Nat → Nat) (I c L : Nat) (be row : Nat → Int32) (re tb : Nat → Int64) (be0 : Nat → Int32), d + r = P → (∀ k, k < d → od k < P) → I < 2 ^ P → pc I = d → (∀ k, k < d → row k = nI (od k)) → DI S d srt own kd od re tb → c = fb_sm (wrO S srt own kd od) d → L < 2 ^ 63 → (∀ k, k < P → be k = be0 k) → ∀ st', st' = fdT P (costD S P srt own kd) r d od I (L, be0) → ∃ (be' row' : Nat → Int32) (re' tb' : Nat → Int64), (∀ k, k < P → be' k = st'.2 k) ∧ (∀ k, k < d → row' k = nI (od k)) ∧ DI S d srt own kd od re' tb' ∧ (∀ y, y < 8 → tb' y = tb y) ∧ p_X1_letInr dep (nI S) (nI P) (lN L) Hs Hb Ho Hk be row re tb (nI d) (nI I) (lN c) = some (lN st'.1, be', row', re', tb') := by
  obtain ⟨hS, hP, g1, g2⟩ := id hH
  have hO : ∀ p, p < P → own p < S := fun p hp => (g2 p hp).2.1
  have hu8 := u8
  have hU := UN_lt
  intro r
  induction r with
  | zero =>
    intro dep hdep d od I c L be row re tb be0 hdr hod hI hpc hrow hDI hc hL hbe st' hst
    obtain ⟨e, rfl⟩ : ∃ e, dep = e + 1 := ⟨dep - 1, by omega⟩
    have ed : d = P := by omega
    subst ed
    have hcl : c ≤ 8 * UN := by rw [hc]; exact c_le (by omega)
    have hco : costD S d srt own kd od = c := by rw [hc]; exact costD_wr hS hP hO hod
    obtain ⟨be', k1, k2⟩ := v_keep hL (show c < 2 ^ 63 by omega) hP6 (be := be) hrow
    have hst2 : st' = if c < L then (c, fun k => nI (od k)) else (L, be0) := by
      rw [hst]
      show kpN _ (L, be0) od = _
      unfold kpN
      rw [hco]
    refine ⟨be', row, re, tb, fun k hk => ?_, hrow, hDI, fun _ _ => rfl, ?_⟩
    · rw [k1 k hk, hst2]
      by_cases q : c < L
      · rw [if_pos q, if_pos q]
      · rw [if_neg q, if_neg q]; exact hbe k hk
    · show p_X1_letIn_b0 _ _ _ _ _ _ _ _ _ _ _ _ _ _ _ = _
      unfold p_X1_letIn_b0 p_X1_letIn_b17
      rw [if_pos (nI_le (Nat.le_refl _) (by omega)), k2, b2_some, hst2]
      by_cases q : c < L
      · rw [if_pos q, if_pos q]
      · rw [if_neg q, if_neg q]
  | succ r ih =>
    intro dep hdep d od I c L be row re tb be0 hdr hod hI hpc hrow hDI hc hL hbe st' hst
    obtain ⟨e, rfl⟩ : ∃ e, dep = e + 1 := ⟨dep - 1, by omega⟩
    have hdP : d < P := by omega
    have hI8 : I < 256 := Nat.lt_of_lt_of_le hI (d_pw P (by omega))
    have hcl : c ≤ 8 * UN := by rw [hc]; exact c_le (by omega)
    have hT : ∀ s, s < S → tb (8 * d + s) = lN (TKO S srt own kd od d s) ∧ TKO S srt own kd od d s ≤ UN := fun s hs => ⟨hDI.2 d (Nat.le_refl _) s hs, TKO_le hS hP hO (by omega) hod s⟩
    have hlbl : oS I (lbN S P own kd (TKO S srt own kd od d)) P ≤ 8 * UN := by
      have h1 : oS I (lbN S P own kd (TKO S srt own kd od d)) P ≤ P * UN := fb_sm_bound fun p hp => by
        by_cases q : I.testBit p = true
        · rw [if_pos q]; exact Nat.zero_le _
        · rw [if_neg q]; exact waN_le (S := S) (TKO_le hS hP hO (by omega) hod _)
      exact Nat.le_trans h1 (Nat.mul_le_mul_right _ (by omega))
    show ∃ (be' row' : Nat → Int32) (re' tb' : Nat → Int64), (∀ k, k < P → be' k = st'.2 k) ∧ (∀ k, k < d → row' k = nI (od k)) ∧ DI S d srt own kd od re' tb' ∧ (∀ y, y < 8 → tb' y = tb y) ∧ p_X1_letIn_b0 _ _ _ _ _ _ _ _ _ _ _ _ _ _ _ = _
    unfold p_X1_letIn_b0
    rw [if_neg (nI_ge hdP (by omega)), if_pos (show nI d < 6 from nI_lt (b := 6) (by omega) (by decide)), v_least hH (by omega) hT hI8, b1_some, lN_add]
    have hu64 := u64
    simp only [lgc4 (show c + oS I (lbN S P own kd (TKO S srt own kd od d)) P < 2 ^ 63 by omega) hL]
    by_cases hlb : c + oS I (lbN S P own kd (TKO S srt own kd od d)) P < L
    · rw [if_pos hlb]
      obtain ⟨b, o1, o2⟩ := ol_2 (P := P) (by omega) hI8 (kd := kd) (Hk := Hk) (fun p hp => ⟨(g2 p hp).2.2.1, (g2 p hp).2.2.2⟩) P 0 4096 (by omega) (by omega)
      have o1' : p_X1_onlyLostOutside (nI P) Hk (nI I) = some (nI b.toNat) := o1
      rw [o1', b1_some]
      simp only [nIb0]
      by_cases hbf : b = false
      · rw [if_pos hbf]
        exact li_59 hH hP6 (fun d od I c L be row re tb be0 => ih e (by omega) d od I c L be row re tb be0) hdr hod hI hpc hc (st0 := (L, be0)) hL P 0 4096 be row re tb (by omega) (by omega) hrow hDI hbe st' hst
      · have hbt : b = true := by simpa using hbf
        have hlost : ∀ p, p < P → I.testBit p = false → kd p = 1 := fun p hp hb => o2.mp hbt p (Nat.zero_le _) hp hb
        obtain ⟨x, row', k1, k2, k3, k4⟩ := lo_9 hH (show d ≤ 5 by omega) hT (c := c) hP6 hI8 hdP (ls := lN L) (be := be) P 0 4096 (r + 1) d od I row (by omega) (by omega) hdr hI hpc (fun q hq => absurd hq (by omega)) (fun _ _ _ => rfl) hrow
        obtain ⟨p0, hp0, hb0, -, -⟩ := id k1
        have hC : oS I (waN S own kd (TKO S srt own kd od d) (S - d)) P = oS I (fun p => UN - (UN - TKO S srt own kd od d (own p)) / (S - d)) P := oS_congr fun p hp hb => by
          unfold waN
          rw [if_pos (hlost p hp hb)]
        have hE := eqA_l hS hP hO (srt := srt) (q := fun s => (UN - TKO S srt own kd od d s) / (S - d)) (C := c + oS I (waN S own kd (TKO S srt own kd od d) (S - d)) P) (r + 1) d od I hdr hod hI hpc hlost (fun s hs => TKO_div hS hP hO hdP hod hp0 (hlost p0 hp0 hb0) hs) (by rw [hc, hC])
        have hwl : oS I (waN S own kd (TKO S srt own kd od d) (S - d)) P ≤ 8 * UN := by
          have h1 : oS I (waN S own kd (TKO S srt own kd od d) (S - d)) P ≤ P * UN := fb_sm_bound fun p hp => by
            by_cases q : I.testBit p = true
            · rw [if_pos q]; exact Nat.zero_le _
            · rw [if_neg q]; exact waN_le (S := S) (TKO_le hS hP hO (by omega) hod _)
          exact Nat.le_trans h1 (Nat.mul_le_mul_right _ (by omega))
        have hst2 := hst.trans (fdT_eq (r + 1) d od I x (L, be0) hE k1)
        obtain ⟨be', m1, m2⟩ := v_keep hL (show c + oS I (waN S own kd (TKO S srt own kd od d) (S - d)) P < 2 ^ 63 by omega) hP6 (be := be) k2
        have hll : p_X1_letInLost (nI S) (nI P) (lN L) Ho Hk be row tb (nI d) (nI I) (lN c) = some (lN (if c + oS I (waN S own kd (TKO S srt own kd od d) (S - d)) P < L then c + oS I (waN S own kd (TKO S srt own kd od d) (S - d)) P else L), be', row') := by
          unfold p_X1_letInLost p_X1_letInLost_b0
          refine (show p_X1_letInLost_b9 4096 (nI S) (nI P) (lN L) Ho Hk be row tb (nI d) (nI I) (lN c) (nI d) 0 = _ from k4).trans ?_
          unfold p_X1_letInLost_b67
          rw [m2, b2_some]
        rw [if_neg hbf, hll, b3_some]
        generalize c + oS I (waN S own kd (TKO S srt own kd od d) (S - d)) P = CC at *
        refine ⟨be', row', re, tb, fun k hk => ?_, fun k hk => by rw [k3 k hk]; exact hrow k hk, hDI, fun _ _ => rfl, ?_⟩
        · rw [m1 k hk, hst2]
          by_cases q : CC < L
          · rw [if_pos q, if_pos q]
          · rw [if_neg q, if_neg q]; exact hbe k hk
        · rw [hst2]
          by_cases q : CC < L
          · rw [if_pos q, if_pos q]
          · rw [if_neg q, if_neg q]
    · rw [if_neg hlb]
      have hid : st' = (L, be0) := by
        rw [hst]
        exact fdT_id (r + 1) d od I (L, be0) (geA_lb hS hP hO (T := TKO S srt own kd od d) (r + 1) d od I hdr hod hI hpc (fun s _ => Nat.le_refl _) (by rw [← hc]; show L ≤ _; omega))
      subst hid
      exact ⟨be, row, re, tb, hbe, hrow, hDI, fun _ _ => rfl, rfl⟩
