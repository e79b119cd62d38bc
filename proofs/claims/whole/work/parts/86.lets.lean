/-! the class: smaller pieces of letting in -/
theorem lgc3 {a b : Nat} (ha : a < 2 ^ 63) (hb : b < 2 ^ 63) : (0 ≤ lg_cmp (lN a) (lN b)) = (b ≤ a) := by
  have e : (0 ≤ lg_cmp (lN a) (lN b)) = ¬ (lg_cmp (lN a) (lN b) < 0) := propext ⟨fun q => Int32.not_lt.mpr q, fun q => Int32.not_lt.mp q⟩
  rw [e, lg_lt, pk_lT ha, pk_lT hb]
  exact propext ⟨fun q => by omega, fun q => by omega⟩
theorem lgc4 {a b : Nat} (ha : a < 2 ^ 63) (hb : b < 2 ^ 63) : (lg_cmp (lN a) (lN b) < 0) = (a < b) := by
  rw [lg_lt, pk_lT ha, pk_lT hb]
  exact propext ⟨fun q => by omega, fun q => by omega⟩
theorem v_wrongA {S P d : Nat} {srt own kd : Nat → Nat} {Hs Hb Ho Hk : Nat → Int32} (hH : HC S P srt own kd Hs Hb Ho Hk) (hd : d ≤ 5) {tb : Nat → Int64} {T : Nat → Nat} (hT : ∀ s, s < S → tb (8 * d + s) = lN (T s) ∧ T s ≤ UN) {p f : Nat} (hp : p < P) (hf : 0 < f) (hf2 : f < 2 ^ 30) : p_X1_wrongAmong Ho Hk tb (nI f) (nI d) (nI p) = some (lN (waN S own kd T f p)) := by
  obtain ⟨hS, hP, -, h2⟩ := id hH
  obtain ⟨o1, o2, o3, o4⟩ := h2 p hp
  obtain ⟨t1, t2⟩ := hT (own p) o2
  have hU := UN_lt
  unfold p_X1_wrongAmong p_X1_wrongAmong_b0 p_X1_wrongAmong_b38 waN
  have e1 : (nI (kd p) = 1) = (kd p = 1) := propext (nI_eq (b := 1) (by omega) (by decide))
  rw [inB_nI (show p < 8 by omega) (by decide), gd_true, nI_clamp (by omega), o1, o3, show nI d * 8 + nI (own p) = nI (8 * d + own p) from by rw [show (8 : Int32) = nI 8 from rfl, pk_mul, nI_add, Nat.mul_comm], inB_nI (show 8 * d + own p < 56 by omega) (by decide), gd_true, nI_clamp (by omega), t1, nm_def, gd_true]
  simp only [e1]
  by_cases q : kd p = 1
  · rw [if_pos q, if_pos q, if_pos (show (0 : Int32) < nI f from nI_lt (a := 0) hf (by omega)), nI_l (by omega), lne0 (by omega) (by omega), gd_true, uUN, lN_sub t2, pk_lDiv (by omega) hf (by omega), lN_sub (Nat.le_trans (Nat.div_le_self _ _) (Nat.sub_le _ _))]
  · rw [if_neg q, if_neg q]
theorem v_wrongN {S P d : Nat} {srt own kd : Nat → Nat} {Hs Hb Ho Hk : Nat → Int32} (hH : HC S P srt own kd Hs Hb Ho Hk) (hd : d ≤ 5) {tb : Nat → Int64} {T : Nat → Nat} (hT : ∀ s, s < S → tb (8 * d + s) = lN (T s) ∧ T s ≤ UN) {p : Nat} (hdP : d < P) (hp : p < P) : p_X1_wrongNext (nI S) Ho Hk tb (nI d) (nI p) = some (lN (waN S own kd T (S - d) p)) := by
  have hS := hH.1
  have hP := hH.2.1
  unfold p_X1_wrongNext p_X1_wrongNext_b0
  rw [pk_sub (by omega), v_wrongA hH hd hT hp (by omega) (by omega), b1_some]
theorem waN_le {S f p : Nat} {own kd T : Nat → Nat} (hT : T (own p) ≤ UN) : waN S own kd T f p ≤ UN := by
  unfold waN
  split
  · exact Nat.sub_le _ _
  · exact hT
theorem lc_24 {S P d : Nat} {srt own kd : Nat → Nat} {Hs Hb Ho Hk : Nat → Int32} (hH : HC S P srt own kd Hs Hb Ho Hk) (hd : d ≤ 5) {tb : Nat → Int64} {T : Nat → Nat} (hT : ∀ s, s < S → tb (8 * d + s) = lN (T s) ∧ T s ≤ UN) {I : Nat} (hI : I < 256) : ∀ (r i fuel : Nat), i + r = P → r < fuel → p_X1_leastToCome_b24 fuel (nI S) (nI P) Ho Hk tb (nI d) (nI I) (lN (oS I (waN S own kd T (S - P + 1)) i)) (nI (S - P + 1)) (nI i) = some (lN (oS I (waN S own kd T (S - P + 1)) P)) := by
  have hS := hH.1
  have hP := hH.2.1
  intro r
  induction r with
  | zero =>
    intro i fuel hi hf
    obtain ⟨f, rfl⟩ : ∃ f, fuel = f + 1 := ⟨fuel - 1, by omega⟩
    have e : i = P := by omega
    subst e
    show p_X1_leastToCome_b24x _ _ _ _ _ _ _ _ _ _ _ = _
    unfold p_X1_leastToCome_b24x
    rw [if_pos (nI_le (Nat.le_refl _) (by omega))]
  | succ r ih =>
    intro i fuel hi hf
    obtain ⟨f, rfl⟩ : ∃ f, fuel = f + 1 := ⟨fuel - 1, by omega⟩
    have hiP : i < P := by omega
    have hs : oS I (waN S own kd T (S - P + 1)) (i + 1) = oS I (waN S own kd T (S - P + 1)) i + (if I.testBit i = true then 0 else waN S own kd T (S - P + 1) i) := rfl
    rw [← ih (i + 1) f (by omega) (by omega), hs]
    show p_X1_leastToCome_b24x _ _ _ _ _ _ _ _ _ _ _ = _
    unfold p_X1_leastToCome_b24x p_X1_leastToCome_b57
    rw [if_neg (nI_ge hiP (by omega)), d_has I hI i (by omega), b1_some, v_wrongA hH hd hT hiP (by omega) (by omega), b1_some]
    simp only [nIb0, nm_def, nI_1]
    by_cases q : I.testBit i = false
    · rw [if_pos q, if_neg (by rw [q]; decide), lN_add]
    · have q' : I.testBit i = true := by simpa using q
      rw [if_neg q, if_pos q']
      rfl
theorem v_least {S P d : Nat} {srt own kd : Nat → Nat} {Hs Hb Ho Hk : Nat → Int32} (hH : HC S P srt own kd Hs Hb Ho Hk) (hd : d ≤ 5) {tb : Nat → Int64} {T : Nat → Nat} (hT : ∀ s, s < S → tb (8 * d + s) = lN (T s) ∧ T s ≤ UN) {I : Nat} (hI : I < 256) : p_X1_leastToCome (nI S) (nI P) Ho Hk tb (nI d) (nI I) = some (lN (oS I (lbN S P own kd T) P)) := by
  have hS := hH.1
  have hP := hH.2.1
  unfold p_X1_leastToCome p_X1_leastToCome_b0
  rw [nm_def, pk_sub hP, nI_1]
  exact lc_24 hH hd hT hI P 0 4096 (by omega) (by omega)
theorem ol_2 {P I : Nat} (hP : P ≤ 8) (hI : I < 256) {kd : Nat → Nat} {Hk : Nat → Int32} (hk : ∀ p, p < P → Hk p = nI (kd p) ∧ kd p < 4) : ∀ (r i fuel : Nat), i + r = P → r < fuel → ∃ b : Bool, p_X1_onlyLostOutside_b2 fuel (nI P) Hk (nI I) (nI i) = some (nI b.toNat) ∧ (b = true ↔ ∀ p, i ≤ p → p < P → I.testBit p = false → kd p = 1) := by
  intro r
  induction r with
  | zero =>
    intro i fuel hi hf
    obtain ⟨f, rfl⟩ : ∃ f, fuel = f + 1 := ⟨fuel - 1, by omega⟩
    refine ⟨true, ?_, fun _ p h1 h2 => absurd h1 (by omega), fun _ => rfl⟩
    show p_X1_onlyLostOutside_b2x _ _ _ _ _ = _
    unfold p_X1_onlyLostOutside_b2x
    rw [if_pos (nI_le (show P ≤ i by omega) (by omega))]; rfl
  | succ r ih =>
    intro i fuel hi hf
    obtain ⟨f, rfl⟩ : ∃ f, fuel = f + 1 := ⟨fuel - 1, by omega⟩
    have hiP : i < P := by omega
    obtain ⟨k1, k2⟩ := hk i hiP
    obtain ⟨b, e, hb⟩ := ih (i + 1) f (by omega) (by omega)
    have e1 : (nI (kd i) = 1) = (kd i = 1) := propext (nI_eq (b := 1) (by omega) (by decide))
    show ∃ b : Bool, p_X1_onlyLostOutside_b2x _ _ _ _ _ = _ ∧ _
    unfold p_X1_onlyLostOutside_b2x p_X1_onlyLostOutside_b36
    rw [if_neg (nI_ge hiP (by omega)), d_has I hI i (by omega), b1_some, inB_nI (show i < 8 by omega) (by decide), gd_true, nI_clamp (by omega), k1]
    simp only [nIb0, nm_def, nI_1, e1]
    by_cases q : I.testBit i = false
    · rw [if_pos q]
      by_cases q1 : kd i = 1
      · rw [if_pos q1]
        refine ⟨b, e, hb.trans ⟨fun h p h1 h2 h3 => ?_, fun h p h1 h2 h3 => h p (by omega) h2 h3⟩⟩
        by_cases z : p = i
        · rw [z]; exact q1
        · exact h p (by omega) h2 h3
      · rw [if_neg q1]
        exact ⟨false, rfl, fun z => (by cases z), fun h => absurd (h i (Nat.le_refl _) hiP q) q1⟩
    · rw [if_neg q]
      refine ⟨b, e, hb.trans ⟨fun h p h1 h2 h3 => ?_, fun h p h1 h2 h3 => h p (by omega) h2 h3⟩⟩
      by_cases z : p = i
      · rw [z] at h3; exact absurd h3 q
      · exact h p (by omega) h2 h3
theorem tw_2 {P I p : Nat} (hP : P ≤ 8) (hI : I < 256) (hp : p < P) {own kd : Nat → Nat} {Ho Hk : Nat → Int32} (hk : ∀ p, p < P → Ho p = nI (own p) ∧ own p < 9 ∧ Hk p = nI (kd p) ∧ kd p < 4) : ∀ (r i fuel : Nat), i + r = p → r < fuel → ∃ b : Bool, p_X1_hasTwinOutside_b2 fuel Ho Hk (nI p) (nI I) (nI i) = some (nI b.toNat) ∧ (b = true → ∃ q, q < p ∧ I.testBit q = false ∧ own q = own p ∧ kd q = kd p) := by
  obtain ⟨p1, p2, p3, p4⟩ := hk p hp
  intro r
  induction r with
  | zero =>
    intro i fuel hi hf
    obtain ⟨f, rfl⟩ : ∃ f, fuel = f + 1 := ⟨fuel - 1, by omega⟩
    refine ⟨false, ?_, fun z => (by cases z)⟩
    show p_X1_hasTwinOutside_b2x _ _ _ _ _ _ = _
    unfold p_X1_hasTwinOutside_b2x
    rw [if_pos (nI_le (show p ≤ i by omega) (by omega))]; rfl
  | succ r ih =>
    intro i fuel hi hf
    obtain ⟨f, rfl⟩ : ∃ f, fuel = f + 1 := ⟨fuel - 1, by omega⟩
    have hip : i < p := by omega
    obtain ⟨k1, k2, k3, k4⟩ := hk i (by omega)
    obtain ⟨b, e, hb⟩ := ih (i + 1) f (by omega) (by omega)
    have e1 : (nI (own i) = nI (own p)) = (own i = own p) := propext (nI_eq (by omega) (by omega))
    have e2 : (nI (kd i) = nI (kd p)) = (kd i = kd p) := propext (nI_eq (by omega) (by omega))
    show ∃ b : Bool, p_X1_hasTwinOutside_b2x _ _ _ _ _ _ = _ ∧ _
    unfold p_X1_hasTwinOutside_b2x p_X1_hasTwinOutside_b59
    rw [if_neg (nI_ge hip (by omega)), d_has I hI i (by omega), b1_some]
    simp only [inB_nI (show i < 8 by omega) (by decide), inB_nI (show p < 8 by omega) (by decide), gd_true, nI_clamp (show i < 2 ^ 31 by omega), nI_clamp (show p < 2 ^ 31 by omega), k1, k3, p1, p3, nIb0, nm_def, nI_1, e1, e2]
    by_cases q : I.testBit i = false
    · rw [if_pos q]
      by_cases q1 : own i = own p
      · rw [if_pos q1]
        by_cases q2 : kd i = kd p
        · rw [if_pos q2]
          exact ⟨true, rfl, fun _ => ⟨i, hip, q, q1, q2⟩⟩
        · rw [if_neg q2]; exact ⟨b, e, hb⟩
      · rw [if_neg q1]; exact ⟨b, e, hb⟩
    · rw [if_neg q]; exact ⟨b, e, hb⟩
theorem lo_9 {S P d : Nat} {srt own kd : Nat → Nat} {Hs Hb Ho Hk : Nat → Int32} (hH : HC S P srt own kd Hs Hb Ho Hk) (hd : d ≤ 5) {tb : Nat → Int64} {T : Nat → Nat} (hT : ∀ s, s < S → tb (8 * d + s) = lN (T s) ∧ T s ≤ UN) {I c : Nat} (hP6 : P ≤ 6) (hI : I < 256) (hdP : d < P) {ls : Int64} {be : Nat → Int32} : ∀ (rr i fuel r' d' : Nat) (od' : Nat → Nat) (I' : Nat) (row : Nat → Int32), i + rr = P → rr < fuel → d' + r' = P → I' < 2 ^ P → pc I' = d' → (∀ q, q < i → I'.testBit q = true) → (∀ q, i ≤ q → q < P → I'.testBit q = I.testBit q) → (∀ k, k < d' → row k = nI (od' k)) →
    ∃ (x : Nat → Nat) (row' : Nat → Int32), isF P r' d' od' I' x ∧ (∀ k, k < P → row' k = nI (x k)) ∧ (∀ k, k < d' → row' k = row k) ∧ p_X1_letInLost_b9 fuel (nI S) (nI P) ls Ho Hk be row tb (nI d) (nI I) (lN (c + oS I (waN S own kd T (S - d)) i)) (nI d') (nI i) = p_X1_letInLost_b67 (nI S) (nI P) ls Ho Hk be row' tb (lN (c + oS I (waN S own kd T (S - d)) P)) := by
  have hS := hH.1
  have hP := hH.2.1
  intro rr
  induction rr with
  | zero =>
    intro i fuel r' d' od' I' row hi hf hdr hI' hpc hall hout hrow
    obtain ⟨f, rfl⟩ : ∃ f, fuel = f + 1 := ⟨fuel - 1, by omega⟩
    have e : i = P := by omega
    subst e
    have hfull : I' = 2 ^ i - 1 := by
      apply Nat.eq_of_testBit_eq
      intro q
      by_cases z : q < i
      · rw [hall q z, (d_pcf i (by omega)).2 q z]
      · have z1 : I' < 2 ^ q := Nat.lt_of_lt_of_le hI' (Nat.pow_le_pow_right (by decide) (by omega))
        have z0 : 0 < 2 ^ i := Nat.pow_pos (by decide)
        have z2 : 2 ^ i ≤ 2 ^ q := Nat.pow_le_pow_right (by decide) (by omega)
        rw [Nat.testBit_lt_two_pow z1, Nat.testBit_lt_two_pow (by omega)]
    have hd' : d' = i := by rw [← hpc, hfull]; exact (d_pcf i (by omega)).1
    have hr0 : r' = 0 := by omega
    subst hr0
    refine ⟨od', row, rfl, fun k hk => hrow k (by omega), fun _ _ => rfl, ?_⟩
    show p_X1_letInLost_b9x _ _ _ _ _ _ _ _ _ _ _ _ _ _ = _
    unfold p_X1_letInLost_b9x
    rw [if_pos (nI_le (Nat.le_refl _) (by omega))]
  | succ rr ih =>
    intro i fuel r' d' od' I' row hi hf hdr hI' hpc hall hout hrow
    obtain ⟨f, rfl⟩ : ∃ f, fuel = f + 1 := ⟨fuel - 1, by omega⟩
    have hiP : i < P := by omega
    have hs : oS I (waN S own kd T (S - d)) (i + 1) = oS I (waN S own kd T (S - d)) i + (if I.testBit i = true then 0 else waN S own kd T (S - d) i) := rfl
    show ∃ (x : Nat → Nat) (row' : Nat → Int32), _ ∧ _ ∧ _ ∧ p_X1_letInLost_b9x _ _ _ _ _ _ _ _ _ _ _ _ _ _ = _
    unfold p_X1_letInLost_b9x p_X1_letInLost_b61
    rw [if_neg (nI_ge hiP (by omega))]
    by_cases h6 : 6 ≤ d'
    · have hd' : d' = P := by omega
      have hr0 : r' = 0 := by omega
      subst hr0
      have hfl := in_full (by omega) hI' (hpc.trans hd')
      have hsum : oS I (waN S own kd T (S - d)) P = oS I (waN S own kd T (S - d)) i := sm_ext (by omega) (fun k k1 k2 => by rw [if_pos (by rw [← hout k k1 k2]; exact hfl k k2)])
      rw [if_pos (show (6 : Int32) ≤ nI d' from nI_le (a := 6) h6 (by omega)), hsum]
      exact ⟨od', row, rfl, fun k hk => hrow k (by omega), fun _ _ => rfl, rfl⟩
    · rw [if_neg (show ¬ (6 : Int32) ≤ nI d' from nI_ge (b := 6) (by omega) (by decide)), d_has I hI i (by omega), b1_some, v_wrongN hH hd hT hdP hiP, b1_some]
      simp only [nIb0, nm_def, nI_1, inB_nI (show d' < 6 by omega) (by decide), gd_true, nI_clamp (show d' < 2 ^ 31 by omega), lN_add]
      by_cases q : I.testBit i = false
      · rw [if_neg (show ¬ I.testBit i = true by rw [q]; decide)] at hs
        have hb' : I'.testBit i = false := by rw [hout i (Nat.le_refl _) hiP]; exact q
        obtain ⟨i1, i2⟩ := in_more (by omega) hI' hpc hiP hb'
        have hlt : d' < P := by
          apply Classical.byContradiction
          intro z
          have := in_full (by omega) hI' (show pc I' = P by omega) i hiP
          rw [hb'] at this; cases this
        obtain ⟨r1, rfl⟩ : ∃ r1, r' = r1 + 1 := ⟨r' - 1, by omega⟩
        obtain ⟨x, row', g1, g2, g3, g4⟩ := ih (i + 1) f r1 (d' + 1) (updN od' d' i) (I' ||| 2 ^ i) (upd row d' (nI i)) (by omega) (by omega) (by omega) i1 i2 (fun z hz => by
          rw [tb_or]
          by_cases w : z = i
          · rw [decide_eq_true w.symm, Bool.or_true]
          · rw [hall z (by omega), Bool.true_or]) (fun z z1 z2 => by rw [tb_or, decide_eq_false (by omega), Bool.or_false]; exact hout z (by omega) z2) (fun k hk => by
          rw [upd_at]
          by_cases w : k = d'
          · rw [if_pos w, w, upd_eq]
          · rw [if_neg w, upd_lt (by omega)]; exact hrow k (by omega))
        rw [if_pos q]
        refine ⟨x, row', ⟨i, hiP, hb', hall, g1⟩, g2, fun k hk => by rw [g3 k (by omega), upd_at, if_neg (by omega)], ?_⟩
        rw [← g4, hs, Nat.add_assoc]
      · have q' : I.testBit i = true := by simpa using q
        rw [if_pos q'] at hs
        obtain ⟨x, row', g1, g2, g3, g4⟩ := ih (i + 1) f r' d' od' I' row (by omega) (by omega) hdr hI' hpc (fun z hz => by
          by_cases w : z = i
          · rw [w, hout i (Nat.le_refl _) hiP]; exact q'
          · exact hall z (by omega)) (fun z z1 z2 => hout z (by omega) z2) hrow
        rw [if_neg q]
        refine ⟨x, row', g1, g2, g3, ?_⟩
        rw [← g4, hs]
        rfl
theorem v_keep {L c : Nat} (hL : L < 2 ^ 63) (hc : c < 2 ^ 63) {be row : Nat → Int32} {P : Nat} (hP : P ≤ 6) {x : Nat → Nat} (hx : ∀ k, k < P → row k = nI (x k)) : ∃ be', (∀ k, k < P → be' k = if c < L then nI (x k) else be k) ∧ p_X1_keep (lN L) be row (lN c) = some (lN (if c < L then c else L), be') := by
  unfold p_X1_keep p_X1_keep_b0 p_X1_keep_b29
  simp only [lgc3 hc hL]
  by_cases q : c < L
  · rw [if_neg (by omega), show cpB 0 0 6 6 6 = true from by decide, gd_true, nm_def, if_pos q]
    refine ⟨_, fun k hk => ?_, rfl⟩
    rw [if_pos q, pk_cpy_in (show (0 : Int32).toNatClampNeg ≤ k from Nat.zero_le _) (show k < (0 : Int32).toNatClampNeg + (6 : Int32).toNatClampNeg from by show k < 0 + 6; omega)]
    have e0 : (0 : Int32).toNatClampNeg + (k - (0 : Int32).toNatClampNeg) = k := by show 0 + (k - 0) = k; omega
    rw [e0]
    exact hx k hk
  · rw [if_pos (by omega), if_neg q]
    exact ⟨be, fun k _ => by rw [if_neg q], rfl⟩
