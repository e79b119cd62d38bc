/-! the class: forward, for one who has lost it -/
theorem sp_19 {S u c w : Nat} (hS : S < 9) (hu : u < 2 ^ S) (hc : c < 256) : ∀ (r j fuel : Nat) (re : Nat → Int64) (b : Nat → Nat), j + r = S → r < fuel → (∀ x, x < 2 ^ S → re x = lN (b x + fb_sm (fun s => if c.testBit s = true ∧ orT u s = x then w else 0) j)) →
    ∃ re', (∀ x, x < 2 ^ S → re' x = lN (b x + fb_sm (fun s => if c.testBit s = true ∧ orT u s = x then w else 0) S)) ∧ p_X6_spread_b19 fuel (nI S) re (nI u) (nI c) (lN w) (nI j) = some re' := by
  have hpw := d_pw S hS
  intro r
  induction r with
  | zero =>
    intro j fuel re b hj hf hx
    obtain ⟨f, rfl⟩ : ∃ f, fuel = f + 1 := ⟨fuel - 1, by omega⟩
    have e : j = S := by omega
    subst e
    refine ⟨re, hx, ?_⟩
    show p_X6_spread_b19x _ _ _ _ _ _ _ = _
    unfold p_X6_spread_b19x
    rw [if_pos (nI_le (Nat.le_refl _) (by omega))]
  | succ r ih =>
    intro j fuel re b hj hf hx
    obtain ⟨f, rfl⟩ : ∃ f, fuel = f + 1 := ⟨fuel - 1, by omega⟩
    have hjS : j < S := by omega
    have hor : u ||| 2 ^ j < 2 ^ S := Nat.or_lt_two_pow hu (two_lt hjS)
    show ∃ re', _ ∧ p_X6_spread_b19x _ _ _ _ _ _ _ = _
    unfold p_X6_spread_b19x p_X6_spread_b56
    rw [if_neg (nI_ge hjS (by omega)), d_has c hc j (by omega), b1_some]
    simp only [nIb0, nm_def, nI_1, d_sh j (by omega), fa_or, inB_nI (show u ||| 2 ^ j < 256 by omega) (by decide), gd_true, nI_clamp (show u ||| 2 ^ j < 2 ^ 31 by omega)]
    by_cases hb : c.testBit j = false
    · rw [if_pos hb]
      exact ih (j + 1) f re b (by omega) (by omega) (fun x h => by rw [hx x h, fb_sm_succ, if_neg (fun q => by rw [hb] at q; exact absurd q.1 (by decide)), Nat.add_zero])
    · have hb' : c.testBit j = true := by simpa using hb
      rw [if_neg hb]
      exact ih (j + 1) f _ b (by omega) (by omega) (fun x h => by
        rw [updL_at, fb_sm_succ]
        by_cases e : x = u ||| 2 ^ j
        · rw [if_pos e, ← e, hx x h, lN_add, Nat.add_assoc, if_pos ⟨hb', e.symm⟩]
        · rw [if_neg e, hx x h, if_neg (fun q => e q.2.symm), Nat.add_zero])
theorem ctr_zz {S P : Nat} {ch : Nat → Nat → Nat} {ok : Nat → Nat → Bool} (hS : S < 9) (hP : P ≤ S) (h : okCh S P ch) {u t : Nat} (hu : u < 2 ^ S) (ht : t ≤ u) : ctr S P ch ok u t = 0 := by
  unfold ctr
  by_cases hp : pc u < P
  · rw [if_pos hp]
    refine sm_zero' fun s hs => ?_
    by_cases hc : (ch (pc u) u).testBit s = true ∧ ok (pc u) s = true ∧ orT u s = t
    · exfalso
      obtain ⟨-, h3, -⟩ := h (pc u) u hp hu rfl
      obtain ⟨h4, h5⟩ := h3 s hc.1
      obtain ⟨-, g2, -⟩ := d_pcor u (Nat.lt_of_lt_of_le hu (d_pw S hS)) s (by omega) h5
      have : u ||| 2 ^ s = t := hc.2.2
      omega
    · rw [if_neg hc]
  · rw [if_neg hp]
theorem ctr_0 {S P : Nat} {ch : Nat → Nat → Nat} {ok : Nat → Nat → Bool} {u t : Nat} (h0 : Xc S P ch ok u = 0) : ctr S P ch ok u t = 0 := by
  unfold ctr
  split
  · refine sm_zero' fun s _ => ?_
    rw [h0, Nat.zero_div]
    simp
  · rfl
def fwS (S P : Nat) (ch : Nat → Nat → Nat) (ok : Nat → Nat → Bool) (i x : Nat) : Nat := (if x = 0 then UN else 0) + fb_sm (fun u => ctr S P ch ok u x) i
theorem fwS_at {S P : Nat} {ch : Nat → Nat → Nat} {ok : Nat → Nat → Bool} (hS : S < 9) (hP : P ≤ S) (h : okCh S P ch) {i x : Nat} (hi : x ≤ i) (hiS : i ≤ 2 ^ S) (hx : x < 2 ^ S) : fwS S P ch ok i x = Xc S P ch ok x := by
  unfold fwS
  rw [sm_ext (m := x) (n := i) hi (fun u h1 h2 => ctr_zz hS hP h (by omega) h1)]
  exact X_id hS hP h hx
theorem wf_27 {S P l n : Nat} {srt own kd : Nat → Nat} {Hs Hb Ho Hk : Nat → Int32} (hH : HC S P srt own kd Hs Hb Ho Hk) {sw sl : Nat → Int32} {wa wk : Nat → Int32} (hwa : ∀ p, p < 8 → wa p = nI (alS S P sw sl n p)) (hwk : ∀ p, p < P → wk p = nI (kdL kd l p)) : ∀ (r i fuel : Nat) (re : Nat → Int64), i + r = 2 ^ S → r < fuel → (∀ x, x < 2 ^ S → re x = lN (fwS S P (cCh S srt own (kdL kd l)) (okA S P sw sl n) i x)) →
    ∃ re', (∀ x, x < 2 ^ S → re' x = lN (Xc S P (cCh S srt own (kdL kd l)) (okA S P sw sl n) x)) ∧ p_X6_walkForward_b27 fuel (nI S) (nI P) Hs Hb Ho wa wk re (nI (2 ^ S - 1)) (nI i) = some re' := by
  obtain ⟨hS, hP, h1, h2⟩ := id hH
  have hpw := d_pw S hS
  have ho : ∀ k, k < P → own k < S := fun k hk => (h2 k hk).2.1
  have hoc : okCh S P (cCh S srt own (kdL kd l)) := cCh_ok hS hP ho
  intro r
  induction r with
  | zero =>
    intro i fuel re hi hf hx
    obtain ⟨f, rfl⟩ : ∃ f, fuel = f + 1 := ⟨fuel - 1, by omega⟩
    refine ⟨re, fun x hx' => by rw [hx x hx', fwS_at hS hP hoc (by omega) (by omega) hx'], ?_⟩
    show p_X6_walkForward_b27x _ _ _ _ _ _ _ _ _ _ _ = _
    unfold p_X6_walkForward_b27x
    simp only [nI_ltw hS (show i ≤ 256 by omega)]
    rw [if_pos (by omega)]
  | succ r ih =>
    intro i fuel re hi hf hx
    obtain ⟨f, rfl⟩ : ∃ f, fuel = f + 1 := ⟨fuel - 1, by omega⟩
    have hiS : i < 2 ^ S := by omega
    have hi8 : i < 256 := by omega
    have hXi : re i = lN (Xc S P (cCh S srt own (kdL kd l)) (okA S P sw sl n) i) := by rw [hx i hiS, fwS_at hS hP hoc (Nat.le_refl _) (by omega) hiS]
    have hXl := X_le (ok := (okA S P sw sl n)) hS hP hoc i
    have hU := UN_lt
    have hpc8 := d_pcS S hS i hiS
    have skip : (∀ x, ctr S P (cCh S srt own (kdL kd l)) (okA S P sw sl n) i x = 0) → ∃ re', (∀ x, x < 2 ^ S → re' x = lN (Xc S P (cCh S srt own (kdL kd l)) (okA S P sw sl n) x)) ∧ p_X6_walkForward_b103 (p_X6_walkForward_b27 f) (nI S) (nI P) Hs Hb Ho wa wk re (nI (2 ^ S - 1)) (nI i) = some re' := fun hz => by
      obtain ⟨re', e1, e2⟩ := ih (i + 1) f re (by omega) (by omega) (fun x hx' => by
        rw [hx x hx']
        unfold fwS
        rw [fb_sm_succ _ i, hz x, Nat.add_zero])
      refine ⟨re', e1, ?_⟩
      unfold p_X6_walkForward_b103
      rw [nm_def, nI_1]
      exact e2
    show ∃ re', _ ∧ p_X6_walkForward_b27x _ _ _ _ _ _ _ _ _ _ _ = _
    unfold p_X6_walkForward_b27x
    simp only [nI_ltw hS (show i ≤ 256 by omega)]
    rw [if_neg (by omega), d_pc i hi8, b1_some, inB_nI hi8 (by decide), gd_true, nI_clamp (by omega), hXi]
    simp only [lgc1 (show Xc S P (cCh S srt own (kdL kd l)) (okA S P sw sl n) i < 2 ^ 63 by omega)]
    by_cases h0 : Xc S P (cCh S srt own (kdL kd l)) (okA S P sw sl n) i = 0
    · rw [if_pos h0]
      exact skip (fun x => ctr_0 h0)
    · rw [if_neg h0]
      by_cases hp : P ≤ pc i
      · rw [if_pos (nI_le hp (by omega))]
        exact skip (fun x => by unfold ctr; rw [if_neg (by omega)])
      · have hpP : pc i < P := by omega
        obtain ⟨o1, o2, o3, o4⟩ := h2 (pc i) hpP
        have ch1 : p_X3_choices (nI S) Hs Hb (nI i) (nI (own (pc i))) (nI (kdL kd l (pc i))) = some (nI ((cCh S srt own (kdL kd l)) (pc i) i)) := v_chC' hH o2 (kdL_lt (fun k hk => (h2 k hk).2.2.2) hpP) hiS (by omega)
        obtain ⟨d1, d2, d3, d4⟩ := hoc (pc i) i hpP hiS rfl
        rw [if_neg (nI_ge hpP (by omega)), inB_nI (show pc i < 8 by omega) (by decide), gd_true, gd_true, nI_clamp (by omega), o1, hwk _ hpP, ch1, b1_some, gd_true, d_pc _ (show (cCh S srt own (kdL kd l)) (pc i) i < 256 by omega), b1_some, hwa _ (by omega), fa_and]
        unfold p_X6_spread p_X6_spread_b0
        rw [if_neg (nI_ne0 (show 0 < pc ((cCh S srt own (kdL kd l)) (pc i) i) by omega) (by omega)), inB_nI hi8 (by decide), gd_true, nI_l (show pc ((cCh S srt own (kdL kd l)) (pc i) i) < 2 ^ 31 by omega), lne0 (by omega) (by omega), gd_true, nm_def, nI_clamp (show i < 2 ^ 31 by omega), hXi, pk_lDiv (by omega) (by omega) (by omega)]
        obtain ⟨re1, e1, e2⟩ := sp_19 hS hiS (show (cCh S srt own (kdL kd l)) (pc i) i &&& alS S P sw sl n (pc i) < 256 from Nat.lt_of_lt_of_le (and_lt_l d1) hpw) (w := Xc S P (cCh S srt own (kdL kd l)) (okA S P sw sl n) i / pc ((cCh S srt own (kdL kd l)) (pc i) i)) S 0 4096 re (fwS S P (cCh S srt own (kdL kd l)) (okA S P sw sl n) i) (by omega) (by omega) (fun x hx' => by rw [hx x hx']; rfl)
        rw [show p_X6_spread_b19 4096 (nI S) re (nI i) (nI ((cCh S srt own (kdL kd l)) (pc i) i &&& alS S P sw sl n (pc i))) (lN (Xc S P (cCh S srt own (kdL kd l)) (okA S P sw sl n) i / pc ((cCh S srt own (kdL kd l)) (pc i) i))) 0 = _ from e2, b1_some]
        obtain ⟨re', e3, e4⟩ := ih (i + 1) f re1 (by omega) (by omega) (fun x hx' => by
          rw [e1 x hx']
          unfold fwS
          rw [fb_sm_succ _ i, Nat.add_assoc]
          congr 3
          unfold ctr
          rw [if_pos hpP]
          refine sm_congr fun s _ => ?_
          by_cases q : ((cCh S srt own (kdL kd l)) (pc i) i).testBit s = true ∧ (okA S P sw sl n) (pc i) s = true ∧ orT i s = x
          · rw [if_pos q, if_pos ⟨by rw [Nat.testBit_and, q.1]; exact q.2.1, q.2.2⟩]
          · rw [if_neg q, if_neg (fun z => by
              have z1 := z.1
              rw [Nat.testBit_and, Bool.and_eq_true] at z1
              exact q ⟨z1.1, z1.2, z.2⟩)])
        refine ⟨re', e3, ?_⟩
        unfold p_X6_walkForward_b103
        rw [nm_def, nI_1]
        exact e4
theorem v_walkF {S P l n : Nat} {srt own kd : Nat → Nat} {Hs Hb Ho Hk : Nat → Int32} (hH : HC S P srt own kd Hs Hb Ho Hk) {sw sl : Nat → Int32} {wa wk : Nat → Int32} (hwa : ∀ p, p < 8 → wa p = nI (alS S P sw sl n p)) (hwk : ∀ p, p < P → wk p = nI (kdL kd l p)) (re : Nat → Int64) : ∃ re', (∀ x, x < 2 ^ S → re' x = lN (Xc S P (cCh S srt own (kdL kd l)) (okA S P sw sl n) x)) ∧ p_X6_walkForward (nI S) (nI P) Hs Hb Ho wa wk re = some re' := by
  have hS := hH.1
  have hpw := d_pw S hS
  unfold p_X6_walkForward p_X6_walkForward_b0
  rw [nm_def, show inB 0 256 = true from rfl, gd_true, nm_def, d_all S hS, b1_some]
  exact wf_27 hH hwa hwk (2 ^ S) 0 4096 _ (by omega) (by omega) (fun x hx => by
    rw [cl0, updL_at]
    show _ = lN ((if x = 0 then UN else 0) + 0)
    by_cases e : x = 0
    · rw [if_pos e, if_pos e]; rfl
    · rw [if_neg e, if_neg e]; show (if x < 256 then (0 : Int64) else _) = _; rw [if_pos (by omega)]; rfl)
theorem wl_13 {S P : Nat} (hS : S < 9) (hP : P ≤ S) {re : Nat → Int64} {X : Nat → Nat} (hx : ∀ x, x < 2 ^ S → re x = lN (X x)) : ∀ (r i fuel : Nat), i + r = 2 ^ S → r < fuel → p_X6_weightAtLast_b13 fuel (nI S) (nI P) re (lN (fb_sm (fun x => if pc x = P then X x else 0) i)) (nI (2 ^ S - 1)) (nI i) = some (lN (fb_sm (fun x => if pc x = P then X x else 0) (2 ^ S))) := by
  have hpw := d_pw S hS
  intro r
  induction r with
  | zero =>
    intro i fuel hi hf
    obtain ⟨f, rfl⟩ : ∃ f, fuel = f + 1 := ⟨fuel - 1, by omega⟩
    show p_X6_weightAtLast_b13x _ _ _ _ _ _ _ = _
    unfold p_X6_weightAtLast_b13x
    simp only [nI_ltw hS (show i ≤ 256 by omega)]
    rw [if_pos (by omega), show i = 2 ^ S by omega]
  | succ r ih =>
    intro i fuel hi hf
    obtain ⟨f, rfl⟩ : ∃ f, fuel = f + 1 := ⟨fuel - 1, by omega⟩
    have hs := fb_sm_succ (fun x => if pc x = P then X x else 0) i
    rw [← ih (i + 1) f (by omega) (by omega)]
    show p_X6_weightAtLast_b13x _ _ _ _ _ _ _ = _
    unfold p_X6_weightAtLast_b13x p_X6_weightAtLast_b46
    have hpc := d_pcS S hS i (by omega)
    have e : (nI (pc i) = nI P) = (pc i = P) := propext (nI_eq (by omega) (by omega))
    simp only [nI_ltw hS (show i ≤ 256 by omega)]
    rw [if_neg (by omega), d_pc i (by omega), b1_some]
    simp only [e, nm_def, nI_1]
    by_cases q : pc i = P
    · rw [if_pos q] at hs
      rw [if_pos q, inB_nI (show i < 256 by omega) (by decide), gd_true, nI_clamp (by omega), hx i (by omega), lN_add, hs]
    · rw [if_neg q] at hs
      rw [if_neg q, LL0, lN_add, hs]
theorem v_weight {S P : Nat} {ch : Nat → Nat → Nat} {ok : Nat → Nat → Bool} (hS : S < 9) (hP : P ≤ S) (h : okCh S P ch) {re : Nat → Int64} (hx : ∀ x, x < 2 ^ S → re x = lN (Xc S P ch ok x)) : p_X6_weightAtLast (nI S) (nI P) re = some (lN (fb_sm (dp (2 ^ S) S ch ok (fun _ => orT) P) (2 ^ S) * Vw S P)) := by
  have hpw := d_pw S hS
  unfold p_X6_weightAtLast p_X6_weightAtLast_b0
  rw [d_all S hS, b1_some]
  have e := wl_13 hS hP hx (2 ^ S) 0 4096 (by omega) (by omega)
  rw [show p_X6_weightAtLast_b13 4096 (nI S) (nI P) re 0 (nI (2 ^ S - 1)) 0 = _ from e, ← sm_mulR]
  congr 2
  refine sm_congr fun x _ => ?_
  by_cases q : pc x = P
  · rw [if_pos q]
    unfold Xc
    rw [q, if_pos (Nat.le_refl _)]
  · rw [if_neg q]
    have : dp (2 ^ S) S ch ok (fun _ => orT) P x = 0 := Classical.byContradiction fun z => q (dp_sup hS hP h P (Nat.le_refl _) x z).2
    rw [this, Nat.zero_mul]
