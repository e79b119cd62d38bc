/-! the class: seatNext -/
/-- what the class holds of the first d who were let in -/
def DI (S d : Nat) (srt own kd od : Nat → Nat) (re tb : Nat → Int64) : Prop := (∀ j, j ≤ d → ∀ u, u < 2 ^ S → pc u = j → re u = lN (dC S srt (fun k => own (od k)) (fun k => kd (od k)) j u * Vw S j)) ∧ ∀ j, j ≤ d → ∀ s, s < S → tb (8 * j + s) = lN (TKO S srt own kd od j s)
def GN (S d : Nat) (srt ow kd : Nat → Nat) (v x : Nat) : Nat := fb_sm (fun s => if (cCh S srt ow kd d v).testBit s = true ∧ orT v s = x then dC S srt ow kd d v * (lc (S - d) / pc (cCh S srt ow kd d v)) * Vw S (d + 1) else 0) S
def HN (S d : Nat) (srt ow kd : Nat → Nat) (v s : Nat) : Nat := if (cCh S srt ow kd d v).testBit s = true then dC S srt ow kd d v * (lc (S - d) / pc (cCh S srt ow kd d v)) * Vw S (d + 1) else 0
theorem lN_self (x : Int64) : lN x.toBitVec.toNat = x := by
  apply Int64.toBitVec_inj.mp
  apply BitVec.eq_of_toNat_eq
  show (BitVec.ofNat 64 x.toBitVec.toNat).toNat = _
  rw [BitVec.toNat_ofNat, Nat.mod_eq_of_lt x.toBitVec.isLt]
theorem GN_0 {S d v x : Nat} {srt ow kd : Nat → Nat} (h : dC S srt ow kd d v = 0) : GN S d srt ow kd v x = 0 := sm_zero' fun s _ => by rw [h, Nat.zero_mul, Nat.zero_mul, ite_self]
theorem HN_0 {S d v s : Nat} {srt ow kd : Nat → Nat} (h : dC S srt ow kd d v = 0) : HN S d srt ow kd v s = 0 := by unfold HN; rw [h, Nat.zero_mul, Nat.zero_mul, ite_self]
theorem GN_sum {S d x : Nat} {srt ow kd : Nat → Nat} : fb_sm (fun v => GN S d srt ow kd v x) (2 ^ S) = dC S srt ow kd (d + 1) x * Vw S (d + 1) := by
  show _ = stp (2 ^ S) S (cCh S srt ow kd d) (fun _ => true) orT (lc (S - d)) (dC S srt ow kd d) x * Vw S (d + 1)
  unfold stp GN
  rw [← sm_mulR]
  refine sm_congr fun v _ => ?_
  rw [← sm_mulR]
  refine sm_congr fun s _ => ?_
  by_cases q : (cCh S srt ow kd d v).testBit s = true ∧ orT v s = x
  · rw [if_pos q, if_pos ⟨q.1, rfl, q.2⟩]
  · rw [if_neg q, if_neg (fun z => q ⟨z.1, z.2.2⟩), Nat.zero_mul]
theorem HN_sum {S d s : Nat} {srt ow kd : Nat → Nat} : fb_sm (fun v => HN S d srt ow kd v s) (2 ^ S) = nC S srt ow kd d s * Vw S (d + 1) := by
  unfold nC nxS HN
  rw [← sm_mulR]
  refine sm_congr fun v _ => ?_
  by_cases q : (cCh S srt ow kd d v).testBit s = true
  · rw [if_pos q, if_pos q]
  · rw [if_neg q, if_neg q, Nat.zero_mul]
theorem sn_21 {S P d p : Nat} {srt own kd od : Nat → Nat} {Hs Hb Ho Hk : Nat → Int32} (hH : HC S P srt own kd Hs Hb Ho Hk) (hd : d < P) (hd6 : d ≤ 5) (h1 : ∀ k, k < d → od k < P) (hp : p < P) {re0 tb0 : Nat → Int64} (hre0 : ∀ u, u < 2 ^ S → pc u = d → re0 u = lN ((dC S srt (fun k => own (updN od d p k)) (fun k => kd (updN od d p k)) d) u * Vw S d)) : ∀ (r u i fuel : Nat) (re tb : Nat → Int64), 512 ≤ u + r → u < 512 → r < fuel → i ≤ u → (u < 256 → pc u = d) →
    (∀ x, x < 2 ^ S → re x = if pc x = d + 1 then lN (fb_sm (fun v => GN S d srt (fun k => own (updN od d p k)) (fun k => kd (updN od d p k)) v x) u) else re0 x) → (∀ s, s < S → tb (8 * (d + 1) + s) = lN (TKO S srt own kd od d s + fb_sm (fun v => HN S d srt (fun k => own (updN od d p k)) (fun k => kd (updN od d p k)) v s) u)) → (∀ y, y < 8 * (d + 1) → tb y = tb0 y) →
    ∃ re' tb', (∀ x, x < 2 ^ S → re' x = if pc x = d + 1 then lN (dC S srt (fun k => own (updN od d p k)) (fun k => kd (updN od d p k)) (d + 1) x * Vw S (d + 1)) else re0 x) ∧ (∀ s, s < S → tb' (8 * (d + 1) + s) = lN (TKO S srt own kd (updN od d p) (d + 1) s)) ∧ (∀ y, y < 8 * (d + 1) → tb' y = tb0 y) ∧ p_X1_seatNext_b21 fuel (nI S) Hs Hb Ho Hk re tb (nI d) (nI p) (nI u) (nI i) = some (re', tb') := by
  obtain ⟨hS, hP, g1, g2⟩ := id hH
  have hpw := d_pw S hS
  have hO : ∀ q, q < P → own q < S := fun q hq => (g2 q hq).2.1
  have hoo : ∀ k, k < d + 1 → (fun k => own (updN od d p k)) k < S := fun k hk => hO _ (od_upd h1 hp k hk)
  have hoc : okCh S (d + 1) (cCh S srt (fun k => own (updN od d p k)) (fun k => kd (updN od d p k))) := cCh_ok hS (by omega) hoo
  have hsup : ∀ v, (dC S srt (fun k => own (updN od d p k)) (fun k => kd (updN od d p k)) d) v ≠ 0 → v < 2 ^ S ∧ pc v = d := fun v hv => dp_sup hS (by omega) hoc d (by omega) v hv
  have hV := d_VV S hS d (by omega) (by omega)
  have hAV := d_AV S hS d (by omega) (by omega)
  obtain ⟨o1, o2, o3, o4⟩ := g2 p hp
  have hU := UN_lt
  intro r
  induction r with
  | zero => intro u i fuel re tb a b; omega
  | succ r ih =>
    intro u i fuel re tb a1 a2 hf hi hu hre htb hty
    obtain ⟨f, rfl⟩ : ∃ f, fuel = f + 1 := ⟨fuel - 1, by omega⟩
    have fin : 2 ^ S ≤ u → ∃ re' tb', (∀ x, x < 2 ^ S → re' x = if pc x = d + 1 then lN (dC S srt (fun k => own (updN od d p k)) (fun k => kd (updN od d p k)) (d + 1) x * Vw S (d + 1)) else re0 x) ∧ (∀ s, s < S → tb' (8 * (d + 1) + s) = lN (TKO S srt own kd (updN od d p) (d + 1) s)) ∧ (∀ y, y < 8 * (d + 1) → tb' y = tb0 y) ∧ (some (re, tb) : Option ((Nat → Int64) × (Nat → Int64))) = some (re', tb') := fun hh => by
      refine ⟨re, tb, fun x hx => ?_, fun s hs => ?_, hty, rfl⟩
      · rw [hre x hx, sm_ext (f := fun v => GN S d srt (fun k => own (updN od d p k)) (fun k => kd (updN od d p k)) v x) hh (fun v q1 _ => GN_0 (Classical.byContradiction fun z => by have := (hsup v z).1; omega)), GN_sum]
      · rw [htb s hs, sm_ext (f := fun v => HN S d srt (fun k => own (updN od d p k)) (fun k => kd (updN od d p k)) v s) hh (fun v q1 _ => HN_0 (Classical.byContradiction fun z => by have := (hsup v z).1; omega)), HN_sum, TKO_succ hS hP hO hd h1 hp hs]
    show ∃ re' tb', _ ∧ _ ∧ _ ∧ p_X1_seatNext_b21x _ _ _ _ _ _ _ _ _ _ _ _ = _
    unfold p_X1_seatNext_b21x p_X1_seatNext_b103 p_X1_seatNext_b92
    by_cases h6 : 256 ≤ i
    · rw [if_pos (show (256 : Int32) ≤ nI i from nI_le (a := 256) h6 (by omega))]
      exact fin (by omega)
    · rw [if_neg (show ¬ (256 : Int32) ≤ nI i from nI_ge (b := 256) (by omega) (by decide)), d_all S hS, b1_some]
      have h0 : 0 < 2 ^ S := Nat.pow_pos (by decide)
      by_cases h7 : 2 ^ S ≤ u
      · rw [if_pos (nI_lt (by omega) (by omega))]
        exact fin h7
      · have huS : u < 2 ^ S := by omega
        have hpu := hu (by omega)
        obtain ⟨n1, n2, n3⟩ := d_nv u (by omega)
        have hreu : re u = lN ((dC S srt (fun k => own (updN od d p k)) (fun k => kd (updN od d p k)) d) u * Vw S d) := by rw [hre u huS, if_neg (by omega)]; exact hre0 u huS hpu
        have hDle : (dC S srt (fun k => own (updN od d p k)) (fun k => kd (updN od d p k)) d) u * Vw S d ≤ UN := by rw [← hAV.1]; exact Nat.mul_le_mul_right _ (dp_bd hS (by omega) hoc (by omega) u)
        have mid : ∀ v, u + 1 ≤ v → v < nvL u → (dC S srt (fun k => own (updN od d p k)) (fun k => kd (updN od d p k)) d) v = 0 := fun v q1 q2 => Classical.byContradiction fun z => by
          obtain ⟨z1, z2⟩ := hsup v z
          rcases d_nv2 u (by omega) v (by omega) with w | w | w
          · omega
          · omega
          · exact w (by rw [z2, hpu])
        have nextpc : nvL u < 256 → pc (nvL u) = d := fun hh => by rw [(d_nv3 u (by omega)).resolve_left (by omega)]; exact hpu
        rw [if_neg (nI_nlt (by omega) (by omega)), inB_nI (show u < 256 by omega) (by decide), gd_true, nI_clamp (by omega), hreu, n1, b1_some, nm_def, nI_1]
        simp only [lgc1 (show (dC S srt (fun k => own (updN od d p k)) (fun k => kd (updN od d p k)) d) u * Vw S d < 2 ^ 63 by omega)]
        by_cases hz : (dC S srt (fun k => own (updN od d p k)) (fun k => kd (updN od d p k)) d) u * Vw S d = 0
        · have hD : (dC S srt (fun k => own (updN od d p k)) (fun k => kd (updN od d p k)) d) u = 0 := by
            rcases Nat.mul_eq_zero.mp hz with z | z
            · exact z
            · omega
          rw [if_pos hz]
          refine ih (nvL u) (i + 1) f re tb (by omega) n3 (by omega) (by omega) nextpc (fun x hx => ?_) (fun s hs => ?_) hty
          · have eG : fb_sm (fun v => GN S d srt (fun k => own (updN od d p k)) (fun k => kd (updN od d p k)) v x) (nvL u) = fb_sm (fun v => GN S d srt (fun k => own (updN od d p k)) (fun k => kd (updN od d p k)) v x) u := by
              rw [sm_ext (f := fun v => GN S d srt (fun k => own (updN od d p k)) (fun k => kd (updN od d p k)) v x) (m := u + 1) (n := nvL u) (by omega) (fun v q1 q2 => GN_0 (mid v q1 q2)), fb_sm_succ _ u, GN_0 hD]
              rfl
            rw [hre x hx, eG]
          · have eG : fb_sm (fun v => HN S d srt (fun k => own (updN od d p k)) (fun k => kd (updN od d p k)) v s) (nvL u) = fb_sm (fun v => HN S d srt (fun k => own (updN od d p k)) (fun k => kd (updN od d p k)) v s) u := by
              rw [sm_ext (f := fun v => HN S d srt (fun k => own (updN od d p k)) (fun k => kd (updN od d p k)) v s) (m := u + 1) (n := nvL u) (by omega) (fun v q1 q2 => HN_0 (mid v q1 q2)), fb_sm_succ _ u, HN_0 hD]
              rfl
            rw [htb s hs, eG]
        · have hD : (dC S srt (fun k => own (updN od d p k)) (fun k => kd (updN od d p k)) d) u ≠ 0 := fun z => hz (by rw [z, Nat.zero_mul])
          have ch1 : p_X3_choices (nI S) Hs Hb (nI u) (nI (own p)) (nI (kd p)) = some (nI ((cCh S srt (fun k => own (updN od d p k)) (fun k => kd (updN od d p k)) d) u)) := by
            have := v_chC' hH o2 o4 huS (by omega)
            have e : (cCh S srt (fun k => own (updN od d p k)) (fun k => kd (updN od d p k)) d) u = chN S (fun c => bsN srt c S) (own p) (srt (own p)) (kd p) u := by
              unfold cCh
              show chN S _ (own (updN od d p d)) (srt (own (updN od d p d))) (kd (updN od d p d)) u = _
              rw [upd_eq]
            rw [e]; exact this
          obtain ⟨c1, c2, c3, c4⟩ := hoc d u (by omega) huS hpu
          obtain ⟨-, m2⟩ := ch_mass hS (by omega) hoc (show d < d + 1 by omega) huS hpu
          have hdiv : (dC S srt (fun k => own (updN od d p k)) (fun k => kd (updN od d p k)) d) u * Vw S d / pc ((cCh S srt (fun k => own (updN od d p k)) (fun k => kd (updN od d p k)) d) u) = (dC S srt (fun k => own (updN od d p k)) (fun k => kd (updN od d p k)) d) u * (lc (S - d) / pc ((cCh S srt (fun k => own (updN od d p k)) (fun k => kd (updN od d p k)) d) u)) * Vw S (d + 1) := by
            have e : (dC S srt (fun k => own (updN od d p k)) (fun k => kd (updN od d p k)) d) u * Vw S d = (dC S srt (fun k => own (updN od d p k)) (fun k => kd (updN od d p k)) d) u * (lc (S - d) / pc ((cCh S srt (fun k => own (updN od d p k)) (fun k => kd (updN od d p k)) d) u)) * Vw S (d + 1) * pc ((cCh S srt (fun k => own (updN od d p k)) (fun k => kd (updN od d p k)) d) u) := by
              rw [hV]
              generalize (dC S srt (fun k => own (updN od d p k)) (fun k => kd (updN od d p k)) d) u = D0
              generalize pc ((cCh S srt (fun k => own (updN od d p k)) (fun k => kd (updN od d p k)) d) u) = c0 at m2 ⊢
              generalize Vw S (d + 1) = v0
              generalize lc (S - d) / c0 = w0 at m2 ⊢
              rw [← m2]
              ac_rfl
            rw [e, Nat.mul_div_cancel _ (by omega)]
          rw [if_neg hz, inB_nI (show p < 8 by omega) (by decide), gd_true, gd_true, nI_clamp (by omega), o1, o3, ch1, b1_some]
          unfold p_X1_spread p_X1_spread_b0
          rw [d_pc _ (show (cCh S srt (fun k => own (updN od d p k)) (fun k => kd (updN od d p k)) d) u < 256 by omega), b1_some, if_neg (nI_ne0 (show 0 < pc ((cCh S srt (fun k => own (updN od d p k)) (fun k => kd (updN od d p k)) d) u) by omega) (by omega)), inB_nI (show u < 256 by omega) (by decide), gd_true, nI_l (show pc ((cCh S srt (fun k => own (updN od d p k)) (fun k => kd (updN od d p k)) d) u) < 2 ^ 31 by omega), lne0 (by omega) (by omega), gd_true, nm_def, nI_clamp (show u < 2 ^ 31 by omega), hreu, pk_lDiv (by omega) (by omega) (by omega), hdiv, nI_1, show nI (d + 1) * 8 = nI (8 * (d + 1)) from by rw [show (8 : Int32) = nI 8 from rfl, pk_mul, Nat.mul_comm]]
          obtain ⟨re1, tb1, e1, e2, e3⟩ := sp2_27 hS huS (show (cCh S srt (fun k => own (updN od d p k)) (fun k => kd (updN od d p k)) d) u < 256 by omega) (show 8 * (d + 1) ≤ 48 by omega) (w := (dC S srt (fun k => own (updN od d p k)) (fun k => kd (updN od d p k)) d) u * (lc (S - d) / pc ((cCh S srt (fun k => own (updN od d p k)) (fun k => kd (updN od d p k)) d) u)) * Vw S (d + 1)) htb S 0 4096 re tb (fun x => if pc x = d + 1 then fb_sm (fun v => GN S d srt (fun k => own (updN od d p k)) (fun k => kd (updN od d p k)) v x) u else (re x).toBitVec.toNat) (by omega) (by omega) (fun x hx => by
            show re x = lN ((if pc x = d + 1 then fb_sm (fun v => GN S d srt (fun k => own (updN od d p k)) (fun k => kd (updN od d p k)) v x) u else (re x).toBitVec.toNat) + 0)
            rw [Nat.add_zero]
            by_cases q : pc x = d + 1
            · rw [if_pos q, hre x hx, if_pos q]
            · rw [if_neg q, lN_self]) (fun y => by rw [if_neg (by omega)])
          rw [show p_X1_spread_b27 4096 (nI S) re tb (nI u) (nI ((cCh S srt (fun k => own (updN od d p k)) (fun k => kd (updN od d p k)) d) u)) (nI (8 * (d + 1))) (lN ((dC S srt (fun k => own (updN od d p k)) (fun k => kd (updN od d p k)) d) u * (lc (S - d) / pc ((cCh S srt (fun k => own (updN od d p k)) (fun k => kd (updN od d p k)) d) u)) * Vw S (d + 1))) 0 = _ from e3, b2_some]
          have notin : ∀ x, pc x ≠ d + 1 → fb_sm (fun s => if ((cCh S srt (fun k => own (updN od d p k)) (fun k => kd (updN od d p k)) d) u).testBit s = true ∧ orT u s = x then (dC S srt (fun k => own (updN od d p k)) (fun k => kd (updN od d p k)) d) u * (lc (S - d) / pc ((cCh S srt (fun k => own (updN od d p k)) (fun k => kd (updN od d p k)) d) u)) * Vw S (d + 1) else 0) S = 0 := fun x hx => sm_zero' fun s hs => by
            rw [if_neg (fun z => hx (by
              have := (d_pcor u (by omega) s (by omega) (c2 s z.1).2).1
              rw [← z.2]
              show pc (u ||| 2 ^ s) = d + 1
              omega))]
          refine ih (nvL u) (i + 1) f re1 tb1 (by omega) n3 (by omega) (by omega) nextpc (fun x hx => ?_) (fun s hs => ?_) (fun y hy => ?_)
          · rw [e1 x hx]
            by_cases q : pc x = d + 1
            · rw [if_pos q, if_pos q, sm_ext (f := fun v => GN S d srt (fun k => own (updN od d p k)) (fun k => kd (updN od d p k)) v x) (m := u + 1) (n := nvL u) (by omega) (fun v q1 q2 => GN_0 (mid v q1 q2)), fb_sm_succ (fun v => GN S d srt (fun k => own (updN od d p k)) (fun k => kd (updN od d p k)) v x) u]
              rfl
            · rw [if_neg q, if_neg q, notin x q, Nat.add_zero]
              have hx2 : re x = re0 x := by rw [hre x hx, if_neg q]
              rw [← hx2, lN_self]
          · rw [e2, sm_ext (f := fun v => HN S d srt (fun k => own (updN od d p k)) (fun k => kd (updN od d p k)) v s) (m := u + 1) (n := nvL u) (by omega) (fun v q1 q2 => HN_0 (mid v q1 q2)), fb_sm_succ (fun v => HN S d srt (fun k => own (updN od d p k)) (fun k => kd (updN od d p k)) v s) u, show 8 * (d + 1) + s - 8 * (d + 1) = s by omega]
            have hh : HN S d srt (fun k => own (updN od d p k)) (fun k => kd (updN od d p k)) u s = if ((cCh S srt (fun k => own (updN od d p k)) (fun k => kd (updN od d p k)) d) u).testBit s = true then (dC S srt (fun k => own (updN od d p k)) (fun k => kd (updN od d p k)) d) u * (lc (S - d) / pc ((cCh S srt (fun k => own (updN od d p k)) (fun k => kd (updN od d p k)) d) u)) * Vw S (d + 1) else 0 := rfl
            by_cases q : ((cCh S srt (fun k => own (updN od d p k)) (fun k => kd (updN od d p k)) d) u).testBit s = true
            · rw [if_pos ⟨by omega, by omega, q⟩, hh, if_pos q, Nat.add_assoc]
            · rw [if_neg (fun z => q z.2.2), htb s hs, hh, if_neg q, Nat.add_zero]
          · rw [e2 y, if_neg (by omega)]; exact hty y hy
theorem v_seatN {S P d p : Nat} {srt own kd od : Nat → Nat} {Hs Hb Ho Hk : Nat → Int32} (hH : HC S P srt own kd Hs Hb Ho Hk) (hd : d < P) (hd6 : d ≤ 5) (h1 : ∀ k, k < d → od k < P) (hp : p < P) {re tb : Nat → Int64} (hD : DI S d srt own kd od re tb) : ∃ re' tb', DI S (d + 1) srt own kd (updN od d p) re' tb' ∧ (∀ x, x < 2 ^ S → pc x ≤ d → re' x = re x) ∧ (∀ y, y < 8 * (d + 1) → tb' y = tb y) ∧ p_X1_seatNext (nI S) Hs Hb Ho Hk re tb (nI d) (nI p) = some (re', tb') := by
  obtain ⟨hS, hP, g1, g2⟩ := id hH
  have hpw := d_pw S hS
  have hd2 : 2 ^ d ≤ 256 := d_pw d (by omega)
  have h0 : 0 < 2 ^ d := Nat.pow_pos (by decide)
  obtain ⟨re1, c1, c2⟩ := v_clear (S := S) (k := d + 1) hS (by omega) re
  obtain ⟨tb1, t1, t2⟩ := v_copyT hd6 tb
  have hdc : ∀ j, j ≤ d → ∀ x, dC S srt (fun k => own (updN od d p k)) (fun k => kd (updN od d p k)) j x = dC S srt (fun k => own (od k)) (fun k => kd (od k)) j x := fun j hj x => dC_congr (fun i hi => by rw [upd_lt (by omega)]; exact ⟨rfl, rfl⟩) x
  have hz : ∀ v, v < 2 ^ d - 1 → (dC S srt (fun k => own (updN od d p k)) (fun k => kd (updN od d p k)) d) v = 0 := fun v hv => Classical.byContradiction fun z => by
    have hoo : ∀ k, k < d + 1 → (fun k => own (updN od d p k)) k < S := fun k hk => (g2 _ (od_upd h1 hp k hk)).2.1
    have := (dp_sup hS (show d + 1 ≤ S by omega) (cCh_ok (srt := srt) (kd := fun k => kd (updN od d p k)) hS (by omega) hoo) d (by omega) v z).2
    rcases d_min d (by omega) v (by omega) with w | w
    · omega
    · exact w this
  obtain ⟨re', tb', e1, e2, e3, e4⟩ := sn_21 hH hd hd6 h1 hp (re0 := re1) (tb0 := tb1) (fun u hu hpu => by
    rw [c1 u hu, if_neg (by omega), hD.1 d (Nat.le_refl _) u hu hpu, hdc d (Nat.le_refl _)]) 512 (2 ^ d - 1) 0 4096 re1 tb1 (by omega) (by omega) (by omega) (by omega) (fun _ => d_pcp d (by omega)) (fun x hx => by
      by_cases q : pc x = d + 1
      · rw [if_pos q, c1 x hx, if_pos q, sm_zero' (fun v hv => GN_0 (hz v hv))]; rfl
      · rw [if_neg q]) (fun s hs => by
      rw [t1, if_pos (by omega), sm_zero' (fun v hv => HN_0 (hz v hv)), Nat.add_zero, show 8 * (d + 1) + s - 8 = 8 * d + s by omega]
      exact hD.2 d (Nat.le_refl _) s hs) (fun _ _ => rfl)
  refine ⟨re', tb', ⟨fun j hj u hu hpu => ?_, fun j hj s hs => ?_⟩, fun x hx hpx => ?_, fun y hy => ?_, ?_⟩
  · rw [e1 u hu]
    by_cases q : j = d + 1
    · subst q; rw [if_pos hpu]
    · rw [if_neg (by omega), c1 u hu, if_neg (by omega), hD.1 j (by omega) u hu hpu, hdc j (by omega)]
  · by_cases q : j = d + 1
    · subst q; exact e2 s hs
    · rw [e3 _ (by omega), t1, if_neg (by omega), hD.2 j (by omega) s hs, TKO_upd (by omega)]
  · rw [e1 x hx, if_neg (by omega), c1 x hx, if_neg (by omega)]
  · rw [e3 y hy, t1, if_neg (by omega)]
  · unfold p_X1_seatNext p_X1_seatNext_b0
    rw [nI_1, c2, b1_some, t2, b1_some, nm_def, d_sh d (by omega), L1, pk_sub (by omega)]
    exact e4
