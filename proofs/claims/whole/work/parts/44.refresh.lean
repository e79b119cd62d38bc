/-- what the class's rows hold: seats, people -/
def HC (S P : Nat) (srt own knd : Nat → Nat) (Hs Hb ho hk : Nat → Int32) : Prop := S < 9 ∧ P ≤ S ∧ (∀ i, i < S → Hs i = nI (srt i) ∧ srt i < 3 ∧ Hb (srt i) = nI (bsN srt (srt i) S)) ∧ ∀ p, p < P → ho p = nI (own p) ∧ own p < S ∧ hk p = nI (knd p) ∧ knd p < 4
theorem v_chC' {S P : Nat} {srt own knd : Nat → Nat} {Hs Hb ho hk : Nat → Int32} (hH : HC S P srt own knd Hs Hb ho hk) {o k u : Nat} (hoS : o < S) (hk4 : k < 4) (hu : u < 2 ^ S) (hpu : pc u < S) :
    p_X3_choices (nI S) Hs Hb (nI u) (nI o) (nI k) = some (nI (chN S (fun c => bsN srt c S) o (srt o) k u)) := by
  obtain ⟨hS, hP, h1, h2⟩ := hH
  obtain ⟨s1, s2, s3⟩ := h1 o hoS
  exact v_chC (B := fun c => bsN srt c S) hS hoS hk4 hu hpu s1 s2 s3 (bsN_lt S)
def aR (S P : Nat) (srt ow kd : Nat → Nat) (i x : Nat) : Nat := (if x = 0 then UN else 0) + fb_sm (fun u => ctr S P (cCh S srt ow kd) (fun _ _ => true) u x) i
def tS (S P : Nat) (srt ow kd : Nat → Nat) (u y : Nat) : Nat := if pc u < P ∧ y / 8 = pc u ∧ y % 8 < S ∧ (cCh S srt ow kd (pc u) u).testBit (y % 8) = true then XA S P srt ow kd u / pc (cCh S srt ow kd (pc u) u) else 0
def aS (S P : Nat) (srt ow kd : Nat → Nat) (i y : Nat) : Nat := fb_sm (fun u => tS S P srt ow kd u y) i
def aW (S P : Nat) (srt ow kd : Nat → Nat) (i y : Nat) : Nat := (if y = 0 then UN else 0) + fb_sm (fun u => ctB S P srt ow kd u y) i
def tK (S P : Nat) (srt ow kd : Nat → Nat) (u k : Nat) : Nat := if pc u = P ∧ k < P + 1 then XB S P srt ow kd (9 * u + k) else 0
def aK (S P : Nat) (srt ow kd : Nat → Nat) (i k : Nat) : Nat := fb_sm (fun u => tK S P srt ow kd u k) i
def tF (S P : Nat) (srt ow kd : Nat → Nat) (u s : Nat) : Nat := if pc u = P ∧ s < S ∧ u.testBit s = false then XA S P srt ow kd u else 0
def aF (S P : Nat) (srt ow kd : Nat → Nat) (i s : Nat) : Nat := fb_sm (fun u => tF S P srt ow kd u s) i
def tM (S P : Nat) (srt ow kd : Nat → Nat) (u : Nat) : Nat := if pc u < P then fb_sm (fun s => if (cCh S srt ow kd (pc u) u).testBit s = true ∧ kd (pc u) = 2 then XA S P srt ow kd u / pc (cCh S srt ow kd (pc u) u) * po S (ow (pc u)) s else 0) S else 0
def aM (S P : Nat) (srt ow kd : Nat → Nat) (i : Nat) : Nat := fb_sm (tM S P srt ow kd) i
/-- the rows of Chances, when the sets below i have given on -/
def cInv (S P : Nat) (srt ow kd : Nat → Nat) (i : Nat) (ml : Int64) (re si wr fe wi : Nat → Int64) : Prop := ml = lN (aM S P srt ow kd i) ∧ (∀ x, x < 256 → re x = lN (aR S P srt ow kd i x)) ∧ (∀ y, y < 64 → si y = lN (aS S P srt ow kd i y)) ∧ (∀ k, k < 9 → wr k = lN (aK S P srt ow kd i k)) ∧ (∀ s, s < 8 → fe s = lN (aF S P srt ow kd i s)) ∧ (∀ y, y < 2304 → wi y = lN (aW S P srt ow kd i y))
theorem XB_zero {S P : Nat} {srt ow kd : Nat → Nat} (hS : S < 9) (hP : P ≤ S) (ho : ∀ k, k < P → ow k < S) {u c : Nat} (hu : u < 2 ^ S) (hc : c < 9) (h0 : XA S P srt ow kd u = 0) : XB S P srt ow kd (9 * u + c) = 0 := by
  have hd : (9 * u + c) / 9 = u := by omega
  unfold XB
  rw [hd]
  by_cases hp : pc u ≤ P
  · rw [if_pos hp]
    unfold XA Xc at h0
    rw [if_pos hp] at h0
    have hV := (d_AV S hS (pc u) (by omega) (by omega)).2.2
    have hz : dC S srt ow kd (pc u) u = 0 := (Nat.mul_eq_zero.mp h0).resolve_right (by omega)
    have h1 := dB_sum (srt := srt) (kd := kd) hS hP ho (pc u) hp u (Nat.lt_of_lt_of_le hu (d_pw S hS))
    rw [hz] at h1
    rw [fb_sm_zero h1 c hc, Nat.zero_mul]
  · rw [if_neg hp]
theorem UN_lt : UN < 2 ^ 40 := by decide
theorem refresh_40 {S P : Nat} {srt own knd : Nat → Nat} {Hs Hb ho hk : Nat → Int32} (hH : HC S P srt own knd Hs Hb ho hk) {rd : Int32} {mw : Int64} : ∀ (r i fuel : Nat) (ml : Int64) (re si wr fe wi : Nat → Int64), i + r = 2 ^ S → r < fuel → cInv S P srt own knd i ml re si wr fe wi →
    ∃ ml' re' si' wr' fe' wi', cInv S P srt own knd (2 ^ S) ml' re' si' wr' fe' wi' ∧ p_X0_refresh_b40 fuel (nI S) (nI P) rd mw ml Hs Hb ho hk re si wr fe wi (nI (2 ^ S - 1)) (nI i) = p_X0_refresh_b73 4096 (nI S) (nI P) rd mw ml' Hs Hb ho hk re' si' wr' fe' wi' 1 := by
  obtain ⟨hS, hP, h1, h2⟩ := id hH
  have hoS : ∀ k, k < P → own k < S := fun k hk => (h2 k hk).2.1
  have hoc := cCh_ok (srt := srt) (kd := knd) hS hP hoS
  have hpw := d_pw S hS
  have hUN := UN_lt
  intro r
  induction r with
  | zero =>
    intro i fuel ml re si wr fe wi hi hf hI
    obtain ⟨f, rfl⟩ : ∃ f, fuel = f + 1 := ⟨fuel - 1, by omega⟩
    have e : i = 2 ^ S := by omega
    refine ⟨ml, re, si, wr, fe, wi, by rw [← e]; exact hI, ?_⟩
    show p_X0_refresh_b40x _ _ _ _ _ _ _ _ _ _ _ _ _ _ _ _ _ = _
    unfold p_X0_refresh_b40x
    simp only [nI_ltw hS (show i ≤ 256 by omega)]
    rw [if_pos (by omega)]
  | succ r ih =>
    intro i fuel ml re si wr fe wi hi hf hI
    obtain ⟨f, rfl⟩ : ∃ f, fuel = f + 1 := ⟨fuel - 1, by omega⟩
    have hiS : i < 2 ^ S := by omega
    obtain ⟨i1, i2, i3, i4, i5, i6⟩ := hI
    have hX : aR S P srt own knd i i = XA S P srt own knd i := X_id hS hP hoc hiS
    have hXle : XA S P srt own knd i ≤ UN := X_le hS hP hoc i
    have hrei : re i = lN (XA S P srt own knd i) := by rw [i2 i (by omega), hX]
    have hW : ∀ c, c < 9 → aW S P srt own knd i (9 * i + c) = XB S P srt own knd (9 * i + c) := fun c hc => XB_id hS hP hoS hiS hc
    have hXB : ∀ c, c < 9 → XB S P srt own knd (9 * i + c) ≤ UN := fun c hc => XB_le hS hP hoS (by omega)
    show ∃ ml' re' si' wr' fe' wi', _ ∧ p_X0_refresh_b40x _ _ _ _ _ _ _ _ _ _ _ _ _ _ _ _ _ = _
    unfold p_X0_refresh_b40x p_X0_refresh_b65
    simp only [nI_ltw hS (show i ≤ 256 by omega), nm_def, nI_1]
    rw [if_neg (by omega), inB_nI (by omega) (by decide), gd_true, nI_clamp (by omega), hrei]
    simp only [lgc1 (show XA S P srt own knd i < 2 ^ 63 by omega)]
    by_cases h0 : XA S P srt own knd i = 0
    · rw [if_pos h0]
      have hB0 : ∀ c, c < 9 → XB S P srt own knd (9 * i + c) = 0 := fun c hc => XB_zero hS hP hoS hiS hc h0
      have z1 : ∀ x, ctr S P (cCh S srt own knd) (fun _ _ => true) i x = 0 := fun x => by
        unfold ctr
        by_cases hp : pc i < P
        · rw [if_pos hp]
          refine sm_zero' fun s _ => ?_
          rw [show Xc S P (cCh S srt own knd) (fun _ _ => true) i = 0 from h0, Nat.zero_div]
          simp
        · rw [if_neg hp]
      have z2 : ∀ y, tS S P srt own knd i y = 0 := fun y => by unfold tS; rw [h0, Nat.zero_div]; simp
      have z3 : ∀ y, ctB S P srt own knd i y = 0 := fun y => by
        unfold ctB
        by_cases hp : pc i < P
        · rw [if_pos hp]
          refine sm_zero' fun s _ => ?_
          rw [sm_zero' (f := gW i s _ _ y _) (fun k hk => by
            unfold gW
            show (if _ then XB S P srt own knd (9 * i + k) / _ else 0) = 0
            rw [hB0 k (by omega), Nat.zero_div]
            simp)]
          simp
        · rw [if_neg hp]
      have z4 : ∀ k, tK S P srt own knd i k = 0 := fun k => by
        unfold tK
        by_cases q : pc i = P ∧ k < P + 1
        · rw [if_pos q, hB0 k (by omega)]
        · rw [if_neg q]
      have z5 : ∀ s, tF S P srt own knd i s = 0 := fun s => by unfold tF; rw [h0]; simp
      have z6 : tM S P srt own knd i = 0 := by
        unfold tM
        by_cases hp : pc i < P
        · rw [if_pos hp]
          exact sm_zero' fun s _ => by rw [h0, Nat.zero_div, Nat.zero_mul]; simp
        · rw [if_neg hp]
      refine ih (i + 1) f ml re si wr fe wi (by omega) (by omega) ⟨?_, fun x hx => ?_, fun y hy => ?_, fun k hk => ?_, fun s hs => ?_, fun y hy => ?_⟩
      · rw [i1]; show lN _ = lN (fb_sm (tM S P srt own knd) i + tM S P srt own knd i); rw [z6]; rfl
      · rw [i2 x hx]; show lN _ = lN ((if x = 0 then UN else 0) + (fb_sm _ i + ctr S P (cCh S srt own knd) (fun _ _ => true) i x)); rw [z1]; rfl
      · rw [i3 y hy]; show lN _ = lN (fb_sm _ i + tS S P srt own knd i y); rw [z2]; rfl
      · rw [i4 k hk]; show lN _ = lN (fb_sm _ i + tK S P srt own knd i k); rw [z4]; rfl
      · rw [i5 s hs]; show lN _ = lN (fb_sm _ i + tF S P srt own knd i s); rw [z5]; rfl
      · rw [i6 y hy]; show lN _ = lN ((if y = 0 then UN else 0) + (fb_sm _ i + ctB S P srt own knd i y)); rw [z3]; rfl
    · rw [if_neg h0, d_pc i (by omega), b1_some]
      have hpP : pc i ≤ P := by
        apply Classical.byContradiction
        intro q
        exact h0 (if_neg q)
      unfold p_X0_goOn p_X0_goOn_b0
      by_cases hp : pc i < P
      · obtain ⟨o1, o2, o3, o4⟩ := h2 (pc i) hp
        obtain ⟨c1, c2, c3, c4⟩ := hoc (pc i) i hp hiS rfl
        have e9 : p_X3_choices (nI S) Hs Hb (nI i) (nI (own (pc i))) (nI (knd (pc i))) = some (nI (cCh S srt own knd (pc i) i)) := v_chC' hH o2 o4 hiS (show pc i < S by omega)
        have hc8 : pc (cCh S srt own knd (pc i) i) ≤ 8 := by omega
        rw [if_pos (nI_lt hp (by omega)), inB_nI (show pc i < 8 by omega) (by decide), gd_true, gd_true, nI_clamp (by omega), o1, o3, e9, b1_some, d_pc _ (Nat.lt_of_lt_of_le c1 hpw), b1_some, if_neg (fun q => by
          have := nI_inj (b := 0) q (by omega) (by decide)
          omega)]
        obtain ⟨re', si', wi', e1, e2, e3, e4⟩ := goOn_60 (P := P) (Hs := Hs) (Hb := Hb) (wr := wr) (fe := fe) (ch := cCh S srt own knd (pc i) i) (Y := fun k => XB S P srt own knd (9 * i + k)) (X := XA S P srt own knd i) hS (show pc i < 8 by omega) hiS c1 c2 rfl ⟨c3, by omega⟩ (fun k hk => by have := hXB k (by omega); show XB _ _ _ _ _ _ < _; omega) (by omega) o1 o2 o3 o4 S 0 4096 re si wi (aR S P srt own knd i) (aS S P srt own knd i) (aW S P srt own knd i) (aM S P srt own knd i) (by omega) (by omega) (fun x hx => by rw [i2 x hx]; rfl) (fun y hy => by rw [i3 y hy, if_neg (by omega)]; rfl) (fun y hy => by rw [i6 y hy]; rfl) hX (fun k hk => hW k (by omega))
        have e5 : p_X0_goOn_b60 4096 (nI S) (nI P) ml Hs Hb ho hk re si wr fe wi (nI i) (nI (pc i)) (nI (cCh S srt own knd (pc i) i)) (nI (pc (cCh S srt own knd (pc i) i))) 0 = some (lN (aM S P srt own knd i + fb_sm (fun s => if (cCh S srt own knd (pc i) i).testBit s = true ∧ knd (pc i) = 2 then XA S P srt own knd i / pc (cCh S srt own knd (pc i) i) * po S (own (pc i)) s else 0) S), re', si', wr, fe, wi') := by rw [i1]; exact e4
        rw [e5, b6_some]
        refine ih (i + 1) f _ re' si' wr fe wi' (by omega) (by omega) ⟨?_, fun x hx => ?_, fun y hy => ?_, fun k hk => ?_, fun s hs => ?_, fun y hy => ?_⟩
        · show lN _ = lN (aM S P srt own knd i + tM S P srt own knd i)
          unfold tM
          rw [if_pos hp]
        · rw [e1 x hx]
          show lN _ = lN ((if x = 0 then UN else 0) + (fb_sm _ i + ctr S P (cCh S srt own knd) (fun _ _ => true) i x))
          unfold ctr
          rw [if_pos hp, ← Nat.add_assoc]
          congr 2
          refine sm_congr fun s _ => ?_
          by_cases q : (cCh S srt own knd (pc i) i).testBit s = true ∧ orT i s = x
          · rw [if_pos q, if_pos ⟨q.1, rfl, q.2⟩]; rfl
          · rw [if_neg q, if_neg (fun z => q ⟨z.1, z.2.2⟩)]
        · rw [e2 y hy]
          show lN _ = lN (aS S P srt own knd i y + tS S P srt own knd i y)
          congr 2
          unfold tS
          by_cases q : y / 8 = pc i ∧ y % 8 < S ∧ (cCh S srt own knd (pc i) i).testBit (y % 8) = true
          · rw [if_pos q, if_pos ⟨hp, q⟩]
          · rw [if_neg q, if_neg (fun z => q z.2)]
        · rw [i4 k hk]
          show lN _ = lN (aK S P srt own knd i k + tK S P srt own knd i k)
          unfold tK
          rw [if_neg (by omega)]; rfl
        · rw [i5 s hs]
          show lN _ = lN (aF S P srt own knd i s + tF S P srt own knd i s)
          unfold tF
          rw [if_neg (by omega)]; rfl
        · rw [e3 y hy]
          show lN _ = lN ((if y = 0 then UN else 0) + (fb_sm _ i + ctB S P srt own knd i y))
          unfold ctB
          rw [if_pos hp, ← Nat.add_assoc]
          rfl
      · have hpe : pc i = P := by omega
        rw [if_neg (nI_nlt (by omega) (by omega))]
        obtain ⟨wr', fe', e1, e2, e3⟩ := close_2 (S := S) (u := i) (p := pc i) (X := XA S P srt own knd i) (re := re) (wi := wi) (Y := fun k => XB S P srt own knd (9 * i + k)) hS (by omega) (by omega) hrei (fun k hk => by rw [i6 _ (by omega), hW k (by omega)]) (pc i + 1) 0 4096 wr fe (aK S P srt own knd i) (aF S P srt own knd i) (by omega) (by omega) (fun k hk => by rw [i4 k hk, if_neg (by omega)]; rfl) i5
        have e5 : p_X0_close (nI S) re wr fe wi (nI i) (nI (pc i)) = some (wr', fe') := e3
        rw [e5, b2_some, b6_some]
        refine ih (i + 1) f ml re si wr' fe' wi (by omega) (by omega) ⟨?_, fun x hx => ?_, fun y hy => ?_, fun k hk => ?_, fun s hs => ?_, fun y hy => ?_⟩
        · rw [i1]; show lN _ = lN (aM S P srt own knd i + tM S P srt own knd i); unfold tM; rw [if_neg hp]; rfl
        · rw [i2 x hx]; show lN _ = lN ((if x = 0 then UN else 0) + (fb_sm _ i + ctr S P (cCh S srt own knd) (fun _ _ => true) i x)); unfold ctr; rw [if_neg hp]; rfl
        · rw [i3 y hy]; show lN _ = lN (aS S P srt own knd i y + tS S P srt own knd i y); unfold tS; rw [if_neg (fun z => hp z.1)]; rfl
        · rw [e1 k hk]
          show lN _ = lN (aK S P srt own knd i k + tK S P srt own knd i k)
          congr 2
          unfold tK
          rw [hpe]
          by_cases q : k < P + 1
          · rw [if_pos q, if_pos ⟨rfl, q⟩]
          · rw [if_neg q, if_neg (fun z => q z.2)]
        · rw [e2 s hs]
          show lN _ = lN (aF S P srt own knd i s + tF S P srt own knd i s)
          congr 2
          unfold tF
          by_cases q : s < S ∧ i.testBit s = false
          · rw [if_pos q, if_pos ⟨hpe, q⟩]
          · rw [if_neg q, if_neg (fun z => q z.2)]
        · rw [i6 y hy]; show lN _ = lN ((if y = 0 then UN else 0) + (fb_sm _ i + ctB S P srt own knd i y)); unfold ctB; rw [if_neg hp]; rfl
