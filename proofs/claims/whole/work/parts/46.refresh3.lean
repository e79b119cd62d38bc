theorem mw_val {S P : Nat} {srt ow kd : Nat → Nat} (hS : S < 9) (hP : P ≤ S) (ho : ∀ k, k < P → ow k < S) : fb_sm (fun k => k * aK S P srt ow kd (2 ^ S) k) (P + 1) = (P * Aw S P - rC S srt ow kd P) * Vw S P := by
  have h1 := tW_rec (srt := srt) (kd := kd) hS hP ho P (Nat.le_refl _)
  have e1 : tW S srt ow kd P = fb_sm (fun k => k * jC S srt ow kd P k 2304) 9 := by
    unfold tW jC
    rw [sm_congr (f := fun k => k * fb_sm (fun x => if x % 9 = k then dB S srt ow kd P x else 0) 2304) (g := fun k => fb_sm (fun x => k * (if x % 9 = k then dB S srt ow kd P x else 0)) 2304) (fun k _ => (sm_mulL _ _ _).symm), sm_swap]
    refine sm_congr fun x _ => ?_
    rw [sm_only (a := x % 9) (by omega) (fun k _ hne => by rw [if_neg (fun q => hne q.symm), Nat.mul_zero]), if_pos rfl]
  have e2 : fb_sm (fun k => k * jC S srt ow kd P k 2304) 9 = fb_sm (fun k => k * jC S srt ow kd P k 2304) (P + 1) := sm_ext (by omega) (fun k hk1 hk2 => by
    have : jC S srt ow kd P k 2304 = 0 := sm_zero' fun x _ => by
      by_cases q : x % 9 = k
      · rw [if_pos q]
        exact Classical.byContradiction fun z => by
          have := (dB_sup hS hP ho P (Nat.le_refl _) _ z).2.2
          omega
      · rw [if_neg q]
    rw [this, Nat.mul_zero])
  have e3 : P * Aw S P - rC S srt ow kd P = fb_sm (fun k => k * jC S srt ow kd P k 2304) (P + 1) := by
    rw [← e2, ← e1]
    omega
  rw [e3, ← sm_mulR]
  exact sm_congr fun k hk => by rw [aK_val hS hP ho (by omega), Nat.mul_assoc]
/-- the rows of Chances, ready -/
def CV (S P : Nat) (srt own knd : Nat → Nat) (mw ml : Int64) (re si wr fe : Nat → Int64) : Prop := mw = lN ((P * Aw S P - rC S srt own knd P) * Vw S P) ∧ ml = lN (sL S srt own knd P * Vw S P) ∧ (∀ x, x < 2 ^ S → re x = lN (XA S P srt own knd x)) ∧ (∀ p s, p < P → s < S → si (8 * p + s) = lN (nC S srt own knd p s * Vw S (p + 1))) ∧ (∀ k, k ≤ P → wr k = lN (jC S srt own knd P k 2304 * Vw S P)) ∧ ∀ s, s < S → fe s = lN (lC S srt own knd P s (2 ^ S) * Vw S P)
theorem refresh_73 {S P : Nat} {srt own knd : Nat → Nat} (hP : P ≤ 8) {rd : Int32} {ml : Int64} {Hs Hb ho hk : Nat → Int32} {re si wr fe wi : Nat → Int64} (hw : ∀ k, k < 9 → wr k = lN (aK S P srt own knd (2 ^ S) k)) : ∀ (r i fuel : Nat), i + r = P + 1 → r < fuel →
    p_X0_refresh_b73 fuel (nI S) (nI P) rd (lN (fb_sm (fun k => k * aK S P srt own knd (2 ^ S) k) i)) ml Hs Hb ho hk re si wr fe wi (nI i) = some (1, lN (fb_sm (fun k => k * aK S P srt own knd (2 ^ S) k) (P + 1)), ml, re, si, wr, fe, wi) := by
  intro r
  induction r with
  | zero =>
    intro i fuel hi hf
    obtain ⟨f, rfl⟩ : ∃ f, fuel = f + 1 := ⟨fuel - 1, by omega⟩
    have e : i = P + 1 := by omega
    subst e
    show p_X0_refresh_b73x _ _ _ _ _ _ _ _ _ _ _ _ _ _ _ _ = _
    unfold p_X0_refresh_b73x
    rw [if_pos (nI_lt (show P < P + 1 by omega) (by omega))]
  | succ r ih =>
    intro i fuel hi hf
    obtain ⟨f, rfl⟩ : ∃ f, fuel = f + 1 := ⟨fuel - 1, by omega⟩
    rw [← ih (i + 1) f (by omega) (by omega)]
    show p_X0_refresh_b73x _ _ _ _ _ _ _ _ _ _ _ _ _ _ _ _ = _
    unfold p_X0_refresh_b73x
    rw [if_neg (nI_nlt (show i ≤ P by omega) (by omega)), inB_nI (by omega) (by decide), gd_true, nm_def, nm_def, nI_1, nI_clamp (by omega), hw i (by omega), nI_l (by omega), lN_mul, lN_add]
    rfl
theorem cl0 : (0 : Int32).toNatClampNeg = 0 := by decide
theorem v_refresh {S P : Nat} {srt own knd : Nat → Nat} {Hs Hb ho hk : Nat → Int32} (hH : HC S P srt own knd Hs Hb ho hk) {mw ml : Int64} {re si wr fe wi : Nat → Int64} :
    ∃ mw' ml' re' si' wr' fe' wi', CV S P srt own knd mw' ml' re' si' wr' fe' ∧ p_X0_refresh (nI S) (nI P) 0 mw ml Hs Hb ho hk re si wr fe wi = some (1, mw', ml', re', si', wr', fe', wi') := by
  obtain ⟨hS, hP, h1, h2⟩ := id hH
  have hoS : ∀ k, k < P → own k < S := fun k hk => (h2 k hk).2.1
  have hpw := d_pw S hS
  have hI : cInv S P srt own knd 0 (lN 0) (vp_updL (fillL 256 0 re) 0 (lN UN)) (fillL 64 0 si) (fillL 9 0 wr) (fillL 8 0 fe) (vp_updL (fillL 2304 0 wi) 0 (lN UN)) := by
    refine ⟨rfl, fun x hx => ?_, fun y hy => ?_, fun k hk => ?_, fun s hs => ?_, fun y hy => ?_⟩
    · rw [updL_at]
      show _ = lN ((if x = 0 then UN else 0) + 0)
      by_cases e : x = 0
      · rw [if_pos e, if_pos e, Nat.add_zero]
      · rw [if_neg e, if_neg e]; show (if x < 256 then (0 : Int64) else _) = _; rw [if_pos hx]; rfl
    · show (if y < 64 then (0 : Int64) else _) = _; rw [if_pos hy]; rfl
    · show (if k < 9 then (0 : Int64) else _) = _; rw [if_pos hk]; rfl
    · show (if s < 8 then (0 : Int64) else _) = _; rw [if_pos hs]; rfl
    · rw [updL_at]
      show _ = lN ((if y = 0 then UN else 0) + 0)
      by_cases e : y = 0
      · rw [if_pos e, if_pos e, Nat.add_zero]
      · rw [if_neg e, if_neg e]; show (if y < 2304 then (0 : Int64) else _) = _; rw [if_pos hy]; rfl
  obtain ⟨ml', re', si', wr', fe', wi', ⟨j1, j2, j3, j4, j5, j6⟩, e⟩ := refresh_40 hH (rd := 0) (mw := 0) (2 ^ S) 0 4096 _ _ _ _ _ _ (by omega) (by omega) hI
  have e73 := refresh_73 (S := S) (P := P) (srt := srt) (own := own) (knd := knd) (by omega) (rd := 0) (ml := ml') (Hs := Hs) (Hb := Hb) (ho := ho) (hk := hk) (re := re') (si := si') (fe := fe') (wi := wi') j4 P 1 4096 (by omega) (by omega)
  refine ⟨lN ((P * Aw S P - rC S srt own knd P) * Vw S P), ml', re', si', wr', fe', wi', ⟨rfl, by rw [j1, aM_val hS hP hoS], fun x hx => by rw [j2 x (by omega), aR_val hS hP hoS hx], fun p s hp hs => by rw [j3 _ (by omega), aS_val hS hP hoS hp hs], fun k hk => by rw [j4 k (by omega), aK_val hS hP hoS hk], fun s hs => by rw [j5 s (by omega), aF_val hS hP hoS hs]⟩, ?_⟩
  unfold p_X0_refresh p_X0_refresh_b0 p_X0_clear p_X0_clear_b0
  rw [if_pos rfl]
  simp only [nm_def, b7_some, cl0]
  rw [show inB 0 256 = true from rfl, show inB 0 2304 = true from rfl, gd_true, gd_true, d_all S hS, b1_some]
  refine (show _ = _ from e).trans ?_
  rw [← mw_val hS hP hoS]
  refine (show p_X0_refresh_b73 4096 (nI S) (nI P) 0 0 ml' Hs Hb ho hk re' si' wr' fe' wi' 1 = _ from ?_)
  have z : lN (fb_sm (fun k => k * aK S P srt own knd (2 ^ S) k) 1) = 0 := by
    show lN (0 + 0 * _) = 0
    rw [Nat.zero_mul]
    rfl
  rw [z] at e73
  exact e73
