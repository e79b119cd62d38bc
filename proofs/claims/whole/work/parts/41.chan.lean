/-! the class: one set gives on (sitDown, goOn, close) -/
def po (S o s : Nat) : Nat := if s < o then s + S - o else s - o
theorem d_po : ∀ S, S < 9 → ∀ o, o < 8 → ∀ s, s < 8 → o ≤ S → p_X3_passedOver (nI S) (nI o) (nI s) = some (nI (po S o s)) := by decide +kernel
/-- what the k-th place of a set's row gives to the place y, when one sits down on s -/
def gW (u s o c y : Nat) (Y : Nat → Nat) (k : Nat) : Nat := if 9 * orT u s + k + (if s = o then 0 else 1) = y then Y k / c else 0
theorem gW_at {u s o c y m k : Nat} {Y : Nat → Nat} (hm : (if s = o then 0 else 1) = m) : gW u s o c y Y k = if 9 * orT u s + k + m = y then Y k / c else 0 := by
  unfold gW
  rw [hm]
theorem po_lt {S o s : Nat} (hS : S < 9) (hs : s < 9) : po S o s < 20 := by
  unfold po
  split <;> omega
theorem sd_110 {S p u s o c m : Nat} (hm : (if s = o then 0 else 1) = m) {ml : Int64} {ho hk : Nat → Int32} {re si : Nat → Int64} {Y : Nat → Nat} (hp : p < 8) (hu : u < 256) (hor : orT u s < 256) (hne : u < orT u s) (hc : 1 ≤ c ∧ c ≤ 8) (hY : ∀ k, k ≤ p → Y k < 2 ^ 62) : ∀ (r j fuel : Nat) (wi : Nat → Int64) (ω : Nat → Nat), j + r = p + 1 → r < fuel → (∀ y, y < 2304 → wi y = lN (ω y + fb_sm (gW u s o c y Y) j)) → (∀ k, k ≤ p → ω (9 * u + k) = Y k) →
    ∃ wi', (∀ y, y < 2304 → wi' y = lN (ω y + fb_sm (gW u s o c y Y) (p + 1))) ∧ p_X0_sitDown_b110 fuel (nI S) ml ho hk re si wi (nI u) (nI p) (nI c) (nI (orT u s)) (nI m) (nI j) = some (ml, re, si, wi') := by
  intro r
  induction r with
  | zero =>
    intro j fuel wi ω hj hf hw hω
    obtain ⟨f, rfl⟩ : ∃ f, fuel = f + 1 := ⟨fuel - 1, by omega⟩
    have ej : j = p + 1 := by omega
    subst ej
    refine ⟨wi, hw, ?_⟩
    show p_X0_sitDown_b110x _ _ _ _ _ _ _ _ _ _ _ _ _ _ = _
    unfold p_X0_sitDown_b110x
    rw [if_pos (nI_lt (show p < p + 1 by omega) (by omega))]
  | succ r ih =>
    intro j fuel wi ω hj hf hw hω
    obtain ⟨f, rfl⟩ : ∃ f, fuel = f + 1 := ⟨fuel - 1, by omega⟩
    have hjp : j ≤ p := by omega
    have e1 : m ≤ 1 := by rw [← hm]; split <;> omega
    have ix : nI (orT u s) * 9 + nI j + nI m = nI (9 * orT u s + j + m) := by
      rw [show (9 : Int32) = nI 9 from rfl, pk_mul, nI_add, nI_add, Nat.mul_comm]
    have iy : nI u * 9 + nI j = nI (9 * u + j) := by
      rw [show (9 : Int32) = nI 9 from rfl, pk_mul, nI_add, Nat.mul_comm]
    have hz : fb_sm (gW u s o c (9 * u + j) Y) j = 0 := sm_zero' fun k hk => by
      rw [gW_at hm, if_neg (by omega)]
    have hv : wi (9 * u + j) = lN (Y j) := by rw [hw _ (by omega), hz, Nat.add_zero, hω j hjp]
    obtain ⟨wi', h1, h2⟩ := ih (j + 1) f (vp_updL wi (9 * orT u s + j + m) (wi (9 * orT u s + j + m) + lN (Y j / c))) ω (by omega) (by omega) (fun y hy => by
      rw [updL_at, fb_sm_succ]
      by_cases e : y = 9 * orT u s + j + m
      · rw [if_pos e, ← e, hw y hy, lN_add, Nat.add_assoc]
        congr 2
        congr 1
        rw [gW_at hm, if_pos e.symm]
      · rw [if_neg e, hw y hy]
        congr 2
        rw [gW_at hm, if_neg (fun q => e q.symm), Nat.add_zero]) hω
    refine ⟨wi', h1, ?_⟩
    rw [← h2]
    have := hY j hjp
    show p_X0_sitDown_b110x _ _ _ _ _ _ _ _ _ _ _ _ _ _ = _
    unfold p_X0_sitDown_b110x
    rw [if_neg (nI_nlt hjp (by omega)), ix, iy, inB_nI (by omega) (by decide), inB_nI (by omega) (by decide), gd_true, gd_true, nI_l (by omega), lne0 (by omega) (by omega), gd_true, gd_true, nm_def, nm_def, nI_1, nI_clamp (by omega), nI_clamp (by omega), hv, pk_lDiv (by omega) (by omega) (by omega)]
theorem v_sitDown {S p u s o c k : Nat} {ml X : Nat} {ho hk : Nat → Int32} {re si wi : Nat → Int64} {Y ω : Nat → Nat} (hS : S < 9) (hp : p < 8) (hu : u < 256) (hs : s < S) (hor : orT u s < 256) (hne : u < orT u s) (hc : 1 ≤ c ∧ c ≤ 8) (hY : ∀ k, k ≤ p → Y k < 2 ^ 62) (hX : X < 2 ^ 62) (ho1 : ho p = nI o) (ho2 : o < S) (hk1 : hk p = nI k) (hk2 : k < 4)
    (hre : re u = lN X) (hw : ∀ y, y < 2304 → wi y = lN (ω y)) (hω : ∀ k, k ≤ p → ω (9 * u + k) = Y k) :
    ∃ wi', (∀ y, y < 2304 → wi' y = lN (ω y + fb_sm (gW u s o c y Y) (p + 1))) ∧ p_X0_sitDown (nI S) (lN ml) ho hk re si wi (nI u) (nI p) (nI s) (nI c) = some (lN (ml + (if k = 2 then X / c * po S o s else 0)), vp_updL re (orT u s) (re (orT u s) + lN (X / c)), vp_updL si (8 * p + s) (si (8 * p + s) + lN (X / c)), wi') := by
  have ix : nI p * 8 + nI s = nI (8 * p + s) := by rw [show (8 : Int32) = nI 8 from rfl, pk_mul, nI_add, Nat.mul_comm]
  have k2 : (nI k = 2) = (k = 2) := propext (nI_eq (b := 2) (by omega) (by decide))
  have so : (nI s = nI o) = (s = o) := propext (nI_eq (by omega) (by omega))
  have b94 : ∀ (m : Int64) (re2 si2 : Nat → Int64), ∃ wi', (∀ y, y < 2304 → wi' y = lN (ω y + fb_sm (gW u s o c y Y) (p + 1))) ∧ p_X0_sitDown_b94 (nI S) m ho hk re2 si2 wi (nI u) (nI p) (nI s) (nI c) (nI o) (nI (orT u s)) = some (m, re2, si2, wi') := fun m re2 si2 => by
    obtain ⟨wi', h1, h2⟩ := sd_110 rfl (S := S) (ml := m) (ho := ho) (hk := hk) (re := re2) (si := si2) (s := s) (o := o) hp hu hor hne hc hY (p + 1) 0 4096 wi ω (by omega) (by omega) (fun y hy => by rw [hw y hy]; rfl) hω
    refine ⟨wi', h1, ?_⟩
    rw [← h2]
    unfold p_X0_sitDown_b94 p_X0_sitDown_b105
    simp only [so]
    by_cases h : s = o
    · rw [if_pos h, if_pos h]; rfl
    · rw [if_neg h, if_neg h]; rfl
  unfold p_X0_sitDown p_X0_sitDown_b0
  rw [inB_nI (by omega) (by decide), gd_true, nI_clamp (by omega), ho1, nm_def, d_sh s (by omega), fa_or, nm_def, inB_nI (by omega) (by decide), gd_true, nI_l (by omega), lne0 (by omega) (by omega), gd_true, nI_clamp (by omega), hre, pk_lDiv (by omega) (by omega) (by omega), nm_def]
  rw [show u ||| 2 ^ s = orT u s from rfl, inB_nI hor (by decide), gd_true, gd_true, nm_def, nI_clamp (by omega), ix, inB_nI (by omega) (by decide), gd_true, gd_true, nm_def, nI_clamp (by omega), gd_true, hk1]
  simp only [k2]
  by_cases h : k = 2
  · have hpo := po_lt (o := o) hS (show s < 9 by omega)
    rw [if_pos h, if_pos h, d_po S hS o (by omega) s (by omega) (by omega), b1_some, nm_def, nI_l (by omega), lN_mul, lN_add]
    exact b94 _ _ _
  · rw [if_neg h, if_neg h, Nat.add_zero]
    exact b94 _ _ _
