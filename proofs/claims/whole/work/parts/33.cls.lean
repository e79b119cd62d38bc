/-! the class's one table: of every set of at most P seats, in parts of UN -/
def Xc (S P : Nat) (ch : Nat → Nat → Nat) (ok : Nat → Nat → Bool) (t : Nat) : Nat := if pc t ≤ P then dp (2 ^ S) S ch ok (fun _ => orT) (pc t) t * Vw S (pc t) else 0
/-- what a set u gives to a set t -/
def ctr (S P : Nat) (ch : Nat → Nat → Nat) (ok : Nat → Nat → Bool) (u t : Nat) : Nat := if pc u < P then fb_sm (fun s => if (ch (pc u) u).testBit s = true ∧ ok (pc u) s = true ∧ orT u s = t then Xc S P ch ok u / pc (ch (pc u) u) else 0) S else 0
theorem d_pcS : ∀ S, S < 9 → ∀ u, u < 2 ^ S → pc u ≤ S := by decide +kernel
theorem X_div {S P : Nat} {ch : Nat → Nat → Nat} {ok : Nat → Nat → Bool} (hS : S < 9) (hP : P ≤ S) (h : okCh S P ch) {u : Nat} (hu : u < 2 ^ S) (hp : pc u < P) :
    Xc S P ch ok u / pc (ch (pc u) u) = dp (2 ^ S) S ch ok (fun _ => orT) (pc u) u * (lc (S - pc u) / pc (ch (pc u) u)) * Vw S (pc u + 1) ∧ Xc S P ch ok u = dp (2 ^ S) S ch ok (fun _ => orT) (pc u) u * (lc (S - pc u) / pc (ch (pc u) u)) * Vw S (pc u + 1) * pc (ch (pc u) u) := by
  obtain ⟨-, -, h3, h4⟩ := h (pc u) u hp hu rfl
  obtain ⟨-, m2⟩ := ch_mass hS hP h hp hu rfl
  have hV := d_VV S hS (pc u) (by omega) (by omega)
  have e : Xc S P ch ok u = dp (2 ^ S) S ch ok (fun _ => orT) (pc u) u * (lc (S - pc u) / pc (ch (pc u) u)) * Vw S (pc u + 1) * pc (ch (pc u) u) := by
    unfold Xc
    rw [if_pos (by omega), hV]
    generalize dp (2 ^ S) S ch ok (fun _ => orT) (pc u) u = d
    generalize pc (ch (pc u) u) = c at m2 ⊢
    generalize Vw S (pc u + 1) = v
    generalize lc (S - pc u) / c = w at m2 ⊢
    rw [← m2]
    ac_rfl
  refine ⟨?_, e⟩
  rw [e, Nat.mul_div_cancel _ (by omega)]
theorem X_id {S P : Nat} {ch : Nat → Nat → Nat} {ok : Nat → Nat → Bool} (hS : S < 9) (hP : P ≤ S) (h : okCh S P ch) {t : Nat} (ht : t < 2 ^ S) :
    (if t = 0 then UN else 0) + fb_sm (fun u => ctr S P ch ok u t) t = Xc S P ch ok t := by
  by_cases h0 : t = 0
  · subst h0
    have p0 : pc 0 = 0 := rfl
    have e1 : fb_sm (fun u => ctr S P ch ok u 0) 0 = 0 := rfl
    have e2 : dp (2 ^ S) S ch ok (fun _ => orT) 0 0 = 1 := rfl
    have e3 : Aw S 0 = 1 := rfl
    have e4 := (d_AV S hS 0 (by omega) (by omega)).1
    rw [e3] at e4
    unfold Xc
    rw [if_pos rfl, e1, p0, if_pos (Nat.zero_le _), e2, e4, Nat.add_zero]
  · rw [if_neg h0, Nat.zero_add]
    have ht8 : t < 256 := Nat.lt_of_lt_of_le ht (d_pw S hS)
    obtain ⟨k, hk⟩ : ∃ k, pc t = k + 1 := ⟨pc t - 1, by have := (d_pc0 t ht8); omega⟩
    have term : ∀ u, u < 2 ^ S → pc u < P → ∀ s, (ch (pc u) u).testBit s = true → orT u s = t → pc u = k ∧ u < t := fun u hu hp s hs e => by
      obtain ⟨-, h3, -⟩ := h (pc u) u hp hu rfl
      obtain ⟨h4, h5⟩ := h3 s hs
      obtain ⟨g1, g2, -⟩ := d_pcor u (Nat.lt_of_lt_of_le hu (d_pw S hS)) s (by omega) h5
      have e' : u ||| 2 ^ s = t := e
      rw [e'] at g1 g2
      exact ⟨by omega, g2⟩
    unfold Xc
    by_cases hkP : k + 1 ≤ P
    · rw [hk, if_pos hkP]
      show _ = stp (2 ^ S) S (ch k) (ok k) orT (lc (S - k)) (dp (2 ^ S) S ch ok (fun _ => orT) k) t * Vw S (k + 1)
      unfold stp
      rw [← sm_mulR]
      rw [← sm_ext (f := fun u => ctr S P ch ok u t) (Nat.le_of_lt ht) (fun u h1 h2 => by
        unfold ctr
        by_cases hp : pc u < P
        · rw [if_pos hp]
          refine sm_zero' fun s _ => ?_
          by_cases hc : (ch (pc u) u).testBit s = true ∧ ok (pc u) s = true ∧ orT u s = t
          · exact absurd (term u h2 hp s hc.1 hc.2.2).2 (by omega)
          · rw [if_neg hc]
        · rw [if_neg hp])]
      refine sm_congr fun u hu => ?_
      unfold ctr
      by_cases hp : pc u < P
      · rw [if_pos hp, ← sm_mulR]
        refine sm_congr fun s _ => ?_
        by_cases hpk : pc u = k
        · rw [hpk]
          by_cases hc : (ch k u).testBit s = true ∧ ok k s = true ∧ orT u s = t
          · rw [if_pos hc, if_pos hc]
            have := (X_div (ok := ok) hS hP h hu hp).1
            rw [hpk] at this
            exact this
          · rw [if_neg hc, if_neg hc, Nat.zero_mul]
        · rw [if_neg (fun hc => hpk (term u hu hp s hc.1 hc.2.2).1)]
          have hD : dp (2 ^ S) S ch ok (fun _ => orT) k u = 0 := Classical.byContradiction fun hD => hpk (dp_sup hS hP h k (by omega) u hD).2
          rw [hD, Nat.zero_mul]
          simp
      · rw [if_neg hp]
        have hD : dp (2 ^ S) S ch ok (fun _ => orT) k u = 0 := Classical.byContradiction fun hD => by
          have := (dp_sup hS hP h k (by omega) u hD).2
          omega
        rw [sm_zero' (fun s _ => by rw [hD, Nat.zero_mul]; simp), Nat.zero_mul]
    · rw [hk, if_neg hkP]
      refine sm_zero' fun u hu => ?_
      unfold ctr
      by_cases hp : pc u < P
      · rw [if_pos hp]
        refine sm_zero' fun s _ => ?_
        by_cases hc : (ch (pc u) u).testBit s = true ∧ ok (pc u) s = true ∧ orT u s = t
        · have := (term u (by omega) hp s hc.1 hc.2.2).1
          omega
        · rw [if_neg hc]
      · rw [if_neg hp]
theorem X_le {S P : Nat} {ch : Nat → Nat → Nat} {ok : Nat → Nat → Bool} (hS : S < 9) (hP : P ≤ S) (h : okCh S P ch) (t : Nat) : Xc S P ch ok t ≤ UN := by
  unfold Xc
  by_cases hp : pc t ≤ P
  · rw [if_pos hp, ← (d_AV S hS (pc t) (by omega) (by omega)).1]
    exact Nat.mul_le_mul_right _ (dp_bd hS hP h hp t)
  · rw [if_neg hp]; exact Nat.zero_le _
