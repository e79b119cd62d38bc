/-! the class's second table: sets and numbers, in parts of UN -/
theorem sm_only {f : Nat → Nat} {a n : Nat} (h : a < n) (hz : ∀ k, k < n → k ≠ a → f k = 0) : fb_sm f n = f a := by
  rw [sm_congr (g := fun x => if a = x then f a else 0) (fun k hk => by
    by_cases e : a = k
    · rw [if_pos e, e]
    · rw [if_neg e, hz k hk (fun q => e q.symm)]), sm_one, if_pos h]
/-- the numbers together are the sets' -/
theorem dB_sum {S P : Nat} {srt ow kd : Nat → Nat} (hS : S < 9) (hP : P ≤ S) (ho : ∀ k, k < P → ow k < S) : ∀ k, k ≤ P → ∀ v, v < 256 → fb_sm (fun c => dB S srt ow kd k (9 * v + c)) 9 = dC S srt ow kd k v
  | 0, _, v, hv => by
    show fb_sm (fun c => if 9 * v + c = 0 then 1 else 0) 9 = if v = 0 then 1 else 0
    by_cases h : v = 0
    · subst h; rfl
    · rw [if_neg h]
      exact sm_zero' fun c _ => by rw [if_neg (by omega)]
  | k + 1, hk, v, hv => by
    have ih := dB_sum (srt := srt) (kd := kd) hS hP ho k (by omega)
    have hoc := cCh_ok (srt := srt) (kd := kd) hS hP ho
    have hpw := d_pw S hS
    -- against the test 'of the set v'
    have e1 : fb_sm (fun x => (if x / 9 = v then 1 else 0) * dB S srt ow kd (k + 1) x) 2304 = fb_sm (fun c => dB S srt ow kd (k + 1) (9 * v + c)) 9 := by
      rw [show (2304 : Nat) = 9 * 256 from rfl, sm_grp]
      rw [sm_only (a := v) hv (fun u _ hne => sm_zero' fun c hc => by rw [if_neg (by omega), Nat.zero_mul])]
      exact sm_congr fun c hc => by rw [if_pos (by omega), Nat.one_mul]
    rw [← e1, dB_dual hS hP ho (show k < P by omega) (fun x => if x / 9 = v then 1 else 0)]
    show _ = stp (2 ^ S) S (cCh S srt ow kd k) (fun _ => true) orT (lc (S - k)) (dC S srt ow kd k) v
    unfold stp
    rw [show (2304 : Nat) = 9 * 256 from rfl, sm_grp, sm_ext hpw (fun u h1 h2 => sm_zero' fun c hc => sm_zero' fun s _ => by
      have hz : dB S srt ow kd k (9 * u + c) = 0 := Classical.byContradiction fun q => by
        have := (dB_sup hS hP ho k (by omega) _ q).1
        omega
      rw [hz, Nat.zero_mul, Nat.mul_zero]
      simp)]
    refine sm_congr fun u hu => ?_
    rw [sm_swap]
    refine sm_congr fun s hs => ?_
    have hdiv : ∀ c, c < 9 → (9 * u + c) / 9 = u := fun c hc => by omega
    by_cases hb : (cCh S srt ow kd k u).testBit s = true
    · by_cases ht : orT u s = v
      · rw [if_pos ⟨hb, rfl, ht⟩, ← ih u (by omega), ← sm_mulR]
        refine sm_congr fun c hc => ?_
        rw [hdiv c hc, if_pos hb]
        by_cases hD : dB S srt ow kd k (9 * u + c) = 0
        · rw [hD, Nat.zero_mul, Nat.mul_zero]
        · obtain ⟨-, -, h3⟩ := dB_sup hS hP ho k (by omega) _ hD
          have t1 := (tB_at (ow := ow) (k := k) (x := 9 * u + c) (s := s) (by omega)).1
          rw [hdiv c hc] at t1
          rw [t1, if_pos (show u ||| 2 ^ s = v from ht), Nat.one_mul]
      · rw [if_neg (fun q => ht q.2.2)]
        refine sm_zero' fun c hc => ?_
        rw [hdiv c hc, if_pos hb]
        by_cases hD : dB S srt ow kd k (9 * u + c) = 0
        · rw [hD, Nat.zero_mul, Nat.mul_zero]
        · obtain ⟨-, -, h3⟩ := dB_sup hS hP ho k (by omega) _ hD
          have t1 := (tB_at (ow := ow) (k := k) (x := 9 * u + c) (s := s) (by omega)).1
          rw [hdiv c hc] at t1
          rw [t1, if_neg (show ¬ u ||| 2 ^ s = v from ht), Nat.zero_mul]
    · rw [if_neg (fun q => hb q.1)]
      exact sm_zero' fun c hc => by rw [hdiv c hc, if_neg hb]
def XB (S P : Nat) (srt ow kd : Nat → Nat) (y : Nat) : Nat := if pc (y / 9) ≤ P then dB S srt ow kd (pc (y / 9)) y * Vw S (pc (y / 9)) else 0
def XA (S P : Nat) (srt ow kd : Nat → Nat) (u : Nat) : Nat := Xc S P (cCh S srt ow kd) (fun _ _ => true) u
/-- what a set u gives to a place y -/
def ctB (S P : Nat) (srt ow kd : Nat → Nat) (u y : Nat) : Nat := if pc u < P then fb_sm (fun s => if (cCh S srt ow kd (pc u) u).testBit s = true then fb_sm (gW u s (ow (pc u)) (pc (cCh S srt ow kd (pc u) u)) y (fun k => XB S P srt ow kd (9 * u + k))) (pc u + 1) else 0) S else 0
theorem XB_div {S P : Nat} {srt ow kd : Nat → Nat} (hS : S < 9) (hP : P ≤ S) (ho : ∀ k, k < P → ow k < S) {u c : Nat} (hu : u < 2 ^ S) (hp : pc u < P) (hc : c < 9) : XB S P srt ow kd (9 * u + c) / pc (cCh S srt ow kd (pc u) u) = dB S srt ow kd (pc u) (9 * u + c) * (lc (S - pc u) / pc (cCh S srt ow kd (pc u) u)) * Vw S (pc u + 1) := by
  have hoc := cCh_ok (srt := srt) (kd := kd) hS hP ho
  obtain ⟨-, -, h3, h4⟩ := hoc (pc u) u hp hu rfl
  obtain ⟨-, m2⟩ := ch_mass hS hP hoc hp hu rfl
  have hV := d_VV S hS (pc u) (by omega) (by omega)
  have hd : (9 * u + c) / 9 = u := by omega
  have e : XB S P srt ow kd (9 * u + c) = dB S srt ow kd (pc u) (9 * u + c) * (lc (S - pc u) / pc (cCh S srt ow kd (pc u) u)) * Vw S (pc u + 1) * pc (cCh S srt ow kd (pc u) u) := by
    unfold XB
    rw [hd, if_pos (by omega), hV]
    generalize dB S srt ow kd (pc u) (9 * u + c) = d
    generalize pc (cCh S srt ow kd (pc u) u) = c9 at m2 ⊢
    generalize Vw S (pc u + 1) = v
    generalize lc (S - pc u) / c9 = w at m2 ⊢
    rw [← m2]
    ac_rfl
  rw [e, Nat.mul_div_cancel _ (by omega)]
theorem XB_id {S P : Nat} {srt ow kd : Nat → Nat} (hS : S < 9) (hP : P ≤ S) (ho : ∀ k, k < P → ow k < S) {t c : Nat} (ht : t < 2 ^ S) (hc : c < 9) : (if 9 * t + c = 0 then UN else 0) + fb_sm (fun u => ctB S P srt ow kd u (9 * t + c)) t = XB S P srt ow kd (9 * t + c) := by
  have hoc := cCh_ok (srt := srt) (kd := kd) hS hP ho
  have hpw := d_pw S hS
  have hd : (9 * t + c) / 9 = t := by omega
  by_cases h0 : t = 0
  · subst h0
    have p0 : pc 0 = 0 := rfl
    have e1 : fb_sm (fun u => ctB S P srt ow kd u (9 * 0 + c)) 0 = 0 := rfl
    have e4 := (d_AV S hS 0 (by omega) (by omega)).1
    rw [show Aw S 0 = 1 from rfl, Nat.one_mul] at e4
    unfold XB
    rw [e1, hd, p0, if_pos (Nat.zero_le _), e4, Nat.add_zero]
    by_cases hc0 : 9 * 0 + c = 0
    · rw [if_pos hc0, hc0, show dB S srt ow kd 0 0 = 1 from rfl, Nat.one_mul]
    · rw [if_neg hc0, show dB S srt ow kd 0 (9 * 0 + c) = 0 from if_neg hc0, Nat.zero_mul]
  · rw [if_neg (by omega), Nat.zero_add]
    have ht8 : t < 256 := by omega
    obtain ⟨k, hk⟩ : ∃ k, pc t = k + 1 := ⟨pc t - 1, by have := (d_pc0 t ht8); omega⟩
    have term : ∀ u, u < 2 ^ S → pc u < P → ∀ s, (cCh S srt ow kd (pc u) u).testBit s = true → orT u s = t → pc u = k ∧ u < t := fun u hu hp s hs e => by
      obtain ⟨-, h3, -⟩ := hoc (pc u) u hp hu rfl
      obtain ⟨h4, h5⟩ := h3 s hs
      obtain ⟨g1, g2, -⟩ := d_pcor u (by omega) s (by omega) h5
      have e' : u ||| 2 ^ s = t := e
      rw [e'] at g1 g2
      exact ⟨by omega, g2⟩
    have gz : ∀ u s j : Nat, j ≤ 7 → orT u s ≠ t → ∀ o9 c9 Y, gW u s o9 c9 (9 * t + c) Y j = 0 := fun u s j hj hne o9 c9 Y => by
      unfold gW
      rw [if_neg]
      intro q
      have : orT u s = t := by
        generalize orT u s = z at q ⊢
        by_cases e9 : s = o9
        · rw [if_pos e9] at q; omega
        · rw [if_neg e9] at q; omega
      exact hne this
    have pc8 : ∀ u, u < 2 ^ S → pc u < P → pc u ≤ 7 := fun u hu hp => by omega
    have cz : ∀ u, u < 2 ^ S → pc u < P → (∀ s, (cCh S srt ow kd (pc u) u).testBit s = true → orT u s ≠ t) → ctB S P srt ow kd u (9 * t + c) = 0 := fun u hu hp hall => by
      unfold ctB
      rw [if_pos hp]
      refine sm_zero' fun s _ => ?_
      by_cases hb : (cCh S srt ow kd (pc u) u).testBit s = true
      · rw [if_pos hb]
        exact sm_zero' fun j hj => gz u s j (by have := pc8 u hu hp; omega) (hall s hb) _ _ _
      · rw [if_neg hb]
    unfold XB
    rw [hd, hk]
    by_cases hkP : k + 1 ≤ P
    · rw [if_pos hkP]
      show _ = stp 2304 S (fun x => cCh S srt ow kd k (x / 9)) (fun _ => true) (tB ow k) (lc (S - k)) (dB S srt ow kd k) (9 * t + c) * Vw S (k + 1)
      unfold stp
      rw [← sm_mulR, show (2304 : Nat) = 9 * 256 from rfl, sm_grp, sm_ext hpw (fun u h1 h2 => sm_zero' fun c2 hc2 => by
        have hz : dB S srt ow kd k (9 * u + c2) = 0 := Classical.byContradiction fun q => by
          have := (dB_sup hS hP ho k (by omega) _ q).1
          omega
        rw [sm_zero' (fun s _ => by rw [hz, Nat.zero_mul]; simp), Nat.zero_mul])]
      rw [← sm_ext (f := fun u => ctB S P srt ow kd u (9 * t + c)) (Nat.le_of_lt ht) (fun u h1 h2 => by
        by_cases hp : pc u < P
        · exact cz u h2 hp (fun s hs e => by have := (term u h2 hp s hs e).2; omega)
        · unfold ctB; rw [if_neg hp])]
      refine sm_congr fun u hu => ?_
      have hdiv : ∀ c2, c2 < 9 → (9 * u + c2) / 9 = u := fun c2 h => by omega
      by_cases hpk : pc u = k
      · have hp : pc u < P := by omega
        unfold ctB
        rw [if_pos hp]
        have e5 : ∀ c2, c2 < 9 → fb_sm (fun s => if (cCh S srt ow kd k ((9 * u + c2) / 9)).testBit s = true ∧ (true : Bool) = true ∧ tB ow k (9 * u + c2) s = 9 * t + c then dB S srt ow kd k (9 * u + c2) * (lc (S - k) / pc (cCh S srt ow kd k ((9 * u + c2) / 9))) else 0) S * Vw S (k + 1) = fb_sm (fun s => if (cCh S srt ow kd k u).testBit s = true then gW u s (ow k) (pc (cCh S srt ow kd k u)) (9 * t + c) (fun k9 => XB S P srt ow kd (9 * u + k9)) c2 else 0) S := fun c2 hc2 => by
          rw [← sm_mulR, hdiv c2 hc2]
          refine sm_congr fun s _ => ?_
          by_cases hb : (cCh S srt ow kd k u).testBit s = true
          · have hX := XB_div (srt := srt) (kd := kd) hS hP ho hu hp hc2
            rw [hpk] at hX
            have et : tB ow k (9 * u + c2) s = 9 * orT u s + c2 + (if s = ow k then 0 else 1) := by
              unfold tB
              rw [hdiv c2 hc2, show (9 * u + c2) % 9 = c2 by omega]
              rfl
            rw [if_pos hb, et]
            unfold gW
            by_cases q : 9 * orT u s + c2 + (if s = ow k then 0 else 1) = 9 * t + c
            · rw [if_pos ⟨hb, rfl, q⟩, if_pos q]
              exact hX.symm
            · rw [if_neg (fun z => q z.2.2), if_neg q, Nat.zero_mul]
          · rw [if_neg (fun z => hb z.1), if_neg hb, Nat.zero_mul]
        rw [sm_congr e5, sm_swap, hpk]
        refine sm_congr fun s _ => ?_
        by_cases hb : (cCh S srt ow kd k u).testBit s = true
        · rw [if_pos hb, sm_congr (g := gW u s (ow k) (pc (cCh S srt ow kd k u)) (9 * t + c) (fun k9 => XB S P srt ow kd (9 * u + k9))) (fun c2 _ => if_pos hb)]
          refine (sm_ext (m := k + 1) (n := 9) (by omega) (fun c2 h1 h2 => ?_)).symm
          have hz : dB S srt ow kd (pc u) (9 * u + c2) = 0 := Classical.byContradiction fun q => by
            have := (dB_sup hS hP ho (pc u) (by omega) _ q).2.2
            omega
          have hX0 : XB S P srt ow kd (9 * u + c2) = 0 := by
            unfold XB
            rw [hdiv c2 h2, hz, Nat.zero_mul]
            simp
          unfold gW
          show (if _ then XB S P srt ow kd (9 * u + c2) / _ else 0) = 0
          rw [hX0, Nat.zero_div]
          simp
        · rw [if_neg hb]
          exact (sm_zero' fun c2 _ => if_neg hb).symm
      · have hz : ∀ c2, c2 < 9 → dB S srt ow kd k (9 * u + c2) = 0 := fun c2 hc2 => Classical.byContradiction fun q => by
          have := (dB_sup hS hP ho k (by omega) _ q).2.1
          rw [hdiv c2 hc2] at this
          exact hpk this
        rw [sm_zero' (f := fun c2 => fb_sm _ S * Vw S (k + 1)) (fun c2 hc2 => by rw [sm_zero' (fun s _ => by rw [hz c2 hc2, Nat.zero_mul]; simp), Nat.zero_mul])]
        by_cases hp : pc u < P
        · exact cz u hu hp (fun s hs e => hpk (term u hu hp s hs e).1)
        · unfold ctB; rw [if_neg hp]
    · rw [if_neg hkP]
      refine sm_zero' fun u hu => ?_
      by_cases hp : pc u < P
      · exact cz u (by omega) hp (fun s hs e => by have := (term u (by omega) hp s hs e).1; omega)
      · unfold ctB; rw [if_neg hp]
theorem XB_le {S P : Nat} {srt ow kd : Nat → Nat} (hS : S < 9) (hP : P ≤ S) (ho : ∀ k, k < P → ow k < S) {y : Nat} (hy : y < 2304) : XB S P srt ow kd y ≤ UN := by
  unfold XB
  by_cases hp : pc (y / 9) ≤ P
  · rw [if_pos hp, ← (d_AV S hS (pc (y / 9)) (by omega) (by omega)).1]
    exact Nat.mul_le_mul_right _ (dB_bd hS hP ho hp hy)
  · rw [if_neg hp]; exact Nat.zero_le _
