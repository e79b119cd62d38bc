/-! what the rows of Chances are at last, by the model's numbers -/
theorem ctr_z {S P : Nat} {srt ow kd : Nat → Nat} (hS : S < 9) (hP : P ≤ S) (ho : ∀ k, k < P → ow k < S) {u t : Nat} (hu : u < 2 ^ S) (h : t ≤ u) : ctr S P (cCh S srt ow kd) (fun _ _ => true) u t = 0 := by
  have hoc := cCh_ok (srt := srt) (kd := kd) hS hP ho
  have hpw := d_pw S hS
  unfold ctr
  by_cases hp : pc u < P
  · rw [if_pos hp]
    refine sm_zero' fun s _ => ?_
    by_cases hc : (cCh S srt ow kd (pc u) u).testBit s = true ∧ (true : Bool) = true ∧ orT u s = t
    · obtain ⟨-, h3, -⟩ := hoc (pc u) u hp hu rfl
      obtain ⟨h4, h5⟩ := h3 s hc.1
      obtain ⟨-, g2, -⟩ := d_pcor u (by omega) s (by omega) h5
      have e' : u ||| 2 ^ s = t := hc.2.2
      rw [e'] at g2
      omega
    · rw [if_neg hc]
  · rw [if_neg hp]
theorem aR_val {S P : Nat} {srt ow kd : Nat → Nat} (hS : S < 9) (hP : P ≤ S) (ho : ∀ k, k < P → ow k < S) {x : Nat} (hx : x < 2 ^ S) : aR S P srt ow kd (2 ^ S) x = XA S P srt ow kd x := by
  have hoc := cCh_ok (srt := srt) (kd := kd) hS hP ho
  unfold aR
  rw [sm_ext (Nat.le_of_lt hx) (fun u h1 h2 => ctr_z hS hP ho h2 h1)]
  exact X_id hS hP hoc hx
theorem XA_at {S P : Nat} {srt ow kd : Nat → Nat} (hS : S < 9) (hP : P ≤ S) (ho : ∀ k, k < P → ow k < S) {u k : Nat} (hk : k ≤ P) (hp : pc u = k) : XA S P srt ow kd u = dC S srt ow kd k u * Vw S k := by
  unfold XA Xc
  rw [hp, if_pos hk]
  rfl
theorem dC_ne {S P : Nat} {srt ow kd : Nat → Nat} (hS : S < 9) (hP : P ≤ S) (ho : ∀ k, k < P → ow k < S) {u k : Nat} (hk : k ≤ P) (hp : pc u ≠ k) : dC S srt ow kd k u = 0 := Classical.byContradiction fun q => hp (dp_sup hS hP (cCh_ok hS hP ho) k hk u q).2
theorem aS_val {S P : Nat} {srt ow kd : Nat → Nat} (hS : S < 9) (hP : P ≤ S) (ho : ∀ k, k < P → ow k < S) {p s : Nat} (hp : p < P) (hs : s < S) : aS S P srt ow kd (2 ^ S) (8 * p + s) = nC S srt ow kd p s * Vw S (p + 1) := by
  have hoc := cCh_ok (srt := srt) (kd := kd) hS hP ho
  unfold aS nC nxS
  rw [← sm_mulR]
  refine sm_congr fun u hu => ?_
  unfold tS
  rw [show (8 * p + s) / 8 = p by omega, show (8 * p + s) % 8 = s by omega]
  by_cases hpu : pc u = p
  · rw [hpu]
    by_cases hb : (cCh S srt ow kd p u).testBit s = true
    · rw [if_pos ⟨hp, rfl, hs, hb⟩, if_pos hb]
      have := (X_div (ok := fun _ _ => true) hS hP hoc hu (show pc u < P by omega)).1
      rw [hpu] at this
      exact this
    · rw [if_neg (fun z => hb z.2.2.2), if_neg hb, Nat.zero_mul]
  · rw [if_neg (fun z => hpu z.2.1.symm), dC_ne hS hP ho (by omega) hpu, Nat.zero_mul]
    simp
theorem aK_val {S P : Nat} {srt ow kd : Nat → Nat} (hS : S < 9) (hP : P ≤ S) (ho : ∀ k, k < P → ow k < S) {k : Nat} (hk : k ≤ P) : aK S P srt ow kd (2 ^ S) k = jC S srt ow kd P k 2304 * Vw S P := by
  have hpw := d_pw S hS
  have e : jC S srt ow kd P k 2304 = fb_sm (fun u => dB S srt ow kd P (9 * u + k)) (2 ^ S) := by
    unfold jC
    rw [show (2304 : Nat) = 9 * 256 from rfl, sm_grp, sm_ext hpw (fun u h1 h2 => sm_zero' fun c hc => by
      have hz : dB S srt ow kd P (9 * u + c) = 0 := Classical.byContradiction fun q => by
        have := (dB_sup hS hP ho P (Nat.le_refl _) _ q).1
        omega
      rw [hz]; simp)]
    refine sm_congr fun u _ => ?_
    rw [sm_only (a := k) (by omega) (fun c hc hne => by rw [if_neg (by omega)]), if_pos (by omega)]
  rw [e, ← sm_mulR]
  unfold aK
  refine sm_congr fun u hu => ?_
  unfold tK XB
  rw [show (9 * u + k) / 9 = u by omega]
  by_cases hpu : pc u = P
  · rw [if_pos ⟨hpu, by omega⟩, hpu, if_pos (Nat.le_refl _)]
  · have hz : dB S srt ow kd P (9 * u + k) = 0 := Classical.byContradiction fun q => by
      have := (dB_sup hS hP ho P (Nat.le_refl _) _ q).2.1
      rw [show (9 * u + k) / 9 = u by omega] at this
      exact hpu this
    rw [if_neg (fun z => hpu z.1), hz, Nat.zero_mul]
theorem aF_val {S P : Nat} {srt ow kd : Nat → Nat} (hS : S < 9) (hP : P ≤ S) (ho : ∀ k, k < P → ow k < S) {s : Nat} (hs : s < S) : aF S P srt ow kd (2 ^ S) s = lC S srt ow kd P s (2 ^ S) * Vw S P := by
  unfold aF lC
  rw [← sm_mulR]
  refine sm_congr fun u hu => ?_
  unfold tF
  by_cases hpu : pc u = P
  · by_cases hb : u.testBit s = true
    · rw [if_neg (fun z => by rw [hb] at z; exact absurd z.2.2 (by decide)), if_pos hb, Nat.zero_mul]
    · rw [if_pos ⟨hpu, hs, by simpa using hb⟩, if_neg hb, XA_at hS hP ho (Nat.le_refl _) hpu]
  · rw [if_neg (fun z => hpu z.1), dC_ne hS hP ho (Nat.le_refl _) hpu]
    simp
/-! how long one looks -/
theorem d_nfs0 : ∀ S, S < 9 → ∀ f, f < 2 ^ S → ∀ o, o < S → (f.testBit o = false ∨ nfs S f 8 o = o) := by decide +kernel
theorem near_ch {S P : Nat} {srt ow kd : Nat → Nat} (hS : S < 9) (hP : P ≤ S) (ho : ∀ k, k < P → ow k < S) {k u : Nat} (hk : k < P) (hu : u < 2 ^ S) (hp : pc u = k) (h2 : kd k = 2) : cCh S srt ow kd k u = 2 ^ nfs S (fr S u) 8 (ow k) ∧ nfs S (fr S u) 8 (ow k) < S := by
  have hpw := d_pw S hS
  obtain ⟨-, hf, -⟩ := d_fr S hS u (by omega)
  have hf0 : fr S u ≠ 0 := fun e => by
    have h1 := d_frpc S hS u hu
    rw [e, show pc 0 = 0 from rfl] at h1
    omega
  obtain ⟨n1, -⟩ := d_nfs S hS (fr S u) hf hf0 (ow k) (ho k hk)
  refine ⟨?_, n1⟩
  unfold cCh chN
  rw [h2, if_neg (by decide)]
  rcases d_nfs0 S hS (fr S u) hf (ow k) (ho k hk) with h | h
  · rw [if_neg (by rw [h]; decide), if_pos rfl]
  · by_cases hb : (fr S u).testBit (ow k) = true
    · rw [if_pos hb, h]
    · rw [if_neg hb, if_pos rfl]
theorem tM_val {S P : Nat} {srt ow kd : Nat → Nat} (hS : S < 9) (hP : P ≤ S) (ho : ∀ k, k < P → ow k < S) {u : Nat} (hu : u < 2 ^ S) (hp : pc u < P) : tM S P srt ow kd u = if kd (pc u) = 2 then dC S srt ow kd (pc u) u * lkN S (fr S u) (ow (pc u)) * Vw S (pc u) else 0 := by
  unfold tM
  rw [if_pos hp]
  by_cases h2 : kd (pc u) = 2
  · obtain ⟨e1, e2⟩ := near_ch hS hP ho hp hu rfl h2
    rw [if_pos h2, e1, d_pc2 _ (by omega), Nat.div_one]
    rw [sm_only (a := nfs S (fr S u) 8 (ow (pc u))) e2 (fun s _ hne => by
      rw [if_neg]
      intro z
      rw [tb_2p] at z
      exact hne (Eq.symm (by simpa using z.1))), if_pos ⟨by rw [tb_2p]; simp, h2⟩, XA_at hS hP ho (by omega) rfl]
    have e3 : po S (ow (pc u)) (nfs S (fr S u) 8 (ow (pc u))) = lkN S (fr S u) (ow (pc u)) := by
      unfold po lkN
      by_cases q : nfs S (fr S u) 8 (ow (pc u)) < ow (pc u)
      · rw [if_pos q, if_neg (by omega)]
      · rw [if_neg q, if_pos (by omega)]
    rw [e3]
    ac_rfl
  · rw [if_neg h2]
    exact sm_zero' fun s _ => if_neg (fun z => h2 z.2)
theorem sL_V {S P : Nat} {srt ow kd : Nat → Nat} (hS : S < 9) (hP : P ≤ S) (ho : ∀ k, k < P → ow k < S) : ∀ k, k ≤ P → sL S srt ow kd k * Vw S k = fb_sm (fun j => oC S srt ow kd j (2 ^ S) * Vw S j) k
  | 0, _ => by
    show 0 * _ = 0
    rw [Nat.zero_mul]
  | k + 1, hk => by
    have ih := sL_V (srt := srt) (kd := kd) hS hP ho k (by omega)
    have hV := d_VV S hS k (by omega) (by omega)
    rw [fb_sm_succ, ← ih]
    show (sL S srt ow kd k + oC S srt ow kd k (2 ^ S)) * lc (S - k) * Vw S (k + 1) = _
    rw [hV, Nat.add_mul, Nat.add_mul]
    congr 1 <;> ac_rfl
theorem aM_val {S P : Nat} {srt ow kd : Nat → Nat} (hS : S < 9) (hP : P ≤ S) (ho : ∀ k, k < P → ow k < S) : aM S P srt ow kd (2 ^ S) = sL S srt ow kd P * Vw S P := by
  rw [sL_V hS hP ho P (Nat.le_refl _)]
  have e : ∀ j, j < P → oC S srt ow kd j (2 ^ S) * Vw S j = fb_sm (fun u => if kd j = 2 then dC S srt ow kd j u * lkN S (fr S u) (ow j) * Vw S j else 0) (2 ^ S) := fun j _ => by
    unfold oC
    rw [← sm_mulR]
    refine sm_congr fun u _ => ?_
    by_cases h : kd j = 2
    · rw [if_pos h, if_pos h]
    · rw [if_neg h, if_neg h, Nat.zero_mul]
  rw [sm_congr e, sm_swap]
  unfold aM
  refine sm_congr fun u hu => ?_
  by_cases hp : pc u < P
  · rw [tM_val hS hP ho hu hp, sm_only (a := pc u) hp (fun j hj hne => by
      rw [dC_ne hS hP ho (by omega) (fun q => hne q.symm), Nat.zero_mul, Nat.zero_mul]
      simp)]
  · rw [show tM S P srt ow kd u = 0 from if_neg hp]
    exact (sm_zero' fun j hj => by
      rw [dC_ne hS hP ho (by omega) (by omega), Nat.zero_mul, Nat.zero_mul]
      simp).symm
/-! the mean of how many sit wrong -/
def tW (S : Nat) (srt ow kd : Nat → Nat) (k : Nat) : Nat := fb_sm (fun x => x % 9 * dB S srt ow kd k x) 2304
theorem own_mass {S P : Nat} {srt ow kd : Nat → Nat} (hS : S < 9) (hP : P ≤ S) (ho : ∀ k, k < P → ow k < S) {k : Nat} (hk : k < P) : fb_sm (fun u => if (cCh S srt ow kd k (u / 9)).testBit (ow k) = true then dB S srt ow kd k u * (lc (S - k) / pc (cCh S srt ow kd k (u / 9))) else 0) 2304 = nC S srt ow kd k (ow k) := by
  have hpw := d_pw S hS
  unfold nC nxS
  rw [show (2304 : Nat) = 9 * 256 from rfl, sm_grp, sm_ext hpw (fun u h1 h2 => sm_zero' fun c hc => by
    have hz : dB S srt ow kd k (9 * u + c) = 0 := Classical.byContradiction fun q => by
      have := (dB_sup hS hP ho k (by omega) _ q).1
      omega
    rw [hz, Nat.zero_mul]; simp)]
  refine sm_congr fun u hu => ?_
  rw [← dB_sum (srt := srt) (kd := kd) hS hP ho k (by omega) u (by omega)]
  by_cases hb : (cCh S srt ow kd k u).testBit (ow k) = true
  · rw [if_pos hb, ← sm_mulR]
    exact sm_congr fun c hc => by rw [show (9 * u + c) / 9 = u by omega, if_pos hb]
  · rw [if_neg hb]
    exact sm_zero' fun c hc => by rw [show (9 * u + c) / 9 = u by omega, if_neg hb]
theorem tW_rec {S P : Nat} {srt ow kd : Nat → Nat} (hS : S < 9) (hP : P ≤ S) (ho : ∀ k, k < P → ow k < S) : ∀ k, k ≤ P → tW S srt ow kd k + rC S srt ow kd k = k * Aw S k
  | 0, _ => by
    show fb_sm (fun x => x % 9 * (if x = 0 then 1 else 0)) 2304 + 0 = 0 * _
    rw [sm_zero' (fun x _ => by by_cases h : x = 0 <;> simp [h]), Nat.zero_mul]
  | k + 1, hk => by
    have ih := tW_rec (srt := srt) (kd := kd) hS hP ho k (by omega)
    have hoc := cCh_ok (srt := srt) (kd := kd) hS hP ho
    have hall := dB_all (srt := srt) (kd := kd) hS hP ho k (by omega)
    have e0 := dB_dual (srt := srt) (kd := kd) hS hP ho (show k < P by omega) (fun x => x % 9)
    have e1 : tW S srt ow kd (k + 1) + nC S srt ow kd k (ow k) = tW S srt ow kd k * lc (S - k) + Aw S k * lc (S - k) := by
      show fb_sm (fun x => x % 9 * dB S srt ow kd (k + 1) x) 2304 + _ = _
      rw [e0, ← own_mass hS hP ho (show k < P by omega), ← hall]
      unfold tW
      rw [← sm_mulR, ← sm_mulR, ← fb_sm_add, ← fb_sm_add]
      refine sm_congr fun u hu => ?_
      by_cases hD : dB S srt ow kd k u = 0
      · rw [hD, sm_zero' (fun s _ => by simp)]
        simp
      · obtain ⟨h1, h2, h3⟩ := dB_sup hS hP ho k (by omega) u hD
        obtain ⟨m1, m2⟩ := ch_mass hS hP hoc (show k < P by omega) h1 h2
        have t2 : ∀ s, tB ow k u s % 9 = u % 9 + (if s = ow k then 0 else 1) := fun s => (tB_at (ow := ow) (k := k) (x := u) (s := s) (by omega)).2
        generalize dB S srt ow kd k u = d at hD ⊢
        generalize hc : cCh S srt ow kd k (u / 9) = c9 at *
        generalize hw : lc (S - k) / pc c9 = w at *
        have e2 : fb_sm (fun s => if c9.testBit s = true then tB ow k u s % 9 * (d * w) else 0) S + (if c9.testBit (ow k) = true then d * w else 0) = fb_sm (fun s => (if c9.testBit s = true then 1 else 0) * ((u % 9 + 1) * (d * w))) S := by
          rw [← sm_one (ow k) (if c9.testBit (ow k) = true then d * w else 0) S |>.trans (if_pos (ho k (by omega))), ← fb_sm_add]
          refine sm_congr fun s _ => ?_
          by_cases hb : c9.testBit s = true
          · rw [if_pos hb, if_pos hb, t2 s, Nat.one_mul]
            by_cases e : ow k = s
            · rw [if_pos e, if_pos e.symm, e, if_pos hb, Nat.add_zero, Nat.add_mul, Nat.one_mul]
            · rw [if_neg e, if_neg (fun q => e q.symm)]
              rfl
          · rw [if_neg hb, if_neg hb]
            by_cases e : ow k = s
            · rw [if_pos e, e, if_neg hb, Nat.zero_mul]
            · rw [if_neg e, Nat.zero_mul]
        rw [e2, sm_mulR, m1, ← m2]
        rw [Nat.add_mul, Nat.one_mul, Nat.mul_add]
        congr 1 <;> ac_rfl
    have e3 : (k + 1) * Aw S (k + 1) = (k * Aw S k) * lc (S - k) + Aw S k * lc (S - k) := by
      show (k + 1) * (Aw S k * lc (S - k)) = _
      rw [Nat.add_mul, Nat.one_mul, Nat.mul_assoc]
    rw [e3, ← ih, Nat.add_mul]
    show tW S srt ow kd (k + 1) + (rC S srt ow kd k * lc (S - k) + nC S srt ow kd k (ow k)) = _
    omega
