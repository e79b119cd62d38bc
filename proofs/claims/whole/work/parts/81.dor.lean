/-! orders: how likely a seat is taken behind the first k -/
def TK (S : Nat) (srt ow kd : Nat → Nat) (k s : Nat) : Nat := fb_sm (fun u => if u.testBit s = true then dC S srt ow kd k u else 0) (2 ^ S) * Vw S k
def frS (S : Nat) (srt ow kd : Nat → Nat) (k s : Nat) : Nat := fb_sm (fun u => if u.testBit s = true then 0 else dC S srt ow kd k u) (2 ^ S)
theorem TK_fr {S P : Nat} {srt ow kd : Nat → Nat} (hS : S < 9) (hP : P ≤ S) (ho : ∀ k, k < P → ow k < S) {k : Nat} (hk : k ≤ P) (s : Nat) : TK S srt ow kd k s + frS S srt ow kd k s * Vw S k = UN := by
  unfold TK frS
  rw [← Nat.add_mul, ← fb_sm_add, ← (d_AV S hS k (by omega) (by omega)).1, ← dp_all hS hP (cCh_ok (srt := srt) (kd := kd) hS hP ho) k hk]
  congr 1
  refine sm_congr fun u _ => ?_
  by_cases q : u.testBit s = true
  · rw [if_pos q, if_pos q, Nat.add_zero]; rfl
  · rw [if_neg q, if_neg q, Nat.zero_add]; rfl
theorem TK_succ {S P : Nat} {srt ow kd : Nat → Nat} (hS : S < 9) (hP : P ≤ S) (ho : ∀ k, k < P → ow k < S) {k s : Nat} (hk : k < P) (hs : s < S) : TK S srt ow kd (k + 1) s = TK S srt ow kd k s + nC S srt ow kd k s * Vw S (k + 1) := by
  have hoc := cCh_ok (srt := srt) (kd := kd) hS hP ho
  have hV := d_VV S hS k (by omega) (by omega)
  have e := stp_dual (pt := lc (S - k)) (ok := fun _ => true) (fun x => if x.testBit s = true then 1 else 0) (dp_tau (ok := fun _ _ => true) hS hP hoc hk)
  have e1 : fb_sm (fun u => if u.testBit s = true then dC S srt ow kd (k + 1) u else 0) (2 ^ S) = fb_sm (fun x => (if x.testBit s = true then 1 else 0) * stp (2 ^ S) S (cCh S srt ow kd k) (fun _ => true) orT (lc (S - k)) (dp (2 ^ S) S (cCh S srt ow kd) (fun _ _ => true) (fun _ => orT) k) x) (2 ^ S) := sm_congr fun x _ => by
    by_cases q : x.testBit s = true
    · rw [if_pos q, if_pos q, Nat.one_mul]; rfl
    · rw [if_neg q, if_neg q, Nat.zero_mul]
  have e2 : fb_sm (fun u => if u.testBit s = true then dC S srt ow kd (k + 1) u else 0) (2 ^ S) = fb_sm (fun u => if u.testBit s = true then dC S srt ow kd k u else 0) (2 ^ S) * lc (S - k) + nC S srt ow kd k s := by
    rw [e1, e]
    unfold nC nxS
    rw [← sm_mulR, ← fb_sm_add]
    refine sm_congr fun u hu => ?_
    show fb_sm (fun t => if (cCh S srt ow kd k u).testBit t = true ∧ true = true then (if (orT u t).testBit s = true then 1 else 0) * (dC S srt ow kd k u * (lc (S - k) / pc (cCh S srt ow kd k u))) else 0) S = _
    by_cases hD : dC S srt ow kd k u = 0
    · rw [hD]; simp; exact sm_zero' fun t _ => by simp
    · obtain ⟨g1, g2⟩ := dp_sup hS hP hoc k (by omega) u hD
      obtain ⟨m1, m2⟩ := ch_mass hS hP hoc hk g1 g2
      obtain ⟨-, h3, -⟩ := hoc k u hk g1 g2
      by_cases q : u.testBit s = true
      · have hcs : ¬ (cCh S srt ow kd k u).testBit s = true := fun z => by rw [(h3 s z).2] at q; cases q
        rw [if_pos q, if_neg hcs, Nat.add_zero]
        rw [sm_congr (g := fun t => (if (cCh S srt ow kd k u).testBit t = true then 1 else 0) * (dC S srt ow kd k u * (lc (S - k) / pc (cCh S srt ow kd k u)))) (fun t _ => by
          have : (orT u t).testBit s = true := by unfold orT; rw [Nat.testBit_or, q, Bool.true_or]
          by_cases z : (cCh S srt ow kd k u).testBit t = true <;> simp [z, this])]
        rw [sm_mulR, m1, Nat.mul_left_comm, m2]
      · have q' : u.testBit s = false := by simpa using q
        rw [if_neg q, Nat.zero_mul, Nat.zero_add]
        rw [sm_only (a := s) hs (fun t _ hne => by
          have : (orT u t).testBit s = false := by unfold orT; rw [tb_or, q', decide_eq_false hne]; rfl
          rw [this]; simp)]
        have : (orT u s).testBit s = true := by unfold orT; rw [tb_or, decide_eq_true rfl, Bool.or_true]
        rw [this]
        by_cases z : (cCh S srt ow kd k u).testBit s = true <;> simp [z]
  unfold TK
  rw [e2, Nat.add_mul, Nat.mul_assoc, hV, Nat.mul_comm (lc (S - k))]
theorem TK_zero {S : Nat} {srt ow kd : Nat → Nat} {s : Nat} : TK S srt ow kd 0 s = 0 := by
  unfold TK
  rw [sm_zero' fun u _ => ?_, Nat.zero_mul]
  by_cases q : u = 0
  · subst q; rw [Nat.zero_testBit]; rfl
  · show (if _ then (if u = 0 then 1 else 0) else 0) = 0
    rw [if_neg q, ite_self]
/-- not lost: right just if one's own is free -/
theorem nC_own {S P : Nat} {srt ow kd : Nat → Nat} (hS : S < 9) (hP : P ≤ S) (ho : ∀ k, k < P → ow k < S) {k : Nat} (hk : k < P) (h1 : kd k ≠ 1) : nC S srt ow kd k (ow k) * Vw S (k + 1) = UN - TK S srt ow kd k (ow k) := by
  have hoc := cCh_ok (srt := srt) (kd := kd) hS hP ho
  have hV := d_VV S hS k (by omega) (by omega)
  have e : nC S srt ow kd k (ow k) = frS S srt ow kd k (ow k) * lc (S - k) := by
    unfold nC nxS frS
    rw [← sm_mulR]
    refine sm_congr fun u hu => ?_
    by_cases hD : dC S srt ow kd k u = 0
    · rw [hD]; simp
    · obtain ⟨g1, g2⟩ := dp_sup hS hP hoc k (by omega) u hD
      obtain ⟨-, h3, -⟩ := hoc k u hk g1 g2
      have hu8 : u < 256 := Nat.lt_of_lt_of_le g1 (d_pw S hS)
      have ho' := ho k hk
      by_cases q : u.testBit (ow k) = true
      · have hcs : ¬ (cCh S srt ow kd k u).testBit (ow k) = true := fun z => by rw [(h3 _ z).2] at q; cases q
        rw [if_neg hcs, if_pos q, Nat.zero_mul]
      · have hf : (fr S u).testBit (ow k) = true := by
          rw [d_frbit S hS u hu8 (ow k) (by omega), decide_eq_true ho']
          simpa using q
        have hc : cCh S srt ow kd k u = 2 ^ ow k := by
          unfold cCh chN
          rw [if_neg h1, if_pos hf]
        rw [hc, Nat.testBit_two_pow_self, if_pos rfl, if_neg q, d_pc2 (ow k) (by omega), Nat.div_one]
  have hT := TK_fr (srt := srt) (kd := kd) hS hP ho (show k ≤ P by omega) (ow k)
  rw [e, Nat.mul_assoc, Nat.mul_comm (lc (S - k)), ← hV]
  omega
/-- lost: any seat alike -/
theorem nC_lost {S P : Nat} {srt ow kd : Nat → Nat} (hS : S < 9) (hP : P ≤ S) (ho : ∀ k, k < P → ow k < S) {k s : Nat} (hk : k < P) (hs : s < S) (h1 : kd k = 1) : nC S srt ow kd k s * Vw S (k + 1) * (S - k) = UN - TK S srt ow kd k s := by
  have hoc := cCh_ok (srt := srt) (kd := kd) hS hP ho
  have hV := d_VV S hS k (by omega) (by omega)
  have e : nC S srt ow kd k s * (S - k) = frS S srt ow kd k s * lc (S - k) := by
    unfold nC nxS frS
    rw [← sm_mulR, ← sm_mulR]
    refine sm_congr fun u hu => ?_
    by_cases hD : dC S srt ow kd k u = 0
    · rw [hD]; simp
    · obtain ⟨g1, g2⟩ := dp_sup hS hP hoc k (by omega) u hD
      have hu8 : u < 256 := Nat.lt_of_lt_of_le g1 (d_pw S hS)
      have hc : cCh S srt ow kd k u = fr S u := by
        unfold cCh chN
        rw [if_pos h1]
      obtain ⟨p1, p2⟩ := d_frpc S hS u g1
      rw [hc, d_frbit S hS u hu8 s (by omega), decide_eq_true hs, Bool.true_and, p1, g2]
      by_cases q : u.testBit s = true
      · rw [q]; simp
      · have q' : u.testBit s = false := by simpa using q
        rw [q']
        have hdv := (d_lcdvd (S - k) (by omega) (S - k) (by omega) ⟨by omega, Nat.le_refl _⟩).1
        simp
        rw [Nat.mul_assoc, Nat.div_mul_cancel (Nat.dvd_of_mod_eq_zero hdv)]
  have hT := TK_fr (srt := srt) (kd := kd) hS hP ho (show k ≤ P by omega) s
  have e2 : nC S srt ow kd k s * Vw S (k + 1) * (S - k) = frS S srt ow kd k s * Vw S k := by
    rw [Nat.mul_right_comm, e, hV, Nat.mul_assoc, Nat.mul_comm (lc (S - k))]
  rw [e2]
  omega
theorem nCV_le {S P : Nat} {srt ow kd : Nat → Nat} (hS : S < 9) (hP : P ≤ S) (ho : ∀ k, k < P → ow k < S) {k s : Nat} (hk : k < P) : nC S srt ow kd k s * Vw S (k + 1) ≤ UN := by
  rw [← (d_AV S hS (k + 1) (by omega) (by omega)).1]
  exact Nat.mul_le_mul_right _ (nC_le hS hP ho hk)
/-- how likely the k-th sits wrong -/
def wr (S : Nat) (srt ow kd : Nat → Nat) (k : Nat) : Nat := UN - nC S srt ow kd k (ow k) * Vw S (k + 1)
theorem wr_own {S P : Nat} {srt ow kd : Nat → Nat} (hS : S < 9) (hP : P ≤ S) (ho : ∀ k, k < P → ow k < S) {k : Nat} (hk : k < P) (h1 : kd k ≠ 1) : wr S srt ow kd k = TK S srt ow kd k (ow k) := by
  unfold wr
  have hT := TK_fr (srt := srt) (kd := kd) hS hP ho (show k ≤ P by omega) (ow k)
  rw [nC_own hS hP ho hk h1]
  omega
theorem wr_lost {S P : Nat} {srt ow kd : Nat → Nat} (hS : S < 9) (hP : P ≤ S) (ho : ∀ k, k < P → ow k < S) {k : Nat} (hk : k < P) (h1 : kd k = 1) : wr S srt ow kd k = UN - (UN - TK S srt ow kd k (ow k)) / (S - k) := by
  unfold wr
  rw [← nC_lost hS hP ho hk (ho k hk) h1, Nat.mul_div_cancel _ (by omega)]
def costN (S P : Nat) (srt ow kd : Nat → Nat) : Nat := (P * Aw S P - rC S srt ow kd P) * Vw S P
theorem cost_wr {S P : Nat} {srt ow kd : Nat → Nat} (hS : S < 9) (hP : P ≤ S) (ho : ∀ k, k < P → ow k < S) : costN S P srt ow kd = fb_sm (wr S srt ow kd) P := by
  have h : ∀ k, k ≤ P → fb_sm (wr S srt ow kd) k + rC S srt ow kd k * Vw S k = k * UN := by
    intro k
    induction k with
    | zero => intro _; show 0 + 0 * _ = 0 * _; simp
    | succ k ih =>
      intro hk
      have hV := d_VV S hS k (by omega) (by omega)
      have hr : rC S srt ow kd (k + 1) = rC S srt ow kd k * lc (S - k) + nC S srt ow kd k (ow k) := rfl
      have hn := nCV_le (s := ow k) (srt := srt) (kd := kd) hS hP ho (show k < P by omega)
      have h1 := ih (by omega)
      have h2 : wr S srt ow kd k + nC S srt ow kd k (ow k) * Vw S (k + 1) = UN := by unfold wr; omega
      rw [hr, fb_sm_succ, Nat.add_mul, Nat.mul_assoc, Nat.mul_comm (lc (S - k)), ← hV, Nat.add_mul k 1, Nat.one_mul]
      omega
  have hP' := h P (Nat.le_refl _)
  have hAV := (d_AV S hS P (by omega) (by omega)).1
  unfold costN
  rw [Nat.sub_mul, Nat.mul_assoc, hAV]
  omega
theorem wr_le {S : Nat} {srt ow kd : Nat → Nat} (k : Nat) : wr S srt ow kd k ≤ UN := Nat.sub_le _ _
theorem cost_le {S P : Nat} {srt ow kd : Nat → Nat} (hS : S < 9) (hP : P ≤ S) (ho : ∀ k, k < P → ow k < S) : costN S P srt ow kd ≤ 8 * UN := by
  rw [cost_wr hS hP ho]
  have h1 : fb_sm (wr S srt ow kd) P ≤ P * UN := fb_sm_bound fun k _ => wr_le k
  exact Nat.le_trans h1 (Nat.mul_le_mul_right _ (by omega))
/-! what depends on the first k alone -/
theorem dC_congr {S : Nat} {srt ow kd ow' kd' : Nat → Nat} {k : Nat} (h : ∀ j, j < k → ow j = ow' j ∧ kd j = kd' j) (x : Nat) : dC S srt ow kd k x = dC S srt ow' kd' k x :=
  dp_congr k (fun j hj u _ _ => by unfold cCh; rw [(h j hj).1, (h j hj).2]) (fun _ _ _ _ => rfl) x
theorem TK_congr {S : Nat} {srt ow kd ow' kd' : Nat → Nat} {k : Nat} (h : ∀ j, j < k → ow j = ow' j ∧ kd j = kd' j) (s : Nat) : TK S srt ow kd k s = TK S srt ow' kd' k s := by
  unfold TK
  congr 1
  exact sm_congr fun u _ => by rw [dC_congr h u]
theorem nC_congr {S : Nat} {srt ow kd ow' kd' : Nat → Nat} {k : Nat} (h : ∀ j, j ≤ k → ow j = ow' j ∧ kd j = kd' j) (s : Nat) : nC S srt ow kd k s = nC S srt ow' kd' k s := by
  have hc : cCh S srt ow kd k = cCh S srt ow' kd' k := funext fun u => by unfold cCh; rw [(h k (Nat.le_refl _)).1, (h k (Nat.le_refl _)).2]
  unfold nC nxS
  rw [hc]
  exact sm_congr fun u _ => by rw [dC_congr (fun j hj => h j (by omega)) u]
theorem wr_congr {S : Nat} {srt ow kd ow' kd' : Nat → Nat} {k : Nat} (h : ∀ j, j ≤ k → ow j = ow' j ∧ kd j = kd' j) : wr S srt ow kd k = wr S srt ow' kd' k := by
  unfold wr
  rw [(h k (Nat.le_refl _)).1, nC_congr h]
theorem cost_congr {S P : Nat} {srt ow kd ow' kd' : Nat → Nat} (hS : S < 9) (hP : P ≤ S) (ho : ∀ k, k < P → ow k < S) (h : ∀ j, j < P → ow j = ow' j ∧ kd j = kd' j) : costN S P srt ow kd = costN S P srt ow' kd' := by
  rw [cost_wr hS hP ho, cost_wr hS hP (fun k hk => by rw [← (h k hk).1]; exact ho k hk)]
  exact sm_congr fun k hk => wr_congr (fun j hj => h j (by omega))
