/-! rows by what they cost; bounds -/
def wrO (S : Nat) (srt own kd : Nat → Nat) (od : Nat → Nat) (k : Nat) : Nat := wr S srt (fun k => own (od k)) (fun k => kd (od k)) k
def TKO (S : Nat) (srt own kd : Nat → Nat) (od : Nat → Nat) (k s : Nat) : Nat := TK S srt (fun k => own (od k)) (fun k => kd (od k)) k s
def costD (S P : Nat) (srt own kd : Nat → Nat) (od : Nat → Nat) : Nat := costN S P srt (fun k => own (od k)) (fun k => kd (od k))
theorem upd_lt {od : Nat → Nat} {d p k : Nat} (h : k < d) : updN od d p k = od k := by unfold updN; rw [if_neg (by omega)]
theorem upd_eq {od : Nat → Nat} {d p : Nat} : updN od d p d = p := by unfold updN; rw [if_pos rfl]
theorem wrO_upd {S : Nat} {srt own kd od : Nat → Nat} {d p k : Nat} (h : k < d) : wrO S srt own kd (updN od d p) k = wrO S srt own kd od k := wr_congr fun j hj => by rw [upd_lt (by omega)]; exact ⟨rfl, rfl⟩
theorem TKO_upd {S : Nat} {srt own kd od : Nat → Nat} {d p k s : Nat} (h : k ≤ d) : TKO S srt own kd (updN od d p) k s = TKO S srt own kd od k s := TK_congr (fun j hj => by rw [upd_lt (by omega)]; exact ⟨rfl, rfl⟩) s
theorem smW_upd {S : Nat} {srt own kd od : Nat → Nat} {d p : Nat} : fb_sm (wrO S srt own kd (updN od d p)) (d + 1) = fb_sm (wrO S srt own kd od) d + wrO S srt own kd (updN od d p) d := by
  rw [fb_sm_succ]
  congr 1
  exact sm_congr fun k hk => wrO_upd hk
theorem od_upd {P d p : Nat} {od : Nat → Nat} (h : ∀ k, k < d → od k < P) (hp : p < P) : ∀ k, k < d + 1 → updN od d p k < P := fun k hk => by
  unfold updN
  by_cases e : k = d
  · rw [if_pos e]; exact hp
  · rw [if_neg e]; exact h k (by omega)
theorem costD_wr {S P : Nat} {srt own kd : Nat → Nat} (hS : S < 9) (hP : P ≤ S) (hO : ∀ p, p < P → own p < S) {od : Nat → Nat} (hod : ∀ k, k < P → od k < P) : costD S P srt own kd od = fb_sm (wrO S srt own kd od) P := cost_wr hS hP (fun k hk => hO _ (hod k hk))
theorem costD_congr {S P : Nat} {srt own kd : Nat → Nat} (hS : S < 9) (hP : P ≤ S) (hO : ∀ p, p < P → own p < S) : ∀ od od' : Nat → Nat, (∀ k, k < P → od k < P) → (∀ k, k < P → own (od k) = own (od' k) ∧ kd (od k) = kd (od' k)) → costD S P srt own kd od = costD S P srt own kd od' := fun od od' h1 h2 => cost_congr hS hP (fun k hk => hO _ (h1 k hk)) h2
theorem geA_c {S P : Nat} {srt own kd : Nat → Nat} (hS : S < 9) (hP : P ≤ S) (hO : ∀ p, p < P → own p < S) {L : Nat} : ∀ r d od I, d + r = P → (∀ k, k < d → od k < P) → L ≤ fb_sm (wrO S srt own kd od) d → geA P (costD S P srt own kd) L r d od I
  | 0, d, od, I, hd, h1, h2 => by
    have e : d = P := by omega
    subst e
    show L ≤ costD S d srt own kd od
    rw [costD_wr hS hP hO h1]
    exact h2
  | r + 1, d, od, I, hd, h1, h2 => fun p hp hb => geA_c hS hP hO r (d + 1) _ _ (by omega) (od_upd h1 hp) (by rw [smW_upd]; omega)
/-- one more in the set of those who are inside -/
theorem in_more {P I p d : Nat} (hP : P < 9) (hI : I < 2 ^ P) (hd : pc I = d) (hp : p < P) (hb : I.testBit p = false) : I ||| 2 ^ p < 2 ^ P ∧ pc (I ||| 2 ^ p) = d + 1 := by
  refine ⟨Nat.or_lt_two_pow hI (two_lt hp), ?_⟩
  rw [(d_pcor I (Nat.lt_of_lt_of_le hI (d_pw P hP)) p (by omega) hb).1, hd]
theorem in_full {P I : Nat} (hP : P < 9) (hI : I < 2 ^ P) (hd : pc I = P) : ∀ p, p < P → I.testBit p = true := fun p hp => by
  rw [(d_pcm P hP I hI).1 hd]
  exact (d_pcf P hP).2 p hp
/-- whoever comes behind the first d is at least so likely wrong -/
def lbN (S P : Nat) (own kd : Nat → Nat) (T : Nat → Nat) (p : Nat) : Nat := if kd p = 1 then UN - (UN - T (own p)) / (S - P + 1) else T (own p)
theorem wr_ge {S P : Nat} {srt own kd : Nat → Nat} (hS : S < 9) (hP : P ≤ S) (hO : ∀ p, p < P → own p < S) {T : Nat → Nat} {d p : Nat} {od : Nat → Nat} (hd : d < P) (h1 : ∀ k, k < d → od k < P) (hp : p < P) (hT : ∀ s, s < S → T s ≤ TKO S srt own kd od d s) : lbN S P own kd T p ≤ wrO S srt own kd (updN od d p) d := by
  have hoo : ∀ k, k < d + 1 → (fun k => own (updN od d p k)) k < S := fun k hk => hO _ (od_upd h1 hp k hk)
  have hT' := hT (own p) (hO p hp)
  have e : TKO S srt own kd (updN od d p) d (own p) = TKO S srt own kd od d (own p) := TKO_upd (Nat.le_refl _)
  unfold lbN
  by_cases hk : kd p = 1
  · have h := wr_lost (srt := srt) (kd := fun k => kd (updN od d p k)) (P := d + 1) hS (by omega) hoo (show d < d + 1 by omega) (by show kd (updN od d p d) = 1; rw [upd_eq]; exact hk)
    rw [if_pos hk]
    unfold wrO
    rw [h]
    have e2 : TK S srt (fun k => own (updN od d p k)) (fun k => kd (updN od d p k)) d (own (updN od d p d)) = TKO S srt own kd od d (own p) := by rw [upd_eq]; exact e
    rw [e2]
    have h3 : (UN - TKO S srt own kd od d (own p)) / (S - d) ≤ (UN - T (own p)) / (S - P + 1) := Nat.le_trans (Nat.div_le_div_right (Nat.sub_le_sub_left hT' UN)) (Nat.div_le_div_left (by omega) (by omega))
    omega
  · have h := wr_own (srt := srt) (kd := fun k => kd (updN od d p k)) (P := d + 1) hS (by omega) hoo (show d < d + 1 by omega) (by show kd (updN od d p d) ≠ 1; rw [upd_eq]; exact hk)
    rw [if_neg hk]
    unfold wrO
    rw [h]
    have e2 : TK S srt (fun k => own (updN od d p k)) (fun k => kd (updN od d p k)) d (own (updN od d p d)) = TKO S srt own kd od d (own p) := by rw [upd_eq]; exact e
    rw [e2]
    exact hT'
theorem TKO_succ {S P : Nat} {srt own kd : Nat → Nat} (hS : S < 9) (hP : P ≤ S) (hO : ∀ p, p < P → own p < S) {d p s : Nat} {od : Nat → Nat} (hd : d < P) (h1 : ∀ k, k < d → od k < P) (hp : p < P) (hs : s < S) : TKO S srt own kd (updN od d p) (d + 1) s = TKO S srt own kd od d s + nC S srt (fun k => own (updN od d p k)) (fun k => kd (updN od d p k)) d s * Vw S (d + 1) := by
  have hoo : ∀ k, k < d + 1 → (fun k => own (updN od d p k)) k < S := fun k hk => hO _ (od_upd h1 hp k hk)
  have h := TK_succ (srt := srt) (kd := fun k => kd (updN od d p k)) (P := d + 1) hS (by omega) hoo (show d < d + 1 by omega) hs
  have e : TKO S srt own kd (updN od d p) d s = TKO S srt own kd od d s := TKO_upd (Nat.le_refl _)
  unfold TKO at e ⊢
  rw [h, e]
theorem geA_lb {S P : Nat} {srt own kd : Nat → Nat} (hS : S < 9) (hP : P ≤ S) (hO : ∀ p, p < P → own p < S) {L : Nat} {T : Nat → Nat} : ∀ r d od I, d + r = P → (∀ k, k < d → od k < P) → I < 2 ^ P → pc I = d → (∀ s, s < S → T s ≤ TKO S srt own kd od d s) → L ≤ fb_sm (wrO S srt own kd od) d + oS I (lbN S P own kd T) P → geA P (costD S P srt own kd) L r d od I
  | 0, d, od, I, hd, h1, hI, hpc, hT, h2 => by
    have e : d = P := by omega
    subst e
    show L ≤ costD S d srt own kd od
    rw [costD_wr hS hP hO h1]
    rw [oS_full (in_full (by omega) hI hpc)] at h2
    omega
  | r + 1, d, od, I, hd, h1, hI, hpc, hT, h2 => fun p hp hb => by
    obtain ⟨i1, i2⟩ := in_more (by omega) hI hpc hp hb
    have hw := wr_ge hS hP hO (srt := srt) (kd := kd) (show d < P by omega) h1 hp hT
    have ho := oS_add (f := lbN S P own kd T) hp hb
    refine geA_lb hS hP hO (T := T) r (d + 1) _ _ (by omega) (od_upd h1 hp) i1 i2 (fun s hs => ?_) (by rw [smW_upd]; omega)
    rw [TKO_succ hS hP hO (by omega) h1 hp hs]
    have := hT s hs
    omega
/-- all who are outside have lost it: each row costs the same -/
theorem eqA_l {S P : Nat} {srt own kd : Nat → Nat} (hS : S < 9) (hP : P ≤ S) (hO : ∀ p, p < P → own p < S) {q : Nat → Nat} {C : Nat} : ∀ r d od I, d + r = P → (∀ k, k < d → od k < P) → I < 2 ^ P → pc I = d → (∀ p, p < P → I.testBit p = false → kd p = 1) → (∀ s, s < S → UN - TKO S srt own kd od d s = q s * (S - d)) → C = fb_sm (wrO S srt own kd od) d + oS I (fun p => UN - q (own p)) P → eqA P (costD S P srt own kd) C r d od I
  | 0, d, od, I, hd, h1, hI, hpc, hl, hq, h2 => by
    have e : d = P := by omega
    subst e
    show costD S d srt own kd od = C
    rw [costD_wr hS hP hO h1, h2, oS_full (in_full (by omega) hI hpc), Nat.add_zero]
  | r + 1, d, od, I, hd, h1, hI, hpc, hl, hq, h2 => fun p hp hb => by
    obtain ⟨i1, i2⟩ := in_more (by omega) hI hpc hp hb
    have hkp := hl p hp hb
    have ho := oS_add (f := fun p => UN - q (own p)) hp hb
    have hoo : ∀ k, k < d + 1 → (fun k => own (updN od d p k)) k < S := fun k hk => hO _ (od_upd h1 hp k hk)
    have hn : ∀ s, s < S → nC S srt (fun k => own (updN od d p k)) (fun k => kd (updN od d p k)) d s * Vw S (d + 1) = q s := fun s hs => by
      have h := nC_lost (srt := srt) (kd := fun k => kd (updN od d p k)) (P := d + 1) hS (by omega) hoo (show d < d + 1 by omega) hs (by show kd (updN od d p d) = 1; rw [upd_eq]; exact hkp)
      have e : TKO S srt own kd (updN od d p) d s = TKO S srt own kd od d s := TKO_upd (Nat.le_refl _)
      unfold TKO at e
      rw [e] at h
      have h' := hq s hs
      unfold TKO at h'
      rw [h'] at h
      exact Nat.eq_of_mul_eq_mul_right (by omega) h
    refine eqA_l hS hP hO (q := q) r (d + 1) _ _ (by omega) (od_upd h1 hp) i1 i2 (fun p' hp' hb' => hl p' hp' ?_) (fun s hs => ?_) ?_
    · rw [tb_or] at hb'
      cases z : I.testBit p' with
      | false => rfl
      | true => rw [z] at hb'; cases hb'
    · rw [TKO_succ hS hP hO (by omega) h1 hp hs, hn s hs]
      have h' := hq s hs
      have e2 : q s * (S - d) = q s * (S - (d + 1)) + q s := by rw [show S - d = S - (d + 1) + 1 by omega, Nat.mul_add, Nat.mul_one]
      omega
    · rw [smW_upd, h2, ← ho]
      have e3 : wrO S srt own kd (updN od d p) d = UN - q (own p) := by
        unfold wrO wr
        rw [hn _ (hoo d (by omega))]
        show UN - q (own (updN od d p d)) = _
        rw [upd_eq]
      rw [e3]
      show _ = _ + (UN - q (own p)) + _
      omega
/-- among the free seats of the next one -/
def waN (S : Nat) (own kd : Nat → Nat) (T : Nat → Nat) (f p : Nat) : Nat := if kd p = 1 then UN - (UN - T (own p)) / f else T (own p)
theorem waN_next {S P : Nat} {srt own kd : Nat → Nat} (hS : S < 9) (hP : P ≤ S) (hO : ∀ p, p < P → own p < S) {d p : Nat} {od : Nat → Nat} (hd : d < P) (h1 : ∀ k, k < d → od k < P) (hp : p < P) : waN S own kd (TKO S srt own kd od d) (S - d) p = wrO S srt own kd (updN od d p) d := by
  have hoo : ∀ k, k < d + 1 → (fun k => own (updN od d p k)) k < S := fun k hk => hO _ (od_upd h1 hp k hk)
  have e : TKO S srt own kd (updN od d p) d (own p) = TKO S srt own kd od d (own p) := TKO_upd (Nat.le_refl _)
  have e2 : TK S srt (fun k => own (updN od d p k)) (fun k => kd (updN od d p k)) d (own (updN od d p d)) = TKO S srt own kd od d (own p) := by rw [upd_eq]; exact e
  unfold waN
  by_cases hk : kd p = 1
  · have h := wr_lost (srt := srt) (kd := fun k => kd (updN od d p k)) (P := d + 1) hS (by omega) hoo (show d < d + 1 by omega) (by show kd (updN od d p d) = 1; rw [upd_eq]; exact hk)
    rw [if_pos hk]
    unfold wrO
    rw [h, e2]
  · have h := wr_own (srt := srt) (kd := fun k => kd (updN od d p k)) (P := d + 1) hS (by omega) hoo (show d < d + 1 by omega) (by show kd (updN od d p d) ≠ 1; rw [upd_eq]; exact hk)
    rw [if_neg hk]
    unfold wrO
    rw [h, e2]
/-- what the lost ones have of each seat is whole -/
theorem TKO_div {S P : Nat} {srt own kd : Nat → Nat} (hS : S < 9) (hP : P ≤ S) (hO : ∀ p, p < P → own p < S) {d p s : Nat} {od : Nat → Nat} (hd : d < P) (h1 : ∀ k, k < d → od k < P) (hp : p < P) (hk : kd p = 1) (hs : s < S) : UN - TKO S srt own kd od d s = (UN - TKO S srt own kd od d s) / (S - d) * (S - d) := by
  have hoo : ∀ k, k < d + 1 → (fun k => own (updN od d p k)) k < S := fun k hk => hO _ (od_upd h1 hp k hk)
  have h := nC_lost (srt := srt) (kd := fun k => kd (updN od d p k)) (P := d + 1) hS (by omega) hoo (show d < d + 1 by omega) hs (by show kd (updN od d p d) = 1; rw [upd_eq]; exact hk)
  have e : TKO S srt own kd (updN od d p) d s = TKO S srt own kd od d s := TKO_upd (Nat.le_refl _)
  unfold TKO at e ⊢
  rw [e] at h
  rw [← h, Nat.mul_div_cancel _ (by omega)]
