/-! who can have been the loser: ways, and ways on -/
theorem stp_congr {M S : Nat} {ch ch' : Nat → Nat} {ok ok' : Nat → Bool} {tau : Nat → Nat → Nat} {pt : Nat} {D D' : Nat → Nat} (h1 : ∀ u, u < M → D u = D' u) (h2 : ∀ u, u < M → D u ≠ 0 → ch u = ch' u) (h3 : ∀ s, s < S → ok s = ok' s) (x : Nat) : stp M S ch ok tau pt D x = stp M S ch' ok' tau pt D' x := by
  unfold stp
  refine sm_congr fun u hu => sm_congr fun s hs => ?_
  rw [← h1 u hu, ← h3 s hs]
  by_cases hD : D u = 0
  · rw [hD, Nat.zero_mul, Nat.zero_mul]; simp
  · rw [h2 u hu hD]
theorem dp_congr {S : Nat} {ch ch' : Nat → Nat → Nat} {ok ok' : Nat → Nat → Bool} : ∀ k, (∀ j, j < k → ∀ u, u < 2 ^ S → dp (2 ^ S) S ch ok (fun _ => orT) j u ≠ 0 → ch j u = ch' j u) → (∀ j, j < k → ∀ s, s < S → ok j s = ok' j s) → ∀ x, dp (2 ^ S) S ch ok (fun _ => orT) k x = dp (2 ^ S) S ch' ok' (fun _ => orT) k x
  | 0, _, _, _ => rfl
  | k + 1, h1, h2, x => stp_congr (fun u _ => dp_congr k (fun j hj => h1 j (by omega)) (fun j hj => h2 j (by omega)) u) (fun u hu hD => h1 k (by omega) u hu hD) (fun s hs => h2 k (by omega) s hs) x
theorem dp_dead {S : Nat} {ch : Nat → Nat → Nat} {ok : Nat → Nat → Bool} {p : Nat} (h : ∀ s, s < S → ok p s = false) : ∀ k, p < k → ∀ x, dp (2 ^ S) S ch ok (fun _ => orT) k x = 0
  | 0, hk, _ => absurd hk (by omega)
  | k + 1, hk, x => by
    show stp _ _ _ _ _ _ _ x = 0
    unfold stp
    refine sm_zero' fun u _ => sm_zero' fun s hs => ?_
    by_cases q : p = k
    · subst q
      rw [if_neg (fun z => by rw [h s hs] at z; exact absurd z.2.1 (by decide))]
    · rw [dp_dead h k (by omega) u, Nat.zero_mul]; simp
theorem sm_ne {f : Nat → Nat} : ∀ {n : Nat}, fb_sm f n ≠ 0 ↔ ∃ k, k < n ∧ f k ≠ 0
  | 0 => ⟨fun h => absurd rfl h, fun ⟨k, hk, _⟩ => absurd hk (by omega)⟩
  | n + 1 => by
    rw [fb_sm_succ]
    constructor
    · intro h
      by_cases q : f n = 0
      · obtain ⟨k, k1, k2⟩ := (sm_ne (f := f) (n := n)).mp (by omega)
        exact ⟨k, by omega, k2⟩
      · exact ⟨n, by omega, q⟩
    · rintro ⟨k, k1, k2⟩
      by_cases q : k = n
      · subst q; omega
      · have := (sm_ne (f := f) (n := n)).mpr ⟨k, by omega, k2⟩
        omega
/-- from the set u, of k seats, r more can sit down -/
def coK (S : Nat) (ch : Nat → Nat → Nat) (ok : Nat → Nat → Bool) : Nat → Nat → Nat → Prop
  | 0, _, _ => True
  | r + 1, k, u => ∃ s, s < S ∧ (ch k u).testBit s = true ∧ ok k s = true ∧ coK S ch ok r (k + 1) (orT u s)
theorem coK_congr {S : Nat} {ch : Nat → Nat → Nat} {ok ok' : Nat → Nat → Bool} : ∀ r k u, (∀ j, k ≤ j → ∀ s, s < S → ok j s = ok' j s) → (coK S ch ok r k u ↔ coK S ch ok' r k u)
  | 0, _, _, _ => Iff.rfl
  | r + 1, k, u, h => by
    show (∃ s, s < S ∧ (ch k u).testBit s = true ∧ ok k s = true ∧ coK S ch ok r (k + 1) (orT u s)) ↔ (∃ s, s < S ∧ (ch k u).testBit s = true ∧ ok' k s = true ∧ coK S ch ok' r (k + 1) (orT u s))
    constructor
    · rintro ⟨s, s1, s2, s3, s4⟩
      exact ⟨s, s1, s2, by rw [← h k (Nat.le_refl _) s s1]; exact s3, (coK_congr r (k + 1) _ (fun j hj => h j (by omega))).mp s4⟩
    · rintro ⟨s, s1, s2, s3, s4⟩
      exact ⟨s, s1, s2, by rw [h k (Nat.le_refl _) s s1]; exact s3, (coK_congr r (k + 1) _ (fun j hj => h j (by omega))).mpr s4⟩
theorem dp_step {S P : Nat} {ch : Nat → Nat → Nat} {ok : Nat → Nat → Bool} (hS : S < 9) (hP : P ≤ S) (h : okCh S P ch) {k : Nat} (hk : k < P) {v : Nat} : dp (2 ^ S) S ch ok (fun _ => orT) (k + 1) v ≠ 0 ↔ ∃ u s, u < 2 ^ S ∧ s < S ∧ dp (2 ^ S) S ch ok (fun _ => orT) k u ≠ 0 ∧ (ch k u).testBit s = true ∧ ok k s = true ∧ orT u s = v := by
  show fb_sm _ _ ≠ 0 ↔ _
  rw [sm_ne]
  constructor
  · rintro ⟨u, hu, h1⟩
    obtain ⟨s, hs, h2⟩ := sm_ne.mp h1
    by_cases q : (ch k u).testBit s = true ∧ ok k s = true ∧ orT u s = v
    · rw [if_pos q] at h2
      exact ⟨u, s, hu, hs, fun z => by (rw [z, Nat.zero_mul] at h2; exact h2 rfl), q⟩
    · rw [if_neg q] at h2; exact absurd rfl h2
  · rintro ⟨u, s, hu, hs, hD, q⟩
    refine ⟨u, hu, sm_ne.mpr ⟨s, hs, ?_⟩⟩
    rw [if_pos q]
    obtain ⟨h1, h2⟩ := dp_sup hS hP h k (by omega) u hD
    obtain ⟨-, m2⟩ := ch_mass hS hP h hk h1 h2
    have hl := (d_lcdvd (S - k) (by omega) 1 (by omega) ⟨by omega, by omega⟩).2.1
    intro z
    rcases Nat.mul_eq_zero.mp z with z | z
    · exact hD z
    · rw [z, Nat.mul_zero] at m2; omega
/-- what comes to an end at last, cut at any place -/
theorem dp_cut {S P : Nat} {ch : Nat → Nat → Nat} {ok : Nat → Nat → Bool} (hS : S < 9) (hP : P ≤ S) (h : okCh S P ch) : ∀ r j, j + r = P → ((∃ x, x < 2 ^ S ∧ dp (2 ^ S) S ch ok (fun _ => orT) P x ≠ 0) ↔ ∃ u, u < 2 ^ S ∧ dp (2 ^ S) S ch ok (fun _ => orT) j u ≠ 0 ∧ coK S ch ok r j u)
  | 0, j, hj => by
    have e : j = P := by omega
    subst e
    exact ⟨fun ⟨x, h1, h2⟩ => ⟨x, h1, h2, trivial⟩, fun ⟨x, h1, h2, _⟩ => ⟨x, h1, h2⟩⟩
  | r + 1, j, hj => by
    rw [dp_cut hS hP h r (j + 1) (by omega)]
    constructor
    · rintro ⟨v, v1, v2, v3⟩
      obtain ⟨u, s, u1, s1, u2, u3, u4, u5⟩ := (dp_step hS hP h (show j < P by omega)).mp v2
      exact ⟨u, u1, u2, s, s1, u3, u4, by rw [u5]; exact v3⟩
    · rintro ⟨u, u1, u2, s, s1, s2, s3, s4⟩
      exact ⟨orT u s, Nat.or_lt_two_pow u1 (two_lt s1), (dp_step hS hP h (show j < P by omega)).mpr ⟨u, s, u1, s1, u2, s2, s3, rfl⟩, s4⟩
/-- k sits on s, and all is as it may be -/
def anK (S P : Nat) (ch : Nat → Nat → Nat) (ok : Nat → Nat → Bool) (k s : Nat) : Prop := ∃ u, u < 2 ^ S ∧ dp (2 ^ S) S ch ok (fun _ => orT) k u ≠ 0 ∧ (ch k u).testBit s = true ∧ ok k s = true ∧ coK S ch ok (P - (k + 1)) (k + 1) (orT u s)
def onK (ok : Nat → Nat → Bool) (p s : Nat) : Nat → Nat → Bool := fun k t => ok k t && (decide (k ≠ p) || decide (t = s))
theorem an_on {S P : Nat} {ch : Nat → Nat → Nat} {ok : Nat → Nat → Bool} (hS : S < 9) (hP : P ≤ S) (h : okCh S P ch) {p s : Nat} (hp : p < P) (hs : s < S) : fb_sm (dp (2 ^ S) S ch (onK ok p s) (fun _ => orT) P) (2 ^ S) ≠ 0 ↔ anK S P ch ok p s := by
  rw [sm_ne, dp_cut hS hP h (P - p) p (by omega)]
  have e1 : ∀ u, dp (2 ^ S) S ch (onK ok p s) (fun _ => orT) p u = dp (2 ^ S) S ch ok (fun _ => orT) p u := fun u => dp_congr p (fun _ _ _ _ _ => rfl) (fun j hj t _ => by unfold onK; rw [decide_eq_true (show j ≠ p by omega), Bool.true_or, Bool.and_true]) u
  obtain ⟨r, hr⟩ : ∃ r, P - p = r + 1 := ⟨P - p - 1, by omega⟩
  have e2 : P - (p + 1) = r := by omega
  unfold anK
  rw [hr, e2]
  constructor
  · rintro ⟨u, u1, u2, t, t1, t2, t3, t4⟩
    have ht : ok p t = true ∧ t = s := by
      unfold onK at t3
      rw [Bool.and_eq_true, decide_eq_false (show ¬ (p ≠ p) from fun z => z rfl), Bool.false_or, decide_eq_true_iff] at t3
      exact t3
    obtain ⟨ht1, rfl⟩ := ht
    exact ⟨u, u1, by rw [← e1 u]; exact u2, t2, ht1, (coK_congr r (p + 1) _ (fun j hj t _ => by unfold onK; rw [decide_eq_true (show j ≠ p by omega), Bool.true_or, Bool.and_true])).mp t4⟩
  · rintro ⟨u, u1, u2, u3, u4, u5⟩
    refine ⟨u, u1, by rw [e1 u]; exact u2, s, hs, u3, ?_, (coK_congr r (p + 1) _ (fun j hj t _ => by unfold onK; rw [decide_eq_true (show j ≠ p by omega), Bool.true_or, Bool.and_true])).mpr u5⟩
    unfold onK
    rw [u4, decide_eq_true (rfl : s = s), Bool.or_true]; rfl
/-! where each may sit, by what was seen -/
def alS (S P : Nat) (sw sl : Nat → Int32) : Nat → Nat → Nat
  | 0, _ => 2 ^ S - 1
  | i + 1, p => if nI P ≤ sw i ∨ ¬ sl i < nI S then 0 else if sw i = -1 then alS S P sw sl i p &&& (255 ^^^ 2 ^ (sl i).toNatClampNeg) else if sw i = nI p then alS S P sw sl i p &&& 2 ^ (sl i).toNatClampNeg else alS S P sw sl i p
theorem alS_succ {S P : Nat} {sw sl : Nat → Int32} {i p : Nat} : alS S P sw sl (i + 1) p = if nI P ≤ sw i ∨ ¬ sl i < nI S then 0 else if sw i = -1 then alS S P sw sl i p &&& (255 ^^^ 2 ^ (sl i).toNatClampNeg) else if sw i = nI p then alS S P sw sl i p &&& 2 ^ (sl i).toNatClampNeg else alS S P sw sl i p := rfl
theorem alS_lt {S P : Nat} {sw sl : Nat → Int32} {p : Nat} : ∀ i, alS S P sw sl i p < 2 ^ S
  | 0 => by
    have : 0 < 2 ^ S := Nat.pow_pos (by decide)
    show 2 ^ S - 1 < 2 ^ S
    omega
  | i + 1 => by
    have ih := alS_lt (S := S) (P := P) (sw := sw) (sl := sl) (p := p) i
    have : 0 < 2 ^ S := Nat.pow_pos (by decide)
    show (if _ then 0 else if _ then _ else if _ then _ else _) < _
    split
    · exact this
    · split
      · exact and_lt_l ih
      · split
        · exact and_lt_l ih
        · exact ih
theorem alS_z {S P : Nat} {sw sl : Nat → Int32} {p i : Nat} (h : alS S P sw sl i p = 0) : ∀ d, alS S P sw sl (i + d) p = 0
  | 0 => h
  | d + 1 => by
    have ih := alS_z h d
    rw [← Nat.add_assoc, alS_succ, ih]
    simp
