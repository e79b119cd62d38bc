/-! sums -/
theorem sm_congr {f g : Nat → Nat} {n : Nat} (h : ∀ k, k < n → f k = g k) : fb_sm f n = fb_sm g n := fb_sm_cong h
theorem sm_zero' {f : Nat → Nat} : ∀ {n : Nat}, (∀ k, k < n → f k = 0) → fb_sm f n = 0
  | 0, _ => rfl
  | n + 1, h => by rw [fb_sm_succ, sm_zero' (fun k hk => h k (by omega)), h n (by omega)]
theorem sm_mulL (c : Nat) (f : Nat → Nat) : ∀ n, fb_sm (fun k => c * f k) n = c * fb_sm f n
  | 0 => rfl
  | n + 1 => by rw [fb_sm_succ, fb_sm_succ, sm_mulL c f n, Nat.mul_add]
theorem sm_mulR (c : Nat) (f : Nat → Nat) : ∀ n, fb_sm (fun k => f k * c) n = fb_sm f n * c
  | 0 => (Nat.zero_mul c).symm
  | n + 1 => by rw [fb_sm_succ, fb_sm_succ, sm_mulR c f n, Nat.add_mul]
theorem sm_swap (f : Nat → Nat → Nat) (m : Nat) : ∀ n, fb_sm (fun x => fb_sm (fun u => f x u) m) n = fb_sm (fun u => fb_sm (fun x => f x u) n) m
  | 0 => (sm_zero' (fun k _ => rfl)).symm
  | n + 1 => by
    rw [fb_sm_succ, sm_swap f m n, ← fb_sm_add]
    rfl
theorem sm_one (a v : Nat) : ∀ n, fb_sm (fun x => if a = x then v else 0) n = if a < n then v else 0
  | 0 => by simp [fb_sm]
  | n + 1 => by
    rw [fb_sm_succ, sm_one a v n]
    by_cases h : a < n
    · rw [if_pos h, if_neg (by omega), if_pos (by omega)]; rfl
    · by_cases e : a = n
      · rw [if_neg h, if_pos e, if_pos (by omega), Nat.zero_add]
      · rw [if_neg h, if_neg e, if_neg (by omega)]
theorem sm_ext {f : Nat → Nat} {m n : Nat} (h : m ≤ n) (hz : ∀ k, m ≤ k → k < n → f k = 0) : fb_sm f n = fb_sm f m := by
  obtain ⟨d, rfl⟩ := Nat.exists_eq_add_of_le h
  rw [fb_sm_split, sm_zero' (fun k hk => hz (m + k) (by omega) (by omega)), Nat.add_zero]
theorem sm_grp (f : Nat → Nat) (c : Nat) : ∀ n, fb_sm f (c * n) = fb_sm (fun u => fb_sm (fun k => f (c * u + k)) c) n
  | 0 => rfl
  | n + 1 => by rw [Nat.mul_succ, fb_sm_split, sm_grp f c n, fb_sm_succ]
theorem sm_sub {f g : Nat → Nat} : ∀ {n : Nat}, (∀ k, k < n → g k ≤ f k) → fb_sm (fun k => f k - g k) n + fb_sm g n = fb_sm f n
  | 0, _ => rfl
  | n + 1, h => by
    have h1 := sm_sub (n := n) (fun k hk => h k (by omega))
    have h2 := h n (by omega)
    rw [fb_sm_succ, fb_sm_succ, fb_sm_succ]
    omega
theorem sm_bits {t : Nat} (h : t < 256) {S : Nat} (hS : S < 9) (ht : t < 2 ^ S) : fb_sm (fun s => if t.testBit s = true then 1 else 0) S = pc t := by
  rw [d_pcsum t h, sm_ext (m := S) (n := 8) (by omega)]
  · refine sm_congr fun k _ => ?_
    cases t.testBit k <;> rfl
  · intro k hk _
    have : t.testBit k = false := Nat.testBit_lt_two_pow (Nat.lt_of_lt_of_le ht (Nat.pow_le_pow_right (by decide) hk))
    rw [this]; rfl
/-! one sits down -/
def stp (M S : Nat) (ch : Nat → Nat) (ok : Nat → Bool) (tau : Nat → Nat → Nat) (pt : Nat) (D : Nat → Nat) : Nat → Nat :=
  fun x => fb_sm (fun u => fb_sm (fun s => if (ch u).testBit s = true ∧ ok s = true ∧ tau u s = x then D u * (pt / pc (ch u)) else 0) S) M
theorem stp_dual {M S : Nat} {ch : Nat → Nat} {ok : Nat → Bool} {tau : Nat → Nat → Nat} {pt : Nat} {D : Nat → Nat} (φ : Nat → Nat) (h : ∀ u, u < M → D u ≠ 0 → ∀ s, s < S → (ch u).testBit s = true → tau u s < M) :
    fb_sm (fun x => φ x * stp M S ch ok tau pt D x) M = fb_sm (fun u => fb_sm (fun s => if (ch u).testBit s = true ∧ ok s = true then φ (tau u s) * (D u * (pt / pc (ch u))) else 0) S) M := by
  unfold stp
  have e1 : ∀ x, φ x * fb_sm (fun u => fb_sm (fun s => if (ch u).testBit s = true ∧ ok s = true ∧ tau u s = x then D u * (pt / pc (ch u)) else 0) S) M = fb_sm (fun u => fb_sm (fun s => φ x * (if (ch u).testBit s = true ∧ ok s = true ∧ tau u s = x then D u * (pt / pc (ch u)) else 0)) S) M := fun x => by
    rw [← sm_mulL]
    exact sm_congr fun u _ => (sm_mulL _ _ _).symm
  rw [sm_congr (fun x _ => e1 x), sm_swap]
  refine sm_congr fun u hu => ?_
  rw [sm_swap]
  refine sm_congr fun s hs => ?_
  by_cases hb : (ch u).testBit s = true ∧ ok s = true
  · rw [if_pos hb]
    have e2 : ∀ x, φ x * (if (ch u).testBit s = true ∧ ok s = true ∧ tau u s = x then D u * (pt / pc (ch u)) else 0) = if tau u s = x then φ (tau u s) * (D u * (pt / pc (ch u))) else 0 := fun x => by
      by_cases e : tau u s = x
      · rw [if_pos ⟨hb.1, hb.2, e⟩, if_pos e, e]
      · rw [if_neg (fun q => e q.2.2), if_neg e, Nat.mul_zero]
    rw [sm_congr (fun x _ => e2 x), sm_one]
    by_cases hD : D u = 0
    · simp [hD]
    · rw [if_pos (h u hu hD s hs hb.1)]
  · rw [if_neg hb]
    refine sm_zero' fun x _ => ?_
    rw [if_neg (fun q => hb ⟨q.1, q.2.1⟩), Nat.mul_zero]
def dp (M S : Nat) (ch : Nat → Nat → Nat) (ok : Nat → Nat → Bool) (tau : Nat → Nat → Nat → Nat) : Nat → Nat → Nat
  | 0 => fun x => if x = 0 then 1 else 0
  | k + 1 => stp M S (ch k) (ok k) (tau k) (lc (S - k)) (dp M S ch ok tau k)
def orT (u s : Nat) : Nat := u ||| 2 ^ s
/-- choices of the k-th, as far as they are used: of sets of k seats -/
def okCh (S P : Nat) (ch : Nat → Nat → Nat) : Prop := ∀ k u, k < P → u < 2 ^ S → pc u = k → ch k u < 2 ^ S ∧ (∀ s, (ch k u).testBit s = true → s < S ∧ u.testBit s = false) ∧ 1 ≤ pc (ch k u) ∧ pc (ch k u) ≤ S - k
theorem dp_sup {S P : Nat} {ch : Nat → Nat → Nat} {ok : Nat → Nat → Bool} (hS : S < 9) (hP : P ≤ S) (h : okCh S P ch) : ∀ k, k ≤ P → ∀ x, dp (2 ^ S) S ch ok (fun _ => orT) k x ≠ 0 → x < 2 ^ S ∧ pc x = k
  | 0, _, x, hx => by
    have e : x = 0 := by
      by_cases e : x = 0
      · exact e
      · exact absurd (if_neg e) hx
    subst e
    exact ⟨Nat.pow_pos (by decide), rfl⟩
  | k + 1, hk, x, hx => by
    have ih := dp_sup (ok := ok) hS hP h k (by omega)
    apply Classical.byContradiction
    intro hn
    apply hx
    show stp _ _ _ _ _ _ _ x = 0
    unfold stp
    refine sm_zero' fun u hu => sm_zero' fun s hs => ?_
    by_cases hc : (ch k u).testBit s = true ∧ ok k s = true ∧ orT u s = x
    · rw [if_pos hc]
      by_cases hD : dp (2 ^ S) S ch ok (fun _ => orT) k u = 0
      · rw [hD, Nat.zero_mul]
      · obtain ⟨h1, h2⟩ := ih u hD
        obtain ⟨-, h3, -⟩ := h k u (by omega) h1 h2
        obtain ⟨h4, h5⟩ := h3 s hc.1
        have hu8 : u < 256 := Nat.lt_of_lt_of_le h1 (d_pw S hS)
        obtain ⟨g1, -, -⟩ := d_pcor u hu8 s (by omega) h5
        have e : u ||| 2 ^ s = x := hc.2.2
        exact absurd ⟨by rw [← e]; exact Nat.or_lt_two_pow h1 (two_lt h4), by rw [← e, g1, h2]⟩ hn
    · rw [if_neg hc]
theorem dp_tau {S P : Nat} {ch : Nat → Nat → Nat} {ok : Nat → Nat → Bool} (hS : S < 9) (hP : P ≤ S) (h : okCh S P ch) {k : Nat} (hk : k < P) : ∀ u, u < 2 ^ S → dp (2 ^ S) S ch ok (fun _ => orT) k u ≠ 0 → ∀ s, s < S → (ch k u).testBit s = true → orT u s < 2 ^ S := fun u hu _ s hs _ => Nat.or_lt_two_pow hu (two_lt hs)
/-- what the choices of one set weigh together -/
theorem ch_mass {S P : Nat} {ch : Nat → Nat → Nat} (hS : S < 9) (hP : P ≤ S) (h : okCh S P ch) {k u : Nat} (hk : k < P) (hu : u < 2 ^ S) (hp : pc u = k) : fb_sm (fun s => if (ch k u).testBit s = true then 1 else 0) S = pc (ch k u) ∧ pc (ch k u) * (lc (S - k) / pc (ch k u)) = lc (S - k) := by
  obtain ⟨h1, -, h3, h4⟩ := h k u hk hu hp
  refine ⟨sm_bits (Nat.lt_of_lt_of_le h1 (d_pw S hS)) hS h1, ?_⟩
  have := d_lcdvd (S - k) (by omega) (pc (ch k u)) (by omega) ⟨h3, h4⟩
  exact Nat.mul_div_cancel' (Nat.dvd_of_mod_eq_zero this.1)
theorem dp_le {S P : Nat} {ch : Nat → Nat → Nat} {ok : Nat → Nat → Bool} (hS : S < 9) (hP : P ≤ S) (h : okCh S P ch) : ∀ k, k ≤ P → fb_sm (dp (2 ^ S) S ch ok (fun _ => orT) k) (2 ^ S) ≤ Aw S k
  | 0, _ => by
    show fb_sm (fun x => if x = 0 then 1 else 0) (2 ^ S) ≤ 1
    rw [sm_congr (g := fun x => if 0 = x then 1 else 0) (fun x _ => by simp [eq_comm]), sm_one]
    split <;> omega
  | k + 1, hk => by
    have ih := dp_le (ok := ok) hS hP h k (by omega)
    have e := stp_dual (pt := lc (S - k)) (ok := ok k) (fun _ => 1) (dp_tau (ok := ok) hS hP h (show k < P by omega))
    have e1 : fb_sm (dp (2 ^ S) S ch ok (fun _ => orT) (k + 1)) (2 ^ S) = fb_sm (fun x => 1 * stp (2 ^ S) S (ch k) (ok k) orT (lc (S - k)) (dp (2 ^ S) S ch ok (fun _ => orT) k) x) (2 ^ S) := sm_congr fun x _ => (Nat.one_mul _).symm
    rw [e1, e]
    show _ ≤ Aw S k * lc (S - k)
    refine Nat.le_trans ?_ (Nat.mul_le_mul_right _ ih)
    rw [← sm_mulR]
    refine fb_sm_le fun u hu => ?_
    by_cases hD : dp (2 ^ S) S ch ok (fun _ => orT) k u = 0
    · rw [hD]
      exact Nat.le_of_eq (by rw [sm_zero' (fun s _ => by simp), Nat.zero_mul])
    · obtain ⟨h1, h2⟩ := dp_sup hS hP h k (by omega) u hD
      obtain ⟨m1, m2⟩ := ch_mass hS hP h (show k < P by omega) h1 h2
      refine Nat.le_trans (fb_sm_le (g := fun s => (if (ch k u).testBit s = true then 1 else 0) * (dp (2 ^ S) S ch ok (fun _ => orT) k u * (lc (S - k) / pc (ch k u)))) fun s _ => ?_) ?_
      · by_cases hb : (ch k u).testBit s = true
        · by_cases ho : ok k s = true <;> simp [hb, ho]
        · simp [hb]
      · rw [sm_mulR, m1, Nat.mul_left_comm, m2]
        exact Nat.le_refl _
theorem dp_bd {S P : Nat} {ch : Nat → Nat → Nat} {ok : Nat → Nat → Bool} (hS : S < 9) (hP : P ≤ S) (h : okCh S P ch) {k : Nat} (hk : k ≤ P) (x : Nat) : dp (2 ^ S) S ch ok (fun _ => orT) k x ≤ Aw S k := by
  by_cases hD : dp (2 ^ S) S ch ok (fun _ => orT) k x = 0
  · rw [hD]; exact Nat.zero_le _
  · obtain ⟨h1, -⟩ := dp_sup hS hP h k hk x hD
    have := fb_sm_part (dp (2 ^ S) S ch ok (fun _ => orT) k) h1
    have := dp_le (ok := ok) hS hP h k hk
    omega
/-- where nothing is barred, all ways are there -/
theorem dp_all {S P : Nat} {ch : Nat → Nat → Nat} (hS : S < 9) (hP : P ≤ S) (h : okCh S P ch) : ∀ k, k ≤ P → fb_sm (dp (2 ^ S) S ch (fun _ _ => true) (fun _ => orT) k) (2 ^ S) = Aw S k
  | 0, _ => by
    show fb_sm (fun x => if x = 0 then 1 else 0) (2 ^ S) = 1
    rw [sm_congr (g := fun x => if 0 = x then 1 else 0) (fun x _ => by simp [eq_comm]), sm_one, if_pos (Nat.pow_pos (by decide))]
  | k + 1, hk => by
    have ih := dp_all hS hP h k (by omega)
    have e := stp_dual (pt := lc (S - k)) (ok := fun _ => true) (fun _ => 1) (dp_tau (ok := fun _ _ => true) hS hP h (show k < P by omega))
    have e1 : fb_sm (dp (2 ^ S) S ch (fun _ _ => true) (fun _ => orT) (k + 1)) (2 ^ S) = fb_sm (fun x => 1 * stp (2 ^ S) S (ch k) (fun _ => true) orT (lc (S - k)) (dp (2 ^ S) S ch (fun _ _ => true) (fun _ => orT) k) x) (2 ^ S) := sm_congr fun x _ => (Nat.one_mul _).symm
    rw [e1, e]
    show _ = Aw S k * lc (S - k)
    rw [← ih, ← sm_mulR]
    refine sm_congr fun u hu => ?_
    by_cases hD : dp (2 ^ S) S ch (fun _ _ => true) (fun _ => orT) k u = 0
    · rw [hD, sm_zero' (fun s _ => by simp), Nat.zero_mul]
    · obtain ⟨h1, h2⟩ := dp_sup hS hP h k (by omega) u hD
      obtain ⟨m1, m2⟩ := ch_mass hS hP h (show k < P by omega) h1 h2
      rw [sm_congr (g := fun s => (if (ch k u).testBit s = true then 1 else 0) * (dp (2 ^ S) S ch (fun _ _ => true) (fun _ => orT) k u * (lc (S - k) / pc (ch k u)))) fun s _ => by
        by_cases hb : (ch k u).testBit s = true <;> simp [hb]]
      rw [sm_mulR, m1, Nat.mul_left_comm, m2]
