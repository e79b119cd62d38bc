/-! rows without a repetition, their rings -/
def itr (g : Nat → Nat) : Nat → Nat → Nat
  | 0, x => x
  | k + 1, x => g (itr g k x)
def orP (f : Nat → Nat) : Nat → Nat
  | 0 => 0
  | k + 1 => orP f k ||| 2 ^ f k
def prd (g : Nat → Nat) (x : Nat) : Nat → Nat → Nat
  | 0, k => k
  | r + 1, k => if itr g k x = x then k else prd g x r (k + 1)
theorem d_or1 : ∀ t, t < 256 → ∀ k, k < 8 → pc (t ||| 2 ^ k) ≤ pc t + 1 ∧ (t.testBit k = false ∨ t ||| 2 ^ k = t) := by decide +kernel
theorem d_pcm : ∀ n, n < 9 → ∀ t, t < 2 ^ n → (pc t = n → t = 2 ^ n - 1) ∧ pc t ≤ n := by decide +kernel
theorem d_pcf : ∀ n, n < 9 → pc (2 ^ n - 1) = n ∧ ∀ y, y < n → (2 ^ n - 1).testBit y = true := by decide +kernel
theorem tb_or {t x y : Nat} : (t ||| 2 ^ x).testBit y = (t.testBit y || decide (x = y)) := by rw [Nat.testBit_or, Nat.testBit_two_pow]
theorem orP_lt {f : Nat → Nat} {S : Nat} : ∀ n, (∀ k, k < n → f k < S) → orP f n < 2 ^ S
  | 0, _ => Nat.pow_pos (by decide)
  | n + 1, h => Nat.or_lt_two_pow (orP_lt n (fun k hk => h k (by omega))) (two_lt (h n (by omega)))
theorem orP_bit {f : Nat → Nat} {y : Nat} : ∀ n, (orP f n).testBit y = true ↔ ∃ k, k < n ∧ f k = y
  | 0 => by
    show (0 : Nat).testBit y = true ↔ _
    rw [Nat.zero_testBit]
    exact ⟨fun h => (by cases h), fun ⟨k, hk, _⟩ => absurd hk (by omega)⟩
  | n + 1 => by
    show (orP f n ||| 2 ^ f n).testBit y = true ↔ _
    rw [tb_or, Bool.or_eq_true, orP_bit n, decide_eq_true_iff]
    constructor
    · rintro (⟨k, hk, e⟩ | e)
      · exact ⟨k, by omega, e⟩
      · exact ⟨n, by omega, e⟩
    · rintro ⟨k, hk, e⟩
      by_cases q : k = n
      · right; rw [← q]; exact e
      · left; exact ⟨k, by omega, e⟩
theorem orP_pc {f : Nat → Nat} {S : Nat} (hS : S < 9) (m : Nat) : ∀ n, (∀ k, k < m + n → f k < S) → pc (orP f (m + n)) ≤ pc (orP f m) + n
  | 0, _ => by simp
  | n + 1, h => by
    have h1 := orP_pc hS m n (fun k hk => h k (by omega))
    have h2 := orP_lt (S := S) (m + n) (fun k hk => h k (by omega))
    have h3 := (d_or1 (orP f (m + n)) (Nat.lt_of_lt_of_le h2 (d_pw S hS)) (f (m + n)) (by have := h (m + n) (by omega); omega)).1
    show pc (orP f (m + n) ||| 2 ^ f (m + n)) ≤ _
    omega
theorem orP_inj {f : Nat → Nat} {n : Nat} (hn : n < 9) (h : ∀ k, k < n → f k < n) (hp : pc (orP f n) = n) : ∀ i j, i < n → j < n → f i = f j → i = j := by
  have key : ∀ i j, i < j → j < n → f i ≠ f j := fun i j hij hj e => by
    have h2 := orP_lt (S := n) j (fun k hk => h k (by omega))
    have hb : (orP f j).testBit (f j) = true := (orP_bit j).mpr ⟨i, hij, e⟩
    have h3 := (d_or1 (orP f j) (Nat.lt_of_lt_of_le h2 (d_pw n hn)) (f j) (by have := h j hj; omega)).2.resolve_left (by rw [hb]; decide)
    have h4 := orP_pc (f := f) hn 0 j (fun k hk => h k (by omega))
    have h5 := orP_pc (f := f) hn (j + 1) (n - (j + 1)) (fun k hk => h k (by omega))
    have h6 : orP f (j + 1) = orP f j := h3
    have h7 : pc (orP f 0) = 0 := by
      rw [show orP f 0 = 0 from rfl]
      rfl
    rw [h6, show j + 1 + (n - (j + 1)) = n by omega] at h5
    rw [Nat.zero_add, h7] at h4
    omega
  intro i j hi hj e
  rcases Nat.lt_trichotomy i j with q | q | q
  · exact absurd e (key i j q hj)
  · exact q
  · exact absurd e.symm (key j i q hi)
theorem sm_perm {s : Nat → Nat} {n : Nat} (h : ∀ k, k < n → s k < n) (hi : ∀ i j, i < n → j < n → s i = s j → i = j) (hs : ∀ y, y < n → ∃ k, k < n ∧ s k = y) (f : Nat → Nat) : fb_sm (fun k => f (s k)) n = fb_sm f n := by
  have e1 : fb_sm (fun k => f (s k)) n = fb_sm (fun k => fb_sm (fun y => if s k = y then f (s k) else 0) n) n := sm_congr fun k hk => by rw [sm_one, if_pos (h k hk)]
  rw [e1, sm_swap]
  refine sm_congr fun y hy => ?_
  obtain ⟨k, hk, e⟩ := hs y hy
  rw [sm_only (a := k) hk (fun j hj hne => by rw [if_neg (fun q => hne (hi j k hj hk (q.trans e.symm)))]), if_pos e, e]
theorem itr_lt {n : Nat} {g : Nat → Nat} (hg : ∀ x, x < n → g x < n) {x : Nat} (hx : x < n) : ∀ k, itr g k x < n
  | 0 => hx
  | k + 1 => hg _ (itr_lt hg hx k)
theorem itr_add (g : Nat → Nat) (x a : Nat) : ∀ b, itr g (a + b) x = itr g b (itr g a x)
  | 0 => rfl
  | b + 1 => by
    show g (itr g (a + b) x) = g (itr g b (itr g a x))
    rw [itr_add g x a b]
theorem itr_comm (g : Nat → Nat) (x a b : Nat) : itr g b (itr g a x) = itr g a (itr g b x) := by rw [← itr_add, ← itr_add, Nat.add_comm]
theorem itr_inj {n : Nat} {g : Nat → Nat} (hg : ∀ x, x < n → g x < n) (hi : ∀ x y, x < n → y < n → g x = g y → x = y) : ∀ k x y, x < n → y < n → itr g k x = itr g k y → x = y
  | 0, _, _, _, _, e => e
  | k + 1, x, y, hx, hy, e => itr_inj hg hi k x y hx hy (hi _ _ (itr_lt hg hx k) (itr_lt hg hy k) e)
theorem itr_sub {n : Nat} {g : Nat → Nat} (hg : ∀ x, x < n → g x < n) (hi : ∀ x y, x < n → y < n → g x = g y → x = y) {x i j : Nat} (hx : x < n) (hij : i ≤ j) (e : itr g i x = itr g j x) : itr g (j - i) x = x := by
  have h : itr g i (itr g (j - i) x) = itr g i x := by rw [← itr_add, show j - i + i = j by omega, e]
  exact itr_inj hg hi i _ _ (itr_lt hg hx _) hx h
theorem prd_spec {g : Nat → Nat} {x : Nat} : ∀ r k, (∃ m, k ≤ m ∧ m < k + r ∧ itr g m x = x) → k ≤ prd g x r k ∧ prd g x r k < k + r ∧ itr g (prd g x r k) x = x ∧ ∀ j, k ≤ j → j < prd g x r k → itr g j x ≠ x
  | 0, k, ⟨m, h1, h2, _⟩ => absurd h1 (by omega)
  | r + 1, k, ⟨m, h1, h2, h3⟩ => by
    show k ≤ (if itr g k x = x then k else prd g x r (k + 1)) ∧ _
    have e : prd g x (r + 1) k = if itr g k x = x then k else prd g x r (k + 1) := rfl
    rw [e]
    by_cases q : itr g k x = x
    · rw [if_pos q]; exact ⟨Nat.le_refl _, by omega, q, fun j a b => absurd a (by omega)⟩
    · rw [if_neg q]
      obtain ⟨p1, p2, p3, p4⟩ := prd_spec r (k + 1) ⟨m, by by_cases z : k = m; exact absurd (by rw [z]; exact h3) q; omega, by omega, h3⟩
      refine ⟨by omega, by omega, p3, fun j a b => ?_⟩
      by_cases z : j = k
      · rw [z]; exact q
      · exact p4 j (by omega) b
theorem prd_congr {g h : Nat → Nat} {x y : Nat} (e : ∀ k, (itr g k x = x) ↔ (itr h k y = y)) : ∀ r k, prd g x r k = prd h y r k
  | 0, _ => rfl
  | r + 1, k => by
    show (if itr g k x = x then k else prd g x r (k + 1)) = (if itr h k y = y then k else prd h y r (k + 1))
    rw [prd_congr e r (k + 1)]
    simp only [propext (e k)]
/-- the length of the ring of x -/
def rng (n : Nat) (g : Nat → Nat) (x : Nat) : Nat := prd g x n 1
theorem rng_at {n : Nat} {g : Nat → Nat} (hn : n < 9) (hg : ∀ x, x < n → g x < n) (hi : ∀ x y, x < n → y < n → g x = g y → x = y) {x : Nat} (hx : x < n) : 1 ≤ rng n g x ∧ rng n g x ≤ n ∧ itr g (rng n g x) x = x ∧ ∀ j, 1 ≤ j → j < rng n g x → itr g j x ≠ x := by
  have hex : ∃ m, 1 ≤ m ∧ m < 1 + n ∧ itr g m x = x := by
    apply Classical.byContradiction
    intro hno
    have hd : ∀ i j, i < j → j < n + 1 → itr g i x ≠ itr g j x := fun i j hij hj e => hno ⟨j - i, by omega, by omega, itr_sub hg hi hx (by omega) e⟩
    have hp : ∀ k, k ≤ n + 1 → pc (orP (fun i => itr g i x) k) = k := by
      intro k
      induction k with
      | zero =>
        intro _
        rw [show orP (fun i => itr g i x) 0 = 0 from rfl]
        rfl
      | succ k ih =>
        intro hk
        have hlt := orP_lt (f := fun i => itr g i x) (S := n) k (fun i _ => itr_lt hg hx i)
        have hb : (orP (fun i => itr g i x) k).testBit (itr g k x) = false := by
          cases hq : (orP (fun i => itr g i x) k).testBit (itr g k x) with
          | false => rfl
          | true =>
            obtain ⟨i, h1, h2⟩ := (orP_bit k).mp hq
            exact absurd h2 (hd i k h1 (by omega))
        have := (d_pcor _ (Nat.lt_of_lt_of_le hlt (d_pw n hn)) (itr g k x) (by have := itr_lt hg hx k; omega) hb).1
        show pc (orP (fun i => itr g i x) k ||| 2 ^ itr g k x) = k + 1
        rw [this, ih (by omega)]
    have h1 := hp (n + 1) (Nat.le_refl _)
    have h2 := (d_pcm n hn _ (orP_lt (f := fun i => itr g i x) (S := n) (n + 1) (fun i _ => itr_lt hg hx i))).2
    omega
  obtain ⟨p1, p2, p3, p4⟩ := prd_spec (g := g) (x := x) n 1 hex
  exact ⟨p1, by have : prd g x n 1 < 1 + n := p2; show prd g x n 1 ≤ n; omega, p3, p4⟩
theorem rng_itr {n : Nat} {g : Nat → Nat} (hn : n < 9) (hg : ∀ x, x < n → g x < n) (hi : ∀ x y, x < n → y < n → g x = g y → x = y) {x : Nat} (hx : x < n) (i : Nat) : rng n g (itr g i x) = rng n g x := by
  refine prd_congr (fun k => ?_) n 1
  rw [itr_comm]
  exact ⟨fun e => itr_inj hg hi i _ _ (itr_lt hg hx _) hx e, fun e => by rw [e]⟩
/-- a set of whole rings; N rings of more than one, W in them -/
def smS (n D : Nat) (f : Nat → Nat) : Nat := fb_sm (fun y => if D.testBit y = true then f y else 0) n
theorem smS_add {n D x : Nat} {f : Nat → Nat} (hx : x < n) (hD : D.testBit x = false) : smS n (D ||| 2 ^ x) f = smS n D f + f x := by
  unfold smS
  have e : ∀ y, y < n → (if (D ||| 2 ^ x).testBit y = true then f y else 0) = (if D.testBit y = true then f y else 0) + (if x = y then f x else 0) := fun y _ => by
    rw [tb_or]
    by_cases q : x = y
    · subst q; simp [hD]
    · simp [q]
  rw [sm_congr e, fb_sm_add, sm_one, if_pos hx]
def f1 (n : Nat) (g : Nat → Nat) (y : Nat) : Nat := if 1 < rng n g y then 840 / rng n g y else 0
def f2 (n : Nat) (g : Nat → Nat) (y : Nat) : Nat := if 1 < rng n g y then 1 else 0
def RI (n : Nat) (g : Nat → Nat) (D N W : Nat) : Prop := D < 2 ^ n ∧ (∀ y, y < n → D.testBit y = true → D.testBit (g y) = true) ∧ 840 * N = smS n D (f1 n g) ∧ W = smS n D (f2 n g)
theorem RI_itr {n : Nat} {g : Nat → Nat} {D N W : Nat} (hg : ∀ x, x < n → g x < n) (h : RI n g D N W) {x : Nat} (hx : x < n) (hD : D.testBit x = true) : ∀ k, D.testBit (itr g k x) = true
  | 0 => hD
  | k + 1 => h.2.1 _ (itr_lt hg hx k) (RI_itr hg h hx hD k)
/-- not yet come to: the ring's places one by one -/
theorem ring_new {n : Nat} {g : Nat → Nat} (hn : n < 9) (hg : ∀ x, x < n → g x < n) (hi : ∀ x y, x < n → y < n → g x = g y → x = y) {D N W x : Nat} (h : RI n g D N W) (hx : x < n) (hD : D.testBit x = false) {j : Nat} (hj : j < rng n g x) : (D ||| orP (fun i => itr g i x) j).testBit (itr g j x) = false := by
  obtain ⟨r1, r2, r3, r4⟩ := rng_at hn hg hi hx
  rw [Nat.testBit_or]
  have h1 : D.testBit (itr g j x) = false := by
    cases q : D.testBit (itr g j x) with
    | false => rfl
    | true =>
      have := RI_itr hg h (itr_lt hg hx j) q (rng n g x - j)
      rw [← itr_add, show j + (rng n g x - j) = rng n g x by omega, r3, hD] at this
      cases this
  have h2 : (orP (fun i => itr g i x) j).testBit (itr g j x) = false := by
    cases q : (orP (fun i => itr g i x) j).testBit (itr g j x) with
    | false => rfl
    | true =>
      obtain ⟨i, e1, e2⟩ := (orP_bit j).mp q
      exact absurd (itr_sub hg hi hx (by omega) e2) (r4 (j - i) (by omega) (by omega))
  rw [h1, h2]; rfl
theorem ring_sum {n : Nat} {g : Nat → Nat} (hn : n < 9) (hg : ∀ x, x < n → g x < n) (hi : ∀ x y, x < n → y < n → g x = g y → x = y) {D N W x : Nat} (h : RI n g D N W) (hx : x < n) (hD : D.testBit x = false) {f : Nat → Nat} (hf : ∀ i, f (itr g i x) = f x) : ∀ j, j ≤ rng n g x → smS n (D ||| orP (fun i => itr g i x) j) f = smS n D f + j * f x
  | 0, _ => by
    show smS n (D ||| 0) f = _
    rw [Nat.or_zero, Nat.zero_mul, Nat.add_zero]
  | j + 1, hj => by
    show smS n (D ||| (orP (fun i => itr g i x) j ||| 2 ^ itr g j x)) f = _
    rw [← Nat.or_assoc, smS_add (itr_lt hg hx j) (ring_new hn hg hi h hx hD (by omega)), ring_sum hn hg hi h hx hD hf j (by omega), hf j, Nat.add_mul, Nat.one_mul, Nat.add_assoc]
theorem d_840 : ∀ L, L < 9 → (L = 0 ∨ L * (840 / L) = 840) := by decide
theorem ring_RI {n : Nat} {g : Nat → Nat} (hn : n < 9) (hg : ∀ x, x < n → g x < n) (hi : ∀ x y, x < n → y < n → g x = g y → x = y) {D N W x : Nat} (h : RI n g D N W) (hx : x < n) (hD : D.testBit x = false) : RI n g (D ||| orP (fun i => itr g i x) (rng n g x)) (N + (if 1 < rng n g x then 1 else 0)) (W + (if 1 < rng n g x then rng n g x else 0)) := by
  obtain ⟨r1, r2, r3, r4⟩ := rng_at hn hg hi hx
  refine ⟨Nat.or_lt_two_pow h.1 (orP_lt _ fun k _ => itr_lt hg hx k), fun y hy hb => ?_, ?_, ?_⟩
  · rw [Nat.testBit_or, Bool.or_eq_true] at hb ⊢
    rcases hb with hb | hb
    · exact Or.inl (h.2.1 y hy hb)
    · right
      obtain ⟨i, e1, e2⟩ := (orP_bit _).mp hb
      by_cases q : i + 1 = rng n g x
      · refine (orP_bit _).mpr ⟨0, by omega, ?_⟩
        show x = g y
        rw [← e2]
        show x = itr g (i + 1) x
        rw [q, r3]
      · exact (orP_bit _).mpr ⟨i + 1, by omega, by rw [← e2]; rfl⟩
  · rw [ring_sum hn hg hi h hx hD (fun i => by unfold f1; rw [rng_itr hn hg hi hx i]) _ (Nat.le_refl _), ← h.2.2.1, Nat.mul_add]
    congr 1
    unfold f1
    by_cases q : 1 < rng n g x
    · rw [if_pos q, if_pos q, (d_840 (rng n g x) (by omega)).resolve_left (by omega)]
    · rw [if_neg q, if_neg q, Nat.mul_zero, Nat.mul_zero]
  · rw [ring_sum hn hg hi h hx hD (fun i => by unfold f2; rw [rng_itr hn hg hi hx i]) _ (Nat.le_refl _), ← h.2.2.2]
    congr 1
    unfold f2
    by_cases q : 1 < rng n g x
    · rw [if_pos q, if_pos q, Nat.mul_one]
    · rw [if_neg q, if_neg q, Nat.mul_zero]
theorem ring_bit {n : Nat} {g : Nat → Nat} (hn : n < 9) (hg : ∀ x, x < n → g x < n) (hi : ∀ x y, x < n → y < n → g x = g y → x = y) {D x y : Nat} (hx : x < n) (hb : (D ||| orP (fun i => itr g i x) (rng n g x)).testBit y = true) : D.testBit y = true ∨ rng n g y = rng n g x := by
  rw [Nat.testBit_or, Bool.or_eq_true] at hb
  rcases hb with hb | hb
  · exact Or.inl hb
  · obtain ⟨i, e1, e2⟩ := (orP_bit _).mp hb
    right
    rw [← e2]
    exact rng_itr hn hg hi hx i
