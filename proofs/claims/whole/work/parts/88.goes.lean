/-! the model: the next row of these -/
def swN (x : Nat → Nat) (a b : Nat) : Nat → Nat := fun i => if i = b then x a else if i = a then x b else x i
def rvN : Nat → (Nat → Nat) → Nat → Nat → Nat → Nat
  | 0, x, _, _ => x
  | r + 1, x, a, b => if b ≤ a then x else rvN r (swN x a b) (a + 1) (b - 1)
def jS (x : Nat → Nat) (k : Nat) : Nat → Nat
  | 0 => 0
  | c + 1 => if x k ≤ x c then c else jS x k c
def kS (x : Nat → Nat) : Nat → Option Nat
  | 0 => none
  | c + 1 => if x c ≤ x (c + 1) then some c else kS x c
def goF (P : Nat) (x : Nat → Nat) : Option (Nat → Nat) := match kS x (P - 1) with
  | none => none
  | some k => some (rvN 8 (swN x k (jS x k P)) (k + 1) (P - 1))
theorem v_swaps {P a b : Nat} (hP : P ≤ 8) (ha : a < P) (hb : b < P) {o : Nat → Int32} {x : Nat → Nat} (h : ∀ k, k < P → o k = nI (x k)) : ∃ o', (∀ k, k < P → o' k = nI (swN x a b k)) ∧ p_X8_swaps o (nI a) (nI b) = some o' := by
  unfold p_X8_swaps p_X8_swaps_b0
  simp only [inB_nI (show a < 8 by omega) (by decide), inB_nI (show b < 8 by omega) (by decide), gd_true, nm_def, nI_clamp (show a < 2 ^ 31 by omega), nI_clamp (show b < 2 ^ 31 by omega)]
  refine ⟨_, fun k hk => ?_, rfl⟩
  rw [upd_at, upd_at]
  unfold swN
  by_cases e : k = b
  · rw [if_pos e, if_pos e]; exact h a ha
  · rw [if_neg e, if_neg e]
    by_cases e2 : k = a
    · rw [if_pos e2, if_pos e2]; exact h b hb
    · rw [if_neg e2, if_neg e2]; exact h k hk
theorem go_78 {P : Nat} (hP : P ≤ 8) : ∀ (r a b fuel : Nat) (o : Nat → Int32) (x : Nat → Nat), b ≤ a + r → a ≤ P → b < P → r < fuel → (∀ k, k < P → o k = nI (x k)) → ∃ o', (∀ k, k < P → o' k = nI (rvN r x a b k)) ∧ p_X8_goesOn_b78 fuel o (nI a) (nI b) = some (1, o') := by
  intro r
  induction r with
  | zero =>
    intro a b fuel o x hr ha hb hf h
    obtain ⟨f, rfl⟩ : ∃ f, fuel = f + 1 := ⟨fuel - 1, by omega⟩
    refine ⟨o, h, ?_⟩
    show p_X8_goesOn_b78x _ _ _ _ = _
    unfold p_X8_goesOn_b78x
    rw [if_pos (nI_le (by omega) (by omega))]
  | succ r ih =>
    intro a b fuel o x hr ha hb hf h
    obtain ⟨f, rfl⟩ : ∃ f, fuel = f + 1 := ⟨fuel - 1, by omega⟩
    have hs : rvN (r + 1) x a b = if b ≤ a then x else rvN r (swN x a b) (a + 1) (b - 1) := rfl
    show ∃ o', _ ∧ p_X8_goesOn_b78x _ _ _ _ = _
    unfold p_X8_goesOn_b78x
    by_cases q : b ≤ a
    · rw [hs, if_pos q, if_pos (nI_le q (by omega))]
      exact ⟨o, h, rfl⟩
    · obtain ⟨b', rfl⟩ : ∃ b', b = b' + 1 := ⟨b - 1, by omega⟩
      obtain ⟨o1, e1, e2⟩ := v_swaps hP (show a < P by omega) hb h
      rw [hs, if_neg q, if_neg (nI_ge (by omega) (by omega)), e2, b1_some, nm_def, nm_def, nI_1, pk_m1]
      exact ih (a + 1) b' f o1 _ (by omega) (by omega) (by omega) (by omega) e1
theorem jS_lt {x : Nat → Nat} {k : Nat} : ∀ c, k < c → jS x k c < c
  | 0, h => absurd h (by omega)
  | c + 1, h => by
    show (if x k ≤ x c then c else jS x k c) < c + 1
    by_cases q : x k ≤ x c
    · rw [if_pos q]; omega
    · rw [if_neg q]
      by_cases e : k = c
      · subst e; exact absurd (Nat.le_refl _) q
      · have := jS_lt (x := x) (k := k) c (by omega)
        omega
theorem go_41 {P k : Nat} (hP : P ≤ 8) {o : Nat → Int32} {x : Nat → Nat} (hx : ∀ k, k < P → x k < 2 ^ 30) (h : ∀ k, k < P → o k = nI (x k)) : ∀ (c fuel : Nat), k ≤ c → c < P → c < fuel → ∃ o', (∀ i, i < P → o' i = nI (rvN 8 (swN x k (jS x k (c + 1))) (k + 1) (P - 1) i)) ∧ p_X8_goesOn_b41 fuel o (nI P) (nI k) (nI c) = some (1, o') := by
  intro c
  induction c with
  | zero =>
    intro fuel hk hc hf
    obtain ⟨f, rfl⟩ : ∃ f, fuel = f + 1 := ⟨fuel - 1, by omega⟩
    have e : k = 0 := by omega
    subst e
    have hj : jS x 0 (0 + 1) = 0 := by show (if x 0 ≤ x 0 then 0 else _) = 0; rw [if_pos (Nat.le_refl _)]
    obtain ⟨o1, e1, e2⟩ := v_swaps hP hc hc h
    obtain ⟨o2, e3, e4⟩ := go_78 hP 8 (0 + 1) (P - 1) 4096 o1 _ (by omega) (by omega) (by omega) (by omega) e1
    refine ⟨o2, fun i hi => by rw [hj]; exact e3 i hi, ?_⟩
    show p_X8_goesOn_b41x _ _ _ _ _ = _
    unfold p_X8_goesOn_b41x
    rw [inB_nI (show 0 < 8 by omega) (by decide), gd_true, gd_true, if_pos (Int32.le_refl _), e2, b1_some, nm_def, nm_def, nI_1, L1, pk_sub (by omega)]
    exact e4
  | succ c ih =>
    intro fuel hk hc hf
    obtain ⟨f, rfl⟩ : ∃ f, fuel = f + 1 := ⟨fuel - 1, by omega⟩
    have hj : jS x k (c + 1 + 1) = if x k ≤ x (c + 1) then c + 1 else jS x k (c + 1) := rfl
    have ec : (nI (x k) ≤ nI (x (c + 1))) = (x k ≤ x (c + 1)) := propext (nI_leI (by have := hx k (by omega); omega) (by have := hx (c + 1) (by omega); omega))
    show ∃ o', _ ∧ p_X8_goesOn_b41x _ _ _ _ _ = _
    unfold p_X8_goesOn_b41x
    rw [inB_nI (show c + 1 < 8 by omega) (by decide), inB_nI (show k < 8 by omega) (by decide), gd_true, gd_true, nI_clamp (by omega), nI_clamp (by omega), h k (by omega), h (c + 1) hc]
    simp only [ec]
    by_cases q : x k ≤ x (c + 1)
    · obtain ⟨o1, e1, e2⟩ := v_swaps hP (show k < P by omega) hc h
      obtain ⟨o2, e3, e4⟩ := go_78 hP 8 (k + 1) (P - 1) 4096 o1 _ (by omega) (by omega) (by omega) (by omega) e1
      rw [hj, if_pos q, if_pos q, e2, b1_some, nm_def, nm_def, nI_1, L1, pk_sub (by omega)]
      exact ⟨o2, e3, e4⟩
    · rw [hj, if_neg q, if_neg q, nm_def, pk_m1]
      have : k ≠ c + 1 := fun e => q (by rw [e]; exact Nat.le_refl _)
      exact ih f (by omega) (by omega) (by omega)
theorem go_4 {P : Nat} (hP : P ≤ 8) {o : Nat → Int32} {x : Nat → Nat} (hx : ∀ k, k < P → x k < 2 ^ 30) (h : ∀ k, k < P → o k = nI (x k)) : ∀ (c fuel : Nat), c < P → c < fuel →
    (kS x c = none → p_X8_goesOn_b4 fuel o (nI P) (nI c + (-1)) = some (0, o)) ∧ (∀ k, kS x c = some k → ∃ o', (∀ i, i < P → o' i = nI (rvN 8 (swN x k (jS x k P)) (k + 1) (P - 1) i)) ∧ p_X8_goesOn_b4 fuel o (nI P) (nI c + (-1)) = some (1, o')) := by
  intro c
  induction c with
  | zero =>
    intro fuel hc hf
    obtain ⟨f, rfl⟩ : ∃ f, fuel = f + 1 := ⟨fuel - 1, by omega⟩
    refine ⟨fun _ => ?_, fun k hk => (by cases hk)⟩
    show p_X8_goesOn_b4x _ _ _ _ = _
    unfold p_X8_goesOn_b4x p_X8_goesOn_b31
    rw [if_pos (show nI 0 + (-1) < 0 by decide), if_neg (show ¬ 0 ≤ nI 0 + (-1) by decide)]
  | succ c ih =>
    intro fuel hc hf
    obtain ⟨f, rfl⟩ : ∃ f, fuel = f + 1 := ⟨fuel - 1, by omega⟩
    have hk : kS x (c + 1) = if x c ≤ x (c + 1) then some c else kS x c := rfl
    have ec : (nI (x c) ≤ nI (x (c + 1))) = (x c ≤ x (c + 1)) := propext (nI_leI (by have := hx c (by omega); omega) (by have := hx (c + 1) (by omega); omega))
    rw [pk_m1, hk]
    show (_ → p_X8_goesOn_b4x _ _ _ _ = _) ∧ (∀ k, _ → ∃ o', _ ∧ p_X8_goesOn_b4x _ _ _ _ = _)
    unfold p_X8_goesOn_b4x p_X8_goesOn_b31
    rw [if_neg (nI_pos (show c < 2 ^ 31 by omega)), nI_1, inB_nI (show c < 8 by omega) (by decide), inB_nI (show c + 1 < 8 by omega) (by decide), gd_true, gd_true, nI_clamp (by omega), nI_clamp (by omega), h c (by omega), h (c + 1) hc]
    simp only [ec]
    by_cases q : x c ≤ x (c + 1)
    · rw [if_pos q, if_pos q, if_pos (nI_pos' (show c < 2 ^ 31 by omega)), nm_def, L1, pk_sub (by omega)]
      refine ⟨fun z => (by cases z), fun k hk => ?_⟩
      injection hk with hk
      subst hk
      obtain ⟨o', e1, e2⟩ := go_41 hP hx h (P - 1) 4096 (show c ≤ P - 1 by omega) (by omega) (by omega)
      rw [show P - 1 + 1 = P by omega] at e1
      exact ⟨o', e1, e2⟩
    · rw [if_neg q, if_neg q, nm_def]
      exact ih f (by omega) (by omega)
theorem v_goes {P : Nat} (hP : P ≤ 8) {o : Nat → Int32} {x : Nat → Nat} (hx : ∀ k, k < P → x k < 2 ^ 30) (h : ∀ k, k < P → o k = nI (x k)) : (goF P x = none → p_X8_goesOn o (nI P) = some (0, o)) ∧ (∀ y, goF P x = some y → ∃ o', (∀ i, i < P → o' i = nI (y i)) ∧ p_X8_goesOn o (nI P) = some (1, o')) := by
  unfold p_X8_goesOn p_X8_goesOn_b0 goF
  rw [nm_def]
  by_cases h0 : P = 0
  · subst h0
    refine ⟨fun _ => ?_, fun y hy => (by cases hy)⟩
    show p_X8_goesOn_b4x _ _ _ _ = _
    unfold p_X8_goesOn_b4x p_X8_goesOn_b31
    rw [if_pos (show nI 0 - 2 < 0 by decide), if_neg (show ¬ 0 ≤ nI 0 - 2 by decide)]
  · have e : nI P - 2 = nI (P - 1) + (-1) := by
      by_cases h1 : P = 1
      · subst h1; decide
      · obtain ⟨m, hm⟩ : ∃ m, P - 1 = m + 1 := ⟨P - 2, by omega⟩
        rw [hm, pk_m1, L2, pk_sub (by omega)]
        congr 1
        omega
    rw [e]
    obtain ⟨g1, g2⟩ := go_4 hP hx h (P - 1) 4096 (by omega) (by omega)
    cases hk : kS x (P - 1) with
    | none => exact ⟨fun _ => g1 hk, fun y hy => (by cases hy)⟩
    | some k =>
      refine ⟨fun z => (by cases z), fun y hy => ?_⟩
      injection hy with hy
      subst hy
      exact g2 k hk
/-! all rows as a list -/
def tcat {α : Type} (f : Nat → List α) : Nat → List α
  | 0 => []
  | n + 1 => tcat f n ++ f n
def tre (P : Nat) : Nat → Nat → (Nat → Nat) → Nat → List (Nat → Nat)
  | 0, _, od, _ => [od]
  | r + 1, d, od, I => tcat (fun p => if I.testBit p = true then [] else tre P r (d + 1) (updN od d p) (I ||| 2 ^ p)) P
theorem tre_fold {P : Nat} {cost : (Nat → Nat) → Nat} : ∀ r d od I st, fdT P cost r d od I st = (tre P r d od I).foldl (kpN cost) st
  | 0, _, _, _, _ => rfl
  | r + 1, d, od, I, st => by
    have h : ∀ n, lpN (fun p st => if I.testBit p = true then st else fdT P cost r (d + 1) (updN od d p) (I ||| 2 ^ p) st) n st = (tcat (fun p => if I.testBit p = true then [] else tre P r (d + 1) (updN od d p) (I ||| 2 ^ p)) n).foldl (kpN cost) st := by
      intro n
      induction n with
      | zero => rfl
      | succ n ih =>
        show (if I.testBit n = true then lpN _ n st else fdT P cost r (d + 1) (updN od d n) (I ||| 2 ^ n) (lpN _ n st)) = (tcat _ n ++ (if I.testBit n = true then [] else tre P r (d + 1) (updN od d n) (I ||| 2 ^ n))).foldl (kpN cost) st
        rw [List.foldl_append, ← ih]
        by_cases q : I.testBit n = true
        · rw [if_pos q, if_pos q]; rfl
        · rw [if_neg q, if_neg q, tre_fold r (d + 1)]
    exact h P
def chk (P : Nat) : List (Nat → Nat) → Bool
  | [] => false
  | [x] => (goF P x).isNone
  | x :: y :: t => (match goF P x with | some z => (List.range P).all (fun k => z k == y k) | none => false) && chk P (y :: t)
theorem d_chk : ∀ P, P < 7 → chk P (tre P P 0 (fun k => k) 0) = true := by decide +kernel
theorem d_len : ∀ P, P < 7 → (tre P P 0 (fun k => k) 0).length ≤ 720 := by decide +kernel
theorem d_dom : ∀ P, P < 7 → (tre P P 0 (fun k => k) 0).all (fun x => (List.range P).all (fun k => decide (x k < P))) = true := by decide +kernel
def isId (P : Nat) : List (Nat → Nat) → Bool
  | [] => false
  | x :: _ => (List.range P).all (fun k => x k == k)
theorem d_hd : ∀ P, P < 7 → isId P (tre P P 0 (fun k => k) 0) = true := by decide +kernel
