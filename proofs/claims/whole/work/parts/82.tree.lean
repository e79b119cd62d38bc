/-! all rows, from the least on -/
def updN (od : Nat → Nat) (d p : Nat) : Nat → Nat := fun k => if k = d then p else od k
def lpN {σ : Type} (f : Nat → σ → σ) : Nat → σ → σ
  | 0, s => s
  | n + 1, s => f n (lpN f n s)
abbrev StT : Type := Nat × (Nat → Int32)
def kpN (cost : (Nat → Nat) → Nat) (st : StT) (od : Nat → Nat) : StT := if cost od < st.1 then (cost od, fun k => nI (od k)) else st
def fdT (P : Nat) (cost : (Nat → Nat) → Nat) : Nat → Nat → (Nat → Nat) → Nat → StT → StT
  | 0, _, od, _, st => kpN cost st od
  | r + 1, d, od, I, st => lpN (fun p st => if I.testBit p = true then st else fdT P cost r (d + 1) (updN od d p) (I ||| 2 ^ p) st) P st
def geA (P : Nat) (cost : (Nat → Nat) → Nat) (L : Nat) : Nat → Nat → (Nat → Nat) → Nat → Prop
  | 0, _, od, _ => L ≤ cost od
  | r + 1, d, od, I => ∀ p, p < P → I.testBit p = false → geA P cost L r (d + 1) (updN od d p) (I ||| 2 ^ p)
def eqA (P : Nat) (cost : (Nat → Nat) → Nat) (C : Nat) : Nat → Nat → (Nat → Nat) → Nat → Prop
  | 0, _, od, _ => cost od = C
  | r + 1, d, od, I => ∀ p, p < P → I.testBit p = false → eqA P cost C r (d + 1) (updN od d p) (I ||| 2 ^ p)
/-- x is the first row of these -/
def isF (P : Nat) : Nat → Nat → (Nat → Nat) → Nat → (Nat → Nat) → Prop
  | 0, _, od, _, x => x = od
  | r + 1, d, od, I, x => ∃ p, p < P ∧ I.testBit p = false ∧ (∀ q, q < p → I.testBit q = true) ∧ isF P r (d + 1) (updN od d p) (I ||| 2 ^ p) x
theorem geA_mono {P : Nat} {cost : (Nat → Nat) → Nat} {L L' : Nat} (h : L' ≤ L) : ∀ r d od I, geA P cost L r d od I → geA P cost L' r d od I
  | 0, _, _, _, g => Nat.le_trans h g
  | r + 1, d, od, I, g => fun p hp hb => geA_mono h r (d + 1) _ _ (g p hp hb)
theorem eqA_geA {P : Nat} {cost : (Nat → Nat) → Nat} {C L : Nat} (h : L ≤ C) : ∀ r d od I, eqA P cost C r d od I → geA P cost L r d od I
  | 0, _, _, _, g => by show L ≤ cost _; rw [show cost _ = C from g]; exact h
  | r + 1, d, od, I, g => fun p hp hb => eqA_geA h r (d + 1) _ _ (g p hp hb)
theorem kpN_le {cost : (Nat → Nat) → Nat} {st : StT} {od : Nat → Nat} : (kpN cost st od).1 ≤ st.1 ∧ (kpN cost st od).1 ≤ cost od := by
  unfold kpN
  by_cases h : cost od < st.1
  · rw [if_pos h]; exact ⟨Nat.le_of_lt h, Nat.le_refl _⟩
  · rw [if_neg h]; exact ⟨Nat.le_refl _, Nat.le_of_not_lt h⟩
theorem lp_mono {f : Nat → StT → StT} (hf : ∀ p st, (f p st).1 ≤ st.1) (st : StT) (n : Nat) : ∀ m, (lpN f (n + m) st).1 ≤ (lpN f n st).1
  | 0 => Nat.le_refl _
  | m + 1 => Nat.le_trans (hf _ _) (lp_mono hf st n m)
theorem fdT_le {P : Nat} {cost : (Nat → Nat) → Nat} : ∀ r d od I st, (fdT P cost r d od I st).1 ≤ st.1
  | 0, _, _, _, _ => kpN_le.1
  | r + 1, d, od, I, st => by
    have h := lp_mono (f := (fun p st => if I.testBit p = true then st else fdT P cost r (d + 1) (updN od d p) (I ||| 2 ^ p) st)) (fun p st => by
      show (if I.testBit p = true then st else fdT P cost r (d + 1) (updN od d p) (I ||| 2 ^ p) st).1 ≤ st.1
      by_cases hb : I.testBit p = true
      · rw [if_pos hb]; exact Nat.le_refl _
      · rw [if_neg hb]; exact fdT_le r (d + 1) _ _ st) st 0 P
    rw [Nat.zero_add] at h
    exact h
theorem fF_le {P : Nat} {cost : (Nat → Nat) → Nat} {r d : Nat} {od : Nat → Nat} {I : Nat} (p : Nat) (st : StT) : ((fun p st => if I.testBit p = true then st else fdT P cost r (d + 1) (updN od d p) (I ||| 2 ^ p) st) p st).1 ≤ st.1 := by
  show (if I.testBit p = true then st else fdT P cost r (d + 1) (updN od d p) (I ||| 2 ^ p) st).1 ≤ st.1
  by_cases hb : I.testBit p = true
  · rw [if_pos hb]; exact Nat.le_refl _
  · rw [if_neg hb]; exact fdT_le r (d + 1) _ _ st
theorem fdT_ge {P : Nat} {cost : (Nat → Nat) → Nat} : ∀ r d od I st, geA P cost (fdT P cost r d od I st).1 r d od I
  | 0, _, _, _, _ => kpN_le.2
  | r + 1, d, od, I, st => fun p hp hb => by
    have h1 := fdT_ge (P := P) (cost := cost) r (d + 1) (updN od d p) (I ||| 2 ^ p) (lpN (fun p st => if I.testBit p = true then st else fdT P cost r (d + 1) (updN od d p) (I ||| 2 ^ p) st) p st)
    have h2 : lpN (fun p st => if I.testBit p = true then st else fdT P cost r (d + 1) (updN od d p) (I ||| 2 ^ p) st) (p + 1) st = fdT P cost r (d + 1) (updN od d p) (I ||| 2 ^ p) (lpN (fun p st => if I.testBit p = true then st else fdT P cost r (d + 1) (updN od d p) (I ||| 2 ^ p) st) p st) := by
      show (if I.testBit p = true then _ else _) = _
      rw [if_neg (by rw [hb]; decide)]
    have h3 := lp_mono (f := (fun p st => if I.testBit p = true then st else fdT P cost r (d + 1) (updN od d p) (I ||| 2 ^ p) st)) (fun p st => fF_le p st) st (p + 1) (P - (p + 1))
    rw [show p + 1 + (P - (p + 1)) = P by omega, h2] at h3
    exact geA_mono h3 r (d + 1) _ _ h1
/-- of the people below n: what has been tried is not better -/
theorem lp_ge {P : Nat} {cost : (Nat → Nat) → Nat} {r d : Nat} {od : Nat → Nat} {I : Nat} {st : StT} {n q : Nat} (hq : q < n) (hb : I.testBit q = false) : geA P cost (lpN (fun p st => if I.testBit p = true then st else fdT P cost r (d + 1) (updN od d p) (I ||| 2 ^ p) st) n st).1 r (d + 1) (updN od d q) (I ||| 2 ^ q) := by
  have h1 := fdT_ge (P := P) (cost := cost) r (d + 1) (updN od d q) (I ||| 2 ^ q) (lpN (fun p st => if I.testBit p = true then st else fdT P cost r (d + 1) (updN od d p) (I ||| 2 ^ p) st) q st)
  have h2 : lpN (fun p st => if I.testBit p = true then st else fdT P cost r (d + 1) (updN od d p) (I ||| 2 ^ p) st) (q + 1) st = fdT P cost r (d + 1) (updN od d q) (I ||| 2 ^ q) (lpN (fun p st => if I.testBit p = true then st else fdT P cost r (d + 1) (updN od d p) (I ||| 2 ^ p) st) q st) := by
    show (if I.testBit q = true then _ else _) = _
    rw [if_neg (by rw [hb]; decide)]
  have h3 := lp_mono (f := (fun p st => if I.testBit p = true then st else fdT P cost r (d + 1) (updN od d p) (I ||| 2 ^ p) st)) (fun p st => fF_le p st) st (q + 1) (n - (q + 1))
  rw [show q + 1 + (n - (q + 1)) = n by omega, h2] at h3
  exact geA_mono h3 r (d + 1) _ _ h1
theorem fdT_id {P : Nat} {cost : (Nat → Nat) → Nat} : ∀ r d od I st, geA P cost st.1 r d od I → fdT P cost r d od I st = st
  | 0, _, od, _, st, g => by
    show kpN cost st od = st
    unfold kpN
    rw [if_neg (Nat.not_lt.mpr g)]
  | r + 1, d, od, I, st, g => by
    have h : ∀ n, n ≤ P → lpN (fun p st => if I.testBit p = true then st else fdT P cost r (d + 1) (updN od d p) (I ||| 2 ^ p) st) n st = st := by
      intro n
      induction n with
      | zero => intro _; rfl
      | succ n ih =>
        intro hn
        show (if I.testBit n = true then lpN (fun p st => if I.testBit p = true then st else fdT P cost r (d + 1) (updN od d p) (I ||| 2 ^ p) st) n st else fdT P cost r (d + 1) (updN od d n) (I ||| 2 ^ n) (lpN (fun p st => if I.testBit p = true then st else fdT P cost r (d + 1) (updN od d p) (I ||| 2 ^ p) st) n st)) = st
        rw [ih (by omega)]
        by_cases hb : I.testBit n = true
        · rw [if_pos hb]
        · rw [if_neg hb]
          exact fdT_id r (d + 1) _ _ st (g n (by omega) (by simpa using hb))
    exact h P (Nat.le_refl _)
theorem fdT_eq {P : Nat} {cost : (Nat → Nat) → Nat} {C : Nat} : ∀ r d od I x st, eqA P cost C r d od I → isF P r d od I x → fdT P cost r d od I st = if C < st.1 then (C, fun k => nI (x k)) else st
  | 0, _, od, _, x, st, g, hx => by
    show kpN cost st od = _
    unfold kpN
    rw [show cost od = C from g, show x = od from hx]
  | r + 1, d, od, I, x, st, g, ⟨p, hp, hb, hall, hx⟩ => by
    have h0 : ∀ n, n ≤ p → lpN (fun p st => if I.testBit p = true then st else fdT P cost r (d + 1) (updN od d p) (I ||| 2 ^ p) st) n st = st := by
      intro n
      induction n with
      | zero => intro _; rfl
      | succ n ih =>
        intro hn
        show (if I.testBit n = true then lpN (fun p st => if I.testBit p = true then st else fdT P cost r (d + 1) (updN od d p) (I ||| 2 ^ p) st) n st else _) = st
        rw [if_pos (hall n (by omega)), ih (by omega)]
    have h1 : ∀ m, p + 1 + m ≤ P → lpN (fun p st => if I.testBit p = true then st else fdT P cost r (d + 1) (updN od d p) (I ||| 2 ^ p) st) (p + 1 + m) st = if C < st.1 then (C, fun k => nI (x k)) else st := by
      intro m
      induction m with
      | zero =>
        intro _
        show (if I.testBit p = true then lpN (fun p st => if I.testBit p = true then st else fdT P cost r (d + 1) (updN od d p) (I ||| 2 ^ p) st) p st else fdT P cost r (d + 1) (updN od d p) (I ||| 2 ^ p) (lpN (fun p st => if I.testBit p = true then st else fdT P cost r (d + 1) (updN od d p) (I ||| 2 ^ p) st) p st)) = _
        rw [if_neg (by rw [hb]; decide), h0 p (Nat.le_refl _)]
        exact fdT_eq r (d + 1) _ _ x st (g p hp hb) hx
      | succ m ih =>
        intro hm
        have ih := ih (by omega)
        show (if I.testBit (p + 1 + m) = true then lpN (fun p st => if I.testBit p = true then st else fdT P cost r (d + 1) (updN od d p) (I ||| 2 ^ p) st) (p + 1 + m) st else fdT P cost r (d + 1) (updN od d (p + 1 + m)) (I ||| 2 ^ (p + 1 + m)) (lpN (fun p st => if I.testBit p = true then st else fdT P cost r (d + 1) (updN od d p) (I ||| 2 ^ p) st) (p + 1 + m) st)) = _
        rw [ih]
        by_cases hb2 : I.testBit (p + 1 + m) = true
        · rw [if_pos hb2]
        · rw [if_neg hb2]
          refine fdT_id r (d + 1) _ _ _ (eqA_geA ?_ r (d + 1) _ _ (g _ (by omega) (by simpa using hb2)))
          by_cases q : C < st.1
          · rw [if_pos q]; exact Nat.le_refl _
          · rw [if_neg q]; exact Nat.le_of_not_lt q
    have := h1 (P - (p + 1)) (by omega)
    rw [show p + 1 + (P - (p + 1)) = P by omega] at this
    exact this
/-! twins -/
theorem geA_tw {P : Nat} {cost : (Nat → Nat) → Nat} {L : Nat} {own kd sw : Nat → Nat} (hc : ∀ od od' : Nat → Nat, (∀ k, k < P → od k < P) → (∀ k, k < P → own (od k) = own (od' k) ∧ kd (od k) = kd (od' k)) → cost od = cost od')
    (hs1 : ∀ t, t < P → sw t < P ∧ sw (sw t) = t) (hs2 : ∀ t, t < P → own (sw t) = own t ∧ kd (sw t) = kd t) : ∀ r d od od' I I', d + r = P → (∀ k, k < d → od k < P) → (∀ k, k < d → own (od k) = own (od' k) ∧ kd (od k) = kd (od' k)) → (∀ t, t < P → I'.testBit t = I.testBit (sw t)) → geA P cost L r d od I → geA P cost L r d od' I'
  | 0, d, od, od', I, I', hd, h1, h2, h3, g => by
    have e : d = P := by omega
    subst e
    show L ≤ cost od'
    rw [← hc od od' h1 h2]
    exact g
  | r + 1, d, od, od', I, I', hd, h1, h2, h3, g => fun p hp hb => by
    obtain ⟨s1, s2⟩ := hs1 p hp
    have g' := g (sw p) s1 (by rw [← h3 p hp]; exact hb)
    refine geA_tw hc hs1 hs2 r (d + 1) _ _ _ _ (by omega) (fun k hk => ?_) (fun k hk => ?_) (fun t ht => ?_) g'
    · unfold updN
      by_cases e : k = d
      · rw [if_pos e]; exact s1
      · rw [if_neg e]; exact h1 k (by omega)
    · unfold updN
      by_cases e : k = d
      · rw [if_pos e, if_pos e]; exact hs2 p hp
      · rw [if_neg e, if_neg e]; exact h2 k (by omega)
    · rw [tb_or, tb_or, h3 t ht]
      congr 1
      by_cases e : p = t
      · rw [decide_eq_true e, decide_eq_true (by rw [e])]
      · rw [decide_eq_false e, decide_eq_false (fun z => e (by rw [← s2, z, (hs1 t ht).2]))]
theorem twin_ge {P : Nat} {cost : (Nat → Nat) → Nat} {L : Nat} {own kd : Nat → Nat} (hc : ∀ od od' : Nat → Nat, (∀ k, k < P → od k < P) → (∀ k, k < P → own (od k) = own (od' k) ∧ kd (od k) = kd (od' k)) → cost od = cost od') {r d I p q : Nat} {od : Nat → Nat} (hd : d + 1 + r = P) (hod : ∀ k, k < d → od k < P) (hp : p < P) (hq : q < P) (hne : q ≠ p) (hIp : I.testBit p = false) (hIq : I.testBit q = false) (ho : own q = own p) (hk : kd q = kd p) (g : geA P cost L r (d + 1) (updN od d q) (I ||| 2 ^ q)) : geA P cost L r (d + 1) (updN od d p) (I ||| 2 ^ p) := by
  refine geA_tw (own := own) (kd := kd) (sw := fun t => if t = p then q else if t = q then p else t) hc (fun t ht => ?_) (fun t ht => ?_) r (d + 1) (updN od d q) (updN od d p) (I ||| 2 ^ q) (I ||| 2 ^ p) hd (fun k hk' => ?_) (fun k hk' => ?_) (fun t ht => ?_) g
  · by_cases e1 : t = p
    · subst e1
      simp only [if_pos, if_neg hne]
      exact ⟨hq, trivial⟩
    · by_cases e2 : t = q
      · subst e2
        simp only [if_neg e1, if_pos]
        exact ⟨hp, trivial⟩
      · simp only [if_neg e1, if_neg e2]
        exact ⟨ht, trivial⟩
  · by_cases e1 : t = p
    · subst e1
      simp only [if_pos]
      exact ⟨ho, hk⟩
    · by_cases e2 : t = q
      · subst e2
        simp only [if_neg e1, if_pos]
        exact ⟨ho.symm, hk.symm⟩
      · simp only [if_neg e1, if_neg e2]
        exact ⟨trivial, trivial⟩
  · unfold updN
    by_cases e : k = d
    · rw [if_pos e]; exact hq
    · rw [if_neg e]; exact hod k (by omega)
  · unfold updN
    by_cases e : k = d
    · rw [if_pos e, if_pos e]; exact ⟨ho, hk⟩
    · rw [if_neg e, if_neg e]; exact ⟨rfl, rfl⟩
  · rw [tb_or, tb_or]
    by_cases e1 : t = p
    · subst e1
      simp only [if_pos]
      rw [hIp, hIq]
    · by_cases e2 : t = q
      · subst e2
        simp only [if_neg e1, if_pos]
        rw [hIp, hIq, decide_eq_false (fun z => e1 z.symm), decide_eq_false e1]
      · simp only [if_neg e1, if_neg e2]
        rw [decide_eq_false (fun z => e1 z.symm), decide_eq_false (fun z => e2 z.symm)]
/-! the sum over those who are outside -/
def oS (I : Nat) (f : Nat → Nat) (n : Nat) : Nat := fb_sm (fun p => if I.testBit p = true then 0 else f p) n
theorem oS_add {I p n : Nat} {f : Nat → Nat} (hp : p < n) (hb : I.testBit p = false) : oS (I ||| 2 ^ p) f n + f p = oS I f n := by
  have e : ∀ t, t < n → (if I.testBit t = true then 0 else f t) = (if (I ||| 2 ^ p).testBit t = true then 0 else f t) + (if p = t then f p else 0) := fun t _ => by
    rw [tb_or]
    by_cases q : p = t
    · subst q; simp [hb]
    · simp [q]
  unfold oS
  rw [sm_congr e, fb_sm_add, sm_one, if_pos hp]
theorem oS_full {I n : Nat} {f : Nat → Nat} (h : ∀ p, p < n → I.testBit p = true) : oS I f n = 0 := sm_zero' fun p hp => by rw [if_pos (h p hp)]
theorem oS_le {I n : Nat} {f g : Nat → Nat} (h : ∀ p, p < n → f p ≤ g p) : oS I f n ≤ oS I g n := fb_sm_le fun p hp => by
  by_cases q : I.testBit p = true
  · rw [if_pos q, if_pos q]; exact Nat.le_refl _
  · rw [if_neg q, if_neg q]; exact h p hp
