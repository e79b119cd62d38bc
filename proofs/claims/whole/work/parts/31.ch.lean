/-! choices: the seats on which one may sit alike -/
def fr (S u : Nat) : Nat := (2 ^ S - 1) &&& (255 ^^^ u)
theorem d_fr : ∀ S, S < 9 → ∀ u, u < 256 → nI (2 ^ S - 1) &&& (nI u ^^^ (-1)) = nI (fr S u) ∧ fr S u < 2 ^ S ∧ fr S u < 256 := by decide +kernel
theorem d_frbit : ∀ S, S < 9 → ∀ u, u < 256 → ∀ s, s < 9 → (fr S u).testBit s = (decide (s < S) && !u.testBit s) := by decide +kernel
theorem d_frpc : ∀ S, S < 9 → ∀ u, u < 2 ^ S → pc (fr S u) = S - pc u ∧ pc u ≤ S := by decide +kernel
theorem d_pcsum : ∀ t, t < 256 → pc t = fb_sm (fun i => (t.testBit i).toNat) 8 := by decide +kernel
theorem d_pc0 : ∀ t, t < 256 → (pc t = 0 ↔ t = 0) := by decide +kernel
theorem d_pc2 : ∀ k, k < 8 → pc (2 ^ k) = 1 := by decide +kernel
theorem d_pw : ∀ S, S < 9 → 2 ^ S ≤ 256 := by decide
/-- the next free seat from o on, round -/
def nfs (S f : Nat) : Nat → Nat → Nat
  | 0, o => o
  | n + 1, o => if f.testBit o = true then o else nfs S f n ((o + 1) % S)
theorem d_nfs : ∀ S, S < 9 → ∀ f, f < 2 ^ S → f ≠ 0 → ∀ o, o < S → nfs S f 8 o < S ∧ f.testBit (nfs S f 8 o) = true := by decide +kernel
theorem d_nfC : ∀ S, S < 9 → ∀ f, f < 2 ^ S → f ≠ 0 → ∀ o, o < S → (f.testBit o = true ∨ p_X3_nextFree (nI S) (nI f) (nI o) = some (nI (2 ^ nfs S f 8 o))) := by decide +kernel
theorem d_nfM : ∀ S, S < 9 → ∀ f, f < 2 ^ S → f ≠ 0 → ∀ o, o < S → p_X8_nextFree (nI S) (nI o) (nI f) = some (nI (nfs S f 8 o)) := by decide +kernel
/-- o: one's own seat, c: its sort, k: one's kind, u: what is taken; B: the seats of each sort -/
def chN (S : Nat) (B : Nat → Nat) (o c k u : Nat) : Nat :=
  if k = 1 then fr S u else if (fr S u).testBit o = true then 2 ^ o else if k = 2 then 2 ^ nfs S (fr S u) 8 o else if k = 3 ∧ fr S u &&& B c ≠ 0 then fr S u &&& B c else fr S u
def lc (n : Nat) : Nat := if n = 8 then 840 else if n = 7 then 420 else if 4 < n then 60 else if n = 4 then 12 else if n = 3 then 6 else n
theorem d_parts : ∀ n, n < 9 → p_X8_partsOf (nI n) = some (lN (lc n)) := by decide +kernel
theorem d_lcdvd : ∀ n, n < 9 → ∀ c, c < 9 → (1 ≤ c ∧ c ≤ n) → lc n % c = 0 ∧ 0 < lc n ∧ lc n ≤ 840 := by decide +kernel
/-- all ways behind k people -/
def Aw (S : Nat) : Nat → Nat
  | 0 => 1
  | k + 1 => Aw S k * lc (S - k)
def UN : Nat := 182891520000
def Vw (S k : Nat) : Nat := UN / Aw S k
theorem d_AV : ∀ S, S < 9 → ∀ k, k < 9 → k ≤ S → Aw S k * Vw S k = UN ∧ 0 < Aw S k ∧ 0 < Vw S k := by decide +kernel
theorem d_VV : ∀ S, S < 9 → ∀ k, k < 8 → k < S → Vw S k = Vw S (k + 1) * lc (S - k) := by decide +kernel
theorem pc_mono {a b : Nat} (ha : a < 256) (hb : b < 256) (h : ∀ s, s < 8 → a.testBit s = true → b.testBit s = true) : pc a ≤ pc b := by
  rw [d_pcsum a ha, d_pcsum b hb]
  refine fb_sm_le fun k hk => ?_
  cases e : a.testBit k with
  | false => exact Nat.zero_le _
  | true => rw [h k hk e]; exact Nat.le_refl _
theorem tb_lt {a s n : Nat} (h : a < 2 ^ n) (ht : a.testBit s = true) : s < n := by
  apply Nat.lt_of_not_le
  intro hn
  have : a < 2 ^ s := Nat.lt_of_lt_of_le h (Nat.pow_le_pow_right (by decide) hn)
  rw [Nat.testBit_lt_two_pow this] at ht
  cases ht
theorem and_lt_l {a b n : Nat} (h : a < n) : a &&& b < n := Nat.lt_of_le_of_lt Nat.and_le_left h
theorem tb_2p {o s : Nat} : (2 ^ o).testBit s = decide (o = s) := Nat.testBit_two_pow
theorem two_lt {o S : Nat} (h : o < S) : 2 ^ o < 2 ^ S := Nat.pow_lt_pow_right (by decide) h
theorem chN_sub {S : Nat} {B : Nat → Nat} {o c k u : Nat} (hS : S < 9) (ho : o < S) (hu : u < 2 ^ S) (hp : pc u < S) :
    chN S B o c k u < 2 ^ S ∧ (∀ s, (chN S B o c k u).testBit s = true → s < S ∧ u.testBit s = false) ∧ chN S B o c k u ≠ 0 := by
  have hu8 : u < 256 := Nat.lt_of_lt_of_le hu (d_pw S hS)
  obtain ⟨-, hf, hf8⟩ := d_fr S hS u hu8
  have hf0 : fr S u ≠ 0 := fun e => by
    have h1 := d_frpc S hS u hu
    rw [e, show pc 0 = 0 from rfl] at h1
    omega
  have hfs : ∀ s, (fr S u).testBit s = true → s < S ∧ u.testBit s = false := fun s hs => by
    have h8 : s < S := tb_lt hf hs
    have := d_frbit S hS u hu8 s (by omega)
    rw [hs] at this
    simp at this
    exact this
  have h2 : ∀ z, z < S → (fr S u).testBit z = true → 2 ^ z < 2 ^ S ∧ (∀ s, (2 ^ z).testBit s = true → s < S ∧ u.testBit s = false) ∧ 2 ^ z ≠ 0 := fun z hz hb => by
    refine ⟨two_lt hz, fun s hs => ?_, Nat.ne_of_gt (Nat.pow_pos (by decide))⟩
    rw [tb_2p] at hs
    have e : z = s := by simpa using hs
    subst e
    exact hfs z hb
  unfold chN
  by_cases h1 : k = 1
  · rw [if_pos h1]; exact ⟨hf, hfs, hf0⟩
  · rw [if_neg h1]
    by_cases hb : (fr S u).testBit o = true
    · rw [if_pos hb]; exact h2 o ho hb
    · rw [if_neg hb]
      by_cases hk : k = 2
      · rw [if_pos hk]
        obtain ⟨n1, n2⟩ := d_nfs S hS (fr S u) hf hf0 o ho
        exact h2 _ n1 n2
      · rw [if_neg hk]
        by_cases h3 : k = 3 ∧ fr S u &&& B c ≠ 0
        · rw [if_pos h3]
          refine ⟨and_lt_l hf, fun s hs => ?_, h3.2⟩
          rw [Nat.testBit_and] at hs
          simp at hs
          exact hfs s hs.1
        · rw [if_neg h3]; exact ⟨hf, hfs, hf0⟩
theorem chN_pc {S : Nat} {B : Nat → Nat} {o c k u : Nat} (hS : S < 9) (ho : o < S) (hu : u < 2 ^ S) (hp : pc u < S) :
    1 ≤ pc (chN S B o c k u) ∧ pc (chN S B o c k u) ≤ S - pc u := by
  have hu8 : u < 256 := Nat.lt_of_lt_of_le hu (d_pw S hS)
  obtain ⟨h1, h2, h3⟩ := chN_sub (B := B) (c := c) (k := k) hS ho hu hp
  have h8 : chN S B o c k u < 256 := Nat.lt_of_lt_of_le h1 (d_pw S hS)
  refine ⟨Nat.pos_of_ne_zero fun e => h3 ((d_pc0 _ h8).mp e), ?_⟩
  rw [← (d_frpc S hS u hu).1]
  refine pc_mono h8 (d_fr S hS u hu8).2.2 fun s hs hb => ?_
  obtain ⟨a1, a2⟩ := h2 s hb
  rw [d_frbit S hS u hu8 s (by omega)]
  simp [a1, a2]
/-- the class's choices -/
theorem v_chC {S : Nat} {srt : Nat → Nat} {B : Nat → Nat} {Hs Hb : Nat → Int32} {o k u : Nat} (hS : S < 9) (ho : o < S) (hk : k < 4) (hu : u < 2 ^ S) (hp : pc u < S)
    (hs : Hs o = nI (srt o)) (hs3 : srt o < 3) (hb : Hb (srt o) = nI (B (srt o))) (hB : B (srt o) < 2 ^ S) :
    p_X3_choices (nI S) Hs Hb (nI u) (nI o) (nI k) = some (nI (chN S B o (srt o) k u)) := by
  have hu8 : u < 256 := Nat.lt_of_lt_of_le hu (d_pw S hS)
  obtain ⟨e1, hf, hf8⟩ := d_fr S hS u hu8
  have hf0 : fr S u ≠ 0 := fun e => by
    have h1 := d_frpc S hS u hu
    rw [e, show pc 0 = 0 from rfl] at h1
    omega
  have k1 : (nI k = 1) = (k = 1) := propext (nI_eq (a := k) (b := 1) (by omega) (by omega))
  have k2 : (nI k = 2) = (k = 2) := propext (nI_eq (a := k) (b := 2) (by omega) (by omega))
  have k3 : (nI k = 3) = (k = 3) := propext (nI_eq (a := k) (b := 3) (by omega) (by omega))
  unfold p_X3_choices p_X3_choices_b0
  rw [d_all S hS, b1_some, nm_def, e1]
  have tail : k ≠ 1 → (fr S u).testBit o = false ∨ k = 1 → True := fun _ _ => trivial
  have b28 : (k = 1 ∨ (fr S u).testBit o = false) → p_X3_choices_b28 (nI S) Hs Hb (nI o) (nI k) (nI (fr S u)) = some (nI (chN S B o (srt o) k u)) := fun hc => by
    unfold p_X3_choices_b28 p_X3_choices_b65 p_X3_choices_b79 chN
    simp only [k2, k3]
    by_cases h1 : k = 1
    · subst h1
      simp
    · have hb0 : (fr S u).testBit o = false := hc.resolve_left h1
      by_cases h2 : k = 2
      · subst h2
        rcases d_nfC S hS (fr S u) hf hf0 o ho with h | h
        · rw [h] at hb0; cases hb0
        · simp [h, hb0, b1_some]
      · by_cases h3 : k = 3
        · subst h3
          have o8 : inB (nI o) 8 = true := inB_nI (by omega) (by decide)
          have s8 : inB (nI (srt o)) 3 = true := inB_nI hs3 (by decide)
          have cl : (nI o).toNatClampNeg = o := nI_clamp (by omega)
          have cs : (nI (srt o)).toNatClampNeg = srt o := nI_clamp (by omega)
          have z : (nI (fr S u &&& B (srt o)) = 0) = (fr S u &&& B (srt o) = 0) := propext (nI_eq (b := 0) (by have := and_lt_l (b := B (srt o)) hf8; omega) (by decide))
          simp only [o8, cl, hs, s8, cs, hb, gd_true, fa_and, z, hb0]
          by_cases hz : fr S u &&& B (srt o) = 0 <;> simp [hz]
        · simp [h1, h2, h3, hb0]
  by_cases h1 : k = 1
  · rw [if_pos (by rw [k1]; exact h1)]
    exact b28 (Or.inl h1)
  · rw [if_neg (by rw [k1]; exact h1), d_has _ hf8 o (by omega), b1_some]
    simp only [nIb0]
    by_cases hb0 : (fr S u).testBit o = false
    · rw [if_pos hb0]
      exact b28 (Or.inr hb0)
    · rw [if_neg hb0, d_sh o (by omega)]
      have hb1 : (fr S u).testBit o = true := by simpa using hb0
      unfold chN
      rw [if_neg h1, if_pos hb1]
/-- the model's choices -/
theorem v_chM {S : Nat} {srt : Nat → Nat} {B : Nat → Nat} {ms mo : Nat → Int32} {p o k u : Nat} (hS : S < 9) (hp8 : p < 8) (ho : o < S) (hk : k < 4) (hu : u < 2 ^ S) (hp : pc u < S)
    (hs : ms o = nI (srt o)) (hso : mo p = nI o) (hB : p_X8_ofSort (nI S) ms (nI (srt o)) = some (nI (B (srt o)))) :
    p_X8_choices (nI S) ms mo (nI p) (nI k) (nI u) = some (nI (chN S B o (srt o) k u)) := by
  have hu8 : u < 256 := Nat.lt_of_lt_of_le hu (d_pw S hS)
  obtain ⟨e1, hf, hf8⟩ := d_fr S hS u hu8
  have hf0 : fr S u ≠ 0 := fun e => by
    have h1 := d_frpc S hS u hu
    rw [e, show pc 0 = 0 from rfl] at h1
    omega
  have k1 : (nI k = 1) = (k = 1) := propext (nI_eq (a := k) (b := 1) (by omega) (by omega))
  have k2 : (nI k = 2) = (k = 2) := propext (nI_eq (a := k) (b := 2) (by omega) (by omega))
  have k3 : (nI k = 3) = (k = 3) := propext (nI_eq (a := k) (b := 3) (by omega) (by omega))
  have p8 : inB (nI p) 8 = true := inB_nI hp8 (by decide)
  have cp : (nI p).toNatClampNeg = p := nI_clamp (by omega)
  have o8 : inB (nI o) 8 = true := inB_nI (by omega) (by decide)
  have co : (nI o).toNatClampNeg = o := nI_clamp (by omega)
  unfold p_X8_choices p_X8_choices_b0
  rw [d_whole S hS, b1_some, nm_def, e1]
  simp only [k1, k2, k3]
  unfold chN
  by_cases h1 : k = 1
  · rw [if_pos h1, if_pos h1]
  · rw [if_neg h1, if_neg h1]
    simp only [p8, cp, hso, gd_true]
    rw [d_isIn _ hf8 o (by omega), b1_some]
    simp only [nIb0]
    by_cases hb0 : (fr S u).testBit o = false
    · rw [if_pos hb0]
      have hb1 : ¬ (fr S u).testBit o = true := by rw [hb0]; decide
      rw [if_neg hb1]
      by_cases h2 : k = 2
      · rw [if_pos h2, if_pos h2]
        obtain ⟨n1, n2⟩ := d_nfs S hS (fr S u) hf hf0 o ho
        rw [d_nfM S hS (fr S u) hf hf0 o ho, b1_some, d_sh _ (by omega)]
      · rw [if_neg h2, if_neg h2]
        unfold p_X8_choices_b88 p_X8_choices_b102
        by_cases h3 : k = 3
        · subst h3
          have z : (nI (fr S u &&& B (srt o)) = 0) = (fr S u &&& B (srt o) = 0) := propext (nI_eq (b := 0) (by have := and_lt_l (b := B (srt o)) hf8; omega) (by decide))
          simp only [o8, co, hs, hB, b1_some, nm_def, gd_true, fa_and, z]
          by_cases hz : fr S u &&& B (srt o) = 0 <;> simp [hz]
        · simp [h3]
    · rw [if_neg hb0, d_sh o (by omega)]
      have hb1 : (fr S u).testBit o = true := by simpa using hb0
      rw [if_pos hb1]
