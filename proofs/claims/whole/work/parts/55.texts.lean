/-! the texts and the house of both sides -/
def TX (L : Nat → Int32) (Z : Nat → Nat → Int32) (mb mt : Nat → Int32) : Prop :=
  ∃ n0 n1 : Nat, n0 ≤ 20 ∧ n1 ≤ 20 ∧ L 0 = nI n0 ∧ L 1 = nI n1 ∧ mt 0 = nI n0 ∧ mt 1 = nI n1 ∧ (∀ j, j < n0 → Z 0 j = mb j) ∧ (∀ j, j < n1 → Z 1 j = mb (20 + j))
def HS (hS hR hP : Int32) (fl Hs Hr Hb Ho Hk mb mt : Nat → Int32) : Prop :=
  ∃ (S R P : Nat) (srt row own kd : Nat → Nat), hS = nI S ∧ hR = nI R ∧ hP = nI P ∧ cRows S R P srt row own kd Hs Hr Hb Ho Hk ∧ mRead mb mt (fl 0) (fl 1) S R P srt row own kd
theorem HS_parse {L fl mb mt : Nat → Int32} {Z : Nat → Nat → Int32} (h : TX L Z mb mt) (s0 r0 p0 : Int32) (Hs Hr Hb Ho Hk : Nat → Int32) :
    ∃ (hS hR hP : Int32) (fl' Hs' Hr' Hb' Ho' Hk' : Nat → Int32), p_X3_parse s0 r0 p0 L fl Hs Hr Hb Ho Hk Z = some (hS, hR, hP, fl', Hs', Hr', Hb', Ho', Hk') ∧ HS hS hR hP fl' Hs' Hr' Hb' Ho' Hk' mb mt := by
  obtain ⟨n0, n1, h0, h1, a, b, c, d, e, f⟩ := h
  obtain ⟨S, R, P, srt, row, own, kd, f0, f1, Hs', Hr', Hb', Ho', Hk', q1, q2, q3⟩ := v_parse (fl := fl) h0 h1 a b c d e f (s0 := s0) (r0 := r0) (p0 := p0) (Hs := Hs) (Hr := Hr) (Hb := Hb) (Ho := Ho) (Hk := Hk)
  exact ⟨_, _, _, _, _, _, _, _, _, q1, S, R, P, srt, row, own, kd, rfl, rfl, rfl, q2, q3⟩
theorem TX_wipe {L mb mt : Nat → Int32} {Z : Nat → Nat → Int32} {t : Nat} (ht : t < 2) (h : TX L Z mb mt) : TX (upd L t 0) Z mb (upd mt t 0) := by
  obtain ⟨n0, n1, h0, h1, a, b, c, d, e, f⟩ := h
  by_cases ht0 : t = 0
  · subst ht0
    exact ⟨0, n1, by omega, h1, rfl, b, rfl, d, fun j hj => absurd hj (by omega), f⟩
  · have : t = 1 := by omega
    subst this
    exact ⟨n0, 0, h0, by omega, a, rfl, c, rfl, e, fun j hj => absurd hj (by omega)⟩
theorem va_up_at {α : Type} {f : Nat → α} {k x : Nat} {v : α} : va_up f k v x = if x = k then v else f x := rfl
theorem TX_type {L mb mt : Nat → Int32} {Z : Nat → Nat → Int32} {t n : Nat} {x : Int32} (ht : t < 2) (hn : n < 20) (h : TX L Z mb mt) (hL : L t = nI n) :
    mt t = nI n ∧ TX (upd L t (nI (n + 1))) (va_up Z t (upd (Z t) n x)) (upd mb (20 * t + n) x) (upd mt t (nI (n + 1))) := by
  obtain ⟨n0, n1, h0, h1, a, b, c, d, e, f⟩ := h
  by_cases ht0 : t = 0
  · subst ht0
    have e0 : n = n0 := nI_inj (hL.symm.trans a) (by omega) (by omega)
    subst e0
    refine ⟨c, n + 1, n1, by omega, h1, rfl, b, rfl, d, fun j hj => ?_, fun j hj => ?_⟩
    · rw [va_up_at, if_pos rfl, upd_at, upd_at]
      by_cases q : j = n
      · rw [if_pos q, if_pos (by omega)]
      · rw [if_neg q, if_neg (by omega)]; exact e j (by omega)
    · rw [va_up_at, if_neg (by decide), upd_at, if_neg (by omega)]; exact f j hj
  · have : t = 1 := by omega
    subst this
    have e0 : n = n1 := nI_inj (hL.symm.trans b) (by omega) (by omega)
    subst e0
    refine ⟨d, n0, n + 1, h0, by omega, a, rfl, c, rfl, fun j hj => ?_, fun j hj => ?_⟩
    · rw [va_up_at, if_neg (by decide), upd_at, if_neg (by omega)]; exact e j hj
    · rw [va_up_at, if_pos rfl, upd_at, upd_at]
      by_cases q : j = n
      · rw [if_pos q, if_pos (by omega)]
      · rw [if_neg q, if_neg (by omega)]; exact f j (by omega)
