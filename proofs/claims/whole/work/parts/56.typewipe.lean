/-! type and wipe, both sides -/
theorem inB2 {x : Int32} (h : x = 0 ∨ x = 1) : inB x 2 = true := by rcases h with h | h <;> subst h <;> rfl
theorem b256 (x : Int32) : p_X8_in x.toInt64 0 255 = some (if x < 0 then 0 else if x ≤ 255 then 1 else 0) := by
  rw [v_in, Int32.toInt_toInt64, show (0 : Int64).toInt = 0 from by decide, show (255 : Int64).toInt = 255 from by decide]
  have e1 : (x < 0) = (x.toInt < 0) := propext Int32.lt_iff_toInt_lt
  have e2 : (x ≤ 255) = (x.toInt ≤ 255) := propext Int32.le_iff_toInt_le
  simp only [e1, e2]
  by_cases h : x.toInt < 0
  · rw [if_pos h, if_neg (by omega)]
  · rw [if_neg h]
    by_cases h2 : x.toInt ≤ 255
    · rw [if_pos h2, if_pos (by omega)]
    · rw [if_neg h2, if_neg (by omega)]
/-- what wipe comes to on both sides -/
theorem v_wipe {L fl mb mt : Nat → Int32} {Z : Nat → Nat → Int32} (h : TX L Z mb mt) (s0 r0 p0 c0 d0 w0 : Int32) (Hs Hr Hb Ho Hk : Nat → Int32) (x : Int32) :
    (p_X7_wipe s0 r0 p0 c0 d0 w0 L fl Hs Hr Hb Ho Hk Z x = some (-2, s0, r0, p0, c0, d0, w0, L, fl, Hs, Hr, Hb, Ho, Hk) ∧ p_X8_wipe mt x = some (-2, mt)) ∨
    (∃ (v hS hR hP : Int32) (L' mt' fl' Hs' Hr' Hb' Ho' Hk' : Nat → Int32), p_X7_wipe s0 r0 p0 c0 d0 w0 L fl Hs Hr Hb Ho Hk Z x = some (v, hS, hR, hP, 0, 0, 0, L', fl', Hs', Hr', Hb', Ho', Hk') ∧ p_X8_wipe mt x = some (v, mt') ∧ TX L' Z mb mt' ∧ HS hS hR hP fl' Hs' Hr' Hb' Ho' Hk' mb mt') := by
  rcases v_text x with ⟨hx, e1, e2⟩ | ⟨e1, e2⟩
  · right
    obtain ⟨t, ht, htx⟩ : ∃ t : Nat, t < 2 ∧ x.toNatClampNeg = t := ⟨x.toNatClampNeg, by rcases hx with q | q <;> subst q <;> decide, rfl⟩
    have hTX := TX_wipe ht h
    have hLm : L t = mt t := by
      obtain ⟨n0, n1, -, -, a, b, c, d, -, -⟩ := h
      have : t = 0 ∨ t = 1 := by omega
      rcases this with q | q <;> subst q
      · rw [a, c]
      · rw [b, d]
    obtain ⟨hS, hR, hP, fl', Hs', Hr', Hb', Ho', Hk', q1, q2⟩ := HS_parse (fl := fl) hTX s0 r0 p0 Hs Hr Hb Ho Hk
    refine ⟨L t, hS, hR, hP, upd L t 0, upd mt t 0, fl', Hs', Hr', Hb', Ho', Hk', ?_, ?_, hTX, q2⟩
    · unfold p_X7_wipe p_X7_wipe_b0 p_X3_empty p_X3_empty_b0 p_X7_spoilAnswers p_X7_spoilAnswers_b0
      rw [e1, b1_some]
      simp only [inB2 hx, gd_true, nm_def, htx, q1]
      rfl
    · unfold p_X8_wipe p_X8_wipe_b0
      rw [e2, b1_some]
      simp only [inB2 hx, gd_true, nm_def, htx, hLm]
      rfl
  · left
    constructor
    · unfold p_X7_wipe p_X7_wipe_b0
      rw [e1, b1_some]
      rfl
    · unfold p_X8_wipe p_X8_wipe_b0
      rw [e2, b1_some]
      rfl
