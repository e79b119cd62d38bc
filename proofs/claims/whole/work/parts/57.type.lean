/-! type, both sides -/
theorem v_type {L fl mb mt : Nat → Int32} {Z : Nat → Nat → Int32} (h : TX L Z mb mt) (s0 r0 p0 c0 d0 w0 : Int32) (Hs Hr Hb Ho Hk : Nat → Int32) (x y : Int32) :
    (∃ v : Int32, p_X7_type s0 r0 p0 c0 d0 w0 L fl Hs Hr Hb Ho Hk Z x y = some (v, s0, r0, p0, c0, d0, w0, L, fl, Hs, Hr, Hb, Ho, Hk, Z) ∧ p_X8_type mb mt x y = some (v, mb, mt)) ∨
    (∃ (v hS hR hP : Int32) (L' mb' mt' fl' Hs' Hr' Hb' Ho' Hk' : Nat → Int32) (Z' : Nat → Nat → Int32), p_X7_type s0 r0 p0 c0 d0 w0 L fl Hs Hr Hb Ho Hk Z x y = some (v, hS, hR, hP, 0, 0, 0, L', fl', Hs', Hr', Hb', Ho', Hk', Z') ∧ p_X8_type mb mt x y = some (v, mb', mt') ∧ TX L' Z' mb' mt' ∧ HS hS hR hP fl' Hs' Hr' Hb' Ho' Hk' mb' mt') := by
  unfold p_X7_type p_X7_type_b0 p_X7_type_b18 p_X8_type p_X8_type_b0 p_X8_type_b19
  rcases v_text x with ⟨hx, e1, e2⟩ | ⟨e1, e2⟩
  · rw [e1, e2, b1_some, b1_some, if_pos rfl, if_neg (show ¬ (1 : Int32) = 0 by decide), b256, b1_some]
    by_cases hy : y < 0
    · rw [if_pos hy, if_pos hy, if_pos rfl]; exact Or.inl ⟨_, rfl, rfl⟩
    · rw [if_neg hy, if_neg hy]
      by_cases hy2 : y ≤ 255
      · rw [if_pos hy2, if_pos hy2, if_neg (show ¬ (1 : Int32) = 0 by decide)]
        obtain ⟨t, ht, htx, hxt⟩ : ∃ t : Nat, t < 2 ∧ x.toNatClampNeg = t ∧ x = nI t := ⟨x.toNatClampNeg, by rcases hx with q | q <;> subst q <;> decide, rfl, by rcases hx with q | q <;> subst q <;> decide⟩
        obtain ⟨n, hn, hLn, hmn⟩ : ∃ n : Nat, n ≤ 20 ∧ L t = nI n ∧ mt t = nI n := by
          obtain ⟨n0, n1, g0, g1, a, b, c, d, -, -⟩ := h
          have : t = 0 ∨ t = 1 := by omega
          rcases this with q | q <;> subst q
          · exact ⟨n0, g0, a, c⟩
          · exact ⟨n1, g1, b, d⟩
        simp only [inB2 hx, gd_true, nm_def, htx, hLn, hmn]
        by_cases h20 : n < 20
        · right
          have hT := (TX_type (x := y) ht h20 h hLn).2
          obtain ⟨hS, hR, hP, fl', Hs', Hr', Hb', Ho', Hk', q1, q2⟩ := HS_parse (fl := fl) hT s0 r0 p0 Hs Hr Hb Ho Hk
          have ea : nI n + 1 = nI (n + 1) := by rw [L1, nI_add]
          have eb : (20 : Int32) * x + nI n = nI (20 * t + n) := by
            have : t = 0 ∨ t = 1 := by omega
            rw [hxt]
            rcases this with q | q <;> subst q
            · rw [show (20 : Int32) * nI 0 = nI (20 * 0) from by decide, nI_add]
            · rw [show (20 : Int32) * nI 1 = nI (20 * 1) from by decide, nI_add]
          refine ⟨nI (n + 1), hS, hR, hP, _, _, _, fl', Hs', Hr', Hb', Ho', Hk', _, ?_, ?_, hT, q2⟩
          · rw [if_pos (show nI n < 20 from nI_lt (a := n) (b := 20) h20 (by omega))]
            unfold p_X3_append p_X3_append_b0 p_X3_append_b35 p_X7_spoilAnswers p_X7_spoilAnswers_b0
            simp only [inB2 hx, gd_true, nm_def, htx, hLn]
            rw [if_neg (show ¬ 20 ≤ nI n from nI_ge (a := n) (b := 20) h20 (by omega)), show decide (t < 2) = true from decide_eq_true ht, gd_true, inB_nI h20 (by decide), gd_true, ea, nI_clamp (by omega), q1]
            rw [b9_some, b11_some, b3_some, upd_at, if_pos rfl]
          · rw [if_neg (show ¬ nI n = 20 from fun q => by have := nI_inj (a := n) (b := 20) q (by omega) (by omega); omega), eb, inB_nI (by omega) (by decide), gd_true, ea, nI_clamp (by omega), upd_at, if_pos rfl]
        · have e20 : n = 20 := by omega
          subst e20
          left
          refine ⟨-4, ?_, ?_⟩
          · rw [if_neg (by decide)]
          · rw [if_pos (show nI 20 = 20 from rfl)]
      · rw [if_neg hy2, if_neg hy2, if_pos rfl]; exact Or.inl ⟨_, rfl, rfl⟩
  · rw [e1, e2, b1_some, b1_some, if_neg (show ¬ (1 : Int32) = 0 by decide), if_pos rfl]; exact Or.inl ⟨_, rfl, rfl⟩
