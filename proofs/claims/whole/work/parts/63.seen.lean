/-! what was seen, both sides -/
def SE (sz : Int32) (wp wl : Nat → Int32) (sg : Int32) (sw sl : Nat → Int32) : Prop := ∃ n : Nat, n ≤ 8 ∧ sz = nI n ∧ sg = nI n ∧ ∀ i, i < n → wp i = sw i ∧ wl i = sl i ∧ (∃ q : Nat, q < 8 ∧ sl i = nI q) ∧ (sw i = -1 ∨ ∃ p : Nat, p < 8 ∧ sw i = nI p)
theorem v_may {n : Nat} (hn : n ≤ 8) (sw sl : Nat → Int32) (x y : Int32) :
    (p_X6_mayTell x y = some 0 ∧ p_X8_seen (nI n) sw sl x y = some (-2, nI n, sw, sl)) ∨
    (p_X6_mayTell x y = some 1 ∧ (∃ q : Nat, q < 8 ∧ y = nI q) ∧ (x = -1 ∨ ∃ p : Nat, p < 8 ∧ x = nI p) ∧ p_X8_seen (nI n) sw sl x y = if n = 8 then some (-4, nI n, sw, sl) else some (nI (n + 1), nI (n + 1), upd sw n x, upd sl n y)) := by
  have e1 : (x < -1) = (x.toInt < -1) := propext Int32.lt_iff_toInt_lt
  have e2 : (8 ≤ x) = (8 ≤ x.toInt) := propext Int32.le_iff_toInt_le
  have e3 : (y < 0) = (y.toInt < 0) := propext Int32.lt_iff_toInt_lt
  have e4 : (8 ≤ y) = (8 ≤ y.toInt) := propext Int32.le_iff_toInt_le
  unfold p_X6_mayTell p_X6_mayTell_b0 p_X6_mayTell_b25 p_X6_mayTell_b26 p_X8_seen p_X8_seen_b0 p_X8_seen_b26
  rw [v_in, v_in, Int32.toInt_toInt64, Int32.toInt_toInt64, show (0 : Int64).toInt = 0 from by decide, show (7 : Int64).toInt = 7 from by decide, show (-1 : Int64).toInt = -1 from by decide, z0, z1, gd_true, gd_true, b1_some, b1_some]
  simp only [e1, e2, e3, e4]
  by_cases hx : -1 ≤ x.toInt ∧ x.toInt ≤ 7
  · rw [if_pos hx, if_neg (show ¬ x.toInt < -1 by omega), if_neg (show ¬ 8 ≤ x.toInt by omega), if_neg (show ¬ (1 : Int32) = 0 by decide)]
    by_cases hy : 0 ≤ y.toInt ∧ y.toInt ≤ 7
    · right
      rw [if_pos hy, if_neg (show ¬ y.toInt < 0 by omega), if_neg (show ¬ 8 ≤ y.toInt by omega), if_neg (show ¬ (1 : Int32) = 0 by decide)]
      refine ⟨rfl, ⟨y.toInt.toNat, by omega, Int32.toInt_inj.mp (by rw [nI_toInt (by omega)]; omega)⟩, ?_, ?_⟩
      · by_cases q : x.toInt = -1
        · exact Or.inl (Int32.toInt_inj.mp (by rw [q]; decide))
        · exact Or.inr ⟨x.toInt.toNat, by omega, Int32.toInt_inj.mp (by rw [nI_toInt (by omega)]; omega)⟩
      · by_cases q : n = 8
        · subst q; rfl
        · rw [if_neg (show ¬ nI n = 8 from fun w => q (nI_inj (a := n) (b := 8) w (by omega) (by decide))), if_neg q, inB_nI (show n < 8 by omega) (by decide)]
          simp only [gd_true, nm_def, nI_1, nI_clamp (show n < 2 ^ 31 by omega)]
    · left
      rw [if_neg hy, if_pos rfl]
      refine ⟨?_, rfl⟩
      by_cases q : y.toInt < 0
      · rw [if_pos q]
      · rw [if_neg q, if_pos (by omega)]
  · left
    rw [if_neg hx, if_pos rfl]
    refine ⟨?_, rfl⟩
    by_cases q : x.toInt < -1
    · rw [if_pos q]
    · rw [if_neg q, if_pos (by omega)]
theorem v_tellC {n : Nat} (hn : n < 8) (rd : Int32) (wp wl : Nat → Int32) (x y : Int32) : p_X6_tell (nI n) rd wp wl x y = some (nI (n + 1), 0, upd wp n x, upd wl n y) := by
  unfold p_X6_tell p_X6_tell_b0 p_X6_tell_b44
  rw [if_neg (show ¬ (8 : Int32) ≤ nI n from nI_ge (b := 8) hn (by decide)), inB_nI hn (by decide)]
  simp only [gd_true, nm_def, nI_1, nI_clamp (show n < 2 ^ 31 by omega)]
theorem SE_tell {n : Nat} (hn : n < 8) {wp wl sw sl : Nat → Int32} {x y : Int32} (h : ∀ i, i < n → wp i = sw i ∧ wl i = sl i ∧ (∃ q : Nat, q < 8 ∧ sl i = nI q) ∧ (sw i = -1 ∨ ∃ p : Nat, p < 8 ∧ sw i = nI p)) (hy : ∃ q : Nat, q < 8 ∧ y = nI q) (hx : x = -1 ∨ ∃ p : Nat, p < 8 ∧ x = nI p) :
    ∀ i, i < n + 1 → upd wp n x i = upd sw n x i ∧ upd wl n y i = upd sl n y i ∧ (∃ q : Nat, q < 8 ∧ upd sl n y i = nI q) ∧ (upd sw n x i = -1 ∨ ∃ p : Nat, p < 8 ∧ upd sw n x i = nI p) := fun i hi => by
  rw [upd_at, upd_at, upd_at, upd_at]
  by_cases q : i = n
  · rw [if_pos q, if_pos q, if_pos q, if_pos q]; exact ⟨rfl, rfl, hy, hx⟩
  · rw [if_neg q, if_neg q, if_neg q, if_neg q]; exact h i (by omega)
theorem v_seen {sz : Int32} {wp wl : Nat → Int32} {sg : Int32} {sw sl : Nat → Int32} (h : SE sz wp wl sg sw sl) (rd x y : Int32) :
    ∃ (r sz' rd' : Int32) (wp' wl' : Nat → Int32) (sg' : Int32) (sw' sl' : Nat → Int32), p_X7_seen sz rd wp wl x y = some (r, sz', rd', wp', wl') ∧ p_X8_seen sg sw sl x y = some (r, sg', sw', sl') ∧ SE sz' wp' wl' sg' sw' sl' ∧ ((sz' = sz ∧ rd' = rd ∧ wp' = wp ∧ wl' = wl ∧ sg' = sg ∧ sw' = sw ∧ sl' = sl) ∨ rd' = 0) := by
  obtain ⟨n, hn, rfl, rfl, h⟩ := h
  unfold p_X7_seen p_X7_seen_b0
  rcases v_may hn sw sl x y with ⟨e1, e2⟩ | ⟨e1, hy, hx, e2⟩
  · rw [e1, e2, b1_some, if_pos rfl]
    exact ⟨_, _, _, _, _, _, _, _, rfl, rfl, ⟨n, hn, rfl, rfl, h⟩, Or.inl ⟨rfl, rfl, rfl, rfl, rfl, rfl, rfl⟩⟩
  · rw [e1, e2, b1_some, if_neg (by decide)]
    by_cases q : n = 8
    · subst q
      rw [if_pos rfl, if_neg (show ¬ nI 8 < 8 by decide)]
      exact ⟨_, _, _, _, _, _, _, _, rfl, rfl, ⟨8, hn, rfl, rfl, h⟩, Or.inl ⟨rfl, rfl, rfl, rfl, rfl, rfl, rfl⟩⟩
    · rw [if_neg q, if_pos (show nI n < 8 from nI_lt (b := 8) (by omega) (by decide)), v_tellC (by omega), b4_some]
      exact ⟨_, _, _, _, _, _, _, _, rfl, rfl, ⟨n + 1, by omega, rfl, rfl, SE_tell (by omega) h hy hx⟩, Or.inr rfl⟩
theorem v_forget {sz : Int32} {wp wl : Nat → Int32} {sg : Int32} {sw sl : Nat → Int32} (h : SE sz wp wl sg sw sl) (rd : Int32) :
    ∃ r, p_X7_forget sz rd = some (r, 0, 0) ∧ p_X8_forget sg = some (r, 0) ∧ SE 0 wp wl 0 sw sl := by
  obtain ⟨n, hn, rfl, rfl, h⟩ := h
  exact ⟨nI n, rfl, rfl, 0, by omega, rfl, rfl, fun i hi => absurd hi (by omega)⟩
theorem read_sim {s N : Nat} (hs : s < 4) (hN : N ≤ 60) {fd : Int32} {sz : Nat → Int32} {si : Nat → Nat → Int32} {mf mz mi : Nat → Int32} (hz : sz s = nI N) (hmz : mz s = nI N) (hi : ∀ i, i < N → si s i = mi (60 * s + i)) :
    ∀ (r n c fC fM : Nat) (rd : Int32) (wp wl sw sl : Nat → Int32), n + r = 8 → r < fC → r + 1 < fM → 2 * c ≤ N → (∀ i, i < n → wp i = sw i ∧ wl i = sl i ∧ (∃ q : Nat, q < 8 ∧ sl i = nI q) ∧ (sw i = -1 ∨ ∃ p : Nat, p < 8 ∧ sw i = nI p)) →
    ∃ (v sz' rd' : Int32) (wp' wl' : Nat → Int32) (sg' : Int32) (sw' sl' : Nat → Int32), p_X7_read_b29 fC (nI n) rd fd wp wl sz si (nI s) s (nI c) (nI (2 * c)) = some (v, sz', rd', fd, wp', wl') ∧ p_X8_read_b29 fM fd (nI n) mf mz mi sw sl (nI s) (nI c) 1 = some (v, fd, sg', sw', sl') ∧ SE sz' wp' wl' sg' sw' sl' ∧ ((sz' = nI n ∧ rd' = rd ∧ wp' = wp ∧ wl' = wl ∧ sg' = nI n ∧ sw' = sw ∧ sl' = sl) ∨ rd' = 0) := by
  obtain ⟨c1, c2, c3⟩ := c4 hs
  intro r
  induction r with
  | zero =>
    intro n c fC fM rd wp wl sw sl hn hC hM hc h
    obtain ⟨f, rfl⟩ : ∃ f, fC = f + 1 := ⟨fC - 1, by omega⟩
    obtain ⟨g, rfl⟩ : ∃ g, fM = g + 1 + 1 := ⟨fM - 2, by omega⟩
    have e8 : n = 8 := by omega
    subst e8
    refine ⟨nI c, nI 8, rd, wp, wl, nI 8, sw, sl, ?_, ?_, ⟨8, by omega, rfl, rfl, h⟩, Or.inl ⟨rfl, rfl, rfl, rfl, rfl, rfl, rfl⟩⟩
    · show p_X7_read_b29x _ _ _ _ _ _ _ _ _ _ _ _ = _
      unfold p_X7_read_b29x p_X7_read_b106
      rw [c2, gd_true, c1, c3, gd_true]
      rw [if_pos (show (8 : Int32) ≤ nI 8 by decide), ite_self]
    · show p_X8_read_b29x _ _ _ _ _ _ _ _ _ _ _ = _
      unfold p_X8_read_b29x p_X8_read_b103 p_X8_read_b87 p_X8_read_b98
      rw [if_neg (by decide), c2, gd_true, c1, hmz]
      have e2 : (2 : Int32) * nI c = nI (2 * c) := by rw [L2, pk_mul]
      have e3 : nI (2 * c) + 2 = nI (2 * c + 2) := by rw [L2, nI_add]
      rw [e2, e3]
      by_cases q : N < 2 * c + 2
      · rw [if_pos (nI_lt q (by omega))]
      · rw [if_neg (nI_nlt (by omega) (by omega)), ix60, nI_1, inB_nI (show 60 * s + 2 * c < 240 by omega) (by decide), inB_nI (show 60 * s + 2 * c + 1 < 240 by omega) (by decide), gd_true, gd_true]
        have hseen : ∃ v : Int32, v < 0 ∧ p_X8_seen (nI 8) sw sl (mi (nI (60 * s + 2 * c)).toNatClampNeg) (mi (nI (60 * s + 2 * c + 1)).toNatClampNeg) = some (v, nI 8, sw, sl) := by
          rcases v_may (n := 8) (by omega) sw sl (mi (nI (60 * s + 2 * c)).toNatClampNeg) (mi (nI (60 * s + 2 * c + 1)).toNatClampNeg) with ⟨-, e⟩ | ⟨-, -, -, e⟩
          · exact ⟨-2, by decide, e⟩
          · exact ⟨-4, by decide, by rw [e, if_pos rfl]⟩
        obtain ⟨v, hv, e⟩ := hseen
        rw [e, b4_some, if_pos hv, if_pos rfl, nm_def, show nI c + (0 : Int32) = nI c from nI_add c 0]
        show p_X8_read_b29x _ _ _ _ _ _ _ _ _ _ _ = _
        unfold p_X8_read_b29x p_X8_read_b103
        rw [if_pos rfl]
  | succ r ih =>
    intro n c fC fM rd wp wl sw sl hn hC hM hc h
    obtain ⟨f, rfl⟩ : ∃ f, fC = f + 1 := ⟨fC - 1, by omega⟩
    obtain ⟨g, rfl⟩ : ∃ g, fM = g + 1 + 1 := ⟨fM - 2, by omega⟩
    have e2 : (2 : Int32) * nI c = nI (2 * c) := by rw [L2, pk_mul]
    have e3 : nI (2 * c) + 2 = nI (2 * c + 2) := by rw [L2, nI_add]
    show ∃ (v sz' rd' : Int32) (wp' wl' : Nat → Int32) (sg' : Int32) (sw' sl' : Nat → Int32), p_X7_read_b29x _ _ _ _ _ _ _ _ _ _ _ _ = _ ∧ p_X8_read_b29x _ _ _ _ _ _ _ _ _ _ _ = _ ∧ _
    unfold p_X7_read_b29x p_X7_read_b106 p_X8_read_b29x p_X8_read_b103 p_X8_read_b87 p_X8_read_b98
    rw [if_neg (show ¬ (1 : Int32) = 0 by decide), c2, c1, c3, hz, hmz, e2, e3]
    simp only [gd_true]
    by_cases q : N < 2 * c + 2
    · rw [if_pos (nI_lt q (by omega)), nI_1, if_pos (nI_le (show N ≤ 2 * c + 1 by omega) (by omega))]
      exact ⟨nI c, nI n, rd, wp, wl, nI n, sw, sl, rfl, rfl, ⟨n, by omega, rfl, rfl, h⟩, Or.inl ⟨rfl, rfl, rfl, rfl, rfl, rfl, rfl⟩⟩
    · rw [if_neg (nI_nlt (by omega) (by omega)), nI_1, if_neg (nI_ge (show 2 * c + 1 < N by omega) (by omega)), if_neg (show ¬ (8 : Int32) ≤ nI n from nI_ge (b := 8) (by omega) (by decide))]
      simp only [ix60, nI_1, inB_nI (show 60 * s + 2 * c < 240 by omega) (by decide), inB_nI (show 60 * s + 2 * c + 1 < 240 by omega) (by decide), inB_nI (show 2 * c < 60 by omega) (by decide), inB_nI (show 2 * c + 1 < 60 by omega) (by decide), gd_true, nI_clamp (show 2 * c < 2 ^ 31 by omega), nI_clamp (show 2 * c + 1 < 2 ^ 31 by omega), nI_clamp (show 60 * s + 2 * c < 2 ^ 31 by omega), nI_clamp (show 60 * s + 2 * c + 1 < 2 ^ 31 by omega)]
      have i1 := hi (2 * c) (by omega)
      have i2 := hi (2 * c + 1) (by omega)
      rw [i1, i2]
      rcases v_may (n := n) (by omega) sw sl (mi (60 * s + 2 * c)) (mi (60 * s + (2 * c + 1))) with ⟨k1, k2⟩ | ⟨k1, hy, hx, k2⟩
      · rw [k1, b1_some, if_pos rfl]
        rw [show 60 * s + 2 * c + 1 = 60 * s + (2 * c + 1) from rfl, k2, b4_some, if_pos (by decide), if_pos trivial, nm_def, show nI c + (0 : Int32) = nI c from nI_add c 0]
        refine ⟨nI c, nI n, rd, wp, wl, nI n, sw, sl, rfl, ?_, ⟨n, by omega, rfl, rfl, h⟩, Or.inl ⟨rfl, rfl, rfl, rfl, rfl, rfl, rfl⟩⟩
        show p_X8_read_b29x _ _ _ _ _ _ _ _ _ _ _ = _
        unfold p_X8_read_b29x p_X8_read_b103
        rw [if_pos rfl]
      · rw [k1, b1_some, if_neg (by decide), v_tellC (by omega), b4_some, nm_def, nm_def]
        rw [show 60 * s + 2 * c + 1 = 60 * s + (2 * c + 1) from rfl, k2, if_neg (by omega), b4_some, if_neg (nI_pos (by omega)), if_neg (by decide), nm_def]
        obtain ⟨v, sz', rd', wp', wl', sg', sw', sl', r1, r2, r3, r4⟩ := ih (n + 1) (c + 1) f (g + 1) 0 _ _ _ _ (by omega) (by omega) (by omega) (by omega) (SE_tell (by omega) h hy hx)
        refine ⟨v, sz', rd', wp', wl', sg', sw', sl', r1, r2, r3, Or.inr ?_⟩
        rcases r4 with r4 | r4
        · exact r4.2.1
        · exact r4
theorem v_read {sz : Int32} {wp wl : Nat → Int32} {sg : Int32} {sw sl : Nat → Int32} (h : SE sz wp wl sg sw sl) {sf ss : Nat → Int32} {si : Nat → Nat → Int32} {mf mz mi : Nat → Int32} (hH : SH sf ss si mf mz mi) (rd fd x : Int32) :
    ∃ (v sz' rd' fd' : Int32) (wp' wl' : Nat → Int32) (sg' : Int32) (sw' sl' : Nat → Int32), p_X7_read sz rd fd wp wl ss si x = some (v, sz', rd', fd', wp', wl') ∧ p_X8_read fd sg mf mz mi sw sl x = some (v, fd', sg', sw', sl') ∧ SE sz' wp' wl' sg' sw' sl' ∧ ((sz' = sz ∧ rd' = rd ∧ wp' = wp ∧ wl' = wl ∧ sg' = sg ∧ sw' = sw ∧ sl' = sl) ∨ rd' = 0) := by
  have h0 := h
  obtain ⟨n, hn, rfl, rfl, h⟩ := h
  unfold p_X7_read p_X7_read_b0 p_X8_read p_X8_read_b0 p_X8_met p_X8_met_b0
  rcases v_shno x with ⟨s, hs, rfl, e1, e2⟩ | ⟨e1, e2⟩
  · obtain ⟨c1, c2, c3⟩ := c4 hs
    rcases hH s hs with ⟨g1, g2⟩ | ⟨f, N, g1, g2, g3, g4, g5, g6, g7⟩
    · rw [refS_lost hs e1 g1, e2]
      simp only [b1_some, b2_some, i10, if_false, c1, c2, gd_true, g2, if_neg m1_neg, show ((-10 - 1 : Int32) = 0) = False from eq_false (by decide)]
      exact ⟨_, _, _, _, _, _, _, _, _, rfl, rfl, h0, Or.inl ⟨rfl, rfl, rfl, rfl, rfl, rfl, rfl⟩⟩
    · rw [refS_row hs e1 g5 g2, e2]
      simp only [b1_some, b2_some, i10, i00, if_false, if_true, c1, c2, c3, gd_true, g4, if_pos (nI_pos' (show f < 2 ^ 31 by omega))]
      obtain ⟨v, sz', rd', wp', wl', sg', sw', sl', r1, r2, r3, r4⟩ := read_sim hs g2 (fd := fd) (mf := mf) g5 g6 g7 (8 - n) n 0 4096 4096 rd wp wl sw sl (by omega) (by omega) (by omega) (by omega) h
      exact ⟨v, sz', rd', fd, wp', wl', sg', sw', sl', r1, r2, r3, r4⟩
  · rw [refS_bad e1, e2]
    simp only [b1_some, b2_some, i00, if_true, show ((-2 : Int32) = 0) = False from eq_false (by decide), if_false]
    exact ⟨_, _, _, _, _, _, _, _, _, rfl, rfl, h0, Or.inl ⟨rfl, rfl, rfl, rfl, rfl, rfl, rfl⟩⟩
