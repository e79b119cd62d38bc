/-! sheets, both sides -/
theorem v_shno (x : Int32) : (∃ s, s < 4 ∧ x = nI s ∧ p_X7_isNoSheet x = some 0 ∧ p_X8_isSheet x = some 1) ∨ (p_X7_isNoSheet x = some 1 ∧ p_X8_isSheet x = some 0) := by
  have hr := v_rng (N := 4) (by decide) x
  rw [show (nI 4 - 1).toInt64 = 3 from by decide, show nI 4 = 4 from rfl] at hr
  unfold p_X7_isNoSheet p_X7_isNoSheet_b0 p_X7_isNoSheet_b9 p_X7_isNoSheet_b14 p_X8_isSheet p_X8_isSheet_b0
  simp only [z0, z1, gd_true]
  rcases hr with ⟨k, h1, h2, h3, h4, h5⟩ | ⟨h1, h2⟩
  · left
    exact ⟨k, h1, h2, by rw [if_neg h4, if_pos h5], by rw [h3]; rfl⟩
  · right
    refine ⟨?_, by rw [h1]; rfl⟩
    by_cases q : x < 0
    · rw [if_pos q]
    · rw [if_neg q, if_neg (h2.resolve_left q)]
theorem v_form (x : Int32) : (∃ f, f < 3 ∧ x = nI f ∧ p_X7_isNoForm x = some 0 ∧ p_X8_in x.toInt64 0 2 = some 1) ∨ (p_X7_isNoForm x = some 1 ∧ p_X8_in x.toInt64 0 2 = some 0) := by
  have hr := v_rng (N := 3) (by decide) x
  rw [show (nI 3 - 1).toInt64 = 2 from by decide] at hr
  have e : (x < nI 3) = (x ≤ 2) := by
    rw [propext Int32.lt_iff_toInt_lt, propext Int32.le_iff_toInt_le, nI_toInt (by decide), show (2 : Int32).toInt = 2 from by decide]
    exact propext ⟨fun q => by omega, fun q => by omega⟩
  rw [e] at hr
  unfold p_X7_isNoForm p_X7_isNoForm_b0 p_X7_isNoForm_b9 p_X7_isNoForm_b14
  simp only [z0, z1, gd_true]
  rcases hr with ⟨k, h1, h2, h3, h4, h5⟩ | ⟨h1, h2⟩
  · left
    exact ⟨k, h1, h2, by rw [if_neg h4, if_pos h5], h3⟩
  · right
    refine ⟨?_, h1⟩
    by_cases q : x < 0
    · rw [if_pos q]
    · rw [if_neg q, if_neg (h2.resolve_left q)]
def SHo (sf sz : Nat → Int32) (si : Nat → Nat → Int32) (mf mz mi : Nat → Int32) (s : Nat) : Prop := (sz s = -1 ∧ mf s = -1) ∨ ∃ f n : Nat, f < 3 ∧ n ≤ 60 ∧ sf s = nI f ∧ mf s = nI f ∧ sz s = nI n ∧ mz s = nI n ∧ ∀ i, i < n → si s i = mi (60 * s + i)
def SH (sf sz : Nat → Int32) (si : Nat → Nat → Int32) (mf mz mi : Nat → Int32) : Prop := ∀ s, s < 4 → SHo sf sz si mf mz mi s
theorem c4 {s : Nat} (h : s < 4) : (nI s).toNatClampNeg = s ∧ inB (nI s) 4 = true ∧ decide (s < 4) = true := ⟨nI_clamp (by omega), inB_nI h (by decide), decide_eq_true h⟩
theorem m1_neg : ¬ (0 : Int32) ≤ -1 := by decide
theorem m1_lt : (-1 : Int32) < 0 := by decide
theorem refS_bad {fd x : Int32} {sz : Nat → Int32} {o : Int32} (h : p_X7_isNoSheet x = some 1) : p_X7_refuseSheet fd sz x o = some (-2, fd) := by
  unfold p_X7_refuseSheet p_X7_refuseSheet_b0 p_X7_refuseSheet_b11
  rw [h, b1_some, if_neg (by decide)]
theorem refS_bad0 {fd : Int32} {sz : Nat → Int32} {s : Nat} (h : p_X7_isNoSheet (nI s) = some 0) : p_X7_refuseSheet fd sz (nI s) 0 = some (-2, fd) := by
  unfold p_X7_refuseSheet p_X7_refuseSheet_b0 p_X7_refuseSheet_b11
  rw [h, b1_some, if_pos rfl, if_pos rfl]
theorem refS_lost {fd : Int32} {sz : Nat → Int32} {s : Nat} (hs : s < 4) (h : p_X7_isNoSheet (nI s) = some 0) (hz : sz s = -1) : p_X7_refuseSheet fd sz (nI s) 1 = some (-10 - 1, 1) := by
  unfold p_X7_refuseSheet p_X7_refuseSheet_b0 p_X7_refuseSheet_b36 p_X7_find p_X7_find_b0
  obtain ⟨c1, c2, c3⟩ := c4 hs
  simp only [h, b1_some, b2_some, i00, i10, if_true, if_false, c1, c2, c3, gd_true, hz]
theorem refS_row {fd : Int32} {sz : Nat → Int32} {s n : Nat} (hs : s < 4) (h : p_X7_isNoSheet (nI s) = some 0) (hz : sz s = nI n) (hn : n ≤ 60) : p_X7_refuseSheet fd sz (nI s) 1 = some (0, fd) := by
  unfold p_X7_refuseSheet p_X7_refuseSheet_b0 p_X7_refuseSheet_b36
  obtain ⟨c1, c2, c3⟩ := c4 hs
  simp only [h, b1_some, i00, i10, if_true, if_false, c1, c2, c3, gd_true, hz, if_neg (nI_m1 (show n < 2 ^ 31 by omega))]
theorem v_lose {sf sz : Nat → Int32} {si : Nat → Nat → Int32} {mf mz mi : Nat → Int32} (h : SH sf sz si mf mz mi) (fd x : Int32) : ∃ (r fd' : Int32) (sz' mf' : Nat → Int32), p_X7_lose fd sz x = some (r, fd', sz') ∧ p_X8_lose fd mf mz x = some (r, fd', mf') ∧ SH sf sz' si mf' mz mi := by
  unfold p_X7_lose p_X7_lose_b0 p_X8_lose p_X8_lose_b0 p_X8_met p_X8_met_b0
  rcases v_shno x with ⟨s, hs, rfl, e1, e2⟩ | ⟨e1, e2⟩
  · obtain ⟨c1, c2, c3⟩ := c4 hs
    rcases h s hs with ⟨g1, g2⟩ | ⟨f, n, g1, g2, g3, g4, g5, g6, g7⟩
    · rw [refS_lost hs e1 g1, e2]
      simp only [b1_some, b2_some, i10, if_false, c1, c2, gd_true, g2, if_neg m1_neg, show ((-10 - 1 : Int32) = 0) = False from eq_false (by decide)]
      exact ⟨_, _, _, _, rfl, rfl, h⟩
    · rw [refS_row hs e1 g5 g2, e2]
      simp only [b1_some, b2_some, i10, i00, if_false, if_true, c1, c2, c3, gd_true, nm_def, g4, g5, g6, if_pos (nI_pos' (show f < 2 ^ 31 by omega))]
      refine ⟨_, _, _, _, rfl, rfl, fun t ht => ?_⟩
      by_cases q : t = s
      · left
        rw [upd_at, upd_at, if_pos q, if_pos q]
        exact ⟨rfl, rfl⟩
      · rcases h t ht with ⟨g1, g2⟩ | ⟨f, n, g1, g2, g3, g4, g5, g6, g7⟩
        · exact Or.inl ⟨by rw [upd_at, if_neg q]; exact g1, by rw [upd_at, if_neg q]; exact g2⟩
        · exact Or.inr ⟨f, n, g1, g2, g3, by rw [upd_at, if_neg q]; exact g4, by rw [upd_at, if_neg q]; exact g5, g6, g7⟩
  · rw [refS_bad e1, e2]
    simp only [b1_some, b2_some, i00, if_true, show ((-2 : Int32) = 0) = False from eq_false (by decide), if_false]
    exact ⟨_, _, _, _, rfl, rfl, h⟩
theorem hold_n {n : Nat} (hn : n ≤ 60) (x : Int32) : (nI n - 1 < x) = ¬ (x < nI n) := by
  have e3 : (nI n - 1).toInt = (n : Int) - 1 := by
    by_cases h0 : n = 0
    · subst h0; decide
    · rw [L1, pk_sub (by omega), nI_toInt (by omega)]; omega
  rw [propext Int32.lt_iff_toInt_lt, propext Int32.lt_iff_toInt_lt, e3, nI_toInt (by omega)]
  exact propext ⟨fun q => by omega, fun q => by omega⟩
/-- an item of a sheet, both sides -/
theorem v_item {sf sz : Nat → Int32} {si : Nat → Nat → Int32} {mf mz mi : Nat → Int32} {s : Nat} (hs : s < 4) (h : SHo sf sz si mf mz mi s) (hns : p_X7_isNoSheet (nI s) = some 0) {y : Int32} (hy : p_X7_isNoForm y = some 0) (fd x : Int32) :
    (∃ (r fd' : Int32), r ≠ 0 ∧ p_X7_refuseItem fd sf sz (nI s) y x = some (r, fd') ∧ p_X8_lacks fd mf mz (nI s) y x = some (r, fd')) ∨ (∃ f n i : Nat, f < 3 ∧ n ≤ 60 ∧ sf s = nI f ∧ mf s = nI f ∧ sz s = nI n ∧ mz s = nI n ∧ (∀ i, i < n → si s i = mi (60 * s + i)) ∧ i < n ∧ y = nI f ∧ x = nI i ∧ p_X7_refuseItem fd sf sz (nI s) y x = some (0, fd) ∧ p_X8_lacks fd mf mz (nI s) y x = some (0, fd)) := by
  unfold p_X7_refuseItem p_X7_refuseItem_b0 p_X7_refuseItem_b14 p_X7_refuseItem_b69 p_X8_lacks p_X8_lacks_b0 p_X8_lacks_b58 p_X8_met p_X8_met_b0 p_X7_find p_X7_find_b0
  obtain ⟨c1, c2, c3⟩ := c4 hs
  rcases h with ⟨g1, g2⟩ | ⟨f, n, g1, g2, g3, g4, g5, g6, g7⟩
  · left
    refine ⟨-10 - 1, 1, by decide, ?_, ?_⟩
    · rw [hy, b1_some, if_pos rfl, refS_lost hs hns g1, b2_some, if_neg (by decide)]
    · rw [c2, gd_true, c1, g2, if_neg m1_neg, b2_some]
  · rw [hy, refS_row hs hns g5 g2]
    simp only [b1_some, b2_some, i10, i00, if_false, if_true, c1, c2, c3, gd_true, g3, g4, g5, g6, if_pos (nI_pos' (show f < 2 ^ 31 by omega))]
    by_cases hf : nI f = y
    · simp only [if_pos hf]
      unfold p_X5_holds p_X5_holds_b0 p_X5_holds_b22 p_X5_holds_b23
      simp only [c3, gd_true, g5, hold_n g2, if_neg (show ¬ (1 : Int32) < 0 by decide), z0, z1]
      rcases v_rng (N := n) (by omega) x with ⟨k, h1, h2, h3, h4, h5⟩ | ⟨h1, h2⟩
      · right
        refine ⟨f, n, k, g1, g2, rfl, rfl, rfl, rfl, g7, h1, hf.symm, h2, ?_, ?_⟩
        · rw [if_neg h4, if_neg (fun q => q h5), b1_some, if_neg (by decide)]
        · rw [h3, b1_some, if_neg (by decide)]
      · left
        refine ⟨-10 - 2, 2, by decide, ?_, ?_⟩
        · by_cases q : x < 0
          · rw [if_pos q, b1_some, if_pos rfl]
          · rw [if_neg q, if_pos (h2.resolve_left q), b1_some, if_pos rfl]
        · rw [h1, b1_some, if_pos rfl]
    · left
      refine ⟨-10 - 3, 3, by decide, ?_, ?_⟩
      · rw [if_neg hf]
      · rw [if_neg hf]
theorem ix60 {s i : Nat} : 60 * nI s + nI i = nI (60 * s + i) := by rw [show (60 : Int32) = nI 60 from rfl, pk_mul, nI_add]
theorem v_get {sf sz : Nat → Int32} {si : Nat → Nat → Int32} {mf mz mi : Nat → Int32} (h : SH sf sz si mf mz mi) (fd x y z : Int32) : ∃ (r fd' : Int32), p_X7_get fd sf sz si x y z = some (r, fd') ∧ p_X8_get fd mf mz mi x y z = some (r, fd') := by
  unfold p_X7_get p_X7_get_b0 p_X7_get_b27 p_X8_get p_X8_get_b0 p_X8_get_b29
  rcases v_shno x with ⟨s, hs, rfl, e1, e2⟩ | ⟨e1, e2⟩
  · obtain ⟨c1, c2, c3⟩ := c4 hs
    rcases v_form y with ⟨f0, hf, hy, e3, e4⟩ | ⟨e3, e4⟩
    · rcases v_item hs (h s hs) e1 e3 fd z with ⟨r, fd', hr, q1, q2⟩ | ⟨f, n, i, g1, g2, g3, g4, g5, g6, g7, g8, g9, rfl, q1, q2⟩
      · rw [q1, e2, e4]
        simp only [b1_some, b2_some, i10, if_false, q2, if_neg hr]
        exact ⟨_, _, rfl, rfl⟩
      · rw [q1, e2, e4]
        simp only [b1_some, b2_some, i10, i00, if_true, if_false, q2, c1, c2, c3, gd_true, ix60, inB_nI (show i < 60 by omega) (by decide), inB_nI (show 60 * s + i < 240 by omega) (by decide), nI_clamp (show i < 2 ^ 31 by omega), nI_clamp (show 60 * s + i < 2 ^ 31 by omega)]
        rw [g7 i g8]; exact ⟨_, _, rfl, rfl⟩
    · have q : p_X7_refuseItem fd sf sz (nI s) y z = some (-2, fd) := by
        unfold p_X7_refuseItem p_X7_refuseItem_b0 p_X7_refuseItem_b14
        rw [e3, b1_some, if_neg (by decide), refS_bad0 e1, b2_some, if_neg (by decide)]
      rw [q, e2, e4]
      simp only [b1_some, b2_some, i10, i00, if_true, if_false, show ((-2 : Int32) = 0) = False from eq_false (by decide)]
      exact ⟨_, _, rfl, rfl⟩
  · have q : p_X7_refuseItem fd sf sz x y z = some (-2, fd) := by
      unfold p_X7_refuseItem p_X7_refuseItem_b0 p_X7_refuseItem_b14
      simp only [refS_bad e1, b2_some, show ((-2 : Int32) = 0) = False from eq_false (by decide), if_false, ite_self]
      rcases v_form y with ⟨f0, hf, hy, e3, e4⟩ | ⟨e3, e4⟩
      · rw [e3]; rfl
      · rw [e3]; rfl
    rw [q, e2]
    simp only [b1_some, b2_some, i10, i00, if_true, if_false, show ((-2 : Int32) = 0) = False from eq_false (by decide)]
    exact ⟨_, _, rfl, rfl⟩
def cutV (f v : Int32) : Int32 := if f = 0 then v.toInt8.toInt32 else if f = 1 then v.toInt16.toInt32 else v
theorem v_cut (f v : Int32) : p_X8_cut f v = some (cutV f v) := by
  unfold p_X8_cut p_X8_cut_b0 p_X8_cut_b20 cutV
  by_cases h0 : f = 0
  · rw [if_pos h0, if_pos h0]
  · rw [if_neg h0, if_neg h0]
    by_cases h1 : f = 1
    · rw [if_pos h1, if_pos h1]
    · rw [if_neg h1, if_neg h1]
theorem v_put {sf : Nat → Int32} {si : Nat → Nat → Int32} {s i : Nat} {v : Int32} (hs : s < 4) (hi : i < 60) : p_X5_put sf si s (nI i) v = some (va_up si s (upd (si s) i (cutV (sf s) v))) := by
  unfold p_X5_put p_X5_put_b0 p_X5_put_b44 cutV
  obtain ⟨c1, c2, c3⟩ := c4 hs
  simp only [c3, gd_true, nm_def, inB_nI hi (by decide), nI_clamp (show i < 2 ^ 31 by omega)]
  by_cases h0 : sf s = 0
  · simp only [if_pos h0]
  · by_cases h1 : sf s = 1
    · simp only [if_neg h0, if_pos h1]
    · simp only [if_neg h0, if_neg h1]
theorem SH_put {sf sz : Nat → Int32} {si : Nat → Nat → Int32} {mf mz mi : Nat → Int32} (h : SH sf sz si mf mz mi) {s i f n : Nat} {v : Int32} (hs : s < 4) (g5 : sz s = nI n) (hn : n ≤ 60) (hi : i < n) : SH sf sz (va_up si s (upd (si s) i v)) mf mz (upd mi (60 * s + i) v) := by
  intro t ht
  rcases h t ht with ⟨g1, g2⟩ | ⟨f, n2, g1, g2, g3, g4, g5', g6, g7⟩
  · exact Or.inl ⟨g1, g2⟩
  · refine Or.inr ⟨f, n2, g1, g2, g3, g4, g5', g6, fun j hj => ?_⟩
    rw [va_up_at, upd_at]
    by_cases q : t = s
    · subst q
      rw [if_pos rfl, upd_at]
      by_cases w : j = i
      · rw [if_pos w, if_pos (by omega)]
      · rw [if_neg w, if_neg (by omega)]; exact g7 j hj
    · rw [if_neg q, if_neg (by omega)]; exact g7 j hj
theorem v_lay {sf sz : Nat → Int32} {si : Nat → Nat → Int32} {mf mz mi : Nat → Int32} (h : SH sf sz si mf mz mi) (fd x y z w : Int32) : ∃ (r fd' : Int32) (si' : Nat → Nat → Int32) (mi' : Nat → Int32), p_X7_lay fd sf sz si x y z w = some (r, fd', si') ∧ p_X8_lay fd mf mz mi x y z w = some (r, fd', mi') ∧ SH sf sz si' mf mz mi' := by
  unfold p_X7_lay p_X7_lay_b0 p_X8_lay p_X8_lay_b0 p_X8_lay_b19
  rcases v_shno x with ⟨s, hs, rfl, e1, e2⟩ | ⟨e1, e2⟩
  · obtain ⟨c1, c2, c3⟩ := c4 hs
    rcases v_form y with ⟨f0, hf, hy, e3, e4⟩ | ⟨e3, e4⟩
    · rcases v_item hs (h s hs) e1 e3 fd z with ⟨r, fd', hr, q1, q2⟩ | ⟨f, n, i, g1, g2, g3, g4, g5, g6, g7, g8, g9, rfl, q1, q2⟩
      · rw [q1, e2, e4]
        simp only [b1_some, b2_some, i10, if_false, q2, if_neg hr]
        exact ⟨_, _, _, _, rfl, rfl, h⟩
      · rw [q1, e2, e4]
        simp only [b1_some, b2_some, i10, i00, if_true, if_false, q2, c1, c2, c3, gd_true, nm_def, ix60, v_cut, v_put hs (show i < 60 by omega), inB_nI (show 60 * s + i < 240 by omega) (by decide), nI_clamp (show 60 * s + i < 2 ^ 31 by omega)]
        refine ⟨_, _, _, _, rfl, rfl, ?_⟩
        rw [g9, g3]
        exact SH_put (f := f) h hs g5 g2 g8
    · have q : p_X7_refuseItem fd sf sz (nI s) y z = some (-2, fd) := by
        unfold p_X7_refuseItem p_X7_refuseItem_b0 p_X7_refuseItem_b14
        rw [e3, b1_some, if_neg (by decide), refS_bad0 e1, b2_some, if_neg (by decide)]
      rw [q, e2, e4]
      simp only [b1_some, b2_some, i10, i00, if_true, if_false, show ((-2 : Int32) = 0) = False from eq_false (by decide)]
      exact ⟨_, _, _, _, rfl, rfl, h⟩
  · have q : p_X7_refuseItem fd sf sz x y z = some (-2, fd) := by
      unfold p_X7_refuseItem p_X7_refuseItem_b0 p_X7_refuseItem_b14
      simp only [refS_bad e1, b2_some, show ((-2 : Int32) = 0) = False from eq_false (by decide), if_false, ite_self]
      rcases v_form y with ⟨f0, hf, hy, e3, e4⟩ | ⟨e3, e4⟩
      · rw [e3]; rfl
      · rw [e3]; rfl
    rw [q, e2]
    simp only [b1_some, b2_some, i10, i00, if_true, if_false, show ((-2 : Int32) = 0) = False from eq_false (by decide)]
    exact ⟨_, _, _, _, rfl, rfl, h⟩
