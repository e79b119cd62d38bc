theorem sheet_55 {s n : Nat} (hs : s < 4) (hn : n ≤ 60) {fd : Int32} {mf mz mi0 : Nat → Int32} : ∀ (r i fuel : Nat) (mi : Nat → Int32), i + r = n → r < fuel → (∀ y, mi y = if 60 * s ≤ y ∧ y < 60 * s + i then 0 else mi0 y) →
    ∃ mi', (∀ y, mi' y = if 60 * s ≤ y ∧ y < 60 * s + n then 0 else mi0 y) ∧ p_X8_sheet_b55 fuel fd mf mz mi (nI s) (nI n) (nI i) = some (nI n, fd, mf, mz, mi') := by
  intro r
  induction r with
  | zero =>
    intro i fuel mi hi hf hm
    obtain ⟨f, rfl⟩ : ∃ f, fuel = f + 1 := ⟨fuel - 1, by omega⟩
    have e : i = n := by omega
    subst e
    refine ⟨mi, hm, ?_⟩
    show p_X8_sheet_b55x _ _ _ _ _ _ _ _ = _
    unfold p_X8_sheet_b55x
    rw [if_pos (nI_le (Nat.le_refl _) (by omega))]
  | succ r ih =>
    intro i fuel mi hi hf hm
    obtain ⟨f, rfl⟩ : ∃ f, fuel = f + 1 := ⟨fuel - 1, by omega⟩
    obtain ⟨mi', h1, h2⟩ := ih (i + 1) f (upd mi (60 * s + i) 0) (by omega) (by omega) (fun y => by
      rw [upd_at, hm y]
      by_cases e : y = 60 * s + i
      · rw [if_pos e, if_pos (by omega)]
      · rw [if_neg e]
        by_cases q : 60 * s ≤ y ∧ y < 60 * s + i
        · rw [if_pos q, if_pos (by omega)]
        · rw [if_neg q, if_neg (by omega)])
    refine ⟨mi', h1, ?_⟩
    rw [← h2]
    show p_X8_sheet_b55x _ _ _ _ _ _ _ _ = _
    unfold p_X8_sheet_b55x
    rw [if_neg (nI_ge (by omega) (by omega)), ix60, inB_nI (show 60 * s + i < 240 by omega) (by decide), gd_true, nm_def, nm_def, nI_clamp (by omega), nI_1]
theorem v_sheet {sf sz : Nat → Int32} {si : Nat → Nat → Int32} {mf mz mi : Nat → Int32} (h : SH sf sz si mf mz mi) (fd x y z : Int32) : ∃ (r fd' : Int32) (sf' sz' : Nat → Int32) (si' : Nat → Nat → Int32) (mf' mz' mi' : Nat → Int32), p_X7_sheet fd sf sz si x y z = some (r, fd', sf', sz', si') ∧ p_X8_sheet fd mf mz mi x y z = some (r, fd', mf', mz', mi') ∧ SH sf' sz' si' mf' mz' mi' := by
  unfold p_X7_sheet p_X7_sheet_b0 p_X7_sheet_b20 p_X8_sheet p_X8_sheet_b0 p_X8_sheet_b25 p_X8_met p_X8_met_b0 p_X7_find p_X7_find_b0 p_X5_renew p_X5_renew_b0
  rcases v_shno x with ⟨s, hs, rfl, e1, e2⟩ | ⟨e1, e2⟩
  · obtain ⟨c1, c2, c3⟩ := c4 hs
    rcases v_form y with ⟨f, hf, rfl, e3, e4⟩ | ⟨e3, e4⟩
    · rw [e1, e2]
      simp only [b1_some, b2_some, b3_some, e3, e4, i10, i00, if_true, if_false, c1, c2, c3, gd_true, nm_def]
      by_cases h6 : z ≤ 60
      · by_cases h0 : 0 ≤ z
        · obtain ⟨n, hn, rfl⟩ : ∃ n : Nat, n ≤ 60 ∧ z = nI n := nI_of2 (M := 60) (n := 60) (by decide) (fun q => by have := Int32.lt_iff_toInt_lt.mp q; have := Int32.le_iff_toInt_le.mp h0; omega) h6
          obtain ⟨mi', g1, g2⟩ := sheet_55 (fd := fd) (mf := upd mf s (nI f)) (mz := upd mz s (nI n)) (mi0 := mi) hs hn n 0 4096 mi (by omega) (by omega) (fun y => by rw [if_neg (by omega)])
          rw [if_pos h6, if_pos h6, if_pos h0, if_pos h0]
          refine ⟨_, _, _, _, _, _, _, _, rfl, g2, fun t ht => ?_⟩
          by_cases q : t = s
          · subst q
            refine Or.inr ⟨f, n, hf, hn, pk_us, pk_us, pk_us, pk_us, fun i hi => ?_⟩
            rw [va_up_at, if_pos rfl, g1, if_pos (by omega)]
            show (if i < 60 then (0 : Int32) else _) = 0
            rw [if_pos (by omega)]
          · rcases h t ht with ⟨k1, k2⟩ | ⟨f2, n2, k1, k2, k3, k4, k5, k6, k7⟩
            · exact Or.inl ⟨by rw [pk_un q]; exact k1, by rw [pk_un q]; exact k2⟩
            · refine Or.inr ⟨f2, n2, k1, k2, by rw [pk_un q]; exact k3, by rw [pk_un q]; exact k4, by rw [pk_un q]; exact k5, by rw [pk_un q]; exact k6, fun i hi => ?_⟩
              rw [va_up_at, if_neg q, g1, if_neg (by omega)]
              exact k7 i hi
        · rw [if_pos h6, if_pos h6, if_neg h0, if_neg h0]
          exact ⟨_, _, _, _, _, _, _, _, rfl, rfl, h⟩
      · rw [if_neg h6, if_neg h6]
        exact ⟨_, _, _, _, _, _, _, _, rfl, rfl, h⟩
    · rw [e1, e2]
      simp only [b1_some, e3, e4, i10, i00, if_true, if_false]
      exact ⟨_, _, _, _, _, _, _, _, rfl, rfl, h⟩
  · rw [e1, e2]
    simp only [b1_some, i10, i00, if_true, if_false]
    exact ⟨_, _, _, _, _, _, _, _, rfl, rfl, h⟩
theorem ix603 {s a i : Nat} : 60 * nI s + nI a + nI i = nI (60 * s + a + i) := by rw [ix60, nI_add]
theorem copy_157 {t c b : Nat} (ht : t < 4) (hb : c + b ≤ 60) {fd : Int32} {mf mz mv mi0 : Nat → Int32} : ∀ (r i fuel : Nat) (mi : Nat → Int32), i + r = b → r < fuel → (∀ y, mi y = if 60 * t + c ≤ y ∧ y < 60 * t + c + i then mv (y - (60 * t + c)) else mi0 y) →
    ∃ mi', (∀ y, mi' y = if 60 * t + c ≤ y ∧ y < 60 * t + c + b then mv (y - (60 * t + c)) else mi0 y) ∧ p_X8_copy_b157 fuel fd mf mz mi mv (nI t) (nI c) (nI b) (nI i) = some (1, fd, mi', mv) := by
  intro r
  induction r with
  | zero =>
    intro i fuel mi hi hf hm
    obtain ⟨f, rfl⟩ : ∃ f, fuel = f + 1 := ⟨fuel - 1, by omega⟩
    have e : i = b := by omega
    subst e
    refine ⟨mi, hm, ?_⟩
    show p_X8_copy_b157x _ _ _ _ _ _ _ _ _ _ = _
    unfold p_X8_copy_b157x
    rw [if_pos (nI_le (Nat.le_refl _) (by omega))]
  | succ r ih =>
    intro i fuel mi hi hf hm
    obtain ⟨f, rfl⟩ : ∃ f, fuel = f + 1 := ⟨fuel - 1, by omega⟩
    obtain ⟨mi', h1, h2⟩ := ih (i + 1) f (upd mi (60 * t + c + i) (mv i)) (by omega) (by omega) (fun y => by
      rw [upd_at, hm y]
      by_cases e : y = 60 * t + c + i
      · rw [if_pos e, if_pos (by omega), show y - (60 * t + c) = i by omega]
      · rw [if_neg e]
        by_cases q : 60 * t + c ≤ y ∧ y < 60 * t + c + i
        · rw [if_pos q, if_pos (by omega)]
        · rw [if_neg q, if_neg (by omega)])
    refine ⟨mi', h1, ?_⟩
    rw [← h2]
    show p_X8_copy_b157x _ _ _ _ _ _ _ _ _ _ = _
    unfold p_X8_copy_b157x
    rw [if_neg (nI_ge (by omega) (by omega)), ix603, inB_nI (show i < 60 by omega) (by decide), inB_nI (show 60 * t + c + i < 240 by omega) (by decide), gd_true, gd_true, nm_def, nm_def, nI_clamp (show i < 2 ^ 31 by omega), nI_clamp (by omega), nI_1]
theorem copy_120 {s t a c b : Nat} (hs : s < 4) (ha : a + b ≤ 60) {fd : Int32} {mf mz mi : Nat → Int32} : ∀ (r i fuel : Nat) (mv : Nat → Int32), i + r = b → r < fuel → (∀ k, k < i → mv k = mi (60 * s + a + k)) →
    ∃ mv', (∀ k, k < b → mv' k = mi (60 * s + a + k)) ∧ p_X8_copy_b120 fuel fd mf mz mi mv (nI s) (nI a) (nI t) (nI c) (nI b) (nI i) = p_X8_copy_b157 4096 fd mf mz mi mv' (nI t) (nI c) (nI b) 0 := by
  intro r
  induction r with
  | zero =>
    intro i fuel mv hi hf hm
    obtain ⟨f, rfl⟩ : ∃ f, fuel = f + 1 := ⟨fuel - 1, by omega⟩
    have e : i = b := by omega
    subst e
    refine ⟨mv, hm, ?_⟩
    show p_X8_copy_b120x _ _ _ _ _ _ _ _ _ _ _ _ = _
    unfold p_X8_copy_b120x
    rw [if_pos (nI_le (Nat.le_refl _) (by omega))]
  | succ r ih =>
    intro i fuel mv hi hf hm
    obtain ⟨f, rfl⟩ : ∃ f, fuel = f + 1 := ⟨fuel - 1, by omega⟩
    obtain ⟨mv', h1, h2⟩ := ih (i + 1) f (upd mv i (mi (60 * s + a + i))) (by omega) (by omega) (fun k hk => by
      rw [upd_at]
      by_cases e : k = i
      · rw [if_pos e, e]
      · rw [if_neg e]; exact hm k (by omega))
    refine ⟨mv', h1, ?_⟩
    rw [← h2]
    show p_X8_copy_b120x _ _ _ _ _ _ _ _ _ _ _ _ = _
    unfold p_X8_copy_b120x
    rw [if_neg (nI_ge (by omega) (by omega)), ix603, inB_nI (show 60 * s + a + i < 240 by omega) (by decide), inB_nI (show i < 60 by omega) (by decide), gd_true, gd_true, nm_def, nm_def, nI_clamp (show i < 2 ^ 31 by omega), nI_clamp (by omega), nI_1]
theorem sub_big {n b : Nat} (hn : n ≤ 60) (hb : b < 2 ^ 31) : (nI n - nI b).toInt = (n : Int) - b := by
  rw [Int32.toInt_sub, nI_toInt (by omega), nI_toInt hb]
  apply Int.bmod_eq_of_le
  · omega
  · omega
theorem add_l {a b : Nat} (ha : a < 2 ^ 31) (hb : b < 2 ^ 31) : ((nI a).toInt64 + (nI b).toInt64).toInt = (a : Int) + b := by
  rw [nI_l ha, nI_l hb, lN_add, pk_lT (by omega)]
  omega
theorem lg_le {x a : Int64} : (lg_cmp x a ≤ 0) = (x.toInt ≤ a.toInt) := by
  unfold lg_cmp
  by_cases h1 : x > a
  · have h2 : a.toInt < x.toInt := Int64.lt_iff_toInt_lt.mp h1
    rw [if_pos h1]
    exact propext ⟨fun q => absurd q (by decide), fun q => by omega⟩
  · have h2 : ¬ a.toInt < x.toInt := fun q => h1 (Int64.lt_iff_toInt_lt.mpr q)
    rw [if_neg h1]
    by_cases h3 : x = a
    · rw [if_pos h3]
      exact propext ⟨fun _ => by omega, fun _ => by decide⟩
    · rw [if_neg h3]
      exact propext ⟨fun _ => by omega, fun _ => by decide⟩
theorem hold_at {sz : Nat → Int32} {s n a b : Nat} (hs : s < 4) (hn : n ≤ 60) (hz : sz s = nI n) (ha : a < 2 ^ 31) (hb : b < 2 ^ 31) : p_X5_holds sz s (nI a) (nI b) = some (if a + b ≤ n then 1 else 0) := by
  unfold p_X5_holds p_X5_holds_b0 p_X5_holds_b22 p_X5_holds_b23
  rw [if_neg (nI_pos ha), if_neg (nI_pos hb), (c4 hs).2.2, gd_true, hz, z0, z1, gd_true, gd_true]
  have e : (nI n - nI b < nI a) = ¬ (a + b ≤ n) := by
    rw [propext Int32.lt_iff_toInt_lt, sub_big hn hb, nI_toInt ha]
    exact propext ⟨fun q => by omega, fun q => by omega⟩
  simp only [e]
  by_cases q : a + b ≤ n
  · rw [if_neg (fun z => z q), if_pos q]
  · rw [if_pos q, if_neg q]
theorem hold_no {sz : Nat → Int32} {s : Nat} {x y : Int32} (h : x < 0 ∨ y < 0) : p_X5_holds sz s x y = some 0 := by
  unfold p_X5_holds p_X5_holds_b0 p_X5_holds_b22 p_X5_holds_b23
  rw [z0, gd_true]
  by_cases q : x < 0
  · rw [if_pos q]
  · rw [if_neg q, if_pos (h.resolve_left q)]
theorem hold_or {sz : Nat → Int32} {s n : Nat} (hs : s < 4) (hn : n ≤ 60) (hz : sz s = nI n) (x y : Int32) : p_X5_holds sz s x y = some 0 ∨ p_X5_holds sz s x y = some 1 := by
  by_cases q : x < 0 ∨ y < 0
  · exact Or.inl (hold_no q)
  · obtain ⟨a, ha, rfl⟩ := nI_of (x := x) (fun z => q (Or.inl z))
    obtain ⟨b, hb, rfl⟩ := nI_of (x := y) (fun z => q (Or.inr z))
    rw [hold_at hs hn hz ha hb]
    by_cases w : a + b ≤ n
    · rw [if_pos w]; exact Or.inr rfl
    · rw [if_neg w]; exact Or.inl rfl
theorem v_copy {sf sz : Nat → Int32} {si : Nat → Nat → Int32} {mf mz mi : Nat → Int32} (h : SH sf sz si mf mz mi) {mv : Nat → Int32} (fd x1 x2 x3 x4 x5 : Int32) : ∃ (r fd' : Int32) (si' : Nat → Nat → Int32) (mi' mv' : Nat → Int32), p_X7_copy fd sf sz si x1 x2 x3 x4 x5 = some (r, fd', si') ∧ p_X8_copy fd mf mz mi mv x1 x2 x3 x4 x5 = some (r, fd', mi', mv') ∧ SH sf sz si' mf mz mi' := by
  unfold p_X7_copy p_X7_copy_b0 p_X7_copy_b14 p_X7_copy_b51 p_X7_copy_b99 p_X8_copy p_X8_copy_b0 p_X8_copy_b14 p_X8_copy_b35 p_X8_copy_b111 p_X8_met p_X8_met_b0 p_X7_find p_X7_find_b0
  rcases v_shno x1 with ⟨s, hs, rfl, e1, e2⟩ | ⟨e1, e2⟩
  · obtain ⟨c1, c2, c3⟩ := c4 hs
    rcases v_shno x3 with ⟨t, ht, rfl, e3, e4⟩ | ⟨e3, e4⟩
    · obtain ⟨d1, d2, d3⟩ := c4 ht
      rw [e1, e2]
      simp only [b1_some, b2_some, e3, e4, i10, i00, if_true, if_false, c1, c2, c3, d1, d2, d3, gd_true, nm_def]
      rcases h s hs with ⟨g1, g2⟩ | ⟨f, n, g1, g2, g3, g4, g5, g6, g7⟩
      · rw [g1, g2, if_pos rfl, if_pos m1_lt]
        exact ⟨_, _, _, _, _, rfl, rfl, h⟩
      · rcases h t ht with ⟨k1, k2⟩ | ⟨f2, n2, k1, k2, k3, k4, k5, k6, k7⟩
        · simp only [g4, g5, k1, k2, if_neg (nI_m1 (show n < 2 ^ 31 by omega)), if_neg (nI_pos (show f < 2 ^ 31 by omega)), if_neg m1_neg, if_true]
          exact ⟨_, _, _, _, _, rfl, rfl, h⟩
        · simp only [g3, g4, g5, g6, k3, k4, k5, k6, if_neg (nI_m1 (show n < 2 ^ 31 by omega)), if_neg (nI_m1 (show n2 < 2 ^ 31 by omega)), if_neg (nI_pos (show f < 2 ^ 31 by omega)), if_pos (nI_pos' (show f2 < 2 ^ 31 by omega))]
          by_cases hf : nI f = nI f2
          · simp only [if_pos hf]
            by_cases hx : (x2 < 0 ∨ x5 < 0) ∨ x4 < 0
            · have r1 : ∀ K1 K2 : Option (Int32 × Int32 × (Nat → Nat → Int32)), (b1 (p_X5_holds sz s x2 x5) fun r81 => if r81 = 0 then K1 else b1 (p_X5_holds sz t x4 x5) fun r93 => if r93 = 0 then K1 else K2) = K1 := fun K1 K2 => by
                by_cases q : x2 < 0 ∨ x5 < 0
                · rw [hold_no q, b1_some, if_pos rfl]
                · have q4 : x4 < 0 := hx.resolve_left q
                  rcases hold_or (sz := sz) hs g2 g5 x2 x5 with w | w
                  · rw [w, b1_some, if_pos rfl]
                  · rw [w, b1_some, if_neg (by decide), hold_no (Or.inl q4), b1_some, if_pos rfl]
              have r2 : ∀ K1 K2 : Option (Int32 × Int32 × (Nat → Int32) × (Nat → Int32)), (if x2 < 0 then K1 else if x4 < 0 then K1 else if x5 < 0 then K1 else K2) = K1 := fun K1 K2 => by
                by_cases q2 : x2 < 0
                · rw [if_pos q2]
                · rw [if_neg q2]
                  by_cases q4 : x4 < 0
                  · rw [if_pos q4]
                  · rw [if_neg q4, if_pos ((hx.resolve_right q4).resolve_left q2)]
              rw [r1, r2]
              exact ⟨_, _, _, _, _, rfl, rfl, h⟩
            · obtain ⟨a, ha, rfl⟩ := nI_of (x := x2) (fun z => hx (Or.inl (Or.inl z)))
              obtain ⟨b, hb, rfl⟩ := nI_of (x := x5) (fun z => hx (Or.inl (Or.inr z)))
              obtain ⟨c, hc, rfl⟩ := nI_of (x := x4) (fun z => hx (Or.inr z))
              rw [hold_at hs g2 g5 ha hb, hold_at ht k2 k5 hc hb]
              simp only [b1_some, if_neg (nI_pos ha), if_neg (nI_pos hb), if_neg (nI_pos hc), lg_gt, lg_le, add_l ha hb, add_l hc hb, nI_l (show n < 2 ^ 31 by omega), nI_l (show n2 < 2 ^ 31 by omega), pk_lT (show n < 2 ^ 63 by omega), pk_lT (show n2 < 2 ^ 63 by omega)]
              by_cases w1 : a + b ≤ n
              · rw [if_pos w1, if_neg (show ¬ (1 : Int32) = 0 by decide), if_neg (show ¬ (n : Int) < (a : Int) + (b : Int) by omega)]
                by_cases w2 : c + b ≤ n2
                · rw [if_pos w2, if_neg (show ¬ (1 : Int32) = 0 by decide), if_pos (show (c : Int) + (b : Int) ≤ (n2 : Int) by omega)]
                  have hcp : cpB (nI a) (nI c) (nI b) 60 60 = true := cpB_of ⟨nI_pos ha, nI_pos hc, nI_pos hb, by rw [nI_clamp ha, nI_clamp hb]; omega, by rw [nI_clamp hc, nI_clamp hb]; omega⟩
                  obtain ⟨mv', j1, j2⟩ := copy_120 (t := t) (c := c) hs (show a + b ≤ 60 by omega) (fd := fd) (mf := mf) (mz := mz) (mi := mi) b 0 4096 mv (by omega) (by omega) (fun k hk => absurd hk (by omega))
                  obtain ⟨mi', j3, j4⟩ := copy_157 ht (show c + b ≤ 60 by omega) (fd := fd) (mf := mf) (mz := mz) (mv := mv') (mi0 := mi) b 0 4096 mi (by omega) (by omega) (fun y => by rw [if_neg (by omega)])
                  rw [hcp, gd_true, nI_clamp ha, nI_clamp hb, nI_clamp hc]
                  refine ⟨_, _, _, _, _, rfl, j2.trans j4, fun u hu => ?_⟩
                  rcases h u hu with ⟨l1, l2⟩ | ⟨f3, n3, l1, l2, l3, l4, l5, l6, l7⟩
                  · exact Or.inl ⟨l1, l2⟩
                  · refine Or.inr ⟨f3, n3, l1, l2, l3, l4, l5, l6, fun i hi => ?_⟩
                    rw [va_up_at, j3]
                    by_cases q : u = t
                    · subst q
                      rw [if_pos rfl]
                      have e3 : n3 = n2 := nI_inj (l5.symm.trans k5) (by omega) (by omega)
                      by_cases w : c ≤ i ∧ i < c + b
                      · rw [if_pos (by omega), pk_cpy_in w.1 w.2, j1 _ (by omega), g7 _ (by omega)]
                        congr 1
                        omega
                      · rw [if_neg (by omega), pk_cpy_out (by omega)]
                        exact l7 i hi
                    · rw [if_neg q, if_neg (by omega)]
                      exact l7 i hi
                · rw [if_neg w2, if_pos rfl, if_neg (show ¬ (c : Int) + (b : Int) ≤ (n2 : Int) by omega)]
                  exact ⟨_, _, _, _, _, rfl, rfl, h⟩
              · rw [if_neg w1, if_pos rfl, if_pos (show (n : Int) < (a : Int) + (b : Int) by omega)]
                exact ⟨_, _, _, _, _, rfl, rfl, h⟩
          · simp only [if_neg hf]
            exact ⟨_, _, _, _, _, rfl, rfl, h⟩
    · rw [e1, e2]
      simp only [b1_some, e3, e4, i10, i00, if_true, if_false]
      exact ⟨_, _, _, _, _, rfl, rfl, h⟩
  · rw [e1, e2]
    simp only [b1_some, i10, i00, if_true, if_false]
    exact ⟨_, _, _, _, _, rfl, rfl, h⟩
