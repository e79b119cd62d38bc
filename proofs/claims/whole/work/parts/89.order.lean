/-! order, best: both sides -/
/-- the best so far, of the class's numbers and of the model's -/
def JJ (S P : Nat) (st : StT) (br : Int64) (bo : Nat → Int32) : Prop := (br = -1 ∧ st.1 = 2 ^ 63 - 1) ∨ ∃ R, R ≤ P * Aw S P ∧ br = lN R ∧ st.1 = (P * Aw S P - R) * Vw S P ∧ ∀ k, k < P → bo k = st.2 k
theorem fo_43 {S P : Nat} {srt own kd : Nat → Nat} {ms mo mk : Nat → Int32} (hM : MC S P srt own kd ms mo mk) (hP6 : P ≤ 6) (K : Int32 → Int32 → Int32 → Int32 → Int32 → Int32 → Int64 → Int64 → (Nat → Int32) → (Nat → Int32) → (Nat → Int32) → (Nat → Int32) → (Nat → Int32) → (Nat → Int32) → (Nat → Int64) → (Nat → Int64) → Int32 → Option (Int32 × Int32 × Int32 × Int64 × Int64 × (Nat → Int32) × (Nat → Int32) × (Nat → Int32) × (Nat → Int64) × (Nat → Int64))) {br : Int64} {o : Nat → Int32} {lo ow oh kf : Int32} {al : Int64} {ks : Nat → Int32} {wy nx : Nat → Int64} : ∀ (r i fuel : Nat) (bo : Nat → Int32), i + r = P → r < fuel → (∀ k, k < i → bo k = o k) →
    ∃ bo', (∀ k, k < P → bo' k = o k) ∧ p_X8_findOrder_b43 K fuel (nI S) (nI P) lo ow oh kf al br ms mo mk ks o bo wy nx (nI i) = p_X8_findOrder_b72 K (nI S) (nI P) lo ow oh kf al br ms mo mk ks o bo' wy nx := by
  intro r
  induction r with
  | zero =>
    intro i fuel bo hi hf hb
    obtain ⟨f, rfl⟩ : ∃ f, fuel = f + 1 := ⟨fuel - 1, by omega⟩
    have e : i = P := by omega
    subst e
    refine ⟨bo, hb, ?_⟩
    show p_X8_findOrder_b43x _ _ _ _ _ _ _ _ _ _ _ _ _ _ _ _ _ _ _ = _
    unfold p_X8_findOrder_b43x
    rw [if_pos (nI_le (Nat.le_refl _) (by omega))]
  | succ r ih =>
    intro i fuel bo hi hf hb
    obtain ⟨f, rfl⟩ : ∃ f, fuel = f + 1 := ⟨fuel - 1, by omega⟩
    obtain ⟨bo', e1, e2⟩ := ih (i + 1) f (upd bo i (o i)) (by omega) (by omega) (fun k hk => by
      rw [upd_at]
      by_cases q : k = i
      · rw [if_pos q, q]
      · rw [if_neg q]; exact hb k (by omega))
    refine ⟨bo', e1, ?_⟩
    rw [← e2]
    show p_X8_findOrder_b43x _ _ _ _ _ _ _ _ _ _ _ _ _ _ _ _ _ _ _ = _
    unfold p_X8_findOrder_b43x
    rw [if_neg (nI_ge (show i < P by omega) (by omega)), inB_nI (show i < 8 by omega) (by decide), gd_true, gd_true, nm_def, nm_def, nI_clamp (by omega), nI_1]
theorem fo_13 {S P : Nat} {srt own kd : Nat → Nat} {ms mo mk : Nat → Int32} (hM : MC S P srt own kd ms mo mk) (hP6 : P ≤ 6) {oh : Int32} : ∀ (t : List (Nat → Nat)) (x : Nat → Nat) (fuel : Nat) (st : StT) (br : Int64) (o bo : Nat → Int32) (lo ow kf : Int32) (al : Int64) (ks : Nat → Int32) (wy nx : Nat → Int64), t.length + 1 < fuel → chk P (x :: t) = true → (∀ y, y ∈ x :: t → ∀ k, k < P → y k < P) → (∀ k, k < P → o k = nI (x k)) → JJ S P st br bo →
    ∃ (br' : Int64) (ks' o' bo' : Nat → Int32) (wy' nx' : Nat → Int64), JJ S P ((x :: t).foldl (kpN (costD S P srt own kd)) st) br' bo' ∧ br' ≠ -1 ∧ p_X8_findOrder_b13 fuel (nI S) (nI P) lo ow oh kf al br ms mo mk ks o bo wy nx 1 = some (-1, -1, 0, lN (Aw S P), br', ks', o', bo', wy', nx') := by
  obtain ⟨hS, hP, h1, h2⟩ := id hM
  have hAV := d_AV S hS P (by omega) (by omega)
  have hAl := Aw_le S hS P (by omega) (by omega)
  have hPA : P * Aw S P ≤ 8 * 182891520000 := Nat.mul_le_mul (by omega) hAl
  have hu8 := u8
  intro t
  induction t with
  | nil =>
    intro x fuel st br o bo lo ow kf al ks wy nx hf hck hdm ho hJ
    obtain ⟨f, rfl⟩ : ∃ f, fuel = f + 1 + 1 := ⟨fuel - 2, by have : (0 : Nat) + 1 < fuel := hf; omega⟩
    have hxd := hdm x (List.mem_cons_self ..)
    obtain ⟨ks1, wy1, nx1, e⟩ := v_right hM (od := x) hxd ho (lo := lo) (ow := ow) (oh := oh) (kf := kf) (al := al) (ks := ks) (wy := wy) (nx := nx)
    have hRl := rC_le (srt := srt) (kd := fun k => kd (x k)) (ow := fun k => own (x k)) hS hP (fun k hk => (h2 _ (hxd k hk)).2.1) P (Nat.le_refl _)
    have hgo := (v_goes (P := P) (by omega) (x := x) (fun k hk => by have := hxd k hk; omega) ho).1 (by
      have : (goF P x).isNone = true := hck
      exact Option.isNone_iff_eq_none.mp this)
    have tail : ∀ (br1 : Int64) (bo1 : Nat → Int32), p_X8_findOrder_b72 (p_X8_findOrder_b13 (f + 1)) (nI S) (nI P) (-1) (-1) oh 0 (lN (Aw S P)) br1 ms mo mk ks1 o bo1 wy1 nx1 = some (-1, -1, 0, lN (Aw S P), br1, ks1, o, bo1, wy1, nx1) := fun br1 bo1 => by
      unfold p_X8_findOrder_b72
      rw [hgo, b2_some]
      show p_X8_findOrder_b13x _ _ _ _ _ _ _ _ _ _ _ _ _ _ _ _ _ _ = _
      unfold p_X8_findOrder_b13x
      rw [if_pos rfl]
    have hcost : (costD S P srt own kd) x = (P * Aw S P - rC S srt (fun k => own (x k)) (fun k => kd (x k)) P) * Vw S P := rfl
    have hcl : (costD S P srt own kd) x ≤ 8 * UN := cost_le hS hP (fun k hk => (h2 _ (hxd k hk)).2.1)
    show ∃ (br' : Int64) (ks' o' bo' : Nat → Int32) (wy' nx' : Nat → Int64), JJ S P (kpN (costD S P srt own kd) st x) br' bo' ∧ _ ∧ p_X8_findOrder_b13x _ _ _ _ _ _ _ _ _ _ _ _ _ _ _ _ _ _ = _
    unfold p_X8_findOrder_b13x
    rw [if_neg (show ¬ (1 : Int32) = 0 by decide), e, b8_some]
    generalize rC S srt (fun k => own (x k)) (fun k => kd (x k)) P = R at *
    have upd_case : (costD S P srt own kd) x < st.1 → ¬ lg_cmp (lN R) br ≤ 0 → ∃ (br' : Int64) (ks' o' bo' : Nat → Int32) (wy' nx' : Nat → Int64), JJ S P (kpN (costD S P srt own kd) st x) br' bo' ∧ br' ≠ -1 ∧ (if lg_cmp (lN R) br ≤ 0 then p_X8_findOrder_b72 (p_X8_findOrder_b13 (f + 1)) (nI S) (nI P) (-1) (-1) oh 0 (lN (Aw S P)) br ms mo mk ks1 o bo wy1 nx1 else p_X8_findOrder_b43 (p_X8_findOrder_b13 (f + 1)) 4096 (nI S) (nI P) (-1) (-1) oh 0 (lN (Aw S P)) (lN R) ms mo mk ks1 o bo wy1 nx1 0) = some (-1, -1, 0, lN (Aw S P), br', ks', o', bo', wy', nx') := fun hlt hng => by
      obtain ⟨bo2, k1, k2⟩ := fo_43 hM hP6 (p_X8_findOrder_b13 (f + 1)) (br := lN R) (o := o) (lo := -1) (ow := -1) (oh := oh) (kf := 0) (al := lN (Aw S P)) (ks := ks1) (wy := wy1) (nx := nx1) P 0 4096 bo (by omega) (by omega) (fun k hk => absurd hk (by omega))
      refine ⟨lN R, ks1, o, bo2, wy1, nx1, Or.inr ⟨R, hRl, rfl, ?_, ?_⟩, fun z => ?_, ?_⟩
      · unfold kpN; rw [if_pos hlt]; exact hcost
      · intro k hk
        unfold kpN; rw [if_pos hlt, k1 k hk]; exact ho k hk
      · have := congrArg Int64.toInt z
        rw [pk_lT (by omega), show (-1 : Int64).toInt = -1 from by decide] at this
        omega
      · rw [if_neg hng]
        exact (show p_X8_findOrder_b43 (p_X8_findOrder_b13 (f + 1)) 4096 (nI S) (nI P) (-1) (-1) oh 0 (lN (Aw S P)) (lN R) ms mo mk ks1 o bo wy1 nx1 0 = _ from k2).trans (tail _ _)
    rcases hJ with ⟨hbr, hst⟩ | ⟨R0, r1, r2, r3, r4⟩
    · exact upd_case (by omega) (by
        rw [hbr, lg_le, pk_lT (by omega), show (-1 : Int64).toInt = -1 from by decide]
        omega)
    · have hcmp : (lg_cmp (lN R) br ≤ 0) = (R ≤ R0) := by rw [r2, lgc2 (by omega) (by omega)]
      by_cases q : R ≤ R0
      · have hge : st.1 ≤ (costD S P srt own kd) x := by rw [hcost, r3]; exact Nat.mul_le_mul_right _ (by omega)
        rw [if_pos (by rw [hcmp]; exact q), tail]
        refine ⟨br, ks1, o, bo, wy1, nx1, Or.inr ⟨R0, r1, r2, ?_, ?_⟩, fun z => ?_, rfl⟩
        · unfold kpN; rw [if_neg (by omega)]; exact r3
        · unfold kpN; rw [if_neg (by omega)]; exact r4
        · rw [r2] at z
          have := congrArg Int64.toInt z
          rw [pk_lT (by omega), show (-1 : Int64).toInt = -1 from by decide] at this
          omega
      · exact upd_case (by rw [hcost, r3]; exact Nat.mul_lt_mul_of_pos_right (by omega) hAV.2.2) (by rw [hcmp]; exact q)
  | cons y t ih =>
    intro x fuel st br o bo lo ow kf al ks wy nx hf hck hdm ho hJ
    obtain ⟨f, rfl⟩ : ∃ f, fuel = f + 1 := ⟨fuel - 1, by omega⟩
    have hf' : t.length + 1 < f := by have : t.length + 1 + 1 < f + 1 := hf; omega
    have hxd := hdm x (List.mem_cons_self ..)
    obtain ⟨ks1, wy1, nx1, e⟩ := v_right hM (od := x) hxd ho (lo := lo) (ow := ow) (oh := oh) (kf := kf) (al := al) (ks := ks) (wy := wy) (nx := nx)
    have hRl := rC_le (srt := srt) (kd := fun k => kd (x k)) (ow := fun k => own (x k)) hS hP (fun k hk => (h2 _ (hxd k hk)).2.1) P (Nat.le_refl _)
    have hck2 : (match goF P x with | some z => (List.range P).all (fun k => z k == y k) | none => false) = true ∧ chk P (y :: t) = true := by
      have : ((match goF P x with | some z => (List.range P).all (fun k => z k == y k) | none => false) && chk P (y :: t)) = true := hck
      rwa [Bool.and_eq_true] at this
    obtain ⟨z, hz, hzy⟩ : ∃ z, goF P x = some z ∧ ∀ k, k < P → z k = y k := by
      have h := hck2.1
      cases hg : goF P x with
      | none => rw [hg] at h; cases h
      | some z =>
        rw [hg] at h
        refine ⟨z, rfl, fun k hk => ?_⟩
        have := List.all_eq_true.mp h k (List.mem_range.mpr hk)
        exact eq_of_beq this
    obtain ⟨o1, ho1, hgo⟩ := (v_goes (P := P) (by omega) (x := x) (fun k hk => by have := hxd k hk; omega) ho).2 z hz
    have ho2 : ∀ k, k < P → o1 k = nI (y k) := fun k hk => by rw [ho1 k hk, hzy k hk]
    have tail : ∀ (st1 : StT) (br1 : Int64) (bo1 : Nat → Int32), JJ S P st1 br1 bo1 → ∃ (br' : Int64) (ks' o' bo' : Nat → Int32) (wy' nx' : Nat → Int64), JJ S P ((y :: t).foldl (kpN (costD S P srt own kd)) st1) br' bo' ∧ br' ≠ -1 ∧ p_X8_findOrder_b72 (p_X8_findOrder_b13 f) (nI S) (nI P) (-1) (-1) oh 0 (lN (Aw S P)) br1 ms mo mk ks1 o bo1 wy1 nx1 = some (-1, -1, 0, lN (Aw S P), br', ks', o', bo', wy', nx') := fun st1 br1 bo1 hJ1 => by
      unfold p_X8_findOrder_b72
      rw [hgo, b2_some]
      exact ih y f st1 br1 o1 bo1 (-1) (-1) 0 (lN (Aw S P)) ks1 wy1 nx1 hf' hck2.2 (fun w hw => hdm w (List.mem_cons_of_mem _ hw)) ho2 hJ1
    have hcost : (costD S P srt own kd) x = (P * Aw S P - rC S srt (fun k => own (x k)) (fun k => kd (x k)) P) * Vw S P := rfl
    have hcl : (costD S P srt own kd) x ≤ 8 * UN := cost_le hS hP (fun k hk => (h2 _ (hxd k hk)).2.1)
    show ∃ (br' : Int64) (ks' o' bo' : Nat → Int32) (wy' nx' : Nat → Int64), JJ S P ((y :: t).foldl (kpN (costD S P srt own kd)) (kpN (costD S P srt own kd) st x)) br' bo' ∧ _ ∧ p_X8_findOrder_b13x _ _ _ _ _ _ _ _ _ _ _ _ _ _ _ _ _ _ = _
    unfold p_X8_findOrder_b13x
    rw [if_neg (show ¬ (1 : Int32) = 0 by decide), e, b8_some]
    generalize rC S srt (fun k => own (x k)) (fun k => kd (x k)) P = R at *
    have upd_case : (costD S P srt own kd) x < st.1 → ¬ lg_cmp (lN R) br ≤ 0 → ∃ (br' : Int64) (ks' o' bo' : Nat → Int32) (wy' nx' : Nat → Int64), JJ S P ((y :: t).foldl (kpN (costD S P srt own kd)) (kpN (costD S P srt own kd) st x)) br' bo' ∧ br' ≠ -1 ∧ (if lg_cmp (lN R) br ≤ 0 then p_X8_findOrder_b72 (p_X8_findOrder_b13 f) (nI S) (nI P) (-1) (-1) oh 0 (lN (Aw S P)) br ms mo mk ks1 o bo wy1 nx1 else p_X8_findOrder_b43 (p_X8_findOrder_b13 f) 4096 (nI S) (nI P) (-1) (-1) oh 0 (lN (Aw S P)) (lN R) ms mo mk ks1 o bo wy1 nx1 0) = some (-1, -1, 0, lN (Aw S P), br', ks', o', bo', wy', nx') := fun hlt hng => by
      obtain ⟨bo2, k1, k2⟩ := fo_43 hM hP6 (p_X8_findOrder_b13 f) (br := lN R) (o := o) (lo := -1) (ow := -1) (oh := oh) (kf := 0) (al := lN (Aw S P)) (ks := ks1) (wy := wy1) (nx := nx1) P 0 4096 bo (by omega) (by omega) (fun k hk => absurd hk (by omega))
      obtain ⟨br', ks', o', bo', wy', nx', m1, m2, m3⟩ := tail (kpN (costD S P srt own kd) st x) (lN R) bo2 (Or.inr ⟨R, hRl, rfl, by unfold kpN; rw [if_pos hlt]; exact hcost, fun k hk => by unfold kpN; rw [if_pos hlt, k1 k hk]; exact ho k hk⟩)
      refine ⟨br', ks', o', bo', wy', nx', m1, m2, ?_⟩
      rw [if_neg hng]
      exact (show p_X8_findOrder_b43 (p_X8_findOrder_b13 f) 4096 (nI S) (nI P) (-1) (-1) oh 0 (lN (Aw S P)) (lN R) ms mo mk ks1 o bo wy1 nx1 0 = _ from k2).trans m3
    rcases hJ with ⟨hbr, hst⟩ | ⟨R0, r1, r2, r3, r4⟩
    · exact upd_case (by omega) (by
        rw [hbr, lg_le, pk_lT (by omega), show (-1 : Int64).toInt = -1 from by decide]
        omega)
    · have hcmp : (lg_cmp (lN R) br ≤ 0) = (R ≤ R0) := by rw [r2, lgc2 (by omega) (by omega)]
      by_cases q : R ≤ R0
      · have hge : st.1 ≤ (costD S P srt own kd) x := by rw [hcost, r3]; exact Nat.mul_le_mul_right _ (by omega)
        rw [if_pos (by rw [hcmp]; exact q)]
        have hk : kpN (costD S P srt own kd) st x = st := by unfold kpN; rw [if_neg (by omega)]
        rw [hk]
        exact tail st br bo (Or.inr ⟨R0, r1, r2, r3, r4⟩)
      · exact upd_case (by rw [hcost, r3]; exact Nat.mul_lt_mul_of_pos_right (by omega) hAV.2.2) (by rw [hcmp]; exact q)
def st00 (be0 : Nat → Int32) : StT := (2 ^ 63 - 1, be0)
def stF (S P : Nat) (srt own kd : Nat → Nat) (be0 : Nat → Int32) : StT := fdT P (costD S P srt own kd) P 0 (fun k => k) 0 (st00 be0)
theorem v_findO {S P : Nat} {srt own kd : Nat → Nat} {ms mo mk : Nat → Int32} (hM : MC S P srt own kd ms mo mk) (hP6 : P ≤ 6) (be0 : Nat → Int32) (lo ow oh kf : Int32) (al : Int64) (ks : Nat → Int32) (wy nx : Nat → Int64) (br : Int64) (od bo : Nat → Int32) : ∃ (R : Nat) (ks' o' bo' : Nat → Int32) (wy' nx' : Nat → Int64), R ≤ P * Aw S P ∧ (stF S P srt own kd be0).1 = (P * Aw S P - R) * Vw S P ∧ (∀ k, k < P → bo' k = (stF S P srt own kd be0).2 k) ∧ p_X8_findOrder (nI S) (nI P) lo ow oh kf al br ms mo mk ks od bo wy nx = some (-1, -1, 0, lN (Aw S P), lN R, ks', o', bo', wy', nx') := by
  obtain ⟨hS, hP, h1, h2⟩ := id hM
  obtain ⟨o1, q1, q2⟩ := v_asC (P := P) (by omega) (o := od)
  have hc := d_chk P (by omega)
  have hl := d_len P (by omega)
  have hd := d_dom P (by omega)
  have hh := d_hd P (by omega)
  have hfo := tre_fold (P := P) (cost := (costD S P srt own kd)) P 0 (fun k => k) 0 (st00 be0)
  cases ht : tre P P 0 (fun k => k) 0 with
  | nil => rw [ht] at hc; cases hc
  | cons x t =>
    rw [ht] at hc hl hd hh hfo
    have hdm : ∀ y, y ∈ x :: t → ∀ k, k < P → y k < P := fun y hy k hk => by
      have a := List.all_eq_true.mp hd y hy
      have b := List.all_eq_true.mp a k (List.mem_range.mpr hk)
      exact of_decide_eq_true b
    have hx : ∀ k, k < P → x k = k := fun k hk => eq_of_beq (List.all_eq_true.mp (show (List.range P).all (fun k => x k == k) = true from hh) k (List.mem_range.mpr hk))
    have hl' : t.length + 1 ≤ 720 := hl
    obtain ⟨br', ks', o', bo', wy', nx', m1, m2, m3⟩ := fo_13 hM hP6 (oh := oh) t x 4096 (st00 be0) (-1) o1 bo lo ow kf al ks wy nx (by omega) hc hdm (fun k hk => by rw [q1 k hk, hx k hk]) (Or.inl ⟨rfl, rfl⟩)
    rcases m1 with ⟨m1, -⟩ | ⟨R, r1, r2, r3, r4⟩
    · exact absurd m1 m2
    · subst r2
      refine ⟨R, ks', o', bo', wy', nx', r1, ?_, ?_, ?_⟩
      · unfold stF; rw [hfo]; exact r3
      · unfold stF; rw [hfo]; exact r4
      · unfold p_X8_findOrder p_X8_findOrder_b0
        rw [q2, b1_some]
        exact m3
def DV (S P : Nat) (srt own kd : Nat → Nat) (ls : Int64) (be : Nat → Int32) : Prop := ∃ be0, ls = lN (stF S P srt own kd be0).1 ∧ ∀ k, k < P → be k = (stF S P srt own kd be0).2 k
def DR (S P : Nat) (srt own kd : Nat → Nat) (rd : Int32) (ls : Int64) (be : Nat → Int32) (tb : Nat → Int64) : Prop := (∀ y, y < 8 → tb y = 0) ∧ (rd = 0 ∨ (rd = 1 ∧ P ≤ 6 ∧ DV S P srt own kd ls be))
theorem v_refrD {S P : Nat} {srt own kd : Nat → Nat} {Hs Hb Ho Hk : Nat → Int32} (hH : HC S P srt own kd Hs Hb Ho Hk) (hP6 : P ≤ 6) {rd : Int32} {ls : Int64} {be row : Nat → Int32} {re tb : Nat → Int64} (hr : DR S P srt own kd rd ls be tb) :
    ∃ (ls' : Int64) (be' row' : Nat → Int32) (re' tb' : Nat → Int64), DV S P srt own kd ls' be' ∧ (∀ y, y < 8 → tb' y = 0) ∧ p_X1_refresh (nI S) (nI P) rd ls Hs Hb Ho Hk be row re tb = some (1, ls', be', row', re', tb') := by
  obtain ⟨hz, hr⟩ := hr
  have hS := hH.1
  have hP := hH.2.1
  unfold p_X1_refresh p_X1_refresh_b0 p_X1_refresh_b19
  rcases hr with rfl | ⟨rfl, -, hv⟩
  · rw [if_pos rfl, if_pos (show nI P ≤ 6 from nI_le (b := 6) hP6 (by decide)), show inB 0 256 = true from rfl, gd_true, nm_def, cl0]
    have hAV := d_AV S hS 0 (by omega) (by omega)
    have hV0 : Vw S 0 = UN := by rw [← hAV.1, show Aw S 0 = 1 from rfl, Nat.one_mul]
    obtain ⟨be', row', re', tb', k1, k2, k3, k4, k5⟩ := v_letIn hH hP6 P 9 (by omega) 0 (fun k => k) 0 0 (2 ^ 63 - 1) be row (vp_updL re 0 182891520000) tb be (by omega) (fun k hk => absurd hk (by omega)) (Nat.pow_pos (by decide)) rfl (fun k hk => absurd hk (by omega)) ⟨fun j hj u hu hpu => by
        have hj0 : j = 0 := by omega
        subst hj0
        have hu0 : u = 0 := (d_pc0 u (by have := d_pw S hS; omega)).mp hpu
        subst hu0
        rw [updL_at, if_pos rfl, hV0, uUN]
        show lN UN = lN (1 * UN)
        rw [Nat.one_mul], fun j hj s hs => by
        have hj0 : j = 0 := by omega
        subst hj0
        have e0 : TKO S srt own kd (fun k => k) 0 s = 0 := TK_zero
        rw [e0, hz _ (by omega)]
        rfl⟩ rfl (by decide) (fun _ _ => rfl) _ rfl
    rw [show p_X1_letIn (nI S) (nI P) 9223372036854775807 Hs Hb Ho Hk be row (vp_updL re 0 182891520000) tb 0 0 0 = _ from k5, b5_some]
    exact ⟨_, be', row', re', tb', ⟨be, rfl, k1⟩, fun y hy => by rw [k4 y hy]; exact hz y hy, rfl⟩
  · rw [if_neg (by decide)]
    exact ⟨ls, be, row, re, tb, hv, hz, rfl⟩
theorem v_order {S R P : Nat} {srt row own kd : Nat → Nat} {hS hR hP f0 f1 : Int32} {Hs Hr Hb Ho Hk mb mt : Nat → Int32} (h : HB S R P srt row own kd hS hR hP f0 f1 Hs Hr Hb Ho Hk mb mt) {rd : Int32} {ls : Int64} {be rw_ : Nat → Int32} {re tb : Nat → Int64} (hr : DR S P srt own kd rd ls be tb) (a1 s1 r1 p1 lo ow oh kf : Int32) (al br : Int64) (ms mr mo mk ks od bo : Nat → Int32) (wy nx : Nat → Int64) (x : Int32) : ∃ (r : Int32) (rd' : Int32) (ls' : Int64) (be' rw' : Nat → Int32) (re' tb' : Nat → Int64) (q1 q2 q3 q4 q5 q6 q7 : Int32) (q8 q9 : Int64) (q10 q11 q12 q13 q14 q15 q16 : Nat → Int32) (q17 q18 : Nat → Int64), p_X7_order hS hP rd ls Hs Hb Ho Hk be rw_ re tb x = some (r, rd', ls', be', rw', re', tb') ∧ p_X8_order a1 s1 r1 p1 lo ow oh kf al br mb mt ms mr mo mk ks od bo wy nx x = some (r, q1, q2, q3, q4, q5, q6, q7, q8, q9, q10, q11, q12, q13, q14, q15, q16, q17, q18) ∧ DR S P srt own kd rd' ls' be' tb' := by
  obtain ⟨rfl, rfl, rfl, hcr, hm⟩ := h
  have hH := HB_HC hcr
  have hS := hH.1
  have hP := hH.2.1
  obtain ⟨a3, ms', mr', mo', mk', q, m1, m2⟩ := v_find hm a1 s1 r1 p1 ms mr mo mk
  unfold p_X7_order p_X7_order_b0 p_X8_order p_X8_order_b0 p_X8_order_b20
  rw [q, b8_some]
  have e6 : (nI P ≤ 6) = (P ≤ 6) := propext (nI_leI (b := 6) (by omega) (by decide))
  simp only [e6]
  by_cases h6 : P ≤ 6
  · rw [if_pos h6, if_pos h6]
    rcases v_rng (N := P) (by omega) x with ⟨k, k1, rfl, k3, k4, k5⟩ | ⟨k1, k2⟩
    · obtain ⟨ls', be', rw', re', tb', ⟨be0, d1, d2⟩, hz, hq⟩ := v_refrD hH h6 hr (row := rw_) (re := re)
      obtain ⟨R0, ks', o', bo', wy', nx', g1, g2, g3, g4⟩ := v_findO (mk_MC hcr m1 m2) h6 be0 lo ow oh kf al ks wy nx br od bo
      rw [if_pos (nI_pos' (show k < 2 ^ 31 by omega)), if_pos k5, hq, b6_some, inB_nI (show k < 6 by omega) (by decide), gd_true, k3, b1_some, if_neg (show ¬ (1 : Int32) = 0 by decide), g4, b10_some, inB_nI (show k < 8 by omega) (by decide), gd_true, nI_clamp (by omega), g3 k k1, ← d2 k k1]
      exact ⟨_, _, _, _, _, _, _, _, _, _, _, _, _, _, _, _, _, _, _, _, _, _, _, _, _, rfl, rfl, hz, Or.inr ⟨rfl, h6, be0, d1, d2⟩⟩
    · rw [k1, b1_some, if_pos (show (0 : Int32) = 0 from rfl)]
      by_cases q0 : 0 ≤ x
      · have q1 : ¬ x < 0 := fun z => by have a := Int32.lt_iff_toInt_lt.mp z; have b := Int32.le_iff_toInt_le.mp q0; omega
        rw [if_pos q0, if_neg (k2.resolve_left q1)]
        exact ⟨_, _, _, _, _, _, _, _, _, _, _, _, _, _, _, _, _, _, _, _, _, _, _, _, _, rfl, rfl, hr⟩
      · rw [if_neg q0]
        exact ⟨_, _, _, _, _, _, _, _, _, _, _, _, _, _, _, _, _, _, _, _, _, _, _, _, _, rfl, rfl, hr⟩
  · rw [if_neg h6, if_neg h6]
    by_cases q0 : 0 ≤ x
    · have q1 : ¬ x < 0 := fun z => by have a := Int32.lt_iff_toInt_lt.mp z; have b := Int32.le_iff_toInt_le.mp q0; omega
      rw [if_pos q0, if_neg q1]
      exact ⟨_, _, _, _, _, _, _, _, _, _, _, _, _, _, _, _, _, _, _, _, _, _, _, _, _, rfl, rfl, hr⟩
    · have q1 : x < 0 := by
        apply Int32.lt_iff_toInt_lt.mpr
        have : ¬ (0 : Int32).toInt ≤ x.toInt := fun z => q0 (Int32.le_iff_toInt_le.mpr z)
        omega
      have k1 : p_X8_in x.toInt64 0 ((nI P - 1).toInt64) = some 0 := by
        rcases v_rng (N := P) (by omega) x with ⟨k, -, -, -, k4, -⟩ | ⟨k1, -⟩
        · exact absurd q1 k4
        · exact k1
      rw [if_neg q0, if_pos q1, k1, b1_some, if_pos (show (0 : Int32) = 0 from rfl)]
      exact ⟨_, _, _, _, _, _, _, _, _, _, _, _, _, _, _, _, _, _, _, _, _, _, _, _, _, rfl, rfl, hr⟩
/-- what best tells -/
def bsV (S P : Nat) (srt own kd : Nat → Nat) (w R : Nat) : Int64 := if P ≤ 6 then lN (fp (P * Aw S P - R) (Aw S P) w) else -9223372036854775808 - (-4 : Int32).toInt64
theorem v_bestM {S P : Nat} {srt own kd : Nat → Nat} {ms mo mk : Nat → Int32} (hM : MC S P srt own kd ms mo mk) (be0 : Nat → Int32) {w : Nat} (hw : w < 2) (lo ow oh kf : Int32) (al : Int64) (ks : Nat → Int32) (wy nx : Nat → Int64) (br : Int64) (od bo : Nat → Int32) : ∃ (R : Nat) (c1 c2 c3 : Int32) (c4 c5 : Int64) (c6 c7 c8 : Nat → Int32) (c9 c10 : Nat → Int64), R ≤ P * Aw S P ∧ (P ≤ 6 → (stF S P srt own kd be0).1 = (P * Aw S P - R) * Vw S P) ∧ p_X8_bestOf (nI S) (nI P) lo ow oh kf al br ms mo mk ks od bo wy nx (nI w) = some (bsV S P srt own kd w R, c1, c2, c3, c4, c5, c6, c7, c8, c9, c10) := by
  obtain ⟨hS, hP, h1, h2⟩ := id hM
  have hAV := d_AV S hS P (by omega) (by omega)
  have hAl := Aw_le S hS P (by omega) (by omega)
  have hPA : P * Aw S P ≤ 8 * 182891520000 := Nat.mul_le_mul (by omega) hAl
  unfold p_X8_bestOf p_X8_bestOf_b0 bsV
  have e6 : (nI P ≤ 6) = (P ≤ 6) := propext (nI_leI (b := 6) (by omega) (by decide))
  simp only [e6]
  by_cases h6 : P ≤ 6
  · obtain ⟨R0, ks', o', bo', wy', nx', g1, g2, g3, g4⟩ := v_findO hM h6 be0 lo ow oh kf al ks wy nx br od bo
    rw [if_pos h6, g4, b10_some, nI_l (by omega), lN_mul, lN_sub g1, v_partM (by omega) hAV.2.1 (by omega) hw, b1_some]
    exact ⟨R0, _, _, _, _, _, _, _, _, _, _, g1, fun _ => g2, by rw [if_pos h6]⟩
  · rw [if_neg h6]
    exact ⟨0, _, _, _, _, _, _, _, _, _, _, Nat.zero_le _, fun z => absurd z h6, by rw [if_neg h6]; rfl⟩
theorem v_best {S R P : Nat} {srt row own kd : Nat → Nat} {hS hR hP f0 f1 : Int32} {Hs Hr Hb Ho Hk mb mt : Nat → Int32} (h : HB S R P srt row own kd hS hR hP f0 f1 Hs Hr Hb Ho Hk mb mt) {rd : Int32} {ls : Int64} {be rw_ : Nat → Int32} {re tb : Nat → Int64} (hr : DR S P srt own kd rd ls be tb) (a1 s1 r1 p1 lo ow oh kf : Int32) (al br : Int64) (ms mr mo mk ks od bo : Nat → Int32) (wy nx : Nat → Int64) (x : Int32) : ∃ (r : Int64) (rd' : Int32) (ls' : Int64) (be' rw' : Nat → Int32) (re' tb' : Nat → Int64) (q1 q2 q3 q4 q5 q6 q7 : Int32) (q8 q9 : Int64) (q10 q11 q12 q13 q14 q15 q16 : Nat → Int32) (q17 q18 : Nat → Int64), p_X7_best hS hP rd ls Hs Hb Ho Hk be rw_ re tb x = some (r, rd', ls', be', rw', re', tb') ∧ p_X8_best a1 s1 r1 p1 lo ow oh kf al br mb mt ms mr mo mk ks od bo wy nx x = some (r, q1, q2, q3, q4, q5, q6, q7, q8, q9, q10, q11, q12, q13, q14, q15, q16, q17, q18) ∧ DR S P srt own kd rd' ls' be' tb' := by
  obtain ⟨rfl, rfl, rfl, hcr, hm⟩ := h
  have hH := HB_HC hcr
  have hS := hH.1
  have hP := hH.2.1
  have hAV := d_AV S hS P (by omega) (by omega)
  obtain ⟨a3, ms', mr', mo', mk', q, m1, m2⟩ := v_find hm a1 s1 r1 p1 ms mr mo mk
  unfold p_X7_best p_X7_best_b0 p_X8_best p_X8_best_b0 p_X8_best_b24
  rw [q, b8_some]
  have e6 : (nI P ≤ 6) = (P ≤ 6) := propext (nI_leI (b := 6) (by omega) (by decide))
  rcases v_wt x with ⟨w, hw, rfl, e5, e7⟩ | ⟨e5, e7⟩
  · rw [e5, e7, b1_some, b1_some, if_pos (show (0 : Int32) = 0 from rfl), if_neg (show ¬ (1 : Int32) = 0 by decide)]
    simp only [e6]
    by_cases h6 : P ≤ 6
    · obtain ⟨ls', be', rw', re', tb', ⟨be0, d1, d2⟩, hz, hq⟩ := v_refrD hH h6 hr (row := rw_) (re := re)
      obtain ⟨R0, c1, c2, c3, c4, c5, c6, c7, c8, c9, c10, g1, g2, g3⟩ := v_bestM (mk_MC hcr m1 m2) be0 hw lo ow oh kf al ks wy nx br od bo
      have hb : (P * Aw S P - R0) * Vw S P ≤ 8 * UN := by
        rw [← hAV.1, ← Nat.mul_assoc]
        exact Nat.mul_le_mul_right _ (Nat.le_trans (Nat.sub_le _ _) (Nat.mul_le_mul_right _ (by omega)))
      have hp : p_X7_part ls' 182891520000 (nI w) = some (bsV S P srt own kd w R0) := by
        unfold bsV
        rw [if_pos h6, d1, g2 h6]
        exact pfp hAV.1 hAV.2.2 (Nat.lt_of_le_of_lt hb u8) hw
      rw [if_pos h6, hq, b6_some, hp, b1_some, g3, b11_some]
      exact ⟨_, _, _, _, _, _, _, _, _, _, _, _, _, _, _, _, _, _, _, _, _, _, _, _, _, rfl, rfl, hz, Or.inr ⟨rfl, h6, be0, d1, d2⟩⟩
    · obtain ⟨R0, c1, c2, c3, c4, c5, c6, c7, c8, c9, c10, g1, g2, g3⟩ := v_bestM (mk_MC hcr m1 m2) be hw lo ow oh kf al ks wy nx br od bo
      rw [if_neg h6, g3, b11_some]
      unfold bsV
      rw [if_neg h6]
      exact ⟨_, _, _, _, _, _, _, _, _, _, _, _, _, _, _, _, _, _, _, _, _, _, _, _, _, rfl, rfl, hr⟩
  · rw [e5, e7, b1_some, b1_some, if_neg (show ¬ (1 : Int32) = 0 by decide), if_pos (show (0 : Int32) = 0 from rfl)]
    exact ⟨_, _, _, _, _, _, _, _, _, _, _, _, _, _, _, _, _, _, _, _, _, _, _, _, _, rfl, rfl, hr⟩
