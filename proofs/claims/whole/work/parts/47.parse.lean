/-! the texts: seats -/
theorem toInt_is {x : Int32} {n : Int} {y : Int32} (h : y.toInt = n) : (x.toInt = n) = (x = y) := by
  apply propext
  constructor
  · intro q
    exact Int32.toInt_inj.mp (q.trans h.symm)
  · intro q
    rw [q, h]
theorem v_sortOf {x : Int32} : p_X3_sortOf x = some (if x = 119 then 0 else if x = 109 then 1 else if x = 97 then 2 else -1) := by
  unfold p_X3_sortOf p_X3_sortOf_b0
  simp only [toInt_is (x := x) (n := 97) (y := 97) (by decide), toInt_is (x := x) (n := 109) (y := 109) (by decide), toInt_is (x := x) (n := 119) (y := 119) (by decide)]
  by_cases h1 : x = 119
  · subst h1; decide
  · by_cases h2 : x = 109
    · subst h2; decide
    · by_cases h3 : x = 97
      · subst h3; decide
      · simp [h1, h2, h3]
theorem bsN_congr {srt srt' : Nat → Nat} {c : Nat} : ∀ n, (∀ i, i < n → srt i = srt' i) → bsN srt c n = bsN srt' c n
  | 0, _ => rfl
  | n + 1, h => by
    show bsN srt c n ||| _ = bsN srt' c n ||| _
    rw [bsN_congr n (fun i hi => h i (by omega)), h n (by omega)]
def aOK (n : Nat) (srt row : Nat → Nat) (Hs Hr ms mr : Nat → Int32) : Prop := ∀ i, i < n → Hs i = nI (srt i) ∧ Hr i = nI (row i) ∧ ms i = nI (srt i) ∧ mr i = nI (row i) ∧ srt i < 3
def bOK (n : Nat) (srt : Nat → Nat) (Hb : Nat → Int32) : Prop := n ≠ 0 → ∀ c, c < 3 → Hb c = nI (bsN srt c n)
theorem v_addSeat {n R v : Nat} {srt row : Nat → Nat} {Hs Hr Hb ms mr : Nat → Int32} (hn : n < 8) (hR : 1 ≤ R) (hR2 : R < 21) (hv : v < 3) (ha : aOK n srt row Hs Hr ms mr) (hb : bOK n srt Hb) :
    ∃ Hb', bOK (n + 1) (fun i => if i = n then v else srt i) Hb' ∧ aOK (n + 1) (fun i => if i = n then v else srt i) (fun i => if i = n then R - 1 else row i) (upd Hs n (nI v)) (upd Hr n (nI (R - 1))) (upd ms n (nI v)) (upd mr n (nI (R - 1))) ∧ p_X3_addSeat (nI n) (nI R) Hs Hr Hb (nI v) = some (nI (n + 1), upd Hs n (nI v), upd Hr n (nI (R - 1)), Hb') := by
  have core : ∀ Hb0 : Nat → Int32, (∀ c, c < 3 → Hb0 c = nI (bsN srt c n)) → ∃ Hb', bOK (n + 1) (fun i => if i = n then v else srt i) Hb' ∧ p_X3_addSeat_b15 (nI n) (nI R) Hs Hr Hb0 (nI v) = some (nI (n + 1), upd Hs n (nI v), upd Hr n (nI (R - 1)), Hb') := fun Hb0 h0 => by
    refine ⟨upd Hb0 v (nI (bsN srt v n ||| 2 ^ n)), fun _ c hc => ?_, ?_⟩
    · have e1 : bsN (fun i => if i = n then v else srt i) c n = bsN srt c n := bsN_congr n (fun i hi => if_neg (by omega))
      show _ = nI (bsN (fun i => if i = n then v else srt i) c n ||| (if (if n = n then v else srt n) = c then 2 ^ n else 0))
      rw [e1, if_pos rfl, upd_at]
      by_cases e : c = v
      · rw [if_pos e, if_pos e.symm, e]
      · rw [if_neg e, if_neg (fun q => e q.symm), Nat.or_zero, h0 c hc]
    · unfold p_X3_addSeat_b15
      rw [inB_nI hn (by decide), inB_nI hv (by decide)]
      simp only [gd_true, nm_def]
      rw [nI_clamp (by omega), nI_clamp (by omega), h0 v hv, d_sh n (by omega), fa_or, nI_1, L1, pk_sub hR]
  obtain ⟨Hb', q1, q2⟩ : ∃ Hb', bOK (n + 1) (fun i => if i = n then v else srt i) Hb' ∧ p_X3_addSeat (nI n) (nI R) Hs Hr Hb (nI v) = some (nI (n + 1), upd Hs n (nI v), upd Hr n (nI (R - 1)), Hb') := by
    unfold p_X3_addSeat p_X3_addSeat_b0
    have e0 : (nI n = 0) = (n = 0) := propext (nI_eq (b := 0) (by omega) (by decide))
    simp only [e0, nm_def]
    by_cases h : n = 0
    · rw [if_pos h]
      refine core _ (fun c hc => ?_)
      show (if c < 3 then (0 : Int32) else _) = _
      rw [if_pos hc, h]
      rfl
    · rw [if_neg h]
      exact core _ (hb h)
  refine ⟨Hb', q1, fun i hi => ?_, q2⟩
  simp only [upd_at]
  by_cases e : i = n
  · simp [e, hv]
  · have := ha i (by omega)
    simp [e]
    exact this
theorem here_0 {at_ n : Nat} {mb mt : Nat → Int32} (hat : at_ ≤ 20) (hn : n ≤ 20) (ht : mt 0 = nI n) : p_X8_here (nI at_) mb mt 0 = some (if at_ < n then mb at_ else -1) := by
  unfold p_X8_here p_X8_here_b0 p_X8_here_b31
  rw [show inB 0 2 = true from rfl, gd_true, cl0, ht]
  by_cases h : at_ < n
  · rw [if_neg (nI_ge h (by omega)), if_pos h, show (20 : Int32) * 0 + nI at_ = nI at_ from by rw [show (20 : Int32) * 0 = nI 0 from rfl, nI_add, Nat.zero_add], inB_nI (by omega) (by decide), gd_true, nI_clamp (by omega)]
  · rw [if_pos (nI_le (by omega) (by omega)), if_neg h]
