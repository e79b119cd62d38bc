/-! the texts: seats, both readings side by side -/
/-- what both readings of the seats come to -/
def psOut (cr : Option (Int32 × Int32 × (Nat → Int32) × (Nat → Int32) × (Nat → Int32) × (Nat → Int32))) (m2 : Option (Int32 × Int32 × Int32 × Int32 × (Nat → Int32) × (Nat → Int32))) (fl : Nat → Int32) : Prop :=
  ∃ (S R : Nat) (srt row : Nat → Nat) (fv at2 : Int32) (Hs Hr Hb ms mr : Nat → Int32), S < 9 ∧ R < 21 ∧ aOK S srt row Hs Hr ms mr ∧ bOK S srt Hb ∧ cr = some (nI S, nI R, upd fl 0 fv, Hs, Hr, Hb) ∧ m2 = some (fv, at2, nI S, nI R, ms, mr)
theorem bNot {b : Bool} : (nI (!b).toNat = 0) = (b = true) := by cases b <;> simp <;> decide
theorem fault_C {k R : Nat} {L fl Hs Hr Hb : Nat → Int32} {Z : Nat → Nat → Int32} {at_ : Nat} (h : at_ ≤ 20) : p_X3_parseSeats_b124 (nI k) (nI R) L fl Hs Hr Hb Z 0 (nI at_) = some (0, 0, upd fl 0 (nI at_), Hs, Hr, Hb) := by
  unfold p_X3_parseSeats_b124 p_X3_parseSeats_b125 p_X3_parseSeats_b146
  simp only [show inB 0 2 = true from rfl, gd_true, nm_def, cl0]
  rw [upd_at, if_pos rfl, if_neg (nI_m1 (by omega))]
theorem parse_sim {n : Nat} (hn : n ≤ 20) {L fl mb mt : Nat → Int32} {Z : Nat → Nat → Int32} (hL : L 0 = nI n) (ht : mt 0 = nI n) (hb : ∀ j, j < n → Z 0 j = mb j) : ∀ (r at_ fC fM k R : Nat) (ir : Bool) (srt row : Nat → Nat) (Hs Hr Hb ms mr : Nat → Int32), at_ + r = n → r < fC → r + 1 < fM → k ≤ 8 → R ≤ at_ → (ir = true → 1 ≤ R) → aOK k srt row Hs Hr ms mr → bOK k srt Hb →
    psOut (p_X3_parseSeats_b14 fC (nI k) (nI R) L fl Hs Hr Hb Z (nI ir.toNat) (nI at_)) (p_X8_readsSeats_b19 fM (nI at_) (nI k) (nI R) mb mt ms mr (nI (if 0 < r ∨ ir = false then 1 else 0)) (nI (!ir).toNat)) fl := by
  intro r
  induction r with
  | zero =>
    intro at_ fC fM k R ir srt row Hs Hr Hb ms mr hat hfC hfM hk hR hir ha hbk
    obtain ⟨c, rfl⟩ : ∃ c, fC = c + 1 := ⟨fC - 1, by omega⟩
    obtain ⟨m, rfl⟩ : ∃ m, fM = m + 1 := ⟨fM - 1, by omega⟩
    have e : at_ = n := by omega
    subst e
    show psOut (p_X3_parseSeats_b14x _ _ _ _ _ _ _ _ _ _ _) (p_X8_readsSeats_b19x _ _ _ _ _ _ _ _ _ _) fl
    unfold p_X3_parseSeats_b14x p_X3_parseSeats_b101 p_X8_readsSeats_b19x
    simp only [show inB 0 2 = true from rfl, gd_true, nm_def, cl0, hL]
    rw [if_pos (nI_le (Nat.le_refl _) (by omega)), if_pos trivial]
    cases ir with
    | false =>
      rw [if_pos (show (nI (false : Bool).toNat) = 0 from rfl), fault_C (by omega), if_pos (show 0 < 0 ∨ false = false from Or.inr rfl), if_neg (show ¬ nI 1 = 0 by decide), here_0 (by omega) (by omega) ht, if_neg (Nat.lt_irrefl at_), b1_some]
      refine ⟨0, 0, srt, row, nI at_, nI at_, Hs, Hr, Hb, ms, mr, by omega, by omega, fun i hi => absurd hi (by omega), fun h => absurd rfl h, rfl, ?_⟩
      rfl
    | true =>
      rw [if_neg (show ¬ (nI (true : Bool).toNat) = 0 by decide), if_neg (show ¬ (0 < 0 ∨ true = false) by decide), if_pos (show nI 0 = 0 from rfl)]
      refine ⟨k, R, srt, row, -1, nI at_, Hs, Hr, Hb, ms, mr, by omega, by omega, ha, hbk, ?_, rfl⟩
      unfold p_X3_parseSeats_b125 p_X3_parseSeats_b146
      simp only [show inB 0 2 = true from rfl, gd_true, nm_def, cl0]
      rw [upd_at, if_pos rfl, if_pos rfl]
  | succ r ih =>
    intro at_ fC fM k R ir srt row Hs Hr Hb ms mr hat hfC hfM hk hR hir ha hbk
    obtain ⟨c, rfl⟩ : ∃ c, fC = c + 1 := ⟨fC - 1, by omega⟩
    obtain ⟨m, rfl⟩ : ∃ m, fM = m + 1 := ⟨fM - 1, by omega⟩
    have hlt : at_ < n := by omega
    have hne : ¬ nI at_ = nI n := fun q => by have := nI_inj q (by omega) (by omega); omega
    show psOut (p_X3_parseSeats_b14x _ _ _ _ _ _ _ _ _ _ _) (p_X8_readsSeats_b19x _ _ _ _ _ _ _ _ _ _) fl
    unfold p_X3_parseSeats_b14x p_X8_readsSeats_b19x
    rw [show inB 0 2 = true from rfl, gd_true, gd_true, cl0, hL, if_neg (nI_ge hlt (by omega)), show decide (0 < 2) = true from rfl, gd_true, inB_nI (show at_ < 20 by omega) (by decide), gd_true, nI_clamp (by omega), hb at_ hlt, nm_def, v_sortOf, b1_some, if_pos (show 0 < r + 1 ∨ ir = false from Or.inl (by omega)), if_neg (show ¬ nI 1 = 0 by decide), here_0 (by omega) (by omega) ht, b1_some, if_pos hlt]
    generalize mb at_ = x
    -- a fault here
    have flt : psOut (some (0, 0, upd fl 0 (nI at_), Hs, Hr, Hb)) (some (nI at_, nI at_, 0, 0, ms, mr)) fl := ⟨0, 0, srt, row, nI at_, nI at_, Hs, Hr, Hb, ms, mr, by omega, by omega, fun i hi => absurd hi (by omega), fun h => absurd rfl h, rfl, rfl⟩
    have b101 : p_X3_parseSeats_b101 (nI k) (nI R) L fl Hs Hr Hb Z (nI ir.toNat) (nI at_) = some (0, 0, upd fl 0 (nI at_), Hs, Hr, Hb) := by
      unfold p_X3_parseSeats_b101
      rw [show inB 0 2 = true from rfl, gd_true, cl0, hL, if_neg hne, fault_C (by omega)]
    have b151 : p_X8_readsSeats_b151 (nI at_) (nI k) (nI R) mb mt ms mr = some (nI at_, nI at_, 0, 0, ms, mr) := rfl
    have next : ∀ (ir2 : Bool) (k2 R2 : Nat) (srt2 row2 : Nat → Nat) (Hs2 Hr2 Hb2 ms2 mr2 : Nat → Int32), k2 ≤ 8 → R2 ≤ at_ + 1 → (ir2 = true → 1 ≤ R2) → aOK k2 srt2 row2 Hs2 Hr2 ms2 mr2 → bOK k2 srt2 Hb2 → psOut (p_X3_parseSeats_b95 (p_X3_parseSeats_b14 c) (nI k2) (nI R2) L fl Hs2 Hr2 Hb2 Z (nI ir2.toNat) (nI at_)) (p_X8_readsSeats_b156 (p_X8_readsSeats_b19 m) (nI at_) (nI k2) (nI R2) mb mt ms2 mr2 (nI (!ir2).toNat)) fl := fun ir2 k2 R2 srt2 row2 Hs2 Hr2 Hb2 ms2 mr2 g1 g2 g3 g4 g5 => by
      have := ih (at_ + 1) c m k2 R2 ir2 srt2 row2 Hs2 Hr2 Hb2 ms2 mr2 (by omega) (by omega) (by omega) g1 g2 g3 g4 g5
      unfold p_X3_parseSeats_b95 p_X8_readsSeats_b156 p_X8_readsSeats_b183 p_X8_readsSeats_b188
      rw [nm_def, nm_def, nI_1, show inB 0 2 = true from rfl, gd_true, cl0, ht]
      by_cases h9 : at_ + 1 < n
      · rw [if_pos (nI_lt h9 (by omega))]
        rw [if_pos (Or.inl (by omega))] at this
        exact this
      · rw [if_neg (nI_nlt (by omega) (by omega))]
        cases ir2 with
        | true =>
          rw [if_pos (by decide)]
          rw [if_neg (by intro q; rcases q with q | q; omega; cases q)] at this
          exact this
        | false =>
          rw [if_neg (by decide)]
          rw [if_pos (Or.inr rfl)] at this
          exact this
    have semi : psOut (p_X3_parseSeats_b83 (p_X3_parseSeats_b14 c) (nI k) (nI R) L fl Hs Hr Hb Z (nI ir.toNat) (nI at_) x) (p_X8_readsSeats_b136 (p_X8_readsSeats_b19 m) (nI at_) (nI k) (nI R) mb mt ms mr (nI (!ir).toNat) x) fl := by
      unfold p_X3_parseSeats_b83 p_X8_readsSeats_b136
      rw [b101, b151]
      by_cases h9 : x = 59
      · rw [if_pos h9, if_pos h9]
        simp only [nIb0]
        cases ir with
        | false => rw [if_pos rfl, if_neg (by decide)]; exact flt
        | true =>
          rw [if_neg (by decide), if_pos (by decide)]
          exact next false k R srt row Hs Hr Hb ms mr hk (by omega) (fun h => by cases h) ha hbk
      · rw [if_neg h9, if_neg h9]; exact flt
    have letter : ∀ v : Nat, v < 3 → psOut (if nI v = -1 then p_X3_parseSeats_b83 (p_X3_parseSeats_b14 c) (nI k) (nI R) L fl Hs Hr Hb Z (nI ir.toNat) (nI at_) x else if 8 ≤ nI k then p_X3_parseSeats_b83 (p_X3_parseSeats_b14 c) (nI k) (nI R) L fl Hs Hr Hb Z (nI ir.toNat) (nI at_) x else if nI ir.toNat = 0 then p_X3_parseSeats_b68 (p_X3_parseSeats_b14 c) (nI k) (nI R) L fl Hs Hr Hb Z (nI R) 1 (nI at_) (nI v) else p_X3_parseSeats_b68 (p_X3_parseSeats_b14 c) (nI k) (nI R) L fl Hs Hr Hb Z (nI R) 0 (nI at_) (nI v)) (p_X8_readsSeats_b60 (p_X8_readsSeats_b19 m) (nI at_) (nI k) (nI R) mb mt ms mr (nI v) (nI (!ir).toNat) x) fl := fun v hv => by
      unfold p_X8_readsSeats_b60
      have hv1 : ¬ nI v = -1 := nI_m1 (by omega)
      rw [if_neg hv1, if_neg hv1]
      have k8 : ((8 : Int32) ≤ nI k) = (8 ≤ k) := propext (nI_leI (a := 8) (by decide) (by omega))
      simp only [k8, nIb0]
      by_cases h8 : 8 ≤ k
      · rw [if_pos h8, if_pos h8]; exact semi
      · rw [if_neg h8, if_neg h8]
        have add : ∀ d : Nat, d ≤ 1 → 1 ≤ R + d → psOut (p_X3_parseSeats_b68 (p_X3_parseSeats_b14 c) (nI k) (nI R) L fl Hs Hr Hb Z (nI R) (nI d) (nI at_) (nI v)) (p_X8_readsSeats_b91 (p_X8_readsSeats_b19 m) (nI at_) (nI k) (nI R) mb mt ms mr (nI R) (nI d) (nI v)) fl := fun d hd hRd => by
          obtain ⟨Hb', q1, q2, q3⟩ := v_addSeat (n := k) (R := R + d) (v := v) (by omega) hRd (by omega) hv ha hbk
          unfold p_X3_parseSeats_b68 p_X8_readsSeats_b91
          rw [nI_add, nm_def, q3, b4_some, nm_def, inB_nI (show k < 8 by omega) (by decide)]
          simp only [gd_true, nm_def]
          rw [nI_clamp (by omega), L1, pk_sub hRd, nI_add]
          exact next true (k + 1) (R + d) _ _ _ _ _ _ _ (by omega) (by omega) (fun _ => hRd) q2 q1
        cases ir with
        | false =>
          rw [if_pos rfl, if_neg (by decide)]
          exact add 1 (by omega) (by omega)
        | true =>
          rw [if_neg (by decide), if_pos (by decide)]
          exact add 0 (by omega) (by have := hir rfl; omega)
    by_cases h1 : x = 119
    · rw [if_pos h1, if_pos h1]; exact letter 0 (by omega)
    · rw [if_neg h1, if_neg h1]
      by_cases h2 : x = 109
      · rw [if_pos h2, if_pos h2]; exact letter 1 (by omega)
      · rw [if_neg h2, if_neg h2]
        by_cases h3 : x = 97
        · rw [if_pos h3, if_pos h3]; exact letter 2 (by omega)
        · rw [if_neg h3, if_neg h3, if_pos rfl]
          unfold p_X8_readsSeats_b60
          rw [if_pos rfl]
          exact semi
