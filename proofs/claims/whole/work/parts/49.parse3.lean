/-! the texts: both readings of the seats, whole -/
theorem v_parseSeats {n : Nat} (hn : n ≤ 20) {L fl mb mt : Nat → Int32} {Z : Nat → Nat → Int32} (hL : L 0 = nI n) (ht : mt 0 = nI n) (hb : ∀ j, j < n → Z 0 j = mb j) {s0 r0 a1 s1 r1 : Int32} {Hs Hr Hb ms mr : Nat → Int32} :
    psOut (p_X3_parseSeats s0 r0 L fl Hs Hr Hb Z) (p_X8_readsSeats a1 s1 r1 mb mt ms mr) fl := by
  have := parse_sim (fl := fl) hn hL ht hb n 0 4096 4096 0 0 false (fun _ => 0) (fun _ => 0) Hs Hr Hb ms mr (by omega) (by omega) (by omega) (by omega) (by omega) (fun h => by cases h) (fun i hi => absurd hi (by omega)) (fun h => absurd rfl h)
  rw [if_pos (Or.inr rfl)] at this
  exact this
