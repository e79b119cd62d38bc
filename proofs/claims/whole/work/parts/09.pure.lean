-- X0_clear
def p_X0_clear_b0 (C_meanWrong : Int64) (C_meanLooks : Int64) (C_reach : Nat → Int64) (C_sits : Nat → Int64) (C_wrongs : Nat → Int64) (C_free : Nat → Int64) (C_wrongIn : Nat → Int64)  : Option (Int64 × Int64 × (Nat → Int64) × (Nat → Int64) × (Nat → Int64) × (Nat → Int64) × (Nat → Int64)) :=
  nm (fillL 256 0 C_reach) fun C_reach_5 =>
  nm (fillL 64 0 C_sits) fun C_sits_13 =>
  nm (fillL 9 0 C_wrongs) fun C_wrongs_21 =>
  nm (fillL 8 0 C_free) fun C_free_29 =>
  nm (fillL 2304 0 C_wrongIn) fun C_wrongIn_37 =>
  some (0, 0, C_reach_5, C_sits_13, C_wrongs_21, C_free_29, C_wrongIn_37)
def p_X0_clear (C_meanWrong : Int64) (C_meanLooks : Int64) (C_reach : Nat → Int64) (C_sits : Nat → Int64) (C_wrongs : Nat → Int64) (C_free : Nat → Int64) (C_wrongIn : Nat → Int64)  : Option (Int64 × Int64 × (Nat → Int64) × (Nat → Int64) × (Nat → Int64) × (Nat → Int64) × (Nat → Int64)) := p_X0_clear_b0 C_meanWrong C_meanLooks C_reach C_sits C_wrongs C_free C_wrongIn 
-- X3_allSeats
def p_X3_allSeats_b0 (H_seats : Int32)  : Option (Int32) :=
  some (((1 : Int32) <<< (H_seats &&& 31)) - 1)
def p_X3_allSeats (H_seats : Int32)  : Option (Int32) := p_X3_allSeats_b0 H_seats 
-- J6_bitCount_0f7a4
def p_J6_bitCount_0f7a4_b0  (x0 : Int32) : Option (Int32) :=
  nm ((x0 - (((x0.toUInt32 >>> ((1 : Int32).toUInt32 &&& Int32.toUInt32 31)).toInt32) &&& 1431655765)) : Int32) fun x9 =>
  nm (((x9 &&& 858993459) + (((x9.toUInt32 >>> ((2 : Int32).toUInt32 &&& Int32.toUInt32 31)).toInt32) &&& 858993459)) : Int32) fun x23 =>
  nm (((x23 + ((x23.toUInt32 >>> ((4 : Int32).toUInt32 &&& Int32.toUInt32 31)).toInt32)) &&& 252645135) : Int32) fun x33 =>
  nm ((x33 + ((x33.toUInt32 >>> ((8 : Int32).toUInt32 &&& Int32.toUInt32 31)).toInt32)) : Int32) fun x40 =>
  nm ((x40 + ((x40.toUInt32 >>> ((16 : Int32).toUInt32 &&& Int32.toUInt32 31)).toInt32)) : Int32) fun x47 =>
  some (x47 &&& 63)
def p_J6_bitCount_0f7a4  (x0 : Int32) : Option (Int32) := p_J6_bitCount_0f7a4_b0  x0
-- X3_has
def p_X3_has_b14  (t0 : Int32) : Option (Int32) :=
  gd (isZ t0) <|
  some t0
def p_X3_has_b0  (x0 : Int32) (x1 : Int32) : Option (Int32) :=
  if ((x0 >>> (x1 &&& 31)) &&& 1) = 1 then
  (p_X3_has_b14  1)
  else
  (p_X3_has_b14  0)
def p_X3_has  (x0 : Int32) (x1 : Int32) : Option (Int32) := p_X3_has_b0  x0 x1
-- X0_close
def p_X0_close_b69 (K35 : Int32 → (Nat → Int64) → (Nat → Int64) → (Nat → Int64) → (Nat → Int64) → Int32 → Int32 → Option ((Nat → Int64) × (Nat → Int64))) (H_seats : Int32) (C_reach : Nat → Int64) (C_wrongs : Nat → Int64) (C_free : Nat → Int64) (C_wrongIn : Nat → Int64) (x1 : Int32) (x3 : Int32) : Option ((Nat → Int64) × (Nat → Int64)) :=
  nm (x3 + 1 : Int32) fun x69 =>
  K35 H_seats C_reach C_wrongs C_free C_wrongIn x1 x69
def p_X0_close_b35x (K35 : Int32 → (Nat → Int64) → (Nat → Int64) → (Nat → Int64) → (Nat → Int64) → Int32 → Int32 → Option ((Nat → Int64) × (Nat → Int64))) (H_seats : Int32) (C_reach : Nat → Int64) (C_wrongs : Nat → Int64) (C_free : Nat → Int64) (C_wrongIn : Nat → Int64) (x1 : Int32) (x3 : Int32) : Option ((Nat → Int64) × (Nat → Int64)) :=
  if H_seats ≤ x3 then
  (some (C_wrongs, C_free))
  else
  (b1 (p_X3_has  x1 x3) fun r48 =>
  if r48 = 0 then
  (gd (inB x3 8) <|
  gd (inB x1 256) <|
  gd (inB x3 8) <|
  nm (vp_updL C_free x3.toNatClampNeg ((C_free x3.toNatClampNeg) + (C_reach x1.toNatClampNeg))) fun C_free_68 =>
  p_X0_close_b69 K35 H_seats C_reach C_wrongs C_free_68 C_wrongIn x1 x3)
  else
  (p_X0_close_b69 K35 H_seats C_reach C_wrongs C_free C_wrongIn x1 x3))
def p_X0_close_b35 : Nat → Int32 → (Nat → Int64) → (Nat → Int64) → (Nat → Int64) → (Nat → Int64) → Int32 → Int32 → Option ((Nat → Int64) × (Nat → Int64))
  | 0 => fun _ _ _ _ _ _ _ => none
  | n + 1 => p_X0_close_b35x (p_X0_close_b35 n)
def p_X0_close_b2x (K2 : Int32 → (Nat → Int64) → (Nat → Int64) → (Nat → Int64) → (Nat → Int64) → Int32 → Int32 → Int32 → Option ((Nat → Int64) × (Nat → Int64))) (H_seats : Int32) (C_reach : Nat → Int64) (C_wrongs : Nat → Int64) (C_free : Nat → Int64) (C_wrongIn : Nat → Int64) (x1 : Int32) (x2 : Int32) (x3 : Int32) : Option ((Nat → Int64) × (Nat → Int64)) :=
  if x2 < x3 then
  (p_X0_close_b35 4096 H_seats C_reach C_wrongs C_free C_wrongIn x1 0)
  else
  (gd (inB x3 9) <|
  gd (inB ((x1 * 9) + x3) 2304) <|
  gd (inB x3 9) <|
  nm (vp_updL C_wrongs x3.toNatClampNeg ((C_wrongs x3.toNatClampNeg) + (C_wrongIn ((x1 * 9) + x3).toNatClampNeg))) fun C_wrongs_26 =>
  nm (x3 + 1 : Int32) fun x27 =>
  K2 H_seats C_reach C_wrongs_26 C_free C_wrongIn x1 x2 x27)
def p_X0_close_b2 : Nat → Int32 → (Nat → Int64) → (Nat → Int64) → (Nat → Int64) → (Nat → Int64) → Int32 → Int32 → Int32 → Option ((Nat → Int64) × (Nat → Int64))
  | 0 => fun _ _ _ _ _ _ _ _ => none
  | n + 1 => p_X0_close_b2x (p_X0_close_b2 n)
def p_X0_close_b0 (H_seats : Int32) (C_reach : Nat → Int64) (C_wrongs : Nat → Int64) (C_free : Nat → Int64) (C_wrongIn : Nat → Int64) (x1 : Int32) (x2 : Int32) : Option ((Nat → Int64) × (Nat → Int64)) :=
  p_X0_close_b2 4096 H_seats C_reach C_wrongs C_free C_wrongIn x1 x2 0
def p_X0_close (H_seats : Int32) (C_reach : Nat → Int64) (C_wrongs : Nat → Int64) (C_free : Nat → Int64) (C_wrongIn : Nat → Int64) (x1 : Int32) (x2 : Int32) : Option ((Nat → Int64) × (Nat → Int64)) := p_X0_close_b0 H_seats C_reach C_wrongs C_free C_wrongIn x1 x2
-- X3_nextFree
def p_X3_nextFree_b37 (K2 : Int32 → Int32 → Int32 → Int32 → Option (Int32)) (H_seats : Int32) (t0 : Int32) (t1 : Int32) (x1 : Int32) (x2 : Int32) (x3 : Int32) : Option (Int32) :=
  nm ((t0 <<< (t1 &&& 31)) : Int32) fun x38 =>
  if (x1 &&& x38) = 0 then
  (nm (x3 + 1 : Int32) fun x50 =>
  K2 H_seats x1 x2 x50)
  else
  (some x38)
def p_X3_nextFree_b2x (K2 : Int32 → Int32 → Int32 → Int32 → Option (Int32)) (H_seats : Int32) (x1 : Int32) (x2 : Int32) (x3 : Int32) : Option (Int32) :=
  if H_seats ≤ x3 then
  (some (0 : Int32))
  else
  (nm ((x2 + x3) : Int32) fun x13 =>
  if x13 < H_seats then
  (p_X3_nextFree_b37 K2 H_seats 1 x13 x1 x2 x3)
  else
  (p_X3_nextFree_b37 K2 H_seats 1 (x13 - H_seats) x1 x2 x3))
def p_X3_nextFree_b2 : Nat → Int32 → Int32 → Int32 → Int32 → Option (Int32)
  | 0 => fun _ _ _ _ => none
  | n + 1 => p_X3_nextFree_b2x (p_X3_nextFree_b2 n)
def p_X3_nextFree_b0 (H_seats : Int32) (x1 : Int32) (x2 : Int32) : Option (Int32) :=
  p_X3_nextFree_b2 4096 H_seats x1 x2 1
def p_X3_nextFree (H_seats : Int32) (x1 : Int32) (x2 : Int32) : Option (Int32) := p_X3_nextFree_b0 H_seats x1 x2
-- X3_choices
def p_X3_choices_b79 (H_seats : Int32) (H_sorts : Nat → Int32) (H_bySort : Nat → Int32) (t0 : Int32) : Option (Int32) :=
  some t0
def p_X3_choices_b65 (H_seats : Int32) (H_sorts : Nat → Int32) (H_bySort : Nat → Int32) (t0 : Int32) (x4 : Int32) : Option (Int32) :=
  if t0 = 0 then
  (p_X3_choices_b79 H_seats H_sorts H_bySort x4)
  else
  (p_X3_choices_b79 H_seats H_sorts H_bySort t0)
def p_X3_choices_b28 (H_seats : Int32) (H_sorts : Nat → Int32) (H_bySort : Nat → Int32) (x2 : Int32) (x3 : Int32) (x4 : Int32) : Option (Int32) :=
  if x3 = 2 then
  (b1 (p_X3_nextFree H_seats x4 x2) fun r37 =>
  some r37)
  else
  (if x3 = 3 then
  (gd (inB x2 8) <|
  gd (inB (H_sorts x2.toNatClampNeg) 3) <|
  p_X3_choices_b65 H_seats H_sorts H_bySort (x4 &&& (H_bySort (H_sorts x2.toNatClampNeg).toNatClampNeg)) x4)
  else
  (p_X3_choices_b65 H_seats H_sorts H_bySort x4 x4))
def p_X3_choices_b0 (H_seats : Int32) (H_sorts : Nat → Int32) (H_bySort : Nat → Int32) (x1 : Int32) (x2 : Int32) (x3 : Int32) : Option (Int32) :=
  b1 (p_X3_allSeats H_seats) fun r1 =>
  nm ((r1 &&& (x1 ^^^ (-1))) : Int32) fun x8 =>
  if x3 = 1 then
  (p_X3_choices_b28 H_seats H_sorts H_bySort x2 x3 x8)
  else
  (b1 (p_X3_has  x8 x2) fun r18 =>
  if r18 = 0 then
  (p_X3_choices_b28 H_seats H_sorts H_bySort x2 x3 x8)
  else
  (some ((1 : Int32) <<< (x2 &&& 31))))
def p_X3_choices (H_seats : Int32) (H_sorts : Nat → Int32) (H_bySort : Nat → Int32) (x1 : Int32) (x2 : Int32) (x3 : Int32) : Option (Int32) := p_X3_choices_b0 H_seats H_sorts H_bySort x1 x2 x3
-- X3_passedOver
def p_X3_passedOver_b19 (H_seats : Int32) (t0 : Int32) : Option (Int32) :=
  some t0
def p_X3_passedOver_b0 (H_seats : Int32) (x1 : Int32) (x2 : Int32) : Option (Int32) :=
  if x2 < x1 then
  (p_X3_passedOver_b19 H_seats ((x2 - x1) + H_seats))
  else
  (p_X3_passedOver_b19 H_seats (x2 - x1))
def p_X3_passedOver (H_seats : Int32) (x1 : Int32) (x2 : Int32) : Option (Int32) := p_X3_passedOver_b0 H_seats x1 x2
-- X0_sitDown
def p_X0_sitDown_b110x (K110 : Int32 → Int64 → (Nat → Int32) → (Nat → Int32) → (Nat → Int64) → (Nat → Int64) → (Nat → Int64) → Int32 → Int32 → Int32 → Int32 → Int32 → Int32 → Option (Int64 × (Nat → Int64) × (Nat → Int64) × (Nat → Int64))) (H_seats : Int32) (C_meanLooks : Int64) (H_owns : Nat → Int32) (H_kinds : Nat → Int32) (C_reach : Nat → Int64) (C_sits : Nat → Int64) (C_wrongIn : Nat → Int64) (x1 : Int32) (x2 : Int32) (x4 : Int32) (x6 : Int32) (x9 : Int32) (x10 : Int32) : Option (Int64 × (Nat → Int64) × (Nat → Int64) × (Nat → Int64)) :=
  if x2 < x10 then
  (some (C_meanLooks, C_reach, C_sits, C_wrongIn))
  else
  (gd (inB (((x6 * 9) + x10) + x9) 2304) <|
  gd (inB ((x1 * 9) + x10) 2304) <|
  gd (decide (¬ x4.toInt64 = 0)) <|
  gd (inB (((x6 * 9) + x10) + x9) 2304) <|
  nm (vp_updL C_wrongIn (((x6 * 9) + x10) + x9).toNatClampNeg ((C_wrongIn (((x6 * 9) + x10) + x9).toNatClampNeg) + ((C_wrongIn ((x1 * 9) + x10).toNatClampNeg) / x4.toInt64))) fun C_wrongIn_150 =>
  nm (x10 + 1 : Int32) fun x151 =>
  K110 H_seats C_meanLooks H_owns H_kinds C_reach C_sits C_wrongIn_150 x1 x2 x4 x6 x9 x151)
def p_X0_sitDown_b110 : Nat → Int32 → Int64 → (Nat → Int32) → (Nat → Int32) → (Nat → Int64) → (Nat → Int64) → (Nat → Int64) → Int32 → Int32 → Int32 → Int32 → Int32 → Int32 → Option (Int64 × (Nat → Int64) × (Nat → Int64) × (Nat → Int64))
  | 0 => fun _ _ _ _ _ _ _ _ _ _ _ _ _ => none
  | n + 1 => p_X0_sitDown_b110x (p_X0_sitDown_b110 n)
def p_X0_sitDown_b105 (H_seats : Int32) (C_meanLooks : Int64) (H_owns : Nat → Int32) (H_kinds : Nat → Int32) (C_reach : Nat → Int64) (C_sits : Nat → Int64) (C_wrongIn : Nat → Int64) (t0 : Int32) (x1 : Int32) (x2 : Int32) (x4 : Int32) (x6 : Int32) : Option (Int64 × (Nat → Int64) × (Nat → Int64) × (Nat → Int64)) :=
  p_X0_sitDown_b110 4096 H_seats C_meanLooks H_owns H_kinds C_reach C_sits C_wrongIn x1 x2 x4 x6 t0 0
def p_X0_sitDown_b94 (H_seats : Int32) (C_meanLooks : Int64) (H_owns : Nat → Int32) (H_kinds : Nat → Int32) (C_reach : Nat → Int64) (C_sits : Nat → Int64) (C_wrongIn : Nat → Int64) (x1 : Int32) (x2 : Int32) (x3 : Int32) (x4 : Int32) (x5 : Int32) (x6 : Int32) : Option (Int64 × (Nat → Int64) × (Nat → Int64) × (Nat → Int64)) :=
  if x3 = x5 then
  (p_X0_sitDown_b105 H_seats C_meanLooks H_owns H_kinds C_reach C_sits C_wrongIn 0 x1 x2 x4 x6)
  else
  (p_X0_sitDown_b105 H_seats C_meanLooks H_owns H_kinds C_reach C_sits C_wrongIn 1 x1 x2 x4 x6)
def p_X0_sitDown_b0 (H_seats : Int32) (C_meanLooks : Int64) (H_owns : Nat → Int32) (H_kinds : Nat → Int32) (C_reach : Nat → Int64) (C_sits : Nat → Int64) (C_wrongIn : Nat → Int64) (x1 : Int32) (x2 : Int32) (x3 : Int32) (x4 : Int32) : Option (Int64 × (Nat → Int64) × (Nat → Int64) × (Nat → Int64)) :=
  gd (inB x2 8) <|
  nm ((H_owns x2.toNatClampNeg) : Int32) fun x9 =>
  nm ((x1 ||| ((1 : Int32) <<< (x3 &&& 31))) : Int32) fun x16 =>
  gd (inB x1 256) <|
  gd (decide (¬ x4.toInt64 = 0)) <|
  nm (((C_reach x1.toNatClampNeg) / x4.toInt64) : Int64) fun x28 =>
  gd (inB x16 256) <|
  gd (inB x16 256) <|
  nm (vp_updL C_reach x16.toNatClampNeg ((C_reach x16.toNatClampNeg) + x28)) fun C_reach_41 =>
  gd (inB ((x2 * 8) + x3) 64) <|
  gd (inB ((x2 * 8) + x3) 64) <|
  nm (vp_updL C_sits ((x2 * 8) + x3).toNatClampNeg ((C_sits ((x2 * 8) + x3).toNatClampNeg) + x28)) fun C_sits_57 =>
  gd (inB x2 8) <|
  if (H_kinds x2.toNatClampNeg) = 2 then
  (b1 (p_X3_passedOver H_seats x9 x3) fun r85 =>
  nm ((C_meanLooks + (x28 * r85.toInt64)) : Int64) fun C_meanLooks_91 =>
  p_X0_sitDown_b94 H_seats C_meanLooks_91 H_owns H_kinds C_reach_41 C_sits_57 C_wrongIn x1 x2 x3 x4 x9 x16)
  else
  (p_X0_sitDown_b94 H_seats C_meanLooks H_owns H_kinds C_reach_41 C_sits_57 C_wrongIn x1 x2 x3 x4 x9 x16)
def p_X0_sitDown (H_seats : Int32) (C_meanLooks : Int64) (H_owns : Nat → Int32) (H_kinds : Nat → Int32) (C_reach : Nat → Int64) (C_sits : Nat → Int64) (C_wrongIn : Nat → Int64) (x1 : Int32) (x2 : Int32) (x3 : Int32) (x4 : Int32) : Option (Int64 × (Nat → Int64) × (Nat → Int64) × (Nat → Int64)) := p_X0_sitDown_b0 H_seats C_meanLooks H_owns H_kinds C_reach C_sits C_wrongIn x1 x2 x3 x4
-- X0_goOn
def p_X0_goOn_b91 (K60 : Int32 → Int32 → Int64 → (Nat → Int32) → (Nat → Int32) → (Nat → Int32) → (Nat → Int32) → (Nat → Int64) → (Nat → Int64) → (Nat → Int64) → (Nat → Int64) → (Nat → Int64) → Int32 → Int32 → Int32 → Int32 → Int32 → Option (Int64 × (Nat → Int64) × (Nat → Int64) × (Nat → Int64) × (Nat → Int64) × (Nat → Int64))) (H_seats : Int32) (H_people : Int32) (C_meanLooks : Int64) (H_sorts : Nat → Int32) (H_bySort : Nat → Int32) (H_owns : Nat → Int32) (H_kinds : Nat → Int32) (C_reach : Nat → Int64) (C_sits : Nat → Int64) (C_wrongs : Nat → Int64) (C_free : Nat → Int64) (C_wrongIn : Nat → Int64) (x1 : Int32) (x2 : Int32) (x3 : Int32) (x4 : Int32) (x5 : Int32) : Option (Int64 × (Nat → Int64) × (Nat → Int64) × (Nat → Int64) × (Nat → Int64) × (Nat → Int64)) :=
  nm (x5 + 1 : Int32) fun x91 =>
  K60 H_seats H_people C_meanLooks H_sorts H_bySort H_owns H_kinds C_reach C_sits C_wrongs C_free C_wrongIn x1 x2 x3 x4 x91
def p_X0_goOn_b60x (K60 : Int32 → Int32 → Int64 → (Nat → Int32) → (Nat → Int32) → (Nat → Int32) → (Nat → Int32) → (Nat → Int64) → (Nat → Int64) → (Nat → Int64) → (Nat → Int64) → (Nat → Int64) → Int32 → Int32 → Int32 → Int32 → Int32 → Option (Int64 × (Nat → Int64) × (Nat → Int64) × (Nat → Int64) × (Nat → Int64) × (Nat → Int64))) (H_seats : Int32) (H_people : Int32) (C_meanLooks : Int64) (H_sorts : Nat → Int32) (H_bySort : Nat → Int32) (H_owns : Nat → Int32) (H_kinds : Nat → Int32) (C_reach : Nat → Int64) (C_sits : Nat → Int64) (C_wrongs : Nat → Int64) (C_free : Nat → Int64) (C_wrongIn : Nat → Int64) (x1 : Int32) (x2 : Int32) (x3 : Int32) (x4 : Int32) (x5 : Int32) : Option (Int64 × (Nat → Int64) × (Nat → Int64) × (Nat → Int64) × (Nat → Int64) × (Nat → Int64)) :=
  if H_seats ≤ x5 then
  (some (C_meanLooks, C_reach, C_sits, C_wrongs, C_free, C_wrongIn))
  else
  (b1 (p_X3_has  x3 x5) fun r75 =>
  if r75 = 0 then
  (p_X0_goOn_b91 K60 H_seats H_people C_meanLooks H_sorts H_bySort H_owns H_kinds C_reach C_sits C_wrongs C_free C_wrongIn x1 x2 x3 x4 x5)
  else
  (b4 (p_X0_sitDown H_seats C_meanLooks H_owns H_kinds C_reach C_sits C_wrongIn x1 x2 x5 x4) fun C_meanLooks_88 C_reach_88 C_sits_88 C_wrongIn_88 =>
  p_X0_goOn_b91 K60 H_seats H_people C_meanLooks_88 H_sorts H_bySort H_owns H_kinds C_reach_88 C_sits_88 C_wrongs C_free C_wrongIn_88 x1 x2 x3 x4 x5))
def p_X0_goOn_b60 : Nat → Int32 → Int32 → Int64 → (Nat → Int32) → (Nat → Int32) → (Nat → Int32) → (Nat → Int32) → (Nat → Int64) → (Nat → Int64) → (Nat → Int64) → (Nat → Int64) → (Nat → Int64) → Int32 → Int32 → Int32 → Int32 → Int32 → Option (Int64 × (Nat → Int64) × (Nat → Int64) × (Nat → Int64) × (Nat → Int64) × (Nat → Int64))
  | 0 => fun _ _ _ _ _ _ _ _ _ _ _ _ _ _ _ _ _ => none
  | n + 1 => p_X0_goOn_b60x (p_X0_goOn_b60 n)
def p_X0_goOn_b0 (H_seats : Int32) (H_people : Int32) (C_meanLooks : Int64) (H_sorts : Nat → Int32) (H_bySort : Nat → Int32) (H_owns : Nat → Int32) (H_kinds : Nat → Int32) (C_reach : Nat → Int64) (C_sits : Nat → Int64) (C_wrongs : Nat → Int64) (C_free : Nat → Int64) (C_wrongIn : Nat → Int64) (x1 : Int32) (x2 : Int32) : Option (Int64 × (Nat → Int64) × (Nat → Int64) × (Nat → Int64) × (Nat → Int64) × (Nat → Int64)) :=
  if x2 < H_people then
  (gd (inB x2 8) <|
  gd (inB x2 8) <|
  b1 (p_X3_choices H_seats H_sorts H_bySort x1 (H_owns x2.toNatClampNeg) (H_kinds x2.toNatClampNeg)) fun r41 =>
  b1 (p_J6_bitCount_0f7a4  r41) fun r46 =>
  if r46 = 0 then
  (some (C_meanLooks, C_reach, C_sits, C_wrongs, C_free, C_wrongIn))
  else
  (p_X0_goOn_b60 4096 H_seats H_people C_meanLooks H_sorts H_bySort H_owns H_kinds C_reach C_sits C_wrongs C_free C_wrongIn x1 x2 r41 r46 0))
  else
  (b2 (p_X0_close H_seats C_reach C_wrongs C_free C_wrongIn x1 x2) fun C_wrongs_14 C_free_14 =>
  some (C_meanLooks, C_reach, C_sits, C_wrongs_14, C_free_14, C_wrongIn))
def p_X0_goOn (H_seats : Int32) (H_people : Int32) (C_meanLooks : Int64) (H_sorts : Nat → Int32) (H_bySort : Nat → Int32) (H_owns : Nat → Int32) (H_kinds : Nat → Int32) (C_reach : Nat → Int64) (C_sits : Nat → Int64) (C_wrongs : Nat → Int64) (C_free : Nat → Int64) (C_wrongIn : Nat → Int64) (x1 : Int32) (x2 : Int32) : Option (Int64 × (Nat → Int64) × (Nat → Int64) × (Nat → Int64) × (Nat → Int64) × (Nat → Int64)) := p_X0_goOn_b0 H_seats H_people C_meanLooks H_sorts H_bySort H_owns H_kinds C_reach C_sits C_wrongs C_free C_wrongIn x1 x2
-- X0_refresh
def p_X0_refresh_b73x (K73 : Int32 → Int32 → Int32 → Int64 → Int64 → (Nat → Int32) → (Nat → Int32) → (Nat → Int32) → (Nat → Int32) → (Nat → Int64) → (Nat → Int64) → (Nat → Int64) → (Nat → Int64) → (Nat → Int64) → Int32 → Option (Int32 × Int64 × Int64 × (Nat → Int64) × (Nat → Int64) × (Nat → Int64) × (Nat → Int64) × (Nat → Int64))) (H_seats : Int32) (H_people : Int32) (C_ready : Int32) (C_meanWrong : Int64) (C_meanLooks : Int64) (H_sorts : Nat → Int32) (H_bySort : Nat → Int32) (H_owns : Nat → Int32) (H_kinds : Nat → Int32) (C_reach : Nat → Int64) (C_sits : Nat → Int64) (C_wrongs : Nat → Int64) (C_free : Nat → Int64) (C_wrongIn : Nat → Int64) (x2 : Int32) : Option (Int32 × Int64 × Int64 × (Nat → Int64) × (Nat → Int64) × (Nat → Int64) × (Nat → Int64) × (Nat → Int64)) :=
  if H_people < x2 then
  (some (1, C_meanWrong, C_meanLooks, C_reach, C_sits, C_wrongs, C_free, C_wrongIn))
  else
  (gd (inB x2 9) <|
  nm ((C_meanWrong + (x2.toInt64 * (C_wrongs x2.toNatClampNeg))) : Int64) fun C_meanWrong_99 =>
  nm (x2 + 1 : Int32) fun x102 =>
  K73 H_seats H_people C_ready C_meanWrong_99 C_meanLooks H_sorts H_bySort H_owns H_kinds C_reach C_sits C_wrongs C_free C_wrongIn x102)
def p_X0_refresh_b73 : Nat → Int32 → Int32 → Int32 → Int64 → Int64 → (Nat → Int32) → (Nat → Int32) → (Nat → Int32) → (Nat → Int32) → (Nat → Int64) → (Nat → Int64) → (Nat → Int64) → (Nat → Int64) → (Nat → Int64) → Int32 → Option (Int32 × Int64 × Int64 × (Nat → Int64) × (Nat → Int64) × (Nat → Int64) × (Nat → Int64) × (Nat → Int64))
  | 0 => fun _ _ _ _ _ _ _ _ _ _ _ _ _ _ _ => none
  | n + 1 => p_X0_refresh_b73x (p_X0_refresh_b73 n)
def p_X0_refresh_b65 (K40 : Int32 → Int32 → Int32 → Int64 → Int64 → (Nat → Int32) → (Nat → Int32) → (Nat → Int32) → (Nat → Int32) → (Nat → Int64) → (Nat → Int64) → (Nat → Int64) → (Nat → Int64) → (Nat → Int64) → Int32 → Int32 → Option (Int32 × Int64 × Int64 × (Nat → Int64) × (Nat → Int64) × (Nat → Int64) × (Nat → Int64) × (Nat → Int64))) (H_seats : Int32) (H_people : Int32) (C_ready : Int32) (C_meanWrong : Int64) (C_meanLooks : Int64) (H_sorts : Nat → Int32) (H_bySort : Nat → Int32) (H_owns : Nat → Int32) (H_kinds : Nat → Int32) (C_reach : Nat → Int64) (C_sits : Nat → Int64) (C_wrongs : Nat → Int64) (C_free : Nat → Int64) (C_wrongIn : Nat → Int64) (x1 : Int32) (x2 : Int32) : Option (Int32 × Int64 × Int64 × (Nat → Int64) × (Nat → Int64) × (Nat → Int64) × (Nat → Int64) × (Nat → Int64)) :=
  nm (x2 + 1 : Int32) fun x65 =>
  K40 H_seats H_people C_ready C_meanWrong C_meanLooks H_sorts H_bySort H_owns H_kinds C_reach C_sits C_wrongs C_free C_wrongIn x1 x65
def p_X0_refresh_b40x (K40 : Int32 → Int32 → Int32 → Int64 → Int64 → (Nat → Int32) → (Nat → Int32) → (Nat → Int32) → (Nat → Int32) → (Nat → Int64) → (Nat → Int64) → (Nat → Int64) → (Nat → Int64) → (Nat → Int64) → Int32 → Int32 → Option (Int32 × Int64 × Int64 × (Nat → Int64) × (Nat → Int64) × (Nat → Int64) × (Nat → Int64) × (Nat → Int64))) (H_seats : Int32) (H_people : Int32) (C_ready : Int32) (C_meanWrong : Int64) (C_meanLooks : Int64) (H_sorts : Nat → Int32) (H_bySort : Nat → Int32) (H_owns : Nat → Int32) (H_kinds : Nat → Int32) (C_reach : Nat → Int64) (C_sits : Nat → Int64) (C_wrongs : Nat → Int64) (C_free : Nat → Int64) (C_wrongIn : Nat → Int64) (x1 : Int32) (x2 : Int32) : Option (Int32 × Int64 × Int64 × (Nat → Int64) × (Nat → Int64) × (Nat → Int64) × (Nat → Int64) × (Nat → Int64)) :=
  if x1 < x2 then
  (p_X0_refresh_b73 4096 H_seats H_people C_ready C_meanWrong C_meanLooks H_sorts H_bySort H_owns H_kinds C_reach C_sits C_wrongs C_free C_wrongIn 1)
  else
  (gd (inB x2 256) <|
  if (lg_cmp (C_reach x2.toNatClampNeg) 0) = 0 then
  (p_X0_refresh_b65 K40 H_seats H_people C_ready C_meanWrong C_meanLooks H_sorts H_bySort H_owns H_kinds C_reach C_sits C_wrongs C_free C_wrongIn x1 x2)
  else
  (b1 (p_J6_bitCount_0f7a4  x2) fun r59 =>
  b6 (p_X0_goOn H_seats H_people C_meanLooks H_sorts H_bySort H_owns H_kinds C_reach C_sits C_wrongs C_free C_wrongIn x2 r59) fun C_meanLooks_62 C_reach_62 C_sits_62 C_wrongs_62 C_free_62 C_wrongIn_62 =>
  p_X0_refresh_b65 K40 H_seats H_people C_ready C_meanWrong C_meanLooks_62 H_sorts H_bySort H_owns H_kinds C_reach_62 C_sits_62 C_wrongs_62 C_free_62 C_wrongIn_62 x1 x2))
def p_X0_refresh_b40 : Nat → Int32 → Int32 → Int32 → Int64 → Int64 → (Nat → Int32) → (Nat → Int32) → (Nat → Int32) → (Nat → Int32) → (Nat → Int64) → (Nat → Int64) → (Nat → Int64) → (Nat → Int64) → (Nat → Int64) → Int32 → Int32 → Option (Int32 × Int64 × Int64 × (Nat → Int64) × (Nat → Int64) × (Nat → Int64) × (Nat → Int64) × (Nat → Int64))
  | 0 => fun _ _ _ _ _ _ _ _ _ _ _ _ _ _ _ _ => none
  | n + 1 => p_X0_refresh_b40x (p_X0_refresh_b40 n)
def p_X0_refresh_b0 (H_seats : Int32) (H_people : Int32) (C_ready : Int32) (C_meanWrong : Int64) (C_meanLooks : Int64) (H_sorts : Nat → Int32) (H_bySort : Nat → Int32) (H_owns : Nat → Int32) (H_kinds : Nat → Int32) (C_reach : Nat → Int64) (C_sits : Nat → Int64) (C_wrongs : Nat → Int64) (C_free : Nat → Int64) (C_wrongIn : Nat → Int64)  : Option (Int32 × Int64 × Int64 × (Nat → Int64) × (Nat → Int64) × (Nat → Int64) × (Nat → Int64) × (Nat → Int64)) :=
  if C_ready = 0 then
  (b7 (p_X0_clear C_meanWrong C_meanLooks C_reach C_sits C_wrongs C_free C_wrongIn) fun C_meanWrong_9 C_meanLooks_9 C_reach_9 C_sits_9 C_wrongs_9 C_free_9 C_wrongIn_9 =>
  gd (inB 0 256) <|
  nm (vp_updL C_reach_9 (0 : Int32).toNatClampNeg 182891520000) fun C_reach_20 =>
  gd (inB 0 2304) <|
  nm (vp_updL C_wrongIn_9 (0 : Int32).toNatClampNeg 182891520000) fun C_wrongIn_29 =>
  b1 (p_X3_allSeats H_seats) fun r34 =>
  p_X0_refresh_b40 4096 H_seats H_people C_ready C_meanWrong_9 C_meanLooks_9 H_sorts H_bySort H_owns H_kinds C_reach_20 C_sits_9 C_wrongs_9 C_free_9 C_wrongIn_29 r34 0)
  else
  (some (C_ready, C_meanWrong, C_meanLooks, C_reach, C_sits, C_wrongs, C_free, C_wrongIn))
def p_X0_refresh (H_seats : Int32) (H_people : Int32) (C_ready : Int32) (C_meanWrong : Int64) (C_meanLooks : Int64) (H_sorts : Nat → Int32) (H_bySort : Nat → Int32) (H_owns : Nat → Int32) (H_kinds : Nat → Int32) (C_reach : Nat → Int64) (C_sits : Nat → Int64) (C_wrongs : Nat → Int64) (C_free : Nat → Int64) (C_wrongIn : Nat → Int64)  : Option (Int32 × Int64 × Int64 × (Nat → Int64) × (Nat → Int64) × (Nat → Int64) × (Nat → Int64) × (Nat → Int64)) := p_X0_refresh_b0 H_seats H_people C_ready C_meanWrong C_meanLooks H_sorts H_bySort H_owns H_kinds C_reach C_sits C_wrongs C_free C_wrongIn 
-- X1_keep
def p_X1_keep_b29 (D_least : Int64) (D_best : Nat → Int32) (D_row : Nat → Int32)  : Option (Int64 × (Nat → Int32)) :=
  some (D_least, D_best)
def p_X1_keep_b0 (D_least : Int64) (D_best : Nat → Int32) (D_row : Nat → Int32) (x1 : Int64) : Option (Int64 × (Nat → Int32)) :=
  if 0 ≤ (lg_cmp x1 D_least) then
  (p_X1_keep_b29 D_least D_best D_row )
  else
  (gd (cpB 0 0 6 6 6) <|
  nm (va_cpy D_row D_best (0 : Int32).toNatClampNeg (0 : Int32).toNatClampNeg (6 : Int32).toNatClampNeg) fun D_best_26 =>
  p_X1_keep_b29 x1 D_best_26 D_row )
def p_X1_keep (D_least : Int64) (D_best : Nat → Int32) (D_row : Nat → Int32) (x1 : Int64) : Option (Int64 × (Nat → Int32)) := p_X1_keep_b0 D_least D_best D_row x1
-- X1_wrongAmong
def p_X1_wrongAmong_b38 (H_owns : Nat → Int32) (H_kinds : Nat → Int32) (D_takenBehind : Nat → Int64) (x4 : Int64) : Option (Int64) :=
  some x4
def p_X1_wrongAmong_b0 (H_owns : Nat → Int32) (H_kinds : Nat → Int32) (D_takenBehind : Nat → Int64) (x1 : Int32) (x2 : Int32) (x3 : Int32) : Option (Int64) :=
  gd (inB x3 8) <|
  gd (inB ((x2 * 8) + (H_owns x3.toNatClampNeg)) 56) <|
  nm ((D_takenBehind ((x2 * 8) + (H_owns x3.toNatClampNeg)).toNatClampNeg) : Int64) fun x19 =>
  gd (inB x3 8) <|
  if (H_kinds x3.toNatClampNeg) = 1 then
  (if 0 < x1 then
  (gd (decide (¬ x1.toInt64 = 0)) <|
  some (182891520000 - ((182891520000 - x19) / x1.toInt64)))
  else
  (p_X1_wrongAmong_b38 H_owns H_kinds D_takenBehind x19))
  else
  (p_X1_wrongAmong_b38 H_owns H_kinds D_takenBehind x19)
def p_X1_wrongAmong (H_owns : Nat → Int32) (H_kinds : Nat → Int32) (D_takenBehind : Nat → Int64) (x1 : Int32) (x2 : Int32) (x3 : Int32) : Option (Int64) := p_X1_wrongAmong_b0 H_owns H_kinds D_takenBehind x1 x2 x3
-- X1_leastToCome
def p_X1_leastToCome_b57 (K24 : Int32 → Int32 → (Nat → Int32) → (Nat → Int32) → (Nat → Int64) → Int32 → Int32 → Int64 → Int32 → Int32 → Option (Int64)) (H_seats : Int32) (H_people : Int32) (H_owns : Nat → Int32) (H_kinds : Nat → Int32) (D_takenBehind : Nat → Int64) (x1 : Int32) (x2 : Int32) (x3 : Int64) (x5 : Int32) (x6 : Int32) : Option (Int64) :=
  nm (x6 + 1 : Int32) fun x57 =>
  K24 H_seats H_people H_owns H_kinds D_takenBehind x1 x2 x3 x5 x57
def p_X1_leastToCome_b24x (K24 : Int32 → Int32 → (Nat → Int32) → (Nat → Int32) → (Nat → Int64) → Int32 → Int32 → Int64 → Int32 → Int32 → Option (Int64)) (H_seats : Int32) (H_people : Int32) (H_owns : Nat → Int32) (H_kinds : Nat → Int32) (D_takenBehind : Nat → Int64) (x1 : Int32) (x2 : Int32) (x3 : Int64) (x5 : Int32) (x6 : Int32) : Option (Int64) :=
  if H_people ≤ x6 then
  (some x3)
  else
  (b1 (p_X3_has  x2 x6) fun r39 =>
  if r39 = 0 then
  (b1 (p_X1_wrongAmong H_owns H_kinds D_takenBehind x5 x1 x6) fun r52 =>
  nm ((x3 + r52) : Int64) fun x56 =>
  p_X1_leastToCome_b57 K24 H_seats H_people H_owns H_kinds D_takenBehind x1 x2 x56 x5 x6)
  else
  (p_X1_leastToCome_b57 K24 H_seats H_people H_owns H_kinds D_takenBehind x1 x2 x3 x5 x6))
def p_X1_leastToCome_b24 : Nat → Int32 → Int32 → (Nat → Int32) → (Nat → Int32) → (Nat → Int64) → Int32 → Int32 → Int64 → Int32 → Int32 → Option (Int64)
  | 0 => fun _ _ _ _ _ _ _ _ _ _ => none
  | n + 1 => p_X1_leastToCome_b24x (p_X1_leastToCome_b24 n)
def p_X1_leastToCome_b0 (H_seats : Int32) (H_people : Int32) (H_owns : Nat → Int32) (H_kinds : Nat → Int32) (D_takenBehind : Nat → Int64) (x1 : Int32) (x2 : Int32) : Option (Int64) :=
  nm (((H_seats - H_people) + 1) : Int32) fun x19 =>
  p_X1_leastToCome_b24 4096 H_seats H_people H_owns H_kinds D_takenBehind x1 x2 0 x19 0
def p_X1_leastToCome (H_seats : Int32) (H_people : Int32) (H_owns : Nat → Int32) (H_kinds : Nat → Int32) (D_takenBehind : Nat → Int64) (x1 : Int32) (x2 : Int32) : Option (Int64) := p_X1_leastToCome_b0 H_seats H_people H_owns H_kinds D_takenBehind x1 x2
-- X1_onlyLostOutside
def p_X1_onlyLostOutside_b36 (K2 : Int32 → (Nat → Int32) → Int32 → Int32 → Option (Int32)) (H_people : Int32) (H_kinds : Nat → Int32) (x1 : Int32) (x2 : Int32) : Option (Int32) :=
  nm (x2 + 1 : Int32) fun x36 =>
  K2 H_people H_kinds x1 x36
def p_X1_onlyLostOutside_b2x (K2 : Int32 → (Nat → Int32) → Int32 → Int32 → Option (Int32)) (H_people : Int32) (H_kinds : Nat → Int32) (x1 : Int32) (x2 : Int32) : Option (Int32) :=
  if H_people ≤ x2 then
  (some (1 : Int32))
  else
  (b1 (p_X3_has  x1 x2) fun r15 =>
  if r15 = 0 then
  (gd (inB x2 8) <|
  if (H_kinds x2.toNatClampNeg) = 1 then
  (p_X1_onlyLostOutside_b36 K2 H_people H_kinds x1 x2)
  else
  (some (0 : Int32)))
  else
  (p_X1_onlyLostOutside_b36 K2 H_people H_kinds x1 x2))
def p_X1_onlyLostOutside_b2 : Nat → Int32 → (Nat → Int32) → Int32 → Int32 → Option (Int32)
  | 0 => fun _ _ _ _ => none
  | n + 1 => p_X1_onlyLostOutside_b2x (p_X1_onlyLostOutside_b2 n)
def p_X1_onlyLostOutside_b0 (H_people : Int32) (H_kinds : Nat → Int32) (x1 : Int32) : Option (Int32) :=
  p_X1_onlyLostOutside_b2 4096 H_people H_kinds x1 0
def p_X1_onlyLostOutside (H_people : Int32) (H_kinds : Nat → Int32) (x1 : Int32) : Option (Int32) := p_X1_onlyLostOutside_b0 H_people H_kinds x1
-- X1_wrongNext
def p_X1_wrongNext_b0 (H_seats : Int32) (H_owns : Nat → Int32) (H_kinds : Nat → Int32) (D_takenBehind : Nat → Int64) (x1 : Int32) (x2 : Int32) : Option (Int64) :=
  b1 (p_X1_wrongAmong H_owns H_kinds D_takenBehind (H_seats - x1) x1 x2) fun r12 =>
  some r12
def p_X1_wrongNext (H_seats : Int32) (H_owns : Nat → Int32) (H_kinds : Nat → Int32) (D_takenBehind : Nat → Int64) (x1 : Int32) (x2 : Int32) : Option (Int64) := p_X1_wrongNext_b0 H_seats H_owns H_kinds D_takenBehind x1 x2
-- X1_letInLost
def p_X1_letInLost_b67 (H_seats : Int32) (H_people : Int32) (D_least : Int64) (H_owns : Nat → Int32) (H_kinds : Nat → Int32) (D_best : Nat → Int32) (D_row : Nat → Int32) (D_takenBehind : Nat → Int64) (x5 : Int64) : Option (Int64 × (Nat → Int32) × (Nat → Int32)) :=
  b2 (p_X1_keep D_least D_best D_row x5) fun D_least_70 D_best_70 =>
  some (D_least_70, D_best_70, D_row)
def p_X1_letInLost_b61 (K9 : Int32 → Int32 → Int64 → (Nat → Int32) → (Nat → Int32) → (Nat → Int32) → (Nat → Int32) → (Nat → Int64) → Int32 → Int32 → Int64 → Int32 → Int32 → Option (Int64 × (Nat → Int32) × (Nat → Int32))) (H_seats : Int32) (H_people : Int32) (D_least : Int64) (H_owns : Nat → Int32) (H_kinds : Nat → Int32) (D_best : Nat → Int32) (D_row : Nat → Int32) (D_takenBehind : Nat → Int64) (x1 : Int32) (x2 : Int32) (x5 : Int64) (x7 : Int32) (x8 : Int32) : Option (Int64 × (Nat → Int32) × (Nat → Int32)) :=
  nm (x8 + 1 : Int32) fun x61 =>
  K9 H_seats H_people D_least H_owns H_kinds D_best D_row D_takenBehind x1 x2 x5 x7 x61
def p_X1_letInLost_b9x (K9 : Int32 → Int32 → Int64 → (Nat → Int32) → (Nat → Int32) → (Nat → Int32) → (Nat → Int32) → (Nat → Int64) → Int32 → Int32 → Int64 → Int32 → Int32 → Option (Int64 × (Nat → Int32) × (Nat → Int32))) (H_seats : Int32) (H_people : Int32) (D_least : Int64) (H_owns : Nat → Int32) (H_kinds : Nat → Int32) (D_best : Nat → Int32) (D_row : Nat → Int32) (D_takenBehind : Nat → Int64) (x1 : Int32) (x2 : Int32) (x5 : Int64) (x7 : Int32) (x8 : Int32) : Option (Int64 × (Nat → Int32) × (Nat → Int32)) :=
  if H_people ≤ x8 then
  (p_X1_letInLost_b67 H_seats H_people D_least H_owns H_kinds D_best D_row D_takenBehind x5)
  else
  (if 6 ≤ x7 then
  (p_X1_letInLost_b67 H_seats H_people D_least H_owns H_kinds D_best D_row D_takenBehind x5)
  else
  (b1 (p_X3_has  x2 x8) fun r31 =>
  if r31 = 0 then
  (b1 (p_X1_wrongNext H_seats H_owns H_kinds D_takenBehind x1 x8) fun r43 =>
  nm ((x5 + r43) : Int64) fun x47 =>
  gd (inB x7 6) <|
  nm (upd D_row x7.toNatClampNeg x8) fun D_row_57 =>
  nm (x7 + 1 : Int32) fun x58 =>
  p_X1_letInLost_b61 K9 H_seats H_people D_least H_owns H_kinds D_best D_row_57 D_takenBehind x1 x2 x47 x58 x8)
  else
  (p_X1_letInLost_b61 K9 H_seats H_people D_least H_owns H_kinds D_best D_row D_takenBehind x1 x2 x5 x7 x8)))
def p_X1_letInLost_b9 : Nat → Int32 → Int32 → Int64 → (Nat → Int32) → (Nat → Int32) → (Nat → Int32) → (Nat → Int32) → (Nat → Int64) → Int32 → Int32 → Int64 → Int32 → Int32 → Option (Int64 × (Nat → Int32) × (Nat → Int32))
  | 0 => fun _ _ _ _ _ _ _ _ _ _ _ _ _ => none
  | n + 1 => p_X1_letInLost_b9x (p_X1_letInLost_b9 n)
def p_X1_letInLost_b0 (H_seats : Int32) (H_people : Int32) (D_least : Int64) (H_owns : Nat → Int32) (H_kinds : Nat → Int32) (D_best : Nat → Int32) (D_row : Nat → Int32) (D_takenBehind : Nat → Int64) (x1 : Int32) (x2 : Int32) (x3 : Int64) : Option (Int64 × (Nat → Int32) × (Nat → Int32)) :=
  p_X1_letInLost_b9 4096 H_seats H_people D_least H_owns H_kinds D_best D_row D_takenBehind x1 x2 x3 x1 0
def p_X1_letInLost (H_seats : Int32) (H_people : Int32) (D_least : Int64) (H_owns : Nat → Int32) (H_kinds : Nat → Int32) (D_best : Nat → Int32) (D_row : Nat → Int32) (D_takenBehind : Nat → Int64) (x1 : Int32) (x2 : Int32) (x3 : Int64) : Option (Int64 × (Nat → Int32) × (Nat → Int32)) := p_X1_letInLost_b0 H_seats H_people D_least H_owns H_kinds D_best D_row D_takenBehind x1 x2 x3
-- X1_hasTwinOutside
def p_X1_hasTwinOutside_b59 (K2 : (Nat → Int32) → (Nat → Int32) → Int32 → Int32 → Int32 → Option (Int32)) (H_owns : Nat → Int32) (H_kinds : Nat → Int32) (x1 : Int32) (x2 : Int32) (x3 : Int32) : Option (Int32) :=
  nm (x3 + 1 : Int32) fun x59 =>
  K2 H_owns H_kinds x1 x2 x59
def p_X1_hasTwinOutside_b2x (K2 : (Nat → Int32) → (Nat → Int32) → Int32 → Int32 → Int32 → Option (Int32)) (H_owns : Nat → Int32) (H_kinds : Nat → Int32) (x1 : Int32) (x2 : Int32) (x3 : Int32) : Option (Int32) :=
  if x1 ≤ x3 then
  (some (0 : Int32))
  else
  (b1 (p_X3_has  x2 x3) fun r9 =>
  if r9 = 0 then
  (gd (inB x3 8) <|
  gd (inB x1 8) <|
  if (H_owns x3.toNatClampNeg) = (H_owns x1.toNatClampNeg) then
  (gd (inB x3 8) <|
  gd (inB x1 8) <|
  if (H_kinds x3.toNatClampNeg) = (H_kinds x1.toNatClampNeg) then
  (some (1 : Int32))
  else
  (p_X1_hasTwinOutside_b59 K2 H_owns H_kinds x1 x2 x3))
  else
  (p_X1_hasTwinOutside_b59 K2 H_owns H_kinds x1 x2 x3))
  else
  (p_X1_hasTwinOutside_b59 K2 H_owns H_kinds x1 x2 x3))
def p_X1_hasTwinOutside_b2 : Nat → (Nat → Int32) → (Nat → Int32) → Int32 → Int32 → Int32 → Option (Int32)
  | 0 => fun _ _ _ _ _ => none
  | n + 1 => p_X1_hasTwinOutside_b2x (p_X1_hasTwinOutside_b2 n)
def p_X1_hasTwinOutside_b0 (H_owns : Nat → Int32) (H_kinds : Nat → Int32) (x1 : Int32) (x2 : Int32) : Option (Int32) :=
  p_X1_hasTwinOutside_b2 4096 H_owns H_kinds x1 x2 0
def p_X1_hasTwinOutside (H_owns : Nat → Int32) (H_kinds : Nat → Int32) (x1 : Int32) (x2 : Int32) : Option (Int32) := p_X1_hasTwinOutside_b0 H_owns H_kinds x1 x2
-- X1_nextAsLarge
def p_X1_nextAsLarge_b0  (x0 : Int32) : Option (Int32) :=
  nm ((x0 &&& (-x0)) : Int32) fun x4 =>
  if x4 = 0 then
  (some (256 : Int32))
  else
  (nm ((x0 + x4) : Int32) fun x16 =>
  gd (decide (¬ x4 = 0)) <|
  some (x16 ||| (((x16 ^^^ x0) / x4) >>> (2 &&& 31))))
def p_X1_nextAsLarge  (x0 : Int32) : Option (Int32) := p_X1_nextAsLarge_b0  x0
-- X1_clearSets
def p_X1_clearSets_b44 (H_seats : Int32) (D_reach : Nat → Int64)  : Option ((Nat → Int64)) :=
  some (D_reach)
def p_X1_clearSets_b8x (K8 : Int32 → (Nat → Int64) → Int32 → Int32 → Option ((Nat → Int64))) (H_seats : Int32) (D_reach : Nat → Int64) (x2 : Int32) (x3 : Int32) : Option ((Nat → Int64)) :=
  if 256 ≤ x3 then
  (p_X1_clearSets_b44 H_seats D_reach )
  else
  (b1 (p_X3_allSeats H_seats) fun r20 =>
  if r20 < x2 then
  (p_X1_clearSets_b44 H_seats D_reach )
  else
  (gd (inB x2 256) <|
  nm (vp_updL D_reach x2.toNatClampNeg 0) fun D_reach_32 =>
  b1 (p_X1_nextAsLarge  x2) fun r34 =>
  nm (x3 + 1 : Int32) fun x38 =>
  K8 H_seats D_reach_32 r34 x38))
def p_X1_clearSets_b8 : Nat → Int32 → (Nat → Int64) → Int32 → Int32 → Option ((Nat → Int64))
  | 0 => fun _ _ _ _ => none
  | n + 1 => p_X1_clearSets_b8x (p_X1_clearSets_b8 n)
def p_X1_clearSets_b0 (H_seats : Int32) (D_reach : Nat → Int64) (x1 : Int32) : Option ((Nat → Int64)) :=
  nm ((((1 : Int32) <<< (x1 &&& 31)) - 1) : Int32) fun x5 =>
  p_X1_clearSets_b8 4096 H_seats D_reach x5 0
def p_X1_clearSets (H_seats : Int32) (D_reach : Nat → Int64) (x1 : Int32) : Option ((Nat → Int64)) := p_X1_clearSets_b0 H_seats D_reach x1
-- X1_copyTaken
def p_X1_copyTaken_b7x (K7 : (Nat → Int64) → Int32 → Int32 → Option ((Nat → Int64))) (D_takenBehind : Nat → Int64) (x2 : Int32) (x3 : Int32) : Option ((Nat → Int64)) :=
  if 8 ≤ x3 then
  (some (D_takenBehind))
  else
  (gd (inB (x2 + x3) 56) <|
  gd (inB ((x2 + 8) + x3) 56) <|
  nm (vp_updL D_takenBehind ((x2 + 8) + x3).toNatClampNeg (D_takenBehind (x2 + x3).toNatClampNeg)) fun D_takenBehind_31 =>
  nm (x3 + 1 : Int32) fun x32 =>
  K7 D_takenBehind_31 x2 x32)
def p_X1_copyTaken_b7 : Nat → (Nat → Int64) → Int32 → Int32 → Option ((Nat → Int64))
  | 0 => fun _ _ _ => none
  | n + 1 => p_X1_copyTaken_b7x (p_X1_copyTaken_b7 n)
def p_X1_copyTaken_b0 (D_takenBehind : Nat → Int64) (x1 : Int32) : Option ((Nat → Int64)) :=
  nm ((x1 * 8) : Int32) fun x4 =>
  p_X1_copyTaken_b7 4096 D_takenBehind x4 0
def p_X1_copyTaken (D_takenBehind : Nat → Int64) (x1 : Int32) : Option ((Nat → Int64)) := p_X1_copyTaken_b0 D_takenBehind x1
-- X1_spread
def p_X1_spread_b78 (K27 : Int32 → (Nat → Int64) → (Nat → Int64) → Int32 → Int32 → Int32 → Int64 → Int32 → Option ((Nat → Int64) × (Nat → Int64))) (H_seats : Int32) (D_reach : Nat → Int64) (D_takenBehind : Nat → Int64) (x1 : Int32) (x2 : Int32) (x3 : Int32) (x5 : Int64) (x7 : Int32) : Option ((Nat → Int64) × (Nat → Int64)) :=
  nm (x7 + 1 : Int32) fun x78 =>
  K27 H_seats D_reach D_takenBehind x1 x2 x3 x5 x78
def p_X1_spread_b27x (K27 : Int32 → (Nat → Int64) → (Nat → Int64) → Int32 → Int32 → Int32 → Int64 → Int32 → Option ((Nat → Int64) × (Nat → Int64))) (H_seats : Int32) (D_reach : Nat → Int64) (D_takenBehind : Nat → Int64) (x1 : Int32) (x2 : Int32) (x3 : Int32) (x5 : Int64) (x7 : Int32) : Option ((Nat → Int64) × (Nat → Int64)) :=
  if H_seats ≤ x7 then
  (some (D_reach, D_takenBehind))
  else
  (b1 (p_X3_has  x2 x7) fun r42 =>
  if r42 = 0 then
  (p_X1_spread_b78 K27 H_seats D_reach D_takenBehind x1 x2 x3 x5 x7)
  else
  (gd (inB (x1 ||| ((1 : Int32) <<< (x7 &&& 31))) 256) <|
  gd (inB (x1 ||| ((1 : Int32) <<< (x7 &&& 31))) 256) <|
  nm (vp_updL D_reach (x1 ||| ((1 : Int32) <<< (x7 &&& 31))).toNatClampNeg ((D_reach (x1 ||| ((1 : Int32) <<< (x7 &&& 31))).toNatClampNeg) + x5)) fun D_reach_63 =>
  gd (inB (x3 + x7) 56) <|
  gd (inB (x3 + x7) 56) <|
  nm (vp_updL D_takenBehind (x3 + x7).toNatClampNeg ((D_takenBehind (x3 + x7).toNatClampNeg) + x5)) fun D_takenBehind_77 =>
  p_X1_spread_b78 K27 H_seats D_reach_63 D_takenBehind_77 x1 x2 x3 x5 x7))
def p_X1_spread_b27 : Nat → Int32 → (Nat → Int64) → (Nat → Int64) → Int32 → Int32 → Int32 → Int64 → Int32 → Option ((Nat → Int64) × (Nat → Int64))
  | 0 => fun _ _ _ _ _ _ _ _ => none
  | n + 1 => p_X1_spread_b27x (p_X1_spread_b27 n)
def p_X1_spread_b0 (H_seats : Int32) (D_reach : Nat → Int64) (D_takenBehind : Nat → Int64) (x1 : Int32) (x2 : Int32) (x3 : Int32) : Option ((Nat → Int64) × (Nat → Int64)) :=
  b1 (p_J6_bitCount_0f7a4  x2) fun r1 =>
  if r1 = 0 then
  (some (D_reach, D_takenBehind))
  else
  (gd (inB x1 256) <|
  gd (decide (¬ r1.toInt64 = 0)) <|
  nm (((D_reach x1.toNatClampNeg) / r1.toInt64) : Int64) fun x22 =>
  p_X1_spread_b27 4096 H_seats D_reach D_takenBehind x1 x2 x3 x22 0)
def p_X1_spread (H_seats : Int32) (D_reach : Nat → Int64) (D_takenBehind : Nat → Int64) (x1 : Int32) (x2 : Int32) (x3 : Int32) : Option ((Nat → Int64) × (Nat → Int64)) := p_X1_spread_b0 H_seats D_reach D_takenBehind x1 x2 x3
-- X1_seatNext
def p_X1_seatNext_b103 (H_seats : Int32) (H_sorts : Nat → Int32) (H_bySort : Nat → Int32) (H_owns : Nat → Int32) (H_kinds : Nat → Int32) (D_reach : Nat → Int64) (D_takenBehind : Nat → Int64)  : Option ((Nat → Int64) × (Nat → Int64)) :=
  some (D_reach, D_takenBehind)
def p_X1_seatNext_b92 (K21 : Int32 → (Nat → Int32) → (Nat → Int32) → (Nat → Int32) → (Nat → Int32) → (Nat → Int64) → (Nat → Int64) → Int32 → Int32 → Int32 → Int32 → Option ((Nat → Int64) × (Nat → Int64))) (H_seats : Int32) (H_sorts : Nat → Int32) (H_bySort : Nat → Int32) (H_owns : Nat → Int32) (H_kinds : Nat → Int32) (D_reach : Nat → Int64) (D_takenBehind : Nat → Int64) (x1 : Int32) (x2 : Int32) (x3 : Int32) (x4 : Int32) : Option ((Nat → Int64) × (Nat → Int64)) :=
  b1 (p_X1_nextAsLarge  x3) fun r93 =>
  nm (x4 + 1 : Int32) fun x97 =>
  K21 H_seats H_sorts H_bySort H_owns H_kinds D_reach D_takenBehind x1 x2 r93 x97
def p_X1_seatNext_b21x (K21 : Int32 → (Nat → Int32) → (Nat → Int32) → (Nat → Int32) → (Nat → Int32) → (Nat → Int64) → (Nat → Int64) → Int32 → Int32 → Int32 → Int32 → Option ((Nat → Int64) × (Nat → Int64))) (H_seats : Int32) (H_sorts : Nat → Int32) (H_bySort : Nat → Int32) (H_owns : Nat → Int32) (H_kinds : Nat → Int32) (D_reach : Nat → Int64) (D_takenBehind : Nat → Int64) (x1 : Int32) (x2 : Int32) (x3 : Int32) (x4 : Int32) : Option ((Nat → Int64) × (Nat → Int64)) :=
  if 256 ≤ x4 then
  (p_X1_seatNext_b103 H_seats H_sorts H_bySort H_owns H_kinds D_reach D_takenBehind )
  else
  (b1 (p_X3_allSeats H_seats) fun r34 =>
  if r34 < x3 then
  (p_X1_seatNext_b103 H_seats H_sorts H_bySort H_owns H_kinds D_reach D_takenBehind )
  else
  (gd (inB x3 256) <|
  if (lg_cmp (D_reach x3.toNatClampNeg) 0) = 0 then
  (p_X1_seatNext_b92 K21 H_seats H_sorts H_bySort H_owns H_kinds D_reach D_takenBehind x1 x2 x3 x4)
  else
  (gd (inB x2 8) <|
  gd (inB x2 8) <|
  b1 (p_X3_choices H_seats H_sorts H_bySort x3 (H_owns x2.toNatClampNeg) (H_kinds x2.toNatClampNeg)) fun r74 =>
  b2 (p_X1_spread H_seats D_reach D_takenBehind x3 r74 ((x1 + 1) * 8)) fun D_reach_89 D_takenBehind_89 =>
  p_X1_seatNext_b92 K21 H_seats H_sorts H_bySort H_owns H_kinds D_reach_89 D_takenBehind_89 x1 x2 x3 x4)))
def p_X1_seatNext_b21 : Nat → Int32 → (Nat → Int32) → (Nat → Int32) → (Nat → Int32) → (Nat → Int32) → (Nat → Int64) → (Nat → Int64) → Int32 → Int32 → Int32 → Int32 → Option ((Nat → Int64) × (Nat → Int64))
  | 0 => fun _ _ _ _ _ _ _ _ _ _ _ => none
  | n + 1 => p_X1_seatNext_b21x (p_X1_seatNext_b21 n)
def p_X1_seatNext_b0 (H_seats : Int32) (H_sorts : Nat → Int32) (H_bySort : Nat → Int32) (H_owns : Nat → Int32) (H_kinds : Nat → Int32) (D_reach : Nat → Int64) (D_takenBehind : Nat → Int64) (x1 : Int32) (x2 : Int32) : Option ((Nat → Int64) × (Nat → Int64)) :=
  b1 (p_X1_clearSets H_seats D_reach (x1 + 1)) fun D_reach_4 =>
  b1 (p_X1_copyTaken D_takenBehind x1) fun D_takenBehind_9 =>
  nm ((((1 : Int32) <<< (x1 &&& 31)) - 1) : Int32) fun x17 =>
  p_X1_seatNext_b21 4096 H_seats H_sorts H_bySort H_owns H_kinds D_reach_4 D_takenBehind_9 x1 x2 x17 0
def p_X1_seatNext (H_seats : Int32) (H_sorts : Nat → Int32) (H_bySort : Nat → Int32) (H_owns : Nat → Int32) (H_kinds : Nat → Int32) (D_reach : Nat → Int64) (D_takenBehind : Nat → Int64) (x1 : Int32) (x2 : Int32) : Option ((Nat → Int64) × (Nat → Int64)) := p_X1_seatNext_b0 H_seats H_sorts H_bySort H_owns H_kinds D_reach D_takenBehind x1 x2
-- X1_letIn
def p_X1_letIn_b17 (rc : Int32 → Int32 → Int64 → (Nat → Int32) → (Nat → Int32) → (Nat → Int32) → (Nat → Int32) → (Nat → Int32) → (Nat → Int32) → (Nat → Int64) → (Nat → Int64) → Int32 → Int32 → Int64 → Option (Int64 × (Nat → Int32) × (Nat → Int32) × (Nat → Int64) × (Nat → Int64))) (H_seats : Int32) (H_people : Int32) (D_least : Int64) (H_sorts : Nat → Int32) (H_bySort : Nat → Int32) (H_owns : Nat → Int32) (H_kinds : Nat → Int32) (D_best : Nat → Int32) (D_row : Nat → Int32) (D_reach : Nat → Int64) (D_takenBehind : Nat → Int64) (x3 : Int64) : Option (Int64 × (Nat → Int32) × (Nat → Int32) × (Nat → Int64) × (Nat → Int64)) :=
  b2 (p_X1_keep D_least D_best D_row x3) fun D_least_19 D_best_19 =>
  some (D_least_19, D_best_19, D_row, D_reach, D_takenBehind)
def p_X1_letIn_b144 (rc : Int32 → Int32 → Int64 → (Nat → Int32) → (Nat → Int32) → (Nat → Int32) → (Nat → Int32) → (Nat → Int32) → (Nat → Int32) → (Nat → Int64) → (Nat → Int64) → Int32 → Int32 → Int64 → Option (Int64 × (Nat → Int32) × (Nat → Int32) × (Nat → Int64) × (Nat → Int64))) (K59 : Int32 → Int32 → Int64 → (Nat → Int32) → (Nat → Int32) → (Nat → Int32) → (Nat → Int32) → (Nat → Int32) → (Nat → Int32) → (Nat → Int64) → (Nat → Int64) → Int32 → Int32 → Int64 → Int32 → Option (Int64 × (Nat → Int32) × (Nat → Int32) × (Nat → Int64) × (Nat → Int64))) (H_seats : Int32) (H_people : Int32) (D_least : Int64) (H_sorts : Nat → Int32) (H_bySort : Nat → Int32) (H_owns : Nat → Int32) (H_kinds : Nat → Int32) (D_best : Nat → Int32) (D_row : Nat → Int32) (D_reach : Nat → Int64) (D_takenBehind : Nat → Int64) (x1 : Int32) (x2 : Int32) (x3 : Int64) (x5 : Int32) : Option (Int64 × (Nat → Int32) × (Nat → Int32) × (Nat → Int64) × (Nat → Int64)) :=
  nm (x5 + 1 : Int32) fun x144 =>
  K59 H_seats H_people D_least H_sorts H_bySort H_owns H_kinds D_best D_row D_reach D_takenBehind x1 x2 x3 x144
def p_X1_letIn_b59x (rc : Int32 → Int32 → Int64 → (Nat → Int32) → (Nat → Int32) → (Nat → Int32) → (Nat → Int32) → (Nat → Int32) → (Nat → Int32) → (Nat → Int64) → (Nat → Int64) → Int32 → Int32 → Int64 → Option (Int64 × (Nat → Int32) × (Nat → Int32) × (Nat → Int64) × (Nat → Int64))) (K59 : Int32 → Int32 → Int64 → (Nat → Int32) → (Nat → Int32) → (Nat → Int32) → (Nat → Int32) → (Nat → Int32) → (Nat → Int32) → (Nat → Int64) → (Nat → Int64) → Int32 → Int32 → Int64 → Int32 → Option (Int64 × (Nat → Int32) × (Nat → Int32) × (Nat → Int64) × (Nat → Int64))) (H_seats : Int32) (H_people : Int32) (D_least : Int64) (H_sorts : Nat → Int32) (H_bySort : Nat → Int32) (H_owns : Nat → Int32) (H_kinds : Nat → Int32) (D_best : Nat → Int32) (D_row : Nat → Int32) (D_reach : Nat → Int64) (D_takenBehind : Nat → Int64) (x1 : Int32) (x2 : Int32) (x3 : Int64) (x5 : Int32) : Option (Int64 × (Nat → Int32) × (Nat → Int32) × (Nat → Int64) × (Nat → Int64)) :=
  if H_people ≤ x5 then
  (some (D_least, D_best, D_row, D_reach, D_takenBehind))
  else
  (b1 (p_X3_has  x2 x5) fun r74 =>
  if r74 = 0 then
  (b1 (p_X1_hasTwinOutside H_owns H_kinds x5 x2) fun r84 =>
  if r84 = 0 then
  (b1 (p_X1_wrongNext H_seats H_owns H_kinds D_takenBehind x1 x5) fun r98 =>
  nm ((x3 + r98) : Int64) fun x102 =>
  if 0 ≤ (lg_cmp x102 D_least) then
  (p_X1_letIn_b144 rc K59 H_seats H_people D_least H_sorts H_bySort H_owns H_kinds D_best D_row D_reach D_takenBehind x1 x2 x3 x5)
  else
  (gd (inB x1 6) <|
  nm (upd D_row x1.toNatClampNeg x5) fun D_row_121 =>
  b2 (p_X1_seatNext H_seats H_sorts H_bySort H_owns H_kinds D_reach D_takenBehind x1 x5) fun D_reach_126 D_takenBehind_126 =>
  b5 (rc H_seats H_people D_least H_sorts H_bySort H_owns H_kinds D_best D_row_121 D_reach_126 D_takenBehind_126 (x1 + 1) (x2 ||| ((1 : Int32) <<< (x5 &&& 31))) x102) fun D_least_141 D_best_141 D_row_141 D_reach_141 D_takenBehind_141 =>
  p_X1_letIn_b144 rc K59 H_seats H_people D_least_141 H_sorts H_bySort H_owns H_kinds D_best_141 D_row_141 D_reach_141 D_takenBehind_141 x1 x2 x3 x5))
  else
  (p_X1_letIn_b144 rc K59 H_seats H_people D_least H_sorts H_bySort H_owns H_kinds D_best D_row D_reach D_takenBehind x1 x2 x3 x5))
  else
  (p_X1_letIn_b144 rc K59 H_seats H_people D_least H_sorts H_bySort H_owns H_kinds D_best D_row D_reach D_takenBehind x1 x2 x3 x5))
def p_X1_letIn_b59 (rc : Int32 → Int32 → Int64 → (Nat → Int32) → (Nat → Int32) → (Nat → Int32) → (Nat → Int32) → (Nat → Int32) → (Nat → Int32) → (Nat → Int64) → (Nat → Int64) → Int32 → Int32 → Int64 → Option (Int64 × (Nat → Int32) × (Nat → Int32) × (Nat → Int64) × (Nat → Int64))) : Nat → Int32 → Int32 → Int64 → (Nat → Int32) → (Nat → Int32) → (Nat → Int32) → (Nat → Int32) → (Nat → Int32) → (Nat → Int32) → (Nat → Int64) → (Nat → Int64) → Int32 → Int32 → Int64 → Int32 → Option (Int64 × (Nat → Int32) × (Nat → Int32) × (Nat → Int64) × (Nat → Int64))
  | 0 => fun _ _ _ _ _ _ _ _ _ _ _ _ _ _ _ => none
  | n + 1 => p_X1_letIn_b59x rc (p_X1_letIn_b59 rc n)
def p_X1_letIn_b0 (rc : Int32 → Int32 → Int64 → (Nat → Int32) → (Nat → Int32) → (Nat → Int32) → (Nat → Int32) → (Nat → Int32) → (Nat → Int32) → (Nat → Int64) → (Nat → Int64) → Int32 → Int32 → Int64 → Option (Int64 × (Nat → Int32) × (Nat → Int32) × (Nat → Int64) × (Nat → Int64))) (H_seats : Int32) (H_people : Int32) (D_least : Int64) (H_sorts : Nat → Int32) (H_bySort : Nat → Int32) (H_owns : Nat → Int32) (H_kinds : Nat → Int32) (D_best : Nat → Int32) (D_row : Nat → Int32) (D_reach : Nat → Int64) (D_takenBehind : Nat → Int64) (x1 : Int32) (x2 : Int32) (x3 : Int64) : Option (Int64 × (Nat → Int32) × (Nat → Int32) × (Nat → Int64) × (Nat → Int64)) :=
  if H_people ≤ x1 then
  (p_X1_letIn_b17 rc H_seats H_people D_least H_sorts H_bySort H_owns H_kinds D_best D_row D_reach D_takenBehind x3)
  else
  (if x1 < 6 then
  (b1 (p_X1_leastToCome H_seats H_people H_owns H_kinds D_takenBehind x1 x2) fun r27 =>
  if (lg_cmp (x3 + r27) D_least) < 0 then
  (b1 (p_X1_onlyLostOutside H_people H_kinds x2) fun r42 =>
  if r42 = 0 then
  (p_X1_letIn_b59 rc 4096 H_seats H_people D_least H_sorts H_bySort H_owns H_kinds D_best D_row D_reach D_takenBehind x1 x2 x3 0)
  else
  (b3 (p_X1_letInLost H_seats H_people D_least H_owns H_kinds D_best D_row D_takenBehind x1 x2 x3) fun D_least_52 D_best_52 D_row_52 =>
  some (D_least_52, D_best_52, D_row_52, D_reach, D_takenBehind)))
  else
  (some (D_least, D_best, D_row, D_reach, D_takenBehind)))
  else
  (p_X1_letIn_b17 rc H_seats H_people D_least H_sorts H_bySort H_owns H_kinds D_best D_row D_reach D_takenBehind x3))
def p_X1_letInr : Nat → Int32 → Int32 → Int64 → (Nat → Int32) → (Nat → Int32) → (Nat → Int32) → (Nat → Int32) → (Nat → Int32) → (Nat → Int32) → (Nat → Int64) → (Nat → Int64) → Int32 → Int32 → Int64 → Option (Int64 × (Nat → Int32) × (Nat → Int32) × (Nat → Int64) × (Nat → Int64))
  | 0 => fun _ _ _ _ _ _ _ _ _ _ _ _ _ _ => none
  | d + 1 => p_X1_letIn_b0 (p_X1_letInr d)
def p_X1_letIn (H_seats : Int32) (H_people : Int32) (D_least : Int64) (H_sorts : Nat → Int32) (H_bySort : Nat → Int32) (H_owns : Nat → Int32) (H_kinds : Nat → Int32) (D_best : Nat → Int32) (D_row : Nat → Int32) (D_reach : Nat → Int64) (D_takenBehind : Nat → Int64) (x1 : Int32) (x2 : Int32) (x3 : Int64) : Option (Int64 × (Nat → Int32) × (Nat → Int32) × (Nat → Int64) × (Nat → Int64)) := p_X1_letInr 9 H_seats H_people D_least H_sorts H_bySort H_owns H_kinds D_best D_row D_reach D_takenBehind x1 x2 x3
-- X1_refresh
def p_X1_refresh_b19 (H_seats : Int32) (H_people : Int32) (D_ready : Int32) (D_least : Int64) (H_sorts : Nat → Int32) (H_bySort : Nat → Int32) (H_owns : Nat → Int32) (H_kinds : Nat → Int32) (D_best : Nat → Int32) (D_row : Nat → Int32) (D_reach : Nat → Int64) (D_takenBehind : Nat → Int64)  : Option (Int32 × Int64 × (Nat → Int32) × (Nat → Int32) × (Nat → Int64) × (Nat → Int64)) :=
  some (D_ready, D_least, D_best, D_row, D_reach, D_takenBehind)
def p_X1_refresh_b0 (H_seats : Int32) (H_people : Int32) (D_ready : Int32) (D_least : Int64) (H_sorts : Nat → Int32) (H_bySort : Nat → Int32) (H_owns : Nat → Int32) (H_kinds : Nat → Int32) (D_best : Nat → Int32) (D_row : Nat → Int32) (D_reach : Nat → Int64) (D_takenBehind : Nat → Int64)  : Option (Int32 × Int64 × (Nat → Int32) × (Nat → Int32) × (Nat → Int64) × (Nat → Int64)) :=
  if D_ready = 0 then
  (if H_people ≤ 6 then
  (gd (inB 0 256) <|
  nm (vp_updL D_reach (0 : Int32).toNatClampNeg 182891520000) fun D_reach_35 =>
  b5 (p_X1_letIn H_seats H_people 9223372036854775807 H_sorts H_bySort H_owns H_kinds D_best D_row D_reach_35 D_takenBehind 0 0 0) fun D_least_40 D_best_40 D_row_40 D_reach_40 D_takenBehind_40 =>
  some (1, D_least_40, D_best_40, D_row_40, D_reach_40, D_takenBehind_40))
  else
  (p_X1_refresh_b19 H_seats H_people D_ready D_least H_sorts H_bySort H_owns H_kinds D_best D_row D_reach D_takenBehind ))
  else
  (p_X1_refresh_b19 H_seats H_people D_ready D_least H_sorts H_bySort H_owns H_kinds D_best D_row D_reach D_takenBehind )
def p_X1_refresh (H_seats : Int32) (H_people : Int32) (D_ready : Int32) (D_least : Int64) (H_sorts : Nat → Int32) (H_bySort : Nat → Int32) (H_owns : Nat → Int32) (H_kinds : Nat → Int32) (D_best : Nat → Int32) (D_row : Nat → Int32) (D_reach : Nat → Int64) (D_takenBehind : Nat → Int64)  : Option (Int32 × Int64 × (Nat → Int32) × (Nat → Int32) × (Nat → Int64) × (Nat → Int64)) := p_X1_refresh_b0 H_seats H_people D_ready D_least H_sorts H_bySort H_owns H_kinds D_best D_row D_reach D_takenBehind 
-- X2_lot
def p_X2_lot_b32 (E_state : Int32) (t0 : Int32) : Option (Int32 × Int32) :=
  some (t0, E_state)
def p_X2_lot_b0 (E_state : Int32) (x1 : Int32) : Option (Int32 × Int32) :=
  nm (((1103515245 * E_state) + 12345) : Int32) fun E_state_12 =>
  if x1 ≤ 0 then
  (p_X2_lot_b32 E_state_12 0)
  else
  (gd (decide (¬ x1 = 0)) <|
  p_X2_lot_b32 E_state_12 (((E_state_12.toUInt32 >>> ((16 : Int32).toUInt32 &&& Int32.toUInt32 31)).toInt32) - (((E_state_12.toUInt32 >>> ((16 : Int32).toUInt32 &&& Int32.toUInt32 31)).toInt32) / x1) * x1))
def p_X2_lot (E_state : Int32) (x1 : Int32) : Option (Int32 × Int32) := p_X2_lot_b0 E_state x1
-- X2_member
def p_X2_member_b37 (K5 : Int32 → Int32 → Int32 → Int32 → Int32 → Option (Int32)) (H_seats : Int32) (x1 : Int32) (x2 : Int32) (x3 : Int32) (x4 : Int32) : Option (Int32) :=
  nm (x4 + 1 : Int32) fun x37 =>
  K5 H_seats x1 x2 x3 x37
def p_X2_member_b5x (K5 : Int32 → Int32 → Int32 → Int32 → Int32 → Option (Int32)) (H_seats : Int32) (x1 : Int32) (x2 : Int32) (x3 : Int32) (x4 : Int32) : Option (Int32) :=
  if H_seats ≤ x4 then
  (some (0 : Int32))
  else
  (b1 (p_X3_has  x1 x4) fun r20 =>
  if r20 = 0 then
  (p_X2_member_b37 K5 H_seats x1 x2 x3 x4)
  else
  (if x3 = x2 then
  (some x4)
  else
  (nm (x3 + 1 : Int32) fun x34 =>
  p_X2_member_b37 K5 H_seats x1 x2 x34 x4)))
def p_X2_member_b5 : Nat → Int32 → Int32 → Int32 → Int32 → Int32 → Option (Int32)
  | 0 => fun _ _ _ _ _ => none
  | n + 1 => p_X2_member_b5x (p_X2_member_b5 n)
def p_X2_member_b0 (H_seats : Int32) (x1 : Int32) (x2 : Int32) : Option (Int32) :=
  p_X2_member_b5 4096 H_seats x1 x2 0 0
def p_X2_member (H_seats : Int32) (x1 : Int32) (x2 : Int32) : Option (Int32) := p_X2_member_b0 H_seats x1 x2
-- X2_place
def p_X2_place_b58 (H_seats : Int32) (E_state : Int32) (H_sorts : Nat → Int32) (H_bySort : Nat → Int32) (t1 : Int32) (t2 : Int32) : Option (Int32 × Int32) :=
  b1 (p_X2_member H_seats t1 t2) fun r58 =>
  some (r58, E_state)
def p_X2_place_b35 (H_seats : Int32) (E_state : Int32) (H_sorts : Nat → Int32) (H_bySort : Nat → Int32) (t0 : Int32) (x4 : Int32) : Option (Int32 × Int32) :=
  if t0 = 0 then
  (p_X2_place_b58 H_seats E_state H_sorts H_bySort x4 0)
  else
  (b1 (p_J6_bitCount_0f7a4  x4) fun r48 =>
  b2 (p_X2_lot E_state r48) fun r51 E_state_51 =>
  p_X2_place_b58 H_seats E_state_51 H_sorts H_bySort x4 r51)
def p_X2_place_b30 (H_seats : Int32) (E_state : Int32) (H_sorts : Nat → Int32) (H_bySort : Nat → Int32) (x4 : Int32) : Option (Int32 × Int32) :=
  p_X2_place_b35 H_seats E_state H_sorts H_bySort 1 x4
def p_X2_place_b34 (H_seats : Int32) (E_state : Int32) (H_sorts : Nat → Int32) (H_bySort : Nat → Int32) (x4 : Int32) : Option (Int32 × Int32) :=
  p_X2_place_b35 H_seats E_state H_sorts H_bySort 0 x4
def p_X2_place_b0 (H_seats : Int32) (E_state : Int32) (H_sorts : Nat → Int32) (H_bySort : Nat → Int32) (x1 : Int32) (x2 : Int32) (x3 : Int32) : Option (Int32 × Int32) :=
  b1 (p_X3_choices H_seats H_sorts H_bySort x1 x2 x3) fun r7 =>
  if x3 = 1 then
  (p_X2_place_b30 H_seats E_state H_sorts H_bySort r7)
  else
  (if x3 = 2 then
  (p_X2_place_b34 H_seats E_state H_sorts H_bySort r7)
  else
  (b1 (p_X3_has  x1 x2) fun r24 =>
  if r24 = 0 then
  (p_X2_place_b34 H_seats E_state H_sorts H_bySort r7)
  else
  (p_X2_place_b30 H_seats E_state H_sorts H_bySort r7)))
def p_X2_place (H_seats : Int32) (E_state : Int32) (H_sorts : Nat → Int32) (H_bySort : Nat → Int32) (x1 : Int32) (x2 : Int32) (x3 : Int32) : Option (Int32 × Int32) := p_X2_place_b0 H_seats E_state H_sorts H_bySort x1 x2 x3
-- X2_run
def p_X2_run_b93 (K14 : Int32 → Int32 → Int32 → Int32 → (Nat → Int32) → (Nat → Int32) → (Nat → Int32) → (Nat → Int32) → (Nat → Int32) → Int32 → Int32 → Option (Int32 × Int32 × (Nat → Int32))) (H_seats : Int32) (H_people : Int32) (E_wrongs : Int32) (E_state : Int32) (H_sorts : Nat → Int32) (H_bySort : Nat → Int32) (H_owns : Nat → Int32) (H_kinds : Nat → Int32) (E_places : Nat → Int32) (t1 : Int32) (t2 : Int32) (x2 : Int32) (x3 : Int32) : Option (Int32 × Int32 × (Nat → Int32)) :=
  nm ((t1 + t2) : Int32) fun E_wrongs_94 =>
  nm (x3 + 1 : Int32) fun x97 =>
  K14 H_seats H_people E_wrongs_94 E_state H_sorts H_bySort H_owns H_kinds E_places x2 x97
def p_X2_run_b14x (K14 : Int32 → Int32 → Int32 → Int32 → (Nat → Int32) → (Nat → Int32) → (Nat → Int32) → (Nat → Int32) → (Nat → Int32) → Int32 → Int32 → Option (Int32 × Int32 × (Nat → Int32))) (H_seats : Int32) (H_people : Int32) (E_wrongs : Int32) (E_state : Int32) (H_sorts : Nat → Int32) (H_bySort : Nat → Int32) (H_owns : Nat → Int32) (H_kinds : Nat → Int32) (E_places : Nat → Int32) (x2 : Int32) (x3 : Int32) : Option (Int32 × Int32 × (Nat → Int32)) :=
  if H_people ≤ x3 then
  (some (E_wrongs, E_state, E_places))
  else
  (gd (inB x3 8) <|
  gd (inB x3 8) <|
  b2 (p_X2_place H_seats E_state H_sorts H_bySort x2 (H_owns x3.toNatClampNeg) (H_kinds x3.toNatClampNeg)) fun r50 E_state_50 =>
  gd (inB x3 8) <|
  nm (upd E_places x3.toNatClampNeg r50) fun E_places_53 =>
  gd (inB x3 8) <|
  nm ((x2 ||| ((1 : Int32) <<< ((E_places_53 x3.toNatClampNeg) &&& 31))) : Int32) fun x64 =>
  gd (inB x3 8) <|
  gd (inB x3 8) <|
  if (E_places_53 x3.toNatClampNeg) = (H_owns x3.toNatClampNeg) then
  (p_X2_run_b93 K14 H_seats H_people E_wrongs E_state_50 H_sorts H_bySort H_owns H_kinds E_places_53 E_wrongs 0 x64 x3)
  else
  (p_X2_run_b93 K14 H_seats H_people E_wrongs E_state_50 H_sorts H_bySort H_owns H_kinds E_places_53 E_wrongs 1 x64 x3))
def p_X2_run_b14 : Nat → Int32 → Int32 → Int32 → Int32 → (Nat → Int32) → (Nat → Int32) → (Nat → Int32) → (Nat → Int32) → (Nat → Int32) → Int32 → Int32 → Option (Int32 × Int32 × (Nat → Int32))
  | 0 => fun _ _ _ _ _ _ _ _ _ _ _ => none
  | n + 1 => p_X2_run_b14x (p_X2_run_b14 n)
def p_X2_run_b0 (H_seats : Int32) (H_people : Int32) (E_wrongs : Int32) (E_state : Int32) (H_sorts : Nat → Int32) (H_bySort : Nat → Int32) (H_owns : Nat → Int32) (H_kinds : Nat → Int32) (E_places : Nat → Int32) (x1 : Int32) : Option (Int32 × Int32 × (Nat → Int32)) :=
  p_X2_run_b14 4096 H_seats H_people 0 x1 H_sorts H_bySort H_owns H_kinds E_places 0 0
def p_X2_run (H_seats : Int32) (H_people : Int32) (E_wrongs : Int32) (E_state : Int32) (H_sorts : Nat → Int32) (H_bySort : Nat → Int32) (H_owns : Nat → Int32) (H_kinds : Nat → Int32) (E_places : Nat → Int32) (x1 : Int32) : Option (Int32 × Int32 × (Nat → Int32)) := p_X2_run_b0 H_seats H_people E_wrongs E_state H_sorts H_bySort H_owns H_kinds E_places x1
-- X3_sortOf
def p_X3_sortOf_b0  (x0 : Int32) : Option (Int32) :=
  if x0.toInt = 97 then
  (some (2 : Int32))
  else
  (if x0.toInt = 109 then
  (some (1 : Int32))
  else
  (if x0.toInt = 119 then
  (some (0 : Int32))
  else
  (some ((-1) : Int32))))
def p_X3_sortOf  (x0 : Int32) : Option (Int32) := p_X3_sortOf_b0  x0
-- X3_addSeat
def p_X3_addSeat_b15 (H_seats : Int32) (H_rows : Int32) (H_sorts : Nat → Int32) (H_rowOf : Nat → Int32) (H_bySort : Nat → Int32) (x1 : Int32) : Option (Int32 × (Nat → Int32) × (Nat → Int32) × (Nat → Int32)) :=
  gd (inB H_seats 8) <|
  nm (upd H_sorts H_seats.toNatClampNeg x1) fun H_sorts_24 =>
  gd (inB H_seats 8) <|
  nm (upd H_rowOf H_seats.toNatClampNeg (H_rows - 1)) fun H_rowOf_39 =>
  gd (inB x1 3) <|
  gd (inB x1 3) <|
  nm (upd H_bySort x1.toNatClampNeg ((H_bySort x1.toNatClampNeg) ||| ((1 : Int32) <<< (H_seats &&& 31)))) fun H_bySort_54 =>
  nm ((H_seats + 1) : Int32) fun H_seats_62 =>
  some (H_seats_62, H_sorts_24, H_rowOf_39, H_bySort_54)
def p_X3_addSeat_b0 (H_seats : Int32) (H_rows : Int32) (H_sorts : Nat → Int32) (H_rowOf : Nat → Int32) (H_bySort : Nat → Int32) (x1 : Int32) : Option (Int32 × (Nat → Int32) × (Nat → Int32) × (Nat → Int32)) :=
  if H_seats = 0 then
  (nm (fillF 3 0 H_bySort) fun H_bySort_12 =>
  p_X3_addSeat_b15 H_seats H_rows H_sorts H_rowOf H_bySort_12 x1)
  else
  (p_X3_addSeat_b15 H_seats H_rows H_sorts H_rowOf H_bySort x1)
def p_X3_addSeat (H_seats : Int32) (H_rows : Int32) (H_sorts : Nat → Int32) (H_rowOf : Nat → Int32) (H_bySort : Nat → Int32) (x1 : Int32) : Option (Int32 × (Nat → Int32) × (Nat → Int32) × (Nat → Int32)) := p_X3_addSeat_b0 H_seats H_rows H_sorts H_rowOf H_bySort x1
-- X3_parseSeats
def p_X3_parseSeats_b146 (H_seats : Int32) (H_rows : Int32) (H_lengths : Nat → Int32) (H_faults : Nat → Int32) (H_sorts : Nat → Int32) (H_rowOf : Nat → Int32) (H_bySort : Nat → Int32) (H_bytes : Nat → Nat → Int32)  : Option (Int32 × Int32 × (Nat → Int32) × (Nat → Int32) × (Nat → Int32) × (Nat → Int32)) :=
  some (H_seats, H_rows, H_faults, H_sorts, H_rowOf, H_bySort)
def p_X3_parseSeats_b125 (H_seats : Int32) (H_rows : Int32) (H_lengths : Nat → Int32) (H_faults : Nat → Int32) (H_sorts : Nat → Int32) (H_rowOf : Nat → Int32) (H_bySort : Nat → Int32) (H_bytes : Nat → Nat → Int32) (t1 : Int32) (t2 : Int32) : Option (Int32 × Int32 × (Nat → Int32) × (Nat → Int32) × (Nat → Int32) × (Nat → Int32)) :=
  gd (inB t1 2) <|
  nm (upd H_faults t1.toNatClampNeg t2) fun H_faults_125 =>
  gd (inB 0 2) <|
  if (H_faults_125 (0 : Int32).toNatClampNeg) = (-1) then
  (p_X3_parseSeats_b146 H_seats H_rows H_lengths H_faults_125 H_sorts H_rowOf H_bySort H_bytes )
  else
  (p_X3_parseSeats_b146 0 0 H_lengths H_faults_125 H_sorts H_rowOf H_bySort H_bytes )
def p_X3_parseSeats_b124 (H_seats : Int32) (H_rows : Int32) (H_lengths : Nat → Int32) (H_faults : Nat → Int32) (H_sorts : Nat → Int32) (H_rowOf : Nat → Int32) (H_bySort : Nat → Int32) (H_bytes : Nat → Nat → Int32) (t1 : Int32) (x2 : Int32) : Option (Int32 × Int32 × (Nat → Int32) × (Nat → Int32) × (Nat → Int32) × (Nat → Int32)) :=
  p_X3_parseSeats_b125 H_seats H_rows H_lengths H_faults H_sorts H_rowOf H_bySort H_bytes t1 x2
def p_X3_parseSeats_b101 (H_seats : Int32) (H_rows : Int32) (H_lengths : Nat → Int32) (H_faults : Nat → Int32) (H_sorts : Nat → Int32) (H_rowOf : Nat → Int32) (H_bySort : Nat → Int32) (H_bytes : Nat → Nat → Int32) (x1 : Int32) (x2 : Int32) : Option (Int32 × Int32 × (Nat → Int32) × (Nat → Int32) × (Nat → Int32) × (Nat → Int32)) :=
  gd (inB 0 2) <|
  if x2 = (H_lengths (0 : Int32).toNatClampNeg) then
  (if x1 = 0 then
  (p_X3_parseSeats_b124 H_seats H_rows H_lengths H_faults H_sorts H_rowOf H_bySort H_bytes 0 x2)
  else
  (p_X3_parseSeats_b125 H_seats H_rows H_lengths H_faults H_sorts H_rowOf H_bySort H_bytes 0 (-1)))
  else
  (p_X3_parseSeats_b124 H_seats H_rows H_lengths H_faults H_sorts H_rowOf H_bySort H_bytes 0 x2)
def p_X3_parseSeats_b95 (K14 : Int32 → Int32 → (Nat → Int32) → (Nat → Int32) → (Nat → Int32) → (Nat → Int32) → (Nat → Int32) → (Nat → Nat → Int32) → Int32 → Int32 → Option (Int32 × Int32 × (Nat → Int32) × (Nat → Int32) × (Nat → Int32) × (Nat → Int32))) (H_seats : Int32) (H_rows : Int32) (H_lengths : Nat → Int32) (H_faults : Nat → Int32) (H_sorts : Nat → Int32) (H_rowOf : Nat → Int32) (H_bySort : Nat → Int32) (H_bytes : Nat → Nat → Int32) (x1 : Int32) (x2 : Int32) : Option (Int32 × Int32 × (Nat → Int32) × (Nat → Int32) × (Nat → Int32) × (Nat → Int32)) :=
  nm (x2 + 1 : Int32) fun x95 =>
  K14 H_seats H_rows H_lengths H_faults H_sorts H_rowOf H_bySort H_bytes x1 x95
def p_X3_parseSeats_b83 (K14 : Int32 → Int32 → (Nat → Int32) → (Nat → Int32) → (Nat → Int32) → (Nat → Int32) → (Nat → Int32) → (Nat → Nat → Int32) → Int32 → Int32 → Option (Int32 × Int32 × (Nat → Int32) × (Nat → Int32) × (Nat → Int32) × (Nat → Int32))) (H_seats : Int32) (H_rows : Int32) (H_lengths : Nat → Int32) (H_faults : Nat → Int32) (H_sorts : Nat → Int32) (H_rowOf : Nat → Int32) (H_bySort : Nat → Int32) (H_bytes : Nat → Nat → Int32) (x1 : Int32) (x2 : Int32) (x3 : Int32) : Option (Int32 × Int32 × (Nat → Int32) × (Nat → Int32) × (Nat → Int32) × (Nat → Int32)) :=
  if x3 = 59 then
  (if x1 = 0 then
  (p_X3_parseSeats_b101 H_seats H_rows H_lengths H_faults H_sorts H_rowOf H_bySort H_bytes x1 x2)
  else
  (p_X3_parseSeats_b95 K14 H_seats H_rows H_lengths H_faults H_sorts H_rowOf H_bySort H_bytes 0 x2))
  else
  (p_X3_parseSeats_b101 H_seats H_rows H_lengths H_faults H_sorts H_rowOf H_bySort H_bytes x1 x2)
def p_X3_parseSeats_b68 (K14 : Int32 → Int32 → (Nat → Int32) → (Nat → Int32) → (Nat → Int32) → (Nat → Int32) → (Nat → Int32) → (Nat → Nat → Int32) → Int32 → Int32 → Option (Int32 × Int32 × (Nat → Int32) × (Nat → Int32) × (Nat → Int32) × (Nat → Int32))) (H_seats : Int32) (H_rows : Int32) (H_lengths : Nat → Int32) (H_faults : Nat → Int32) (H_sorts : Nat → Int32) (H_rowOf : Nat → Int32) (H_bySort : Nat → Int32) (H_bytes : Nat → Nat → Int32) (t1 : Int32) (t2 : Int32) (x2 : Int32) (x4 : Int32) : Option (Int32 × Int32 × (Nat → Int32) × (Nat → Int32) × (Nat → Int32) × (Nat → Int32)) :=
  nm ((t1 + t2) : Int32) fun H_rows_69 =>
  b4 (p_X3_addSeat H_seats H_rows_69 H_sorts H_rowOf H_bySort x4) fun H_seats_77 H_sorts_77 H_rowOf_77 H_bySort_77 =>
  p_X3_parseSeats_b95 K14 H_seats_77 H_rows_69 H_lengths H_faults H_sorts_77 H_rowOf_77 H_bySort_77 H_bytes 1 x2
def p_X3_parseSeats_b14x (K14 : Int32 → Int32 → (Nat → Int32) → (Nat → Int32) → (Nat → Int32) → (Nat → Int32) → (Nat → Int32) → (Nat → Nat → Int32) → Int32 → Int32 → Option (Int32 × Int32 × (Nat → Int32) × (Nat → Int32) × (Nat → Int32) × (Nat → Int32))) (H_seats : Int32) (H_rows : Int32) (H_lengths : Nat → Int32) (H_faults : Nat → Int32) (H_sorts : Nat → Int32) (H_rowOf : Nat → Int32) (H_bySort : Nat → Int32) (H_bytes : Nat → Nat → Int32) (x1 : Int32) (x2 : Int32) : Option (Int32 × Int32 × (Nat → Int32) × (Nat → Int32) × (Nat → Int32) × (Nat → Int32)) :=
  gd (inB 0 2) <|
  if (H_lengths (0 : Int32).toNatClampNeg) ≤ x2 then
  (p_X3_parseSeats_b101 H_seats H_rows H_lengths H_faults H_sorts H_rowOf H_bySort H_bytes x1 x2)
  else
  (gd (inB 0 2) <|
  gd (decide (((0 : Int32).toNatClampNeg) < 2)) <|
  gd (inB x2 20) <|
  nm ((H_bytes ((0 : Int32).toNatClampNeg) x2.toNatClampNeg) : Int32) fun x32 =>
  b1 (p_X3_sortOf  x32) fun r34 =>
  if r34 = (-1) then
  (p_X3_parseSeats_b83 K14 H_seats H_rows H_lengths H_faults H_sorts H_rowOf H_bySort H_bytes x1 x2 x32)
  else
  (if 8 ≤ H_seats then
  (p_X3_parseSeats_b83 K14 H_seats H_rows H_lengths H_faults H_sorts H_rowOf H_bySort H_bytes x1 x2 x32)
  else
  (if x1 = 0 then
  (p_X3_parseSeats_b68 K14 H_seats H_rows H_lengths H_faults H_sorts H_rowOf H_bySort H_bytes H_rows 1 x2 r34)
  else
  (p_X3_parseSeats_b68 K14 H_seats H_rows H_lengths H_faults H_sorts H_rowOf H_bySort H_bytes H_rows 0 x2 r34))))
def p_X3_parseSeats_b14 : Nat → Int32 → Int32 → (Nat → Int32) → (Nat → Int32) → (Nat → Int32) → (Nat → Int32) → (Nat → Int32) → (Nat → Nat → Int32) → Int32 → Int32 → Option (Int32 × Int32 × (Nat → Int32) × (Nat → Int32) × (Nat → Int32) × (Nat → Int32))
  | 0 => fun _ _ _ _ _ _ _ _ _ _ => none
  | n + 1 => p_X3_parseSeats_b14x (p_X3_parseSeats_b14 n)
def p_X3_parseSeats_b0 (H_seats : Int32) (H_rows : Int32) (H_lengths : Nat → Int32) (H_faults : Nat → Int32) (H_sorts : Nat → Int32) (H_rowOf : Nat → Int32) (H_bySort : Nat → Int32) (H_bytes : Nat → Nat → Int32)  : Option (Int32 × Int32 × (Nat → Int32) × (Nat → Int32) × (Nat → Int32) × (Nat → Int32)) :=
  p_X3_parseSeats_b14 4096 0 0 H_lengths H_faults H_sorts H_rowOf H_bySort H_bytes 0 0
def p_X3_parseSeats (H_seats : Int32) (H_rows : Int32) (H_lengths : Nat → Int32) (H_faults : Nat → Int32) (H_sorts : Nat → Int32) (H_rowOf : Nat → Int32) (H_bySort : Nat → Int32) (H_bytes : Nat → Nat → Int32)  : Option (Int32 × Int32 × (Nat → Int32) × (Nat → Int32) × (Nat → Int32) × (Nat → Int32)) := p_X3_parseSeats_b0 H_seats H_rows H_lengths H_faults H_sorts H_rowOf H_bySort H_bytes 
-- X3_kindOf
def p_X3_kindOf_b0  (x0 : Int32) : Option (Int32) :=
  if x0.toInt = 108 then
  (some (1 : Int32))
  else
  (if x0.toInt = 110 then
  (some (2 : Int32))
  else
  (if x0.toInt = 111 then
  (some (0 : Int32))
  else
  (if x0.toInt = 115 then
  (some (3 : Int32))
  else
  (some ((-1) : Int32)))))
def p_X3_kindOf  (x0 : Int32) : Option (Int32) := p_X3_kindOf_b0  x0
-- X3_parsePeople
def p_X3_parsePeople_b167 (H_seats : Int32) (H_people : Int32) (H_lengths : Nat → Int32) (H_faults : Nat → Int32) (H_owns : Nat → Int32) (H_kinds : Nat → Int32) (H_bytes : Nat → Nat → Int32)  : Option (Int32 × (Nat → Int32) × (Nat → Int32) × (Nat → Int32)) :=
  some (H_people, H_faults, H_owns, H_kinds)
def p_X3_parsePeople_b151 (H_seats : Int32) (H_people : Int32) (H_lengths : Nat → Int32) (H_faults : Nat → Int32) (H_owns : Nat → Int32) (H_kinds : Nat → Int32) (H_bytes : Nat → Nat → Int32) (t1 : Int32) (t2 : Int32) : Option (Int32 × (Nat → Int32) × (Nat → Int32) × (Nat → Int32)) :=
  gd (inB t1 2) <|
  nm (upd H_faults t1.toNatClampNeg t2) fun H_faults_151 =>
  gd (inB 1 2) <|
  if (H_faults_151 (1 : Int32).toNatClampNeg) = (-1) then
  (p_X3_parsePeople_b167 H_seats H_people H_lengths H_faults_151 H_owns H_kinds H_bytes )
  else
  (p_X3_parsePeople_b167 H_seats 0 H_lengths H_faults_151 H_owns H_kinds H_bytes )
def p_X3_parsePeople_b150 (H_seats : Int32) (H_people : Int32) (H_lengths : Nat → Int32) (H_faults : Nat → Int32) (H_owns : Nat → Int32) (H_kinds : Nat → Int32) (H_bytes : Nat → Nat → Int32) (t1 : Int32) (x2 : Int32) : Option (Int32 × (Nat → Int32) × (Nat → Int32) × (Nat → Int32)) :=
  p_X3_parsePeople_b151 H_seats H_people H_lengths H_faults H_owns H_kinds H_bytes t1 x2
def p_X3_parsePeople_b126 (H_seats : Int32) (H_people : Int32) (H_lengths : Nat → Int32) (H_faults : Nat → Int32) (H_owns : Nat → Int32) (H_kinds : Nat → Int32) (H_bytes : Nat → Nat → Int32) (x1 : Int32) (x2 : Int32) : Option (Int32 × (Nat → Int32) × (Nat → Int32) × (Nat → Int32)) :=
  gd (inB 1 2) <|
  if x2 = (H_lengths (1 : Int32).toNatClampNeg) then
  (if x1 = (-1) then
  (p_X3_parsePeople_b151 H_seats H_people H_lengths H_faults H_owns H_kinds H_bytes 1 (-1))
  else
  (p_X3_parsePeople_b150 H_seats H_people H_lengths H_faults H_owns H_kinds H_bytes 1 x2))
  else
  (p_X3_parsePeople_b150 H_seats H_people H_lengths H_faults H_owns H_kinds H_bytes 1 x2)
def p_X3_parsePeople_b120 (K9 : Int32 → Int32 → (Nat → Int32) → (Nat → Int32) → (Nat → Int32) → (Nat → Int32) → (Nat → Nat → Int32) → Int32 → Int32 → Option (Int32 × (Nat → Int32) × (Nat → Int32) × (Nat → Int32))) (H_seats : Int32) (H_people : Int32) (H_lengths : Nat → Int32) (H_faults : Nat → Int32) (H_owns : Nat → Int32) (H_kinds : Nat → Int32) (H_bytes : Nat → Nat → Int32) (x1 : Int32) (x2 : Int32) : Option (Int32 × (Nat → Int32) × (Nat → Int32) × (Nat → Int32)) :=
  nm (x2 + 1 : Int32) fun x120 =>
  K9 H_seats H_people H_lengths H_faults H_owns H_kinds H_bytes x1 x120
def p_X3_parsePeople_b9x (K9 : Int32 → Int32 → (Nat → Int32) → (Nat → Int32) → (Nat → Int32) → (Nat → Int32) → (Nat → Nat → Int32) → Int32 → Int32 → Option (Int32 × (Nat → Int32) × (Nat → Int32) × (Nat → Int32))) (H_seats : Int32) (H_people : Int32) (H_lengths : Nat → Int32) (H_faults : Nat → Int32) (H_owns : Nat → Int32) (H_kinds : Nat → Int32) (H_bytes : Nat → Nat → Int32) (x1 : Int32) (x2 : Int32) : Option (Int32 × (Nat → Int32) × (Nat → Int32) × (Nat → Int32)) :=
  gd (inB 1 2) <|
  if (H_lengths (1 : Int32).toNatClampNeg) ≤ x2 then
  (p_X3_parsePeople_b126 H_seats H_people H_lengths H_faults H_owns H_kinds H_bytes x1 x2)
  else
  (gd (inB 1 2) <|
  gd (decide (((1 : Int32).toNatClampNeg) < 2)) <|
  gd (inB x2 20) <|
  nm ((H_bytes ((1 : Int32).toNatClampNeg) x2.toNatClampNeg) : Int32) fun x27 =>
  if x1 = (-1) then
  (if H_seats ≤ H_people then
  (p_X3_parsePeople_b126 H_seats H_people H_lengths H_faults H_owns H_kinds H_bytes x1 x2)
  else
  (if x27 < 48 then
  (p_X3_parsePeople_b126 H_seats H_people H_lengths H_faults H_owns H_kinds H_bytes x1 x2)
  else
  (if x27 < (48 + H_seats) then
  (nm ((x27 - 48) : Int32) fun x68 =>
  p_X3_parsePeople_b120 K9 H_seats H_people H_lengths H_faults H_owns H_kinds H_bytes x68 x2)
  else
  (p_X3_parsePeople_b126 H_seats H_people H_lengths H_faults H_owns H_kinds H_bytes x1 x2))))
  else
  (b1 (p_X3_kindOf  x27) fun r73 =>
  if r73 = (-1) then
  (p_X3_parsePeople_b126 H_seats H_people H_lengths H_faults H_owns H_kinds H_bytes x1 x2)
  else
  (gd (inB H_people 8) <|
  nm (upd H_owns H_people.toNatClampNeg x1) fun H_owns_96 =>
  gd (inB H_people 8) <|
  nm (upd H_kinds H_people.toNatClampNeg r73) fun H_kinds_107 =>
  nm ((H_people + 1) : Int32) fun H_people_115 =>
  p_X3_parsePeople_b120 K9 H_seats H_people_115 H_lengths H_faults H_owns_96 H_kinds_107 H_bytes (-1) x2)))
def p_X3_parsePeople_b9 : Nat → Int32 → Int32 → (Nat → Int32) → (Nat → Int32) → (Nat → Int32) → (Nat → Int32) → (Nat → Nat → Int32) → Int32 → Int32 → Option (Int32 × (Nat → Int32) × (Nat → Int32) × (Nat → Int32))
  | 0 => fun _ _ _ _ _ _ _ _ _ => none
  | n + 1 => p_X3_parsePeople_b9x (p_X3_parsePeople_b9 n)
def p_X3_parsePeople_b0 (H_seats : Int32) (H_people : Int32) (H_lengths : Nat → Int32) (H_faults : Nat → Int32) (H_owns : Nat → Int32) (H_kinds : Nat → Int32) (H_bytes : Nat → Nat → Int32)  : Option (Int32 × (Nat → Int32) × (Nat → Int32) × (Nat → Int32)) :=
  p_X3_parsePeople_b9 4096 H_seats 0 H_lengths H_faults H_owns H_kinds H_bytes (-1) 0
def p_X3_parsePeople (H_seats : Int32) (H_people : Int32) (H_lengths : Nat → Int32) (H_faults : Nat → Int32) (H_owns : Nat → Int32) (H_kinds : Nat → Int32) (H_bytes : Nat → Nat → Int32)  : Option (Int32 × (Nat → Int32) × (Nat → Int32) × (Nat → Int32)) := p_X3_parsePeople_b0 H_seats H_people H_lengths H_faults H_owns H_kinds H_bytes 
-- X3_parse
def p_X3_parse_b0 (H_seats : Int32) (H_rows : Int32) (H_people : Int32) (H_lengths : Nat → Int32) (H_faults : Nat → Int32) (H_sorts : Nat → Int32) (H_rowOf : Nat → Int32) (H_bySort : Nat → Int32) (H_owns : Nat → Int32) (H_kinds : Nat → Int32) (H_bytes : Nat → Nat → Int32)  : Option (Int32 × Int32 × Int32 × (Nat → Int32) × (Nat → Int32) × (Nat → Int32) × (Nat → Int32) × (Nat → Int32) × (Nat → Int32)) :=
  b6 (p_X3_parseSeats H_seats H_rows H_lengths H_faults H_sorts H_rowOf H_bySort H_bytes) fun H_seats_1 H_rows_1 H_faults_1 H_sorts_1 H_rowOf_1 H_bySort_1 =>
  b4 (p_X3_parsePeople H_seats_1 H_people H_lengths H_faults_1 H_owns H_kinds H_bytes) fun H_people_5 H_faults_5 H_owns_5 H_kinds_5 =>
  some (H_seats_1, H_rows_1, H_people_5, H_faults_5, H_sorts_1, H_rowOf_1, H_bySort_1, H_owns_5, H_kinds_5)
def p_X3_parse (H_seats : Int32) (H_rows : Int32) (H_people : Int32) (H_lengths : Nat → Int32) (H_faults : Nat → Int32) (H_sorts : Nat → Int32) (H_rowOf : Nat → Int32) (H_bySort : Nat → Int32) (H_owns : Nat → Int32) (H_kinds : Nat → Int32) (H_bytes : Nat → Nat → Int32)  : Option (Int32 × Int32 × Int32 × (Nat → Int32) × (Nat → Int32) × (Nat → Int32) × (Nat → Int32) × (Nat → Int32) × (Nat → Int32)) := p_X3_parse_b0 H_seats H_rows H_people H_lengths H_faults H_sorts H_rowOf H_bySort H_owns H_kinds H_bytes 
-- X3_append
def p_X3_append_b35 (H_seats : Int32) (H_rows : Int32) (H_people : Int32) (H_lengths : Nat → Int32) (H_faults : Nat → Int32) (H_sorts : Nat → Int32) (H_rowOf : Nat → Int32) (H_bySort : Nat → Int32) (H_owns : Nat → Int32) (H_kinds : Nat → Int32) (H_bytes : Nat → Nat → Int32)  : Option (Int32 × Int32 × Int32 × (Nat → Int32) × (Nat → Int32) × (Nat → Int32) × (Nat → Int32) × (Nat → Int32) × (Nat → Int32) × (Nat → Int32) × (Nat → Nat → Int32)) :=
  b9 (p_X3_parse H_seats H_rows H_people H_lengths H_faults H_sorts H_rowOf H_bySort H_owns H_kinds H_bytes) fun H_seats_36 H_rows_36 H_people_36 H_faults_36 H_sorts_36 H_rowOf_36 H_bySort_36 H_owns_36 H_kinds_36 =>
  some (H_seats_36, H_rows_36, H_people_36, H_lengths, H_faults_36, H_sorts_36, H_rowOf_36, H_bySort_36, H_owns_36, H_kinds_36, H_bytes)
def p_X3_append_b0 (H_seats : Int32) (H_rows : Int32) (H_people : Int32) (H_lengths : Nat → Int32) (H_faults : Nat → Int32) (H_sorts : Nat → Int32) (H_rowOf : Nat → Int32) (H_bySort : Nat → Int32) (H_owns : Nat → Int32) (H_kinds : Nat → Int32) (H_bytes : Nat → Nat → Int32) (x1 : Int32) (x2 : Int32) : Option (Int32 × Int32 × Int32 × (Nat → Int32) × (Nat → Int32) × (Nat → Int32) × (Nat → Int32) × (Nat → Int32) × (Nat → Int32) × (Nat → Int32) × (Nat → Nat → Int32)) :=
  gd (inB x1 2) <|
  if 20 ≤ (H_lengths x1.toNatClampNeg) then
  (p_X3_append_b35 H_seats H_rows H_people H_lengths H_faults H_sorts H_rowOf H_bySort H_owns H_kinds H_bytes )
  else
  (gd (inB x1 2) <|
  gd (inB x1 2) <|
  gd (decide (x1.toNatClampNeg < 2)) <|
  gd (inB (H_lengths x1.toNatClampNeg) 20) <|
  nm (va_up H_bytes x1.toNatClampNeg (upd (H_bytes x1.toNatClampNeg) (H_lengths x1.toNatClampNeg).toNatClampNeg x2)) fun H_bytes_24 =>
  gd (inB x1 2) <|
  gd (inB x1 2) <|
  nm (upd H_lengths x1.toNatClampNeg ((H_lengths x1.toNatClampNeg) + 1)) fun H_lengths_34 =>
  p_X3_append_b35 H_seats H_rows H_people H_lengths_34 H_faults H_sorts H_rowOf H_bySort H_owns H_kinds H_bytes_24 )
def p_X3_append (H_seats : Int32) (H_rows : Int32) (H_people : Int32) (H_lengths : Nat → Int32) (H_faults : Nat → Int32) (H_sorts : Nat → Int32) (H_rowOf : Nat → Int32) (H_bySort : Nat → Int32) (H_owns : Nat → Int32) (H_kinds : Nat → Int32) (H_bytes : Nat → Nat → Int32) (x1 : Int32) (x2 : Int32) : Option (Int32 × Int32 × Int32 × (Nat → Int32) × (Nat → Int32) × (Nat → Int32) × (Nat → Int32) × (Nat → Int32) × (Nat → Int32) × (Nat → Int32) × (Nat → Nat → Int32)) := p_X3_append_b0 H_seats H_rows H_people H_lengths H_faults H_sorts H_rowOf H_bySort H_owns H_kinds H_bytes x1 x2
-- X3_empty
def p_X3_empty_b0 (H_seats : Int32) (H_rows : Int32) (H_people : Int32) (H_lengths : Nat → Int32) (H_faults : Nat → Int32) (H_sorts : Nat → Int32) (H_rowOf : Nat → Int32) (H_bySort : Nat → Int32) (H_owns : Nat → Int32) (H_kinds : Nat → Int32) (H_bytes : Nat → Nat → Int32) (x1 : Int32) : Option (Int32 × Int32 × Int32 × (Nat → Int32) × (Nat → Int32) × (Nat → Int32) × (Nat → Int32) × (Nat → Int32) × (Nat → Int32) × (Nat → Int32)) :=
  gd (inB x1 2) <|
  nm (upd H_lengths x1.toNatClampNeg 0) fun H_lengths_6 =>
  b9 (p_X3_parse H_seats H_rows H_people H_lengths_6 H_faults H_sorts H_rowOf H_bySort H_owns H_kinds H_bytes) fun H_seats_8 H_rows_8 H_people_8 H_faults_8 H_sorts_8 H_rowOf_8 H_bySort_8 H_owns_8 H_kinds_8 =>
  some (H_seats_8, H_rows_8, H_people_8, H_lengths_6, H_faults_8, H_sorts_8, H_rowOf_8, H_bySort_8, H_owns_8, H_kinds_8)
def p_X3_empty (H_seats : Int32) (H_rows : Int32) (H_people : Int32) (H_lengths : Nat → Int32) (H_faults : Nat → Int32) (H_sorts : Nat → Int32) (H_rowOf : Nat → Int32) (H_bySort : Nat → Int32) (H_owns : Nat → Int32) (H_kinds : Nat → Int32) (H_bytes : Nat → Nat → Int32) (x1 : Int32) : Option (Int32 × Int32 × Int32 × (Nat → Int32) × (Nat → Int32) × (Nat → Int32) × (Nat → Int32) × (Nat → Int32) × (Nat → Int32) × (Nat → Int32)) := p_X3_empty_b0 H_seats H_rows H_people H_lengths H_faults H_sorts H_rowOf H_bySort H_owns H_kinds H_bytes x1
-- X3_ownersOf
def p_X3_ownersOf_b28 (K4 : Int32 → (Nat → Int32) → Int32 → Int32 → Int32 → Option (Int32)) (H_people : Int32) (H_owns : Nat → Int32) (x1 : Int32) (x2 : Int32) (x3 : Int32) : Option (Int32) :=
  nm (x3 + 1 : Int32) fun x28 =>
  K4 H_people H_owns x1 x2 x28
def p_X3_ownersOf_b4x (K4 : Int32 → (Nat → Int32) → Int32 → Int32 → Int32 → Option (Int32)) (H_people : Int32) (H_owns : Nat → Int32) (x1 : Int32) (x2 : Int32) (x3 : Int32) : Option (Int32) :=
  if H_people ≤ x3 then
  (some x2)
  else
  (gd (inB x3 8) <|
  if (H_owns x3.toNatClampNeg) = x1 then
  (nm ((x2 ||| ((1 : Int32) <<< (x3 &&& 31))) : Int32) fun x27 =>
  p_X3_ownersOf_b28 K4 H_people H_owns x1 x27 x3)
  else
  (p_X3_ownersOf_b28 K4 H_people H_owns x1 x2 x3))
def p_X3_ownersOf_b4 : Nat → Int32 → (Nat → Int32) → Int32 → Int32 → Int32 → Option (Int32)
  | 0 => fun _ _ _ _ _ => none
  | n + 1 => p_X3_ownersOf_b4x (p_X3_ownersOf_b4 n)
def p_X3_ownersOf_b0 (H_people : Int32) (H_owns : Nat → Int32) (x1 : Int32) : Option (Int32) :=
  p_X3_ownersOf_b4 4096 H_people H_owns x1 0 0
def p_X3_ownersOf (H_people : Int32) (H_owns : Nat → Int32) (x1 : Int32) : Option (Int32) := p_X3_ownersOf_b0 H_people H_owns x1
-- X3_countLost
def p_X3_countLost_b28 (K4 : Int32 → (Nat → Int32) → Int32 → Int32 → Option (Int32)) (H_people : Int32) (H_kinds : Nat → Int32) (t0 : Int32) (t1 : Int32) (x2 : Int32) : Option (Int32) :=
  nm ((t0 + t1) : Int32) fun x29 =>
  nm (x2 + 1 : Int32) fun x30 =>
  K4 H_people H_kinds x29 x30
def p_X3_countLost_b4x (K4 : Int32 → (Nat → Int32) → Int32 → Int32 → Option (Int32)) (H_people : Int32) (H_kinds : Nat → Int32) (x1 : Int32) (x2 : Int32) : Option (Int32) :=
  if H_people ≤ x2 then
  (some x1)
  else
  (gd (inB x2 8) <|
  if (H_kinds x2.toNatClampNeg) = 1 then
  (p_X3_countLost_b28 K4 H_people H_kinds x1 1 x2)
  else
  (p_X3_countLost_b28 K4 H_people H_kinds x1 0 x2))
def p_X3_countLost_b4 : Nat → Int32 → (Nat → Int32) → Int32 → Int32 → Option (Int32)
  | 0 => fun _ _ _ _ => none
  | n + 1 => p_X3_countLost_b4x (p_X3_countLost_b4 n)
def p_X3_countLost_b0 (H_people : Int32) (H_kinds : Nat → Int32)  : Option (Int32) :=
  p_X3_countLost_b4 4096 H_people H_kinds 0 0
def p_X3_countLost (H_people : Int32) (H_kinds : Nat → Int32)  : Option (Int32) := p_X3_countLost_b0 H_people H_kinds 
-- X3_countUnowned
def p_X3_countUnowned_b26 (K4 : Int32 → Int32 → (Nat → Int32) → Int32 → Int32 → Option (Int32)) (H_seats : Int32) (H_people : Int32) (H_owns : Nat → Int32) (t0 : Int32) (t1 : Int32) (x2 : Int32) : Option (Int32) :=
  nm ((t0 + t1) : Int32) fun x27 =>
  nm (x2 + 1 : Int32) fun x28 =>
  K4 H_seats H_people H_owns x27 x28
def p_X3_countUnowned_b4x (K4 : Int32 → Int32 → (Nat → Int32) → Int32 → Int32 → Option (Int32)) (H_seats : Int32) (H_people : Int32) (H_owns : Nat → Int32) (x1 : Int32) (x2 : Int32) : Option (Int32) :=
  if H_seats ≤ x2 then
  (some x1)
  else
  (b1 (p_X3_ownersOf H_people H_owns x2) fun r15 =>
  if r15 = 0 then
  (p_X3_countUnowned_b26 K4 H_seats H_people H_owns x1 1 x2)
  else
  (p_X3_countUnowned_b26 K4 H_seats H_people H_owns x1 0 x2))
def p_X3_countUnowned_b4 : Nat → Int32 → Int32 → (Nat → Int32) → Int32 → Int32 → Option (Int32)
  | 0 => fun _ _ _ _ _ => none
  | n + 1 => p_X3_countUnowned_b4x (p_X3_countUnowned_b4 n)
def p_X3_countUnowned_b0 (H_seats : Int32) (H_people : Int32) (H_owns : Nat → Int32)  : Option (Int32) :=
  p_X3_countUnowned_b4 4096 H_seats H_people H_owns 0 0
def p_X3_countUnowned (H_seats : Int32) (H_people : Int32) (H_owns : Nat → Int32)  : Option (Int32) := p_X3_countUnowned_b0 H_seats H_people H_owns 
-- X3_isIn
def p_X3_isIn_b25 (H_seats : Int32) (t0 : Int32) : Option (Int32) :=
  gd (isZ t0) <|
  some t0
def p_X3_isIn_b24 (H_seats : Int32)  : Option (Int32) :=
  p_X3_isIn_b25 H_seats 0
def p_X3_isIn_b0 (H_seats : Int32) (x1 : Int32) (x2 : Int32) : Option (Int32) :=
  if x2 < 0 then
  (p_X3_isIn_b24 H_seats )
  else
  (if H_seats ≤ x2 then
  (p_X3_isIn_b24 H_seats )
  else
  (b1 (p_X3_has  x1 x2) fun r14 =>
  if r14 = 0 then
  (p_X3_isIn_b24 H_seats )
  else
  (p_X3_isIn_b25 H_seats 1)))
def p_X3_isIn (H_seats : Int32) (x1 : Int32) (x2 : Int32) : Option (Int32) := p_X3_isIn_b0 H_seats x1 x2
-- X3_firstWhoCannot
def p_X3_firstWhoCannot_b4x (K4 : Int32 → Int32 → (Nat → Int32) → (Nat → Int32) → (Nat → Int32) → (Nat → Int32) → (Nat → Nat → Int32) → Nat → Int32 → Int32 → Option (Int32)) (H_seats : Int32) (H_people : Int32) (H_sorts : Nat → Int32) (H_bySort : Nat → Int32) (H_owns : Nat → Int32) (H_kinds : Nat → Int32) (S_items : Nat → Nat → Int32) (s1 : Nat) (x2 : Int32) (x3 : Int32) : Option (Int32) :=
  if H_people ≤ x3 then
  (some ((-1) : Int32))
  else
  (gd (inB x3 8) <|
  gd (inB x3 8) <|
  b1 (p_X3_choices H_seats H_sorts H_bySort x2 (H_owns x3.toNatClampNeg) (H_kinds x3.toNatClampNeg)) fun r26 =>
  gd (decide (s1 < 4)) <|
  gd (inB x3 60) <|
  b1 (p_X3_isIn H_seats r26 (S_items s1 x3.toNatClampNeg)) fun r37 =>
  if r37 = 0 then
  (some x3)
  else
  (gd (decide (s1 < 4)) <|
  gd (inB x3 60) <|
  nm ((x2 ||| ((1 : Int32) <<< ((S_items s1 x3.toNatClampNeg) &&& 31))) : Int32) fun x52 =>
  nm (x3 + 1 : Int32) fun x53 =>
  K4 H_seats H_people H_sorts H_bySort H_owns H_kinds S_items s1 x52 x53))
def p_X3_firstWhoCannot_b4 : Nat → Int32 → Int32 → (Nat → Int32) → (Nat → Int32) → (Nat → Int32) → (Nat → Int32) → (Nat → Nat → Int32) → Nat → Int32 → Int32 → Option (Int32)
  | 0 => fun _ _ _ _ _ _ _ _ _ _ => none
  | n + 1 => p_X3_firstWhoCannot_b4x (p_X3_firstWhoCannot_b4 n)
def p_X3_firstWhoCannot_b0 (H_seats : Int32) (H_people : Int32) (H_sorts : Nat → Int32) (H_bySort : Nat → Int32) (H_owns : Nat → Int32) (H_kinds : Nat → Int32) (S_items : Nat → Nat → Int32) (s1 : Nat) : Option (Int32) :=
  p_X3_firstWhoCannot_b4 4096 H_seats H_people H_sorts H_bySort H_owns H_kinds S_items s1 0 0
def p_X3_firstWhoCannot (H_seats : Int32) (H_people : Int32) (H_sorts : Nat → Int32) (H_bySort : Nat → Int32) (H_owns : Nat → Int32) (H_kinds : Nat → Int32) (S_items : Nat → Nat → Int32) (s1 : Nat) : Option (Int32) := p_X3_firstWhoCannot_b0 H_seats H_people H_sorts H_bySort H_owns H_kinds S_items s1
-- X3_chanceOf
def p_X3_chanceOf_b64 (H_seats : Int32) (H_people : Int32) (H_sorts : Nat → Int32) (H_bySort : Nat → Int32) (H_owns : Nat → Int32) (H_kinds : Nat → Int32) (S_items : Nat → Nat → Int32)  : Option (Int64) :=
  some (0 : Int64)
def p_X3_chanceOf_b9x (K9 : Int32 → Int32 → (Nat → Int32) → (Nat → Int32) → (Nat → Int32) → (Nat → Int32) → (Nat → Nat → Int32) → Nat → Int32 → Int64 → Int32 → Option (Int64)) (H_seats : Int32) (H_people : Int32) (H_sorts : Nat → Int32) (H_bySort : Nat → Int32) (H_owns : Nat → Int32) (H_kinds : Nat → Int32) (S_items : Nat → Nat → Int32) (s1 : Nat) (x2 : Int32) (x3 : Int64) (x5 : Int32) : Option (Int64) :=
  if H_people ≤ x5 then
  (some x3)
  else
  (gd (inB x5 8) <|
  gd (inB x5 8) <|
  b1 (p_X3_choices H_seats H_sorts H_bySort x2 (H_owns x5.toNatClampNeg) (H_kinds x5.toNatClampNeg)) fun r34 =>
  b1 (p_J6_bitCount_0f7a4  r34) fun r41 =>
  if r41 = 0 then
  (p_X3_chanceOf_b64 H_seats H_people H_sorts H_bySort H_owns H_kinds S_items )
  else
  (gd (decide (s1 < 4)) <|
  gd (inB x5 60) <|
  b1 (p_X3_isIn H_seats r34 (S_items s1 x5.toNatClampNeg)) fun r58 =>
  if r58 = 0 then
  (p_X3_chanceOf_b64 H_seats H_people H_sorts H_bySort H_owns H_kinds S_items )
  else
  (gd (decide (¬ r41.toInt64 = 0)) <|
  nm ((x3 / r41.toInt64) : Int64) fun x71 =>
  gd (decide (s1 < 4)) <|
  gd (inB x5 60) <|
  nm ((x2 ||| ((1 : Int32) <<< ((S_items s1 x5.toNatClampNeg) &&& 31))) : Int32) fun x80 =>
  nm (x5 + 1 : Int32) fun x81 =>
  K9 H_seats H_people H_sorts H_bySort H_owns H_kinds S_items s1 x80 x71 x81)))
def p_X3_chanceOf_b9 : Nat → Int32 → Int32 → (Nat → Int32) → (Nat → Int32) → (Nat → Int32) → (Nat → Int32) → (Nat → Nat → Int32) → Nat → Int32 → Int64 → Int32 → Option (Int64)
  | 0 => fun _ _ _ _ _ _ _ _ _ _ _ => none
  | n + 1 => p_X3_chanceOf_b9x (p_X3_chanceOf_b9 n)
def p_X3_chanceOf_b0 (H_seats : Int32) (H_people : Int32) (H_sorts : Nat → Int32) (H_bySort : Nat → Int32) (H_owns : Nat → Int32) (H_kinds : Nat → Int32) (S_items : Nat → Nat → Int32) (s1 : Nat) : Option (Int64) :=
  p_X3_chanceOf_b9 4096 H_seats H_people H_sorts H_bySort H_owns H_kinds S_items s1 0 182891520000 0
def p_X3_chanceOf (H_seats : Int32) (H_people : Int32) (H_sorts : Nat → Int32) (H_bySort : Nat → Int32) (H_owns : Nat → Int32) (H_kinds : Nat → Int32) (S_items : Nat → Nat → Int32) (s1 : Nat) : Option (Int64) := p_X3_chanceOf_b0 H_seats H_people H_sorts H_bySort H_owns H_kinds S_items s1
-- X4_isWhole
def p_X4_isWhole_b99 (H_seats : Int32) (H_people : Int32) (H_owns : Nat → Int32) (S_items : Nat → Nat → Int32) (t0 : Int32) : Option (Int32) :=
  gd (isZ t0) <|
  some t0
def p_X4_isWhole_b98 (H_seats : Int32) (H_people : Int32) (H_owns : Nat → Int32) (S_items : Nat → Nat → Int32)  : Option (Int32) :=
  p_X4_isWhole_b99 H_seats H_people H_owns S_items 0
def p_X4_isWhole_b40 (H_seats : Int32) (H_people : Int32) (H_owns : Nat → Int32) (S_items : Nat → Nat → Int32)  : Option (Int32) :=
  some (0 : Int32)
def p_X4_isWhole_b7x (K7 : Int32 → Int32 → (Nat → Int32) → (Nat → Nat → Int32) → Nat → Int32 → Int32 → Int32 → Option (Int32)) (H_seats : Int32) (H_people : Int32) (H_owns : Nat → Int32) (S_items : Nat → Nat → Int32) (s1 : Nat) (x2 : Int32) (x3 : Int32) (x4 : Int32) : Option (Int32) :=
  if H_people ≤ x4 then
  (b1 (p_X3_allSeats H_seats) fun r77 =>
  if x2 = r77 then
  (b1 (p_X3_allSeats H_seats) fun r88 =>
  if x3 = r88 then
  (p_X4_isWhole_b99 H_seats H_people H_owns S_items 1)
  else
  (p_X4_isWhole_b98 H_seats H_people H_owns S_items ))
  else
  (p_X4_isWhole_b98 H_seats H_people H_owns S_items ))
  else
  (gd (decide (s1 < 4)) <|
  gd (inB x4 60) <|
  if (S_items s1 x4.toNatClampNeg) < 0 then
  (p_X4_isWhole_b40 H_seats H_people H_owns S_items )
  else
  (gd (decide (s1 < 4)) <|
  gd (inB x4 60) <|
  if (S_items s1 x4.toNatClampNeg) < H_seats then
  (gd (decide (s1 < 4)) <|
  gd (inB x4 60) <|
  nm ((x2 ||| ((1 : Int32) <<< ((S_items s1 x4.toNatClampNeg) &&& 31))) : Int32) fun x50 =>
  gd (inB x4 8) <|
  nm ((x3 ||| ((1 : Int32) <<< ((H_owns x4.toNatClampNeg) &&& 31))) : Int32) fun x65 =>
  nm (x4 + 1 : Int32) fun x66 =>
  K7 H_seats H_people H_owns S_items s1 x50 x65 x66)
  else
  (p_X4_isWhole_b40 H_seats H_people H_owns S_items )))
def p_X4_isWhole_b7 : Nat → Int32 → Int32 → (Nat → Int32) → (Nat → Nat → Int32) → Nat → Int32 → Int32 → Int32 → Option (Int32)
  | 0 => fun _ _ _ _ _ _ _ _ => none
  | n + 1 => p_X4_isWhole_b7x (p_X4_isWhole_b7 n)
def p_X4_isWhole_b0 (H_seats : Int32) (H_people : Int32) (H_owns : Nat → Int32) (S_items : Nat → Nat → Int32) (s1 : Nat) : Option (Int32) :=
  p_X4_isWhole_b7 4096 H_seats H_people H_owns S_items s1 0 0 0
def p_X4_isWhole (H_seats : Int32) (H_people : Int32) (H_owns : Nat → Int32) (S_items : Nat → Nat → Int32) (s1 : Nat) : Option (Int32) := p_X4_isWhole_b0 H_seats H_people H_owns S_items s1
-- X4_countRings
def p_X4_countRings_b116 (K19 : Int32 → Int32 → Int32 → Int32 → (Nat → Int32) → Int32 → Int32 → Option (Int32 × Int32 × Int32)) (H_seats : Int32) (R_number : Int32) (R_changes : Int32) (R_longest : Int32) (R_goal : Nat → Int32) (x1 : Int32) (x2 : Int32) : Option (Int32 × Int32 × Int32) :=
  nm (x2 + 1 : Int32) fun x116 =>
  K19 H_seats R_number R_changes R_longest R_goal x1 x116
def p_X4_countRings_b77 (K19 : Int32 → Int32 → Int32 → Int32 → (Nat → Int32) → Int32 → Int32 → Option (Int32 × Int32 × Int32)) (H_seats : Int32) (R_number : Int32) (R_changes : Int32) (R_longest : Int32) (R_goal : Nat → Int32) (x1 : Int32) (x2 : Int32) (x3 : Int32) : Option (Int32 × Int32 × Int32) :=
  if x3 ≤ 1 then
  (p_X4_countRings_b116 K19 H_seats R_number R_changes R_longest R_goal x1 x2)
  else
  (nm ((R_number + 1) : Int32) fun R_number_89 =>
  nm ((R_changes + (x3 - 1)) : Int32) fun R_changes_101 =>
  nm ((if R_longest < x3 then x3 else R_longest) : Int32) fun R_longest_113 =>
  p_X4_countRings_b116 K19 H_seats R_number_89 R_changes_101 R_longest_113 R_goal x1 x2)
def p_X4_countRings_b35x (K19 : Int32 → Int32 → Int32 → Int32 → (Nat → Int32) → Int32 → Int32 → Option (Int32 × Int32 × Int32)) (K35 : Int32 → Int32 → Int32 → Int32 → (Nat → Int32) → Int32 → Int32 → Int32 → Int32 → Option (Int32 × Int32 × Int32)) (H_seats : Int32) (R_number : Int32) (R_changes : Int32) (R_longest : Int32) (R_goal : Nat → Int32) (x1 : Int32) (x2 : Int32) (x3 : Int32) (x4 : Int32) : Option (Int32 × Int32 × Int32) :=
  if H_seats ≤ x3 then
  (p_X4_countRings_b77 K19 H_seats R_number R_changes R_longest R_goal x1 x2 x3)
  else
  (b1 (p_X3_has  x1 x4) fun r49 =>
  if r49 = 0 then
  (nm ((x1 ||| ((1 : Int32) <<< (x4 &&& 31))) : Int32) fun x61 =>
  gd (inB x4 8) <|
  nm ((R_goal x4.toNatClampNeg) : Int32) fun x69 =>
  nm (x3 + 1 : Int32) fun x71 =>
  K35 H_seats R_number R_changes R_longest R_goal x61 x2 x71 x69)
  else
  (p_X4_countRings_b77 K19 H_seats R_number R_changes R_longest R_goal x1 x2 x3))
def p_X4_countRings_b35 (K19 : Int32 → Int32 → Int32 → Int32 → (Nat → Int32) → Int32 → Int32 → Option (Int32 × Int32 × Int32)) : Nat → Int32 → Int32 → Int32 → Int32 → (Nat → Int32) → Int32 → Int32 → Int32 → Int32 → Option (Int32 × Int32 × Int32)
  | 0 => fun _ _ _ _ _ _ _ _ _ => none
  | n + 1 => p_X4_countRings_b35x K19 (p_X4_countRings_b35 K19 n)
def p_X4_countRings_b19x (K19 : Int32 → Int32 → Int32 → Int32 → (Nat → Int32) → Int32 → Int32 → Option (Int32 × Int32 × Int32)) (H_seats : Int32) (R_number : Int32) (R_changes : Int32) (R_longest : Int32) (R_goal : Nat → Int32) (x1 : Int32) (x2 : Int32) : Option (Int32 × Int32 × Int32) :=
  if H_seats ≤ x2 then
  (some (R_number, R_changes, R_longest))
  else
  (p_X4_countRings_b35 K19 4096 H_seats R_number R_changes R_longest R_goal x1 x2 0 x2)
def p_X4_countRings_b19 : Nat → Int32 → Int32 → Int32 → Int32 → (Nat → Int32) → Int32 → Int32 → Option (Int32 × Int32 × Int32)
  | 0 => fun _ _ _ _ _ _ _ => none
  | n + 1 => p_X4_countRings_b19x (p_X4_countRings_b19 n)
def p_X4_countRings_b0 (H_seats : Int32) (R_number : Int32) (R_changes : Int32) (R_longest : Int32) (R_goal : Nat → Int32)  : Option (Int32 × Int32 × Int32) :=
  p_X4_countRings_b19 4096 H_seats 0 0 0 R_goal 0 0
def p_X4_countRings (H_seats : Int32) (R_number : Int32) (R_changes : Int32) (R_longest : Int32) (R_goal : Nat → Int32)  : Option (Int32 × Int32 × Int32) := p_X4_countRings_b0 H_seats R_number R_changes R_longest R_goal 
-- X4_follow
def p_X4_follow_b12x (K12 : Int32 → Int32 → Int32 → Int32 → Int32 → (Nat → Int32) → (Nat → Int32) → (Nat → Nat → Int32) → Nat → Int32 → Option (Int32 × Int32 × Int32 × Int32 × (Nat → Int32))) (H_seats : Int32) (H_people : Int32) (R_number : Int32) (R_changes : Int32) (R_longest : Int32) (H_owns : Nat → Int32) (R_goal : Nat → Int32) (S_items : Nat → Nat → Int32) (s1 : Nat) (x2 : Int32) : Option (Int32 × Int32 × Int32 × Int32 × (Nat → Int32)) :=
  if H_people ≤ x2 then
  (b3 (p_X4_countRings H_seats R_number R_changes R_longest R_goal) fun R_number_47 R_changes_47 R_longest_47 =>
  some (1, R_number_47, R_changes_47, R_longest_47, R_goal))
  else
  (gd (decide (s1 < 4)) <|
  gd (inB x2 60) <|
  gd (inB x2 8) <|
  gd (inB (S_items s1 x2.toNatClampNeg) 8) <|
  nm (upd R_goal (S_items s1 x2.toNatClampNeg).toNatClampNeg (H_owns x2.toNatClampNeg)) fun R_goal_39 =>
  nm (x2 + 1 : Int32) fun x40 =>
  K12 H_seats H_people R_number R_changes R_longest H_owns R_goal_39 S_items s1 x40)
def p_X4_follow_b12 : Nat → Int32 → Int32 → Int32 → Int32 → Int32 → (Nat → Int32) → (Nat → Int32) → (Nat → Nat → Int32) → Nat → Int32 → Option (Int32 × Int32 × Int32 × Int32 × (Nat → Int32))
  | 0 => fun _ _ _ _ _ _ _ _ _ _ => none
  | n + 1 => p_X4_follow_b12x (p_X4_follow_b12 n)
def p_X4_follow_b0 (H_seats : Int32) (H_people : Int32) (R_number : Int32) (R_changes : Int32) (R_longest : Int32) (H_owns : Nat → Int32) (R_goal : Nat → Int32) (S_items : Nat → Nat → Int32) (s1 : Nat) : Option (Int32 × Int32 × Int32 × Int32 × (Nat → Int32)) :=
  b1 (p_X4_isWhole H_seats H_people H_owns S_items s1) fun r2 =>
  if r2 = 0 then
  (some (0, R_number, R_changes, R_longest, R_goal))
  else
  (p_X4_follow_b12 4096 H_seats H_people R_number R_changes R_longest H_owns R_goal S_items s1 0)
def p_X4_follow (H_seats : Int32) (H_people : Int32) (R_number : Int32) (R_changes : Int32) (R_longest : Int32) (H_owns : Nat → Int32) (R_goal : Nat → Int32) (S_items : Nat → Nat → Int32) (s1 : Nat) : Option (Int32 × Int32 × Int32 × Int32 × (Nat → Int32)) := p_X4_follow_b0 H_seats H_people R_number R_changes R_longest H_owns R_goal S_items s1
-- X4_rounds
def p_X4_rounds_b23 (R_longest : Int32) (t0 : Int32) : Option (Int32) :=
  some t0
def p_X4_rounds_b0 (R_longest : Int32)  : Option (Int32) :=
  if 2 ≤ R_longest then
  (if R_longest = 2 then
  (p_X4_rounds_b23 R_longest 1)
  else
  (p_X4_rounds_b23 R_longest 2))
  else
  (some (0 : Int32))
def p_X4_rounds (R_longest : Int32)  : Option (Int32) := p_X4_rounds_b0 R_longest 
-- X5_renew
def p_X5_renew_b0 (S_form : Nat → Int32) (S_size : Nat → Int32) (S_items : Nat → Nat → Int32) (s0 : Nat) (x1 : Int32) (x2 : Int32) : Option ((Nat → Int32) × (Nat → Int32) × (Nat → Nat → Int32)) :=
  gd (decide (s0 < 4)) <|
  nm (upd S_form s0 x1) fun S_form_2 =>
  gd (decide (s0 < 4)) <|
  nm (upd S_size s0 x2) fun S_size_7 =>
  gd (decide (s0 < 4)) <|
  gd (decide (s0 < 4)) <|
  nm (va_up S_items s0 (fillF 60 0 (S_items s0))) fun S_items_15 =>
  some (S_form_2, S_size_7, S_items_15)
def p_X5_renew (S_form : Nat → Int32) (S_size : Nat → Int32) (S_items : Nat → Nat → Int32) (s0 : Nat) (x1 : Int32) (x2 : Int32) : Option ((Nat → Int32) × (Nat → Int32) × (Nat → Nat → Int32)) := p_X5_renew_b0 S_form S_size S_items s0 x1 x2
-- X5_holds
def p_X5_holds_b23 (S_size : Nat → Int32) (t0 : Int32) : Option (Int32) :=
  gd (isZ t0) <|
  some t0
def p_X5_holds_b22 (S_size : Nat → Int32)  : Option (Int32) :=
  p_X5_holds_b23 S_size 0
def p_X5_holds_b0 (S_size : Nat → Int32) (s0 : Nat) (x1 : Int32) (x2 : Int32) : Option (Int32) :=
  if x1 < 0 then
  (p_X5_holds_b22 S_size )
  else
  (if x2 < 0 then
  (p_X5_holds_b22 S_size )
  else
  (gd (decide (s0 < 4)) <|
  if ((S_size s0) - x2) < x1 then
  (p_X5_holds_b22 S_size )
  else
  (p_X5_holds_b23 S_size 1)))
def p_X5_holds (S_size : Nat → Int32) (s0 : Nat) (x1 : Int32) (x2 : Int32) : Option (Int32) := p_X5_holds_b0 S_size s0 x1 x2
-- X5_put
def p_X5_put_b44 (S_form : Nat → Int32) (S_items : Nat → Nat → Int32)  : Option ((Nat → Nat → Int32)) :=
  some (S_items)
def p_X5_put_b0 (S_form : Nat → Int32) (S_items : Nat → Nat → Int32) (s0 : Nat) (x1 : Int32) (x2 : Int32) : Option ((Nat → Nat → Int32)) :=
  gd (decide (s0 < 4)) <|
  if (S_form s0) = 0 then
  (gd (decide (s0 < 4)) <|
  gd (decide (s0 < 4)) <|
  gd (inB x1 60) <|
  nm (va_up S_items s0 (upd (S_items s0) x1.toNatClampNeg x2.toInt8.toInt32)) fun S_items_14 =>
  p_X5_put_b44 S_form S_items_14 )
  else
  (gd (decide (s0 < 4)) <|
  if (S_form s0) = 1 then
  (gd (decide (s0 < 4)) <|
  gd (decide (s0 < 4)) <|
  gd (inB x1 60) <|
  nm (va_up S_items s0 (upd (S_items s0) x1.toNatClampNeg x2.toInt16.toInt32)) fun S_items_33 =>
  p_X5_put_b44 S_form S_items_33 )
  else
  (gd (decide (s0 < 4)) <|
  gd (decide (s0 < 4)) <|
  gd (inB x1 60) <|
  nm (va_up S_items s0 (upd (S_items s0) x1.toNatClampNeg x2)) fun S_items_43 =>
  p_X5_put_b44 S_form S_items_43 ))
def p_X5_put (S_form : Nat → Int32) (S_items : Nat → Nat → Int32) (s0 : Nat) (x1 : Int32) (x2 : Int32) : Option ((Nat → Nat → Int32)) := p_X5_put_b0 S_form S_items s0 x1 x2
-- X6_mayTell
def p_X6_mayTell_b26  (t0 : Int32) : Option (Int32) :=
  gd (isZ t0) <|
  some t0
def p_X6_mayTell_b25   : Option (Int32) :=
  p_X6_mayTell_b26  0
def p_X6_mayTell_b0  (x1 : Int32) (x2 : Int32) : Option (Int32) :=
  if x1 < (-1) then
  (p_X6_mayTell_b25  )
  else
  (if 8 ≤ x1 then
  (p_X6_mayTell_b25  )
  else
  (if x2 < 0 then
  (p_X6_mayTell_b25  )
  else
  (if 8 ≤ x2 then
  (p_X6_mayTell_b25  )
  else
  (p_X6_mayTell_b26  1))))
def p_X6_mayTell  (x1 : Int32) (x2 : Int32) : Option (Int32) := p_X6_mayTell_b0  x1 x2
-- X6_tell
def p_X6_tell_b44 (W_size : Int32) (W_ready : Int32) (W_persons : Nat → Int32) (W_places : Nat → Int32)  : Option (Int32 × Int32 × (Nat → Int32) × (Nat → Int32)) :=
  some (W_size, W_ready, W_persons, W_places)
def p_X6_tell_b0 (W_size : Int32) (W_ready : Int32) (W_persons : Nat → Int32) (W_places : Nat → Int32) (x1 : Int32) (x2 : Int32) : Option (Int32 × Int32 × (Nat → Int32) × (Nat → Int32)) :=
  if 8 ≤ W_size then
  (p_X6_tell_b44 W_size W_ready W_persons W_places )
  else
  (gd (inB W_size 8) <|
  nm (upd W_persons W_size.toNatClampNeg x1) fun W_persons_18 =>
  gd (inB W_size 8) <|
  nm (upd W_places W_size.toNatClampNeg x2) fun W_places_28 =>
  nm ((W_size + 1) : Int32) fun W_size_36 =>
  p_X6_tell_b44 W_size_36 0 W_persons_18 W_places_28 )
def p_X6_tell (W_size : Int32) (W_ready : Int32) (W_persons : Nat → Int32) (W_places : Nat → Int32) (x1 : Int32) (x2 : Int32) : Option (Int32 × Int32 × (Nat → Int32) × (Nat → Int32)) := p_X6_tell_b0 W_size W_ready W_persons W_places x1 x2
-- X6_clear
def p_X6_clear_b0 (W_size : Int32) (W_ready : Int32)  : Option (Int32 × Int32) :=
  some (0, 0)
def p_X6_clear (W_size : Int32) (W_ready : Int32)  : Option (Int32 × Int32) := p_X6_clear_b0 W_size W_ready 
-- X6_forbid
def p_X6_forbid_b2x (K2 : (Nat → Int32) → Int32 → Int32 → Option ((Nat → Int32))) (W_allowed : Nat → Int32) (x1 : Int32) (x2 : Int32) : Option ((Nat → Int32)) :=
  if 8 ≤ x2 then
  (some (W_allowed))
  else
  (gd (inB x2 8) <|
  gd (inB x2 8) <|
  nm (upd W_allowed x2.toNatClampNeg ((W_allowed x2.toNatClampNeg) &&& (((1 : Int32) <<< (x1 &&& 31)) ^^^ (-1)))) fun W_allowed_21 =>
  nm (x2 + 1 : Int32) fun x22 =>
  K2 W_allowed_21 x1 x22)
def p_X6_forbid_b2 : Nat → (Nat → Int32) → Int32 → Int32 → Option ((Nat → Int32))
  | 0 => fun _ _ _ => none
  | n + 1 => p_X6_forbid_b2x (p_X6_forbid_b2 n)
def p_X6_forbid_b0 (W_allowed : Nat → Int32) (x1 : Int32) : Option ((Nat → Int32)) :=
  p_X6_forbid_b2 4096 W_allowed x1 0
def p_X6_forbid (W_allowed : Nat → Int32) (x1 : Int32) : Option ((Nat → Int32)) := p_X6_forbid_b0 W_allowed x1
-- X6_narrow
def p_X6_narrow_b112 (K16 : Int32 → Int32 → Int32 → (Nat → Int32) → (Nat → Int32) → (Nat → Int32) → Int32 → Option ((Nat → Int32))) (H_seats : Int32) (H_people : Int32) (W_size : Int32) (W_persons : Nat → Int32) (W_places : Nat → Int32) (W_allowed : Nat → Int32) (x1 : Int32) : Option ((Nat → Int32)) :=
  nm (x1 + 1 : Int32) fun x112 =>
  K16 H_seats H_people W_size W_persons W_places W_allowed x112
def p_X6_narrow_b56 (K16 : Int32 → Int32 → Int32 → (Nat → Int32) → (Nat → Int32) → (Nat → Int32) → Int32 → Option ((Nat → Int32))) (H_seats : Int32) (H_people : Int32) (W_size : Int32) (W_persons : Nat → Int32) (W_places : Nat → Int32) (W_allowed : Nat → Int32) (x1 : Int32) : Option ((Nat → Int32)) :=
  nm (fillF 8 0 W_allowed) fun W_allowed_61 =>
  p_X6_narrow_b112 K16 H_seats H_people W_size W_persons W_places W_allowed_61 x1
def p_X6_narrow_b16x (K16 : Int32 → Int32 → Int32 → (Nat → Int32) → (Nat → Int32) → (Nat → Int32) → Int32 → Option ((Nat → Int32))) (H_seats : Int32) (H_people : Int32) (W_size : Int32) (W_persons : Nat → Int32) (W_places : Nat → Int32) (W_allowed : Nat → Int32) (x1 : Int32) : Option ((Nat → Int32)) :=
  if W_size ≤ x1 then
  (some (W_allowed))
  else
  (gd (inB x1 8) <|
  if H_people ≤ (W_persons x1.toNatClampNeg) then
  (p_X6_narrow_b56 K16 H_seats H_people W_size W_persons W_places W_allowed x1)
  else
  (gd (inB x1 8) <|
  if (W_places x1.toNatClampNeg) < H_seats then
  (gd (inB x1 8) <|
  if (W_persons x1.toNatClampNeg) = (-1) then
  (gd (inB x1 8) <|
  b1 (p_X6_forbid W_allowed (W_places x1.toNatClampNeg)) fun W_allowed_84 =>
  p_X6_narrow_b112 K16 H_seats H_people W_size W_persons W_places W_allowed_84 x1)
  else
  (gd (inB x1 8) <|
  gd (inB (W_persons x1.toNatClampNeg) 8) <|
  gd (inB x1 8) <|
  gd (inB (W_persons x1.toNatClampNeg) 8) <|
  nm (upd W_allowed (W_persons x1.toNatClampNeg).toNatClampNeg ((W_allowed (W_persons x1.toNatClampNeg).toNatClampNeg) &&& ((1 : Int32) <<< ((W_places x1.toNatClampNeg) &&& 31)))) fun W_allowed_111 =>
  p_X6_narrow_b112 K16 H_seats H_people W_size W_persons W_places W_allowed_111 x1))
  else
  (p_X6_narrow_b56 K16 H_seats H_people W_size W_persons W_places W_allowed x1)))
def p_X6_narrow_b16 : Nat → Int32 → Int32 → Int32 → (Nat → Int32) → (Nat → Int32) → (Nat → Int32) → Int32 → Option ((Nat → Int32))
  | 0 => fun _ _ _ _ _ _ _ => none
  | n + 1 => p_X6_narrow_b16x (p_X6_narrow_b16 n)
def p_X6_narrow_b0 (H_seats : Int32) (H_people : Int32) (W_size : Int32) (W_persons : Nat → Int32) (W_places : Nat → Int32) (W_allowed : Nat → Int32)  : Option ((Nat → Int32)) :=
  b1 (p_X3_allSeats H_seats) fun r8 =>
  nm (fillF 8 r8 W_allowed) fun W_allowed_11 =>
  p_X6_narrow_b16 4096 H_seats H_people W_size W_persons W_places W_allowed_11 0
def p_X6_narrow (H_seats : Int32) (H_people : Int32) (W_size : Int32) (W_persons : Nat → Int32) (W_places : Nat → Int32) (W_allowed : Nat → Int32)  : Option ((Nat → Int32)) := p_X6_narrow_b0 H_seats H_people W_size W_persons W_places W_allowed 
-- X6_spread
def p_X6_spread_b56 (K19 : Int32 → (Nat → Int64) → Int32 → Int32 → Int64 → Int32 → Option ((Nat → Int64))) (H_seats : Int32) (W_reach : Nat → Int64) (x1 : Int32) (x2 : Int32) (x4 : Int64) (x6 : Int32) : Option ((Nat → Int64)) :=
  nm (x6 + 1 : Int32) fun x56 =>
  K19 H_seats W_reach x1 x2 x4 x56
def p_X6_spread_b19x (K19 : Int32 → (Nat → Int64) → Int32 → Int32 → Int64 → Int32 → Option ((Nat → Int64))) (H_seats : Int32) (W_reach : Nat → Int64) (x1 : Int32) (x2 : Int32) (x4 : Int64) (x6 : Int32) : Option ((Nat → Int64)) :=
  if H_seats ≤ x6 then
  (some (W_reach))
  else
  (b1 (p_X3_has  x2 x6) fun r34 =>
  if r34 = 0 then
  (p_X6_spread_b56 K19 H_seats W_reach x1 x2 x4 x6)
  else
  (gd (inB (x1 ||| ((1 : Int32) <<< (x6 &&& 31))) 256) <|
  gd (inB (x1 ||| ((1 : Int32) <<< (x6 &&& 31))) 256) <|
  nm (vp_updL W_reach (x1 ||| ((1 : Int32) <<< (x6 &&& 31))).toNatClampNeg ((W_reach (x1 ||| ((1 : Int32) <<< (x6 &&& 31))).toNatClampNeg) + x4)) fun W_reach_55 =>
  p_X6_spread_b56 K19 H_seats W_reach_55 x1 x2 x4 x6))
def p_X6_spread_b19 : Nat → Int32 → (Nat → Int64) → Int32 → Int32 → Int64 → Int32 → Option ((Nat → Int64))
  | 0 => fun _ _ _ _ _ _ => none
  | n + 1 => p_X6_spread_b19x (p_X6_spread_b19 n)
def p_X6_spread_b0 (H_seats : Int32) (W_reach : Nat → Int64) (x1 : Int32) (x2 : Int32) (x3 : Int32) : Option ((Nat → Int64)) :=
  if x3 = 0 then
  (some (W_reach))
  else
  (gd (inB x1 256) <|
  gd (decide (¬ x3.toInt64 = 0)) <|
  nm (((W_reach x1.toNatClampNeg) / x3.toInt64) : Int64) fun x14 =>
  p_X6_spread_b19 4096 H_seats W_reach x1 x2 x14 0)
def p_X6_spread (H_seats : Int32) (W_reach : Nat → Int64) (x1 : Int32) (x2 : Int32) (x3 : Int32) : Option ((Nat → Int64)) := p_X6_spread_b0 H_seats W_reach x1 x2 x3
-- X6_walkForward
def p_X6_walkForward_b103 (K27 : Int32 → Int32 → (Nat → Int32) → (Nat → Int32) → (Nat → Int32) → (Nat → Int32) → (Nat → Int32) → (Nat → Int64) → Int32 → Int32 → Option ((Nat → Int64))) (H_seats : Int32) (H_people : Int32) (H_sorts : Nat → Int32) (H_bySort : Nat → Int32) (H_owns : Nat → Int32) (W_allowed : Nat → Int32) (W_kinds : Nat → Int32) (W_reach : Nat → Int64) (x1 : Int32) (x2 : Int32) : Option ((Nat → Int64)) :=
  nm (x2 + 1 : Int32) fun x103 =>
  K27 H_seats H_people H_sorts H_bySort H_owns W_allowed W_kinds W_reach x1 x103
def p_X6_walkForward_b27x (K27 : Int32 → Int32 → (Nat → Int32) → (Nat → Int32) → (Nat → Int32) → (Nat → Int32) → (Nat → Int32) → (Nat → Int64) → Int32 → Int32 → Option ((Nat → Int64))) (H_seats : Int32) (H_people : Int32) (H_sorts : Nat → Int32) (H_bySort : Nat → Int32) (H_owns : Nat → Int32) (W_allowed : Nat → Int32) (W_kinds : Nat → Int32) (W_reach : Nat → Int64) (x1 : Int32) (x2 : Int32) : Option ((Nat → Int64)) :=
  if x1 < x2 then
  (some (W_reach))
  else
  (b1 (p_J6_bitCount_0f7a4  x2) fun r33 =>
  gd (inB x2 256) <|
  if (lg_cmp (W_reach x2.toNatClampNeg) 0) = 0 then
  (p_X6_walkForward_b103 K27 H_seats H_people H_sorts H_bySort H_owns W_allowed W_kinds W_reach x1 x2)
  else
  (if H_people ≤ r33 then
  (p_X6_walkForward_b103 K27 H_seats H_people H_sorts H_bySort H_owns W_allowed W_kinds W_reach x1 x2)
  else
  (gd (inB r33 8) <|
  gd (inB r33 8) <|
  b1 (p_X3_choices H_seats H_sorts H_bySort x2 (H_owns r33.toNatClampNeg) (W_kinds r33.toNatClampNeg)) fun r79 =>
  gd (inB r33 8) <|
  b1 (p_J6_bitCount_0f7a4  r79) fun r97 =>
  b1 (p_X6_spread H_seats W_reach x2 (r79 &&& (W_allowed r33.toNatClampNeg)) r97) fun W_reach_100 =>
  p_X6_walkForward_b103 K27 H_seats H_people H_sorts H_bySort H_owns W_allowed W_kinds W_reach_100 x1 x2)))
def p_X6_walkForward_b27 : Nat → Int32 → Int32 → (Nat → Int32) → (Nat → Int32) → (Nat → Int32) → (Nat → Int32) → (Nat → Int32) → (Nat → Int64) → Int32 → Int32 → Option ((Nat → Int64))
  | 0 => fun _ _ _ _ _ _ _ _ _ _ => none
  | n + 1 => p_X6_walkForward_b27x (p_X6_walkForward_b27 n)
def p_X6_walkForward_b0 (H_seats : Int32) (H_people : Int32) (H_sorts : Nat → Int32) (H_bySort : Nat → Int32) (H_owns : Nat → Int32) (W_allowed : Nat → Int32) (W_kinds : Nat → Int32) (W_reach : Nat → Int64)  : Option ((Nat → Int64)) :=
  nm (fillL 256 0 W_reach) fun W_reach_5 =>
  gd (inB 0 256) <|
  nm (vp_updL W_reach_5 (0 : Int32).toNatClampNeg 182891520000) fun W_reach_16 =>
  b1 (p_X3_allSeats H_seats) fun r21 =>
  p_X6_walkForward_b27 4096 H_seats H_people H_sorts H_bySort H_owns W_allowed W_kinds W_reach_16 r21 0
def p_X6_walkForward (H_seats : Int32) (H_people : Int32) (H_sorts : Nat → Int32) (H_bySort : Nat → Int32) (H_owns : Nat → Int32) (W_allowed : Nat → Int32) (W_kinds : Nat → Int32) (W_reach : Nat → Int64)  : Option ((Nat → Int64)) := p_X6_walkForward_b0 H_seats H_people H_sorts H_bySort H_owns W_allowed W_kinds W_reach 
-- X6_weightAtLast
def p_X6_weightAtLast_b46 (K13 : Int32 → Int32 → (Nat → Int64) → Int64 → Int32 → Int32 → Option (Int64)) (H_seats : Int32) (H_people : Int32) (W_reach : Nat → Int64) (t0 : Int64) (t1 : Int64) (x3 : Int32) (x4 : Int32) : Option (Int64) :=
  nm ((t0 + t1) : Int64) fun x47 =>
  nm (x4 + 1 : Int32) fun x48 =>
  K13 H_seats H_people W_reach x47 x3 x48
def p_X6_weightAtLast_b13x (K13 : Int32 → Int32 → (Nat → Int64) → Int64 → Int32 → Int32 → Option (Int64)) (H_seats : Int32) (H_people : Int32) (W_reach : Nat → Int64) (x1 : Int64) (x3 : Int32) (x4 : Int32) : Option (Int64) :=
  if x3 < x4 then
  (some x1)
  else
  (b1 (p_J6_bitCount_0f7a4  x4) fun r22 =>
  if r22 = H_people then
  (gd (inB x4 256) <|
  p_X6_weightAtLast_b46 K13 H_seats H_people W_reach x1 (W_reach x4.toNatClampNeg) x3 x4)
  else
  (p_X6_weightAtLast_b46 K13 H_seats H_people W_reach x1 0 x3 x4))
def p_X6_weightAtLast_b13 : Nat → Int32 → Int32 → (Nat → Int64) → Int64 → Int32 → Int32 → Option (Int64)
  | 0 => fun _ _ _ _ _ _ => none
  | n + 1 => p_X6_weightAtLast_b13x (p_X6_weightAtLast_b13 n)
def p_X6_weightAtLast_b0 (H_seats : Int32) (H_people : Int32) (W_reach : Nat → Int64)  : Option (Int64) :=
  b1 (p_X3_allSeats H_seats) fun r6 =>
  p_X6_weightAtLast_b13 4096 H_seats H_people W_reach 0 r6 0
def p_X6_weightAtLast (H_seats : Int32) (H_people : Int32) (W_reach : Nat → Int64)  : Option (Int64) := p_X6_weightAtLast_b0 H_seats H_people W_reach 
-- X6_waysOn
def p_X6_waysOn_b49 (K5 : Int32 → (Nat → Int64) → Int32 → Int32 → Int32 → Int32 → Option (Int32)) (H_seats : Int32) (W_reach : Nat → Int64) (x1 : Int32) (x2 : Int32) (x3 : Int32) (x4 : Int32) : Option (Int32) :=
  nm (x4 + 1 : Int32) fun x49 =>
  K5 H_seats W_reach x1 x2 x3 x49
def p_X6_waysOn_b5x (K5 : Int32 → (Nat → Int64) → Int32 → Int32 → Int32 → Int32 → Option (Int32)) (H_seats : Int32) (W_reach : Nat → Int64) (x1 : Int32) (x2 : Int32) (x3 : Int32) (x4 : Int32) : Option (Int32) :=
  if H_seats ≤ x4 then
  (some x3)
  else
  (b1 (p_X3_has  x2 x4) fun r20 =>
  if r20 = 0 then
  (p_X6_waysOn_b49 K5 H_seats W_reach x1 x2 x3 x4)
  else
  (gd (inB (x1 ||| ((1 : Int32) <<< (x4 &&& 31))) 256) <|
  if (lg_cmp (W_reach (x1 ||| ((1 : Int32) <<< (x4 &&& 31))).toNatClampNeg) 0) = 0 then
  (p_X6_waysOn_b49 K5 H_seats W_reach x1 x2 x3 x4)
  else
  (nm ((x3 ||| ((1 : Int32) <<< (x4 &&& 31))) : Int32) fun x48 =>
  p_X6_waysOn_b49 K5 H_seats W_reach x1 x2 x48 x4)))
def p_X6_waysOn_b5 : Nat → Int32 → (Nat → Int64) → Int32 → Int32 → Int32 → Int32 → Option (Int32)
  | 0 => fun _ _ _ _ _ _ => none
  | n + 1 => p_X6_waysOn_b5x (p_X6_waysOn_b5 n)
def p_X6_waysOn_b0 (H_seats : Int32) (W_reach : Nat → Int64) (x1 : Int32) (x2 : Int32) : Option (Int32) :=
  p_X6_waysOn_b5 4096 H_seats W_reach x1 x2 0 0
def p_X6_waysOn (H_seats : Int32) (W_reach : Nat → Int64) (x1 : Int32) (x2 : Int32) : Option (Int32) := p_X6_waysOn_b0 H_seats W_reach x1 x2
-- X6_walkBackward
def p_X6_walkBackward_b108 (K8 : Int32 → Int32 → (Nat → Int32) → (Nat → Int32) → (Nat → Int32) → (Nat → Int32) → (Nat → Int32) → (Nat → Int32) → (Nat → Int64) → Int32 → Int32 → Option ((Nat → Int32) × (Nat → Int64))) (H_seats : Int32) (H_people : Int32) (H_sorts : Nat → Int32) (H_bySort : Nat → Int32) (H_owns : Nat → Int32) (W_allowed : Nat → Int32) (W_kinds : Nat → Int32) (W_answers : Nat → Int32) (W_reach : Nat → Int64) (x1 : Int32) (x2 : Int32) : Option ((Nat → Int32) × (Nat → Int64)) :=
  nm (x2 + (-1) : Int32) fun x108 =>
  K8 H_seats H_people H_sorts H_bySort H_owns W_allowed W_kinds W_answers W_reach x1 x108
def p_X6_walkBackward_b8x (K8 : Int32 → Int32 → (Nat → Int32) → (Nat → Int32) → (Nat → Int32) → (Nat → Int32) → (Nat → Int32) → (Nat → Int32) → (Nat → Int64) → Int32 → Int32 → Option ((Nat → Int32) × (Nat → Int64))) (H_seats : Int32) (H_people : Int32) (H_sorts : Nat → Int32) (H_bySort : Nat → Int32) (H_owns : Nat → Int32) (W_allowed : Nat → Int32) (W_kinds : Nat → Int32) (W_answers : Nat → Int32) (W_reach : Nat → Int64) (x1 : Int32) (x2 : Int32) : Option ((Nat → Int32) × (Nat → Int64)) :=
  if x2 < 0 then
  (some (W_answers, W_reach))
  else
  (b1 (p_J6_bitCount_0f7a4  x2) fun r13 =>
  gd (inB x2 256) <|
  if (lg_cmp (W_reach x2.toNatClampNeg) 0) = 0 then
  (p_X6_walkBackward_b108 K8 H_seats H_people H_sorts H_bySort H_owns W_allowed W_kinds W_answers W_reach x1 x2)
  else
  (if H_people ≤ r13 then
  (p_X6_walkBackward_b108 K8 H_seats H_people H_sorts H_bySort H_owns W_allowed W_kinds W_answers W_reach x1 x2)
  else
  (gd (inB r13 8) <|
  gd (inB r13 8) <|
  b1 (p_X3_choices H_seats H_sorts H_bySort x2 (H_owns r13.toNatClampNeg) (W_kinds r13.toNatClampNeg)) fun r59 =>
  gd (inB r13 8) <|
  b1 (p_X6_waysOn H_seats W_reach x2 (r59 &&& (W_allowed r13.toNatClampNeg))) fun r75 =>
  gd (inB ((x1 * 8) + r13) 64) <|
  gd (inB ((x1 * 8) + r13) 64) <|
  nm (upd W_answers ((x1 * 8) + r13).toNatClampNeg ((W_answers ((x1 * 8) + r13).toNatClampNeg) ||| r75)) fun W_answers_95 =>
  if r75 = 0 then
  (gd (inB x2 256) <|
  nm (vp_updL W_reach x2.toNatClampNeg 0) fun W_reach_107 =>
  p_X6_walkBackward_b108 K8 H_seats H_people H_sorts H_bySort H_owns W_allowed W_kinds W_answers_95 W_reach_107 x1 x2)
  else
  (p_X6_walkBackward_b108 K8 H_seats H_people H_sorts H_bySort H_owns W_allowed W_kinds W_answers_95 W_reach x1 x2))))
def p_X6_walkBackward_b8 : Nat → Int32 → Int32 → (Nat → Int32) → (Nat → Int32) → (Nat → Int32) → (Nat → Int32) → (Nat → Int32) → (Nat → Int32) → (Nat → Int64) → Int32 → Int32 → Option ((Nat → Int32) × (Nat → Int64))
  | 0 => fun _ _ _ _ _ _ _ _ _ _ _ => none
  | n + 1 => p_X6_walkBackward_b8x (p_X6_walkBackward_b8 n)
def p_X6_walkBackward_b0 (H_seats : Int32) (H_people : Int32) (H_sorts : Nat → Int32) (H_bySort : Nat → Int32) (H_owns : Nat → Int32) (W_allowed : Nat → Int32) (W_kinds : Nat → Int32) (W_answers : Nat → Int32) (W_reach : Nat → Int64) (x1 : Int32) : Option ((Nat → Int32) × (Nat → Int64)) :=
  b1 (p_X3_allSeats H_seats) fun r4 =>
  p_X6_walkBackward_b8 4096 H_seats H_people H_sorts H_bySort H_owns W_allowed W_kinds W_answers W_reach x1 r4
def p_X6_walkBackward (H_seats : Int32) (H_people : Int32) (H_sorts : Nat → Int32) (H_bySort : Nat → Int32) (H_owns : Nat → Int32) (W_allowed : Nat → Int32) (W_kinds : Nat → Int32) (W_answers : Nat → Int32) (W_reach : Nat → Int64) (x1 : Int32) : Option ((Nat → Int32) × (Nat → Int64)) := p_X6_walkBackward_b0 H_seats H_people H_sorts H_bySort H_owns W_allowed W_kinds W_answers W_reach x1
-- X6_suspect
def p_X6_suspect_b82 (H_seats : Int32) (H_people : Int32) (W_suspects : Int32) (W_total : Int64) (H_sorts : Nat → Int32) (H_bySort : Nat → Int32) (H_owns : Nat → Int32) (H_kinds : Nat → Int32) (W_allowed : Nat → Int32) (W_kinds : Nat → Int32) (W_answers : Nat → Int32) (W_weights : Nat → Int64) (W_reach : Nat → Int64)  : Option (Int32 × Int64 × (Nat → Int32) × (Nat → Int32) × (Nat → Int64) × (Nat → Int64)) :=
  some (W_suspects, W_total, W_kinds, W_answers, W_weights, W_reach)
def p_X6_suspect_b0 (H_seats : Int32) (H_people : Int32) (W_suspects : Int32) (W_total : Int64) (H_sorts : Nat → Int32) (H_bySort : Nat → Int32) (H_owns : Nat → Int32) (H_kinds : Nat → Int32) (W_allowed : Nat → Int32) (W_kinds : Nat → Int32) (W_answers : Nat → Int32) (W_weights : Nat → Int64) (W_reach : Nat → Int64) (x1 : Int32) : Option (Int32 × Int64 × (Nat → Int32) × (Nat → Int32) × (Nat → Int64) × (Nat → Int64)) :=
  gd (cpB 0 0 8 8 8) <|
  nm (va_cpy H_kinds W_kinds (0 : Int32).toNatClampNeg (0 : Int32).toNatClampNeg (8 : Int32).toNatClampNeg) fun W_kinds_15 =>
  gd (inB x1 8) <|
  nm (upd W_kinds_15 x1.toNatClampNeg 1) fun W_kinds_24 =>
  b1 (p_X6_walkForward H_seats H_people H_sorts H_bySort H_owns W_allowed W_kinds_24 W_reach) fun W_reach_26 =>
  b1 (p_X6_weightAtLast H_seats H_people W_reach_26) fun r35 =>
  gd (inB x1 8) <|
  nm (vp_updL W_weights x1.toNatClampNeg r35) fun W_weights_38 =>
  gd (inB x1 8) <|
  nm ((W_total + (W_weights_38 x1.toNatClampNeg)) : Int64) fun W_total_51 =>
  gd (inB x1 8) <|
  if (lg_cmp (W_weights_38 x1.toNatClampNeg) 0) = 0 then
  (p_X6_suspect_b82 H_seats H_people W_suspects W_total_51 H_sorts H_bySort H_owns H_kinds W_allowed W_kinds_24 W_answers W_weights_38 W_reach_26 )
  else
  (nm ((W_suspects ||| ((1 : Int32) <<< (x1 &&& 31))) : Int32) fun W_suspects_74 =>
  b2 (p_X6_walkBackward H_seats H_people H_sorts H_bySort H_owns W_allowed W_kinds_24 W_answers W_reach_26 x1) fun W_answers_79 W_reach_79 =>
  p_X6_suspect_b82 H_seats H_people W_suspects_74 W_total_51 H_sorts H_bySort H_owns H_kinds W_allowed W_kinds_24 W_answers_79 W_weights_38 W_reach_79 )
def p_X6_suspect (H_seats : Int32) (H_people : Int32) (W_suspects : Int32) (W_total : Int64) (H_sorts : Nat → Int32) (H_bySort : Nat → Int32) (H_owns : Nat → Int32) (H_kinds : Nat → Int32) (W_allowed : Nat → Int32) (W_kinds : Nat → Int32) (W_answers : Nat → Int32) (W_weights : Nat → Int64) (W_reach : Nat → Int64) (x1 : Int32) : Option (Int32 × Int64 × (Nat → Int32) × (Nat → Int32) × (Nat → Int64) × (Nat → Int64)) := p_X6_suspect_b0 H_seats H_people W_suspects W_total H_sorts H_bySort H_owns H_kinds W_allowed W_kinds W_answers W_weights W_reach x1
-- X6_refresh
def p_X6_refresh_b68 (K40 : Int32 → Int32 → Int32 → Int32 → Int32 → Int64 → (Nat → Int32) → (Nat → Int32) → (Nat → Int32) → (Nat → Int32) → (Nat → Int32) → (Nat → Int32) → (Nat → Int32) → (Nat → Int32) → (Nat → Int32) → (Nat → Int64) → (Nat → Int64) → Int32 → Option (Int32 × Int32 × Int64 × (Nat → Int32) × (Nat → Int32) × (Nat → Int32) × (Nat → Int64) × (Nat → Int64))) (H_seats : Int32) (H_people : Int32) (W_size : Int32) (W_suspects : Int32) (W_ready : Int32) (W_total : Int64) (H_sorts : Nat → Int32) (H_bySort : Nat → Int32) (H_owns : Nat → Int32) (H_kinds : Nat → Int32) (W_persons : Nat → Int32) (W_places : Nat → Int32) (W_allowed : Nat → Int32) (W_kinds : Nat → Int32) (W_answers : Nat → Int32) (W_weights : Nat → Int64) (W_reach : Nat → Int64) (x1 : Int32) : Option (Int32 × Int32 × Int64 × (Nat → Int32) × (Nat → Int32) × (Nat → Int32) × (Nat → Int64) × (Nat → Int64)) :=
  nm (x1 + 1 : Int32) fun x68 =>
  K40 H_seats H_people W_size W_suspects W_ready W_total H_sorts H_bySort H_owns H_kinds W_persons W_places W_allowed W_kinds W_answers W_weights W_reach x68
def p_X6_refresh_b40x (K40 : Int32 → Int32 → Int32 → Int32 → Int32 → Int64 → (Nat → Int32) → (Nat → Int32) → (Nat → Int32) → (Nat → Int32) → (Nat → Int32) → (Nat → Int32) → (Nat → Int32) → (Nat → Int32) → (Nat → Int32) → (Nat → Int64) → (Nat → Int64) → Int32 → Option (Int32 × Int32 × Int64 × (Nat → Int32) × (Nat → Int32) × (Nat → Int32) × (Nat → Int64) × (Nat → Int64))) (H_seats : Int32) (H_people : Int32) (W_size : Int32) (W_suspects : Int32) (W_ready : Int32) (W_total : Int64) (H_sorts : Nat → Int32) (H_bySort : Nat → Int32) (H_owns : Nat → Int32) (H_kinds : Nat → Int32) (W_persons : Nat → Int32) (W_places : Nat → Int32) (W_allowed : Nat → Int32) (W_kinds : Nat → Int32) (W_answers : Nat → Int32) (W_weights : Nat → Int64) (W_reach : Nat → Int64) (x1 : Int32) : Option (Int32 × Int32 × Int64 × (Nat → Int32) × (Nat → Int32) × (Nat → Int32) × (Nat → Int64) × (Nat → Int64)) :=
  if H_people ≤ x1 then
  (some (W_suspects, 1, W_total, W_allowed, W_kinds, W_answers, W_weights, W_reach))
  else
  (gd (inB x1 8) <|
  if (H_kinds x1.toNatClampNeg) = 0 then
  (b6 (p_X6_suspect H_seats H_people W_suspects W_total H_sorts H_bySort H_owns H_kinds W_allowed W_kinds W_answers W_weights W_reach x1) fun W_suspects_65 W_total_65 W_kinds_65 W_answers_65 W_weights_65 W_reach_65 =>
  p_X6_refresh_b68 K40 H_seats H_people W_size W_suspects_65 W_ready W_total_65 H_sorts H_bySort H_owns H_kinds W_persons W_places W_allowed W_kinds_65 W_answers_65 W_weights_65 W_reach_65 x1)
  else
  (p_X6_refresh_b68 K40 H_seats H_people W_size W_suspects W_ready W_total H_sorts H_bySort H_owns H_kinds W_persons W_places W_allowed W_kinds W_answers W_weights W_reach x1))
def p_X6_refresh_b40 : Nat → Int32 → Int32 → Int32 → Int32 → Int32 → Int64 → (Nat → Int32) → (Nat → Int32) → (Nat → Int32) → (Nat → Int32) → (Nat → Int32) → (Nat → Int32) → (Nat → Int32) → (Nat → Int32) → (Nat → Int32) → (Nat → Int64) → (Nat → Int64) → Int32 → Option (Int32 × Int32 × Int64 × (Nat → Int32) × (Nat → Int32) × (Nat → Int32) × (Nat → Int64) × (Nat → Int64))
  | 0 => fun _ _ _ _ _ _ _ _ _ _ _ _ _ _ _ _ _ _ => none
  | n + 1 => p_X6_refresh_b40x (p_X6_refresh_b40 n)
def p_X6_refresh_b0 (H_seats : Int32) (H_people : Int32) (W_size : Int32) (W_suspects : Int32) (W_ready : Int32) (W_total : Int64) (H_sorts : Nat → Int32) (H_bySort : Nat → Int32) (H_owns : Nat → Int32) (H_kinds : Nat → Int32) (W_persons : Nat → Int32) (W_places : Nat → Int32) (W_allowed : Nat → Int32) (W_kinds : Nat → Int32) (W_answers : Nat → Int32) (W_weights : Nat → Int64) (W_reach : Nat → Int64)  : Option (Int32 × Int32 × Int64 × (Nat → Int32) × (Nat → Int32) × (Nat → Int32) × (Nat → Int64) × (Nat → Int64)) :=
  if W_ready = 0 then
  (nm (fillL 8 0 W_weights) fun W_weights_13 =>
  nm (fillF 64 0 W_answers) fun W_answers_21 =>
  b1 (p_X6_narrow H_seats H_people W_size W_persons W_places W_allowed) fun W_allowed_35 =>
  p_X6_refresh_b40 4096 H_seats H_people W_size 0 W_ready 0 H_sorts H_bySort H_owns H_kinds W_persons W_places W_allowed_35 W_kinds W_answers_21 W_weights_13 W_reach 0)
  else
  (some (W_suspects, W_ready, W_total, W_allowed, W_kinds, W_answers, W_weights, W_reach))
def p_X6_refresh (H_seats : Int32) (H_people : Int32) (W_size : Int32) (W_suspects : Int32) (W_ready : Int32) (W_total : Int64) (H_sorts : Nat → Int32) (H_bySort : Nat → Int32) (H_owns : Nat → Int32) (H_kinds : Nat → Int32) (W_persons : Nat → Int32) (W_places : Nat → Int32) (W_allowed : Nat → Int32) (W_kinds : Nat → Int32) (W_answers : Nat → Int32) (W_weights : Nat → Int64) (W_reach : Nat → Int64)  : Option (Int32 × Int32 × Int64 × (Nat → Int32) × (Nat → Int32) × (Nat → Int32) × (Nat → Int64) × (Nat → Int64)) := p_X6_refresh_b0 H_seats H_people W_size W_suspects W_ready W_total H_sorts H_bySort H_owns H_kinds W_persons W_places W_allowed W_kinds W_answers W_weights W_reach 
-- X6_heaviest
def p_X6_heaviest_b42 (K7 : Int32 → (Nat → Int64) → Int32 → Int64 → Int32 → Option (Int32)) (H_people : Int32) (W_weights : Nat → Int64) (x1 : Int32) (x2 : Int64) (x4 : Int32) : Option (Int32) :=
  nm (x4 + 1 : Int32) fun x42 =>
  K7 H_people W_weights x1 x2 x42
def p_X6_heaviest_b7x (K7 : Int32 → (Nat → Int64) → Int32 → Int64 → Int32 → Option (Int32)) (H_people : Int32) (W_weights : Nat → Int64) (x1 : Int32) (x2 : Int64) (x4 : Int32) : Option (Int32) :=
  if H_people ≤ x4 then
  (some x1)
  else
  (gd (inB x4 8) <|
  if (lg_cmp (W_weights x4.toNatClampNeg) x2) ≤ 0 then
  (p_X6_heaviest_b42 K7 H_people W_weights x1 x2 x4)
  else
  (gd (inB x4 8) <|
  nm ((W_weights x4.toNatClampNeg) : Int64) fun x38 =>
  p_X6_heaviest_b42 K7 H_people W_weights x4 x38 x4))
def p_X6_heaviest_b7 : Nat → Int32 → (Nat → Int64) → Int32 → Int64 → Int32 → Option (Int32)
  | 0 => fun _ _ _ _ _ => none
  | n + 1 => p_X6_heaviest_b7x (p_X6_heaviest_b7 n)
def p_X6_heaviest_b0 (H_people : Int32) (W_weights : Nat → Int64)  : Option (Int32) :=
  p_X6_heaviest_b7 4096 H_people W_weights (-1) 0 0
def p_X6_heaviest (H_people : Int32) (W_weights : Nat → Int64)  : Option (Int32) := p_X6_heaviest_b0 H_people W_weights 
-- X6_worstCase
def p_X6_worstCase_b59 (K4 : Int32 → Int32 → (Nat → Int32) → Int32 → Int32 → Int32 → Option (Int32)) (K21 : Int32 → Int32 → (Nat → Int32) → Int32 → Int32 → Int32 → Int32 → Int32 → Option (Int32)) (H_seats : Int32) (H_people : Int32) (W_answers : Nat → Int32) (t0 : Int32) (t1 : Int32) (x1 : Int32) (x2 : Int32) (x3 : Int32) (x5 : Int32) : Option (Int32) :=
  nm ((t0 + t1) : Int32) fun x60 =>
  nm (x5 + 1 : Int32) fun x62 =>
  K21 H_seats H_people W_answers x1 x2 x3 x60 x62
def p_X6_worstCase_b21x (K4 : Int32 → Int32 → (Nat → Int32) → Int32 → Int32 → Int32 → Option (Int32)) (K21 : Int32 → Int32 → (Nat → Int32) → Int32 → Int32 → Int32 → Int32 → Int32 → Option (Int32)) (H_seats : Int32) (H_people : Int32) (W_answers : Nat → Int32) (x1 : Int32) (x2 : Int32) (x3 : Int32) (x4 : Int32) (x5 : Int32) : Option (Int32) :=
  if H_people ≤ x5 then
  (nm ((if x2 < x4 then x4 else x2) : Int32) fun x74 =>
  nm (x3 + 1 : Int32) fun x75 =>
  K4 H_seats H_people W_answers x1 x74 x75)
  else
  (gd (inB ((x5 * 8) + x1) 64) <|
  b1 (p_X3_has  (W_answers ((x5 * 8) + x1).toNatClampNeg) x3) fun r48 =>
  if r48 = 0 then
  (p_X6_worstCase_b59 K4 K21 H_seats H_people W_answers x4 0 x1 x2 x3 x5)
  else
  (p_X6_worstCase_b59 K4 K21 H_seats H_people W_answers x4 1 x1 x2 x3 x5))
def p_X6_worstCase_b21 (K4 : Int32 → Int32 → (Nat → Int32) → Int32 → Int32 → Int32 → Option (Int32)) : Nat → Int32 → Int32 → (Nat → Int32) → Int32 → Int32 → Int32 → Int32 → Int32 → Option (Int32)
  | 0 => fun _ _ _ _ _ _ _ _ => none
  | n + 1 => p_X6_worstCase_b21x K4 (p_X6_worstCase_b21 K4 n)
def p_X6_worstCase_b4x (K4 : Int32 → Int32 → (Nat → Int32) → Int32 → Int32 → Int32 → Option (Int32)) (H_seats : Int32) (H_people : Int32) (W_answers : Nat → Int32) (x1 : Int32) (x2 : Int32) (x3 : Int32) : Option (Int32) :=
  if H_seats ≤ x3 then
  (some x2)
  else
  (p_X6_worstCase_b21 K4 4096 H_seats H_people W_answers x1 x2 x3 0 0)
def p_X6_worstCase_b4 : Nat → Int32 → Int32 → (Nat → Int32) → Int32 → Int32 → Int32 → Option (Int32)
  | 0 => fun _ _ _ _ _ _ => none
  | n + 1 => p_X6_worstCase_b4x (p_X6_worstCase_b4 n)
def p_X6_worstCase_b0 (H_seats : Int32) (H_people : Int32) (W_answers : Nat → Int32) (x1 : Int32) : Option (Int32) :=
  p_X6_worstCase_b4 4096 H_seats H_people W_answers x1 0 0
def p_X6_worstCase (H_seats : Int32) (H_people : Int32) (W_answers : Nat → Int32) (x1 : Int32) : Option (Int32) := p_X6_worstCase_b0 H_seats H_people W_answers x1
-- X6_wasSeen
def p_X6_wasSeen_b2x (K2 : Int32 → (Nat → Int32) → Int32 → Int32 → Option (Int32)) (W_size : Int32) (W_persons : Nat → Int32) (x1 : Int32) (x2 : Int32) : Option (Int32) :=
  if W_size ≤ x2 then
  (some (0 : Int32))
  else
  (gd (inB x2 8) <|
  if (W_persons x2.toNatClampNeg) = x1 then
  (some (1 : Int32))
  else
  (nm (x2 + 1 : Int32) fun x22 =>
  K2 W_size W_persons x1 x22))
def p_X6_wasSeen_b2 : Nat → Int32 → (Nat → Int32) → Int32 → Int32 → Option (Int32)
  | 0 => fun _ _ _ _ => none
  | n + 1 => p_X6_wasSeen_b2x (p_X6_wasSeen_b2 n)
def p_X6_wasSeen_b0 (W_size : Int32) (W_persons : Nat → Int32) (x1 : Int32) : Option (Int32) :=
  p_X6_wasSeen_b2 4096 W_size W_persons x1 0
def p_X6_wasSeen (W_size : Int32) (W_persons : Nat → Int32) (x1 : Int32) : Option (Int32) := p_X6_wasSeen_b0 W_size W_persons x1
-- X6_whomToAsk
def p_X6_whomToAsk_b57 (H_seats : Int32) (H_people : Int32) (W_size : Int32) (W_suspects : Int32) (W_persons : Nat → Int32) (W_answers : Nat → Int32) (x1 : Int32) : Option (Int32) :=
  some x1
def p_X6_whomToAsk_b51 (K7 : Int32 → Int32 → Int32 → Int32 → (Nat → Int32) → (Nat → Int32) → Int32 → Int32 → Int32 → Option (Int32)) (H_seats : Int32) (H_people : Int32) (W_size : Int32) (W_suspects : Int32) (W_persons : Nat → Int32) (W_answers : Nat → Int32) (x1 : Int32) (x2 : Int32) (x3 : Int32) : Option (Int32) :=
  nm (x3 + 1 : Int32) fun x51 =>
  K7 H_seats H_people W_size W_suspects W_persons W_answers x1 x2 x51
def p_X6_whomToAsk_b7x (K7 : Int32 → Int32 → Int32 → Int32 → (Nat → Int32) → (Nat → Int32) → Int32 → Int32 → Int32 → Option (Int32)) (H_seats : Int32) (H_people : Int32) (W_size : Int32) (W_suspects : Int32) (W_persons : Nat → Int32) (W_answers : Nat → Int32) (x1 : Int32) (x2 : Int32) (x3 : Int32) : Option (Int32) :=
  if H_people ≤ x3 then
  (p_X6_whomToAsk_b57 H_seats H_people W_size W_suspects W_persons W_answers x1)
  else
  (if W_suspects = 0 then
  (p_X6_whomToAsk_b57 H_seats H_people W_size W_suspects W_persons W_answers x1)
  else
  (b1 (p_X6_worstCase H_seats H_people W_answers x3) fun r27 =>
  b1 (p_X6_wasSeen W_size W_persons x3) fun r34 =>
  if r34 = 0 then
  (if x2 ≤ r27 then
  (p_X6_whomToAsk_b51 K7 H_seats H_people W_size W_suspects W_persons W_answers x1 x2 x3)
  else
  (p_X6_whomToAsk_b51 K7 H_seats H_people W_size W_suspects W_persons W_answers x3 r27 x3))
  else
  (p_X6_whomToAsk_b51 K7 H_seats H_people W_size W_suspects W_persons W_answers x1 x2 x3)))
def p_X6_whomToAsk_b7 : Nat → Int32 → Int32 → Int32 → Int32 → (Nat → Int32) → (Nat → Int32) → Int32 → Int32 → Int32 → Option (Int32)
  | 0 => fun _ _ _ _ _ _ _ _ _ => none
  | n + 1 => p_X6_whomToAsk_b7x (p_X6_whomToAsk_b7 n)
def p_X6_whomToAsk_b0 (H_seats : Int32) (H_people : Int32) (W_size : Int32) (W_suspects : Int32) (W_persons : Nat → Int32) (W_answers : Nat → Int32)  : Option (Int32) :=
  p_X6_whomToAsk_b7 4096 H_seats H_people W_size W_suspects W_persons W_answers (-1) 9 0
def p_X6_whomToAsk (H_seats : Int32) (H_people : Int32) (W_size : Int32) (W_suspects : Int32) (W_persons : Nat → Int32) (W_answers : Nat → Int32)  : Option (Int32) := p_X6_whomToAsk_b0 H_seats H_people W_size W_suspects W_persons W_answers 
-- X7_isNoText
def p_X7_isNoText_b14  (t0 : Int32) : Option (Int32) :=
  gd (isZ t0) <|
  some t0
def p_X7_isNoText_b9   : Option (Int32) :=
  p_X7_isNoText_b14  1
def p_X7_isNoText_b0  (x0 : Int32) : Option (Int32) :=
  if x0 < 0 then
  (p_X7_isNoText_b9  )
  else
  (if x0 ≤ 1 then
  (p_X7_isNoText_b14  0)
  else
  (p_X7_isNoText_b9  ))
def p_X7_isNoText  (x0 : Int32) : Option (Int32) := p_X7_isNoText_b0  x0
-- X7_spoilAnswers
def p_X7_spoilAnswers_b0 (C_ready : Int32) (D_ready : Int32) (W_ready : Int32)  : Option (Int32 × Int32 × Int32) :=
  some (0, 0, 0)
def p_X7_spoilAnswers (C_ready : Int32) (D_ready : Int32) (W_ready : Int32)  : Option (Int32 × Int32 × Int32) := p_X7_spoilAnswers_b0 C_ready D_ready W_ready 
-- X7_type
def p_X7_type_b18 (H_seats : Int32) (H_rows : Int32) (H_people : Int32) (C_ready : Int32) (D_ready : Int32) (W_ready : Int32) (H_lengths : Nat → Int32) (H_faults : Nat → Int32) (H_sorts : Nat → Int32) (H_rowOf : Nat → Int32) (H_bySort : Nat → Int32) (H_owns : Nat → Int32) (H_kinds : Nat → Int32) (H_bytes : Nat → Nat → Int32)  : Option (Int32 × Int32 × Int32 × Int32 × Int32 × Int32 × Int32 × (Nat → Int32) × (Nat → Int32) × (Nat → Int32) × (Nat → Int32) × (Nat → Int32) × (Nat → Int32) × (Nat → Int32) × (Nat → Nat → Int32)) :=
  some ((-2), H_seats, H_rows, H_people, C_ready, D_ready, W_ready, H_lengths, H_faults, H_sorts, H_rowOf, H_bySort, H_owns, H_kinds, H_bytes)
def p_X7_type_b0 (H_seats : Int32) (H_rows : Int32) (H_people : Int32) (C_ready : Int32) (D_ready : Int32) (W_ready : Int32) (H_lengths : Nat → Int32) (H_faults : Nat → Int32) (H_sorts : Nat → Int32) (H_rowOf : Nat → Int32) (H_bySort : Nat → Int32) (H_owns : Nat → Int32) (H_kinds : Nat → Int32) (H_bytes : Nat → Nat → Int32) (x1 : Int32) (x2 : Int32) : Option (Int32 × Int32 × Int32 × Int32 × Int32 × Int32 × Int32 × (Nat → Int32) × (Nat → Int32) × (Nat → Int32) × (Nat → Int32) × (Nat → Int32) × (Nat → Int32) × (Nat → Int32) × (Nat → Nat → Int32)) :=
  b1 (p_X7_isNoText  x1) fun r1 =>
  if r1 = 0 then
  (if x2 < 0 then
  (p_X7_type_b18 H_seats H_rows H_people C_ready D_ready W_ready H_lengths H_faults H_sorts H_rowOf H_bySort H_owns H_kinds H_bytes )
  else
  (if x2 ≤ 255 then
  (gd (inB x1 2) <|
  if (H_lengths x1.toNatClampNeg) < 20 then
  (b11 (p_X3_append H_seats H_rows H_people H_lengths H_faults H_sorts H_rowOf H_bySort H_owns H_kinds H_bytes x1 x2) fun H_seats_44 H_rows_44 H_people_44 H_lengths_44 H_faults_44 H_sorts_44 H_rowOf_44 H_bySort_44 H_owns_44 H_kinds_44 H_bytes_44 =>
  b3 (p_X7_spoilAnswers C_ready D_ready W_ready) fun C_ready_48 D_ready_48 W_ready_48 =>
  gd (inB x1 2) <|
  some ((H_lengths_44 x1.toNatClampNeg), H_seats_44, H_rows_44, H_people_44, C_ready_48, D_ready_48, W_ready_48, H_lengths_44, H_faults_44, H_sorts_44, H_rowOf_44, H_bySort_44, H_owns_44, H_kinds_44, H_bytes_44))
  else
  (some ((-4), H_seats, H_rows, H_people, C_ready, D_ready, W_ready, H_lengths, H_faults, H_sorts, H_rowOf, H_bySort, H_owns, H_kinds, H_bytes)))
  else
  (p_X7_type_b18 H_seats H_rows H_people C_ready D_ready W_ready H_lengths H_faults H_sorts H_rowOf H_bySort H_owns H_kinds H_bytes )))
  else
  (p_X7_type_b18 H_seats H_rows H_people C_ready D_ready W_ready H_lengths H_faults H_sorts H_rowOf H_bySort H_owns H_kinds H_bytes )
def p_X7_type (H_seats : Int32) (H_rows : Int32) (H_people : Int32) (C_ready : Int32) (D_ready : Int32) (W_ready : Int32) (H_lengths : Nat → Int32) (H_faults : Nat → Int32) (H_sorts : Nat → Int32) (H_rowOf : Nat → Int32) (H_bySort : Nat → Int32) (H_owns : Nat → Int32) (H_kinds : Nat → Int32) (H_bytes : Nat → Nat → Int32) (x1 : Int32) (x2 : Int32) : Option (Int32 × Int32 × Int32 × Int32 × Int32 × Int32 × Int32 × (Nat → Int32) × (Nat → Int32) × (Nat → Int32) × (Nat → Int32) × (Nat → Int32) × (Nat → Int32) × (Nat → Int32) × (Nat → Nat → Int32)) := p_X7_type_b0 H_seats H_rows H_people C_ready D_ready W_ready H_lengths H_faults H_sorts H_rowOf H_bySort H_owns H_kinds H_bytes x1 x2
-- X7_wipe
def p_X7_wipe_b0 (H_seats : Int32) (H_rows : Int32) (H_people : Int32) (C_ready : Int32) (D_ready : Int32) (W_ready : Int32) (H_lengths : Nat → Int32) (H_faults : Nat → Int32) (H_sorts : Nat → Int32) (H_rowOf : Nat → Int32) (H_bySort : Nat → Int32) (H_owns : Nat → Int32) (H_kinds : Nat → Int32) (H_bytes : Nat → Nat → Int32) (x1 : Int32) : Option (Int32 × Int32 × Int32 × Int32 × Int32 × Int32 × Int32 × (Nat → Int32) × (Nat → Int32) × (Nat → Int32) × (Nat → Int32) × (Nat → Int32) × (Nat → Int32) × (Nat → Int32)) :=
  b1 (p_X7_isNoText  x1) fun r1 =>
  if r1 = 0 then
  (gd (inB x1 2) <|
  nm ((H_lengths x1.toNatClampNeg) : Int32) fun x19 =>
  b10 (p_X3_empty H_seats H_rows H_people H_lengths H_faults H_sorts H_rowOf H_bySort H_owns H_kinds H_bytes x1) fun H_seats_25 H_rows_25 H_people_25 H_lengths_25 H_faults_25 H_sorts_25 H_rowOf_25 H_bySort_25 H_owns_25 H_kinds_25 =>
  b3 (p_X7_spoilAnswers C_ready D_ready W_ready) fun C_ready_29 D_ready_29 W_ready_29 =>
  some (x19, H_seats_25, H_rows_25, H_people_25, C_ready_29, D_ready_29, W_ready_29, H_lengths_25, H_faults_25, H_sorts_25, H_rowOf_25, H_bySort_25, H_owns_25, H_kinds_25))
  else
  (some ((-2), H_seats, H_rows, H_people, C_ready, D_ready, W_ready, H_lengths, H_faults, H_sorts, H_rowOf, H_bySort, H_owns, H_kinds))
def p_X7_wipe (H_seats : Int32) (H_rows : Int32) (H_people : Int32) (C_ready : Int32) (D_ready : Int32) (W_ready : Int32) (H_lengths : Nat → Int32) (H_faults : Nat → Int32) (H_sorts : Nat → Int32) (H_rowOf : Nat → Int32) (H_bySort : Nat → Int32) (H_owns : Nat → Int32) (H_kinds : Nat → Int32) (H_bytes : Nat → Nat → Int32) (x1 : Int32) : Option (Int32 × Int32 × Int32 × Int32 × Int32 × Int32 × Int32 × (Nat → Int32) × (Nat → Int32) × (Nat → Int32) × (Nat → Int32) × (Nat → Int32) × (Nat → Int32) × (Nat → Int32)) := p_X7_wipe_b0 H_seats H_rows H_people C_ready D_ready W_ready H_lengths H_faults H_sorts H_rowOf H_bySort H_owns H_kinds H_bytes x1
-- X7_fault
def p_X7_fault_b21 (H_faults : Nat → Int32) (t0 : Int32) : Option (Int32) :=
  some t0
def p_X7_fault_b0 (H_faults : Nat → Int32) (x1 : Int32) : Option (Int32) :=
  b1 (p_X7_isNoText  x1) fun r1 =>
  if r1 = 0 then
  (gd (inB x1 2) <|
  p_X7_fault_b21 H_faults (H_faults x1.toNatClampNeg))
  else
  (p_X7_fault_b21 H_faults (-2))
def p_X7_fault (H_faults : Nat → Int32) (x1 : Int32) : Option (Int32) := p_X7_fault_b0 H_faults x1
-- X7_isNoSeat
def p_X7_isNoSeat_b20 (H_seats : Int32) (t0 : Int32) : Option (Int32) :=
  gd (isZ t0) <|
  some t0
def p_X7_isNoSeat_b15 (H_seats : Int32)  : Option (Int32) :=
  p_X7_isNoSeat_b20 H_seats 1
def p_X7_isNoSeat_b0 (H_seats : Int32) (x1 : Int32) : Option (Int32) :=
  if x1 < 0 then
  (p_X7_isNoSeat_b15 H_seats )
  else
  (if x1 < H_seats then
  (p_X7_isNoSeat_b20 H_seats 0)
  else
  (p_X7_isNoSeat_b15 H_seats ))
def p_X7_isNoSeat (H_seats : Int32) (x1 : Int32) : Option (Int32) := p_X7_isNoSeat_b0 H_seats x1
-- X7_seat
def p_X7_seat_b0 (H_seats : Int32) (H_people : Int32) (H_sorts : Nat → Int32) (H_rowOf : Nat → Int32) (H_owns : Nat → Int32) (x1 : Int32) (x2 : Int32) : Option (Int32) :=
  b1 (p_X7_isNoSeat H_seats x1) fun r2 =>
  if r2 = 0 then
  (if x2.toInt = 0 then
  (gd (inB x1 8) <|
  some (H_sorts x1.toNatClampNeg))
  else
  (if x2.toInt = 1 then
  (gd (inB x1 8) <|
  some (H_rowOf x1.toNatClampNeg))
  else
  (if x2.toInt = 2 then
  (b1 (p_X3_ownersOf H_people H_owns x1) fun r65 =>
  some r65)
  else
  (some ((-2) : Int32)))))
  else
  (some ((-2) : Int32))
def p_X7_seat (H_seats : Int32) (H_people : Int32) (H_sorts : Nat → Int32) (H_rowOf : Nat → Int32) (H_owns : Nat → Int32) (x1 : Int32) (x2 : Int32) : Option (Int32) := p_X7_seat_b0 H_seats H_people H_sorts H_rowOf H_owns x1 x2
-- X7_isNobody
def p_X7_isNobody_b20 (H_people : Int32) (t0 : Int32) : Option (Int32) :=
  gd (isZ t0) <|
  some t0
def p_X7_isNobody_b15 (H_people : Int32)  : Option (Int32) :=
  p_X7_isNobody_b20 H_people 1
def p_X7_isNobody_b0 (H_people : Int32) (x1 : Int32) : Option (Int32) :=
  if x1 < 0 then
  (p_X7_isNobody_b15 H_people )
  else
  (if x1 < H_people then
  (p_X7_isNobody_b20 H_people 0)
  else
  (p_X7_isNobody_b15 H_people ))
def p_X7_isNobody (H_people : Int32) (x1 : Int32) : Option (Int32) := p_X7_isNobody_b0 H_people x1
-- X7_isNoPart
def p_X7_isNoPart_b14  (t0 : Int32) : Option (Int32) :=
  gd (isZ t0) <|
  some t0
def p_X7_isNoPart_b9   : Option (Int32) :=
  p_X7_isNoPart_b14  1
def p_X7_isNoPart_b0  (x0 : Int32) : Option (Int32) :=
  if x0 < 0 then
  (p_X7_isNoPart_b9  )
  else
  (if x0 ≤ 1 then
  (p_X7_isNoPart_b14  0)
  else
  (p_X7_isNoPart_b9  ))
def p_X7_isNoPart  (x0 : Int32) : Option (Int32) := p_X7_isNoPart_b0  x0
-- X7_person
def p_X7_person_b15 (H_people : Int32) (H_owns : Nat → Int32) (H_kinds : Nat → Int32)  : Option (Int32) :=
  some ((-2) : Int32)
def p_X7_person_b43 (H_people : Int32) (H_owns : Nat → Int32) (H_kinds : Nat → Int32) (t0 : Int32) : Option (Int32) :=
  some t0
def p_X7_person_b0 (H_people : Int32) (H_owns : Nat → Int32) (H_kinds : Nat → Int32) (x1 : Int32) (x2 : Int32) : Option (Int32) :=
  b1 (p_X7_isNobody H_people x1) fun r2 =>
  if r2 = 0 then
  (b1 (p_X7_isNoPart  x2) fun r9 =>
  if r9 = 0 then
  (if x2 = 0 then
  (gd (inB x1 8) <|
  p_X7_person_b43 H_people H_owns H_kinds (H_owns x1.toNatClampNeg))
  else
  (gd (inB x1 8) <|
  p_X7_person_b43 H_people H_owns H_kinds (H_kinds x1.toNatClampNeg)))
  else
  (p_X7_person_b15 H_people H_owns H_kinds ))
  else
  (p_X7_person_b15 H_people H_owns H_kinds )
def p_X7_person (H_people : Int32) (H_owns : Nat → Int32) (H_kinds : Nat → Int32) (x1 : Int32) (x2 : Int32) : Option (Int32) := p_X7_person_b0 H_people H_owns H_kinds x1 x2
-- X7_asLong
def p_X7_asLong_b0  (x0 : Int32) : Option (Int64) :=
  some ((-9223372036854775808) - x0.toInt64)
def p_X7_asLong  (x0 : Int32) : Option (Int64) := p_X7_asLong_b0  x0
-- X7_commonDivisor
def p_X7_commonDivisor_b45  (x4 : Int64) : Option (Int64) :=
  some x4
def p_X7_commonDivisor_b9x (K9 : Int64 → Int64 → Int32 → Option (Int64))  (x4 : Int64) (x6 : Int64) (x8 : Int32) : Option (Int64) :=
  if 200 ≤ x8 then
  (p_X7_commonDivisor_b45  x4)
  else
  (if (lg_cmp x6 0) = 0 then
  (p_X7_commonDivisor_b45  x4)
  else
  (gd (decide (¬ x6 = 0)) <|
  nm ((x4 - (x4 / x6) * x6) : Int64) fun x29 =>
  nm (x8 + 1 : Int32) fun x39 =>
  K9  x6 x29 x39))
def p_X7_commonDivisor_b9 : Nat → Int64 → Int64 → Int32 → Option (Int64)
  | 0 => fun _ _ _ => none
  | n + 1 => p_X7_commonDivisor_b9x (p_X7_commonDivisor_b9 n)
def p_X7_commonDivisor_b0  (x0 : Int64) (x2 : Int64) : Option (Int64) :=
  p_X7_commonDivisor_b9 4096  x0 x2 0
def p_X7_commonDivisor  (x0 : Int64) (x2 : Int64) : Option (Int64) := p_X7_commonDivisor_b0  x0 x2
-- X7_part
def p_X7_part_b26  (t0 : Int64) (x5 : Int64) : Option (Int64) :=
  gd (decide (¬ x5 = 0)) <|
  some (t0 / x5)
def p_X7_part_b0  (x0 : Int64) (x2 : Int64) (x4 : Int32) : Option (Int64) :=
  b1 (p_X7_commonDivisor  x0 x2) fun r2 =>
  if (lg_cmp r2 0) = 0 then
  (some (0 : Int64))
  else
  (if x4 = 0 then
  (p_X7_part_b26  x0 r2)
  else
  (p_X7_part_b26  x2 r2))
def p_X7_part  (x0 : Int64) (x2 : Int64) (x4 : Int32) : Option (Int64) := p_X7_part_b0  x0 x2 x4
-- X7_likely
def p_X7_likely_b23 (H_seats : Int32) (H_people : Int32) (C_ready : Int32) (C_meanWrong : Int64) (C_meanLooks : Int64) (H_sorts : Nat → Int32) (H_bySort : Nat → Int32) (H_owns : Nat → Int32) (H_kinds : Nat → Int32) (C_reach : Nat → Int64) (C_sits : Nat → Int64) (C_wrongs : Nat → Int64) (C_free : Nat → Int64) (C_wrongIn : Nat → Int64)  : Option (Int64 × Int32 × Int64 × Int64 × (Nat → Int64) × (Nat → Int64) × (Nat → Int64) × (Nat → Int64) × (Nat → Int64)) :=
  b1 (p_X7_asLong  (-2)) fun r25 =>
  some (r25, C_ready, C_meanWrong, C_meanLooks, C_reach, C_sits, C_wrongs, C_free, C_wrongIn)
def p_X7_likely_b0 (H_seats : Int32) (H_people : Int32) (C_ready : Int32) (C_meanWrong : Int64) (C_meanLooks : Int64) (H_sorts : Nat → Int32) (H_bySort : Nat → Int32) (H_owns : Nat → Int32) (H_kinds : Nat → Int32) (C_reach : Nat → Int64) (C_sits : Nat → Int64) (C_wrongs : Nat → Int64) (C_free : Nat → Int64) (C_wrongIn : Nat → Int64) (x1 : Int32) (x2 : Int32) (x3 : Int32) : Option (Int64 × Int32 × Int64 × Int64 × (Nat → Int64) × (Nat → Int64) × (Nat → Int64) × (Nat → Int64) × (Nat → Int64)) :=
  b1 (p_X7_isNobody H_people x1) fun r2 =>
  if r2 = 0 then
  (b1 (p_X7_isNoSeat H_seats x2) fun r10 =>
  if r10 = 0 then
  (b1 (p_X7_isNoPart  x3) fun r17 =>
  if r17 = 0 then
  (b8 (p_X0_refresh H_seats H_people C_ready C_meanWrong C_meanLooks H_sorts H_bySort H_owns H_kinds C_reach C_sits C_wrongs C_free C_wrongIn) fun C_ready_33 C_meanWrong_33 C_meanLooks_33 C_reach_33 C_sits_33 C_wrongs_33 C_free_33 C_wrongIn_33 =>
  gd (inB ((x1 * 8) + x2) 64) <|
  b1 (p_X7_part  (C_sits_33 ((x1 * 8) + x2).toNatClampNeg) 182891520000 x3) fun r54 =>
  some (r54, C_ready_33, C_meanWrong_33, C_meanLooks_33, C_reach_33, C_sits_33, C_wrongs_33, C_free_33, C_wrongIn_33))
  else
  (p_X7_likely_b23 H_seats H_people C_ready C_meanWrong C_meanLooks H_sorts H_bySort H_owns H_kinds C_reach C_sits C_wrongs C_free C_wrongIn ))
  else
  (p_X7_likely_b23 H_seats H_people C_ready C_meanWrong C_meanLooks H_sorts H_bySort H_owns H_kinds C_reach C_sits C_wrongs C_free C_wrongIn ))
  else
  (p_X7_likely_b23 H_seats H_people C_ready C_meanWrong C_meanLooks H_sorts H_bySort H_owns H_kinds C_reach C_sits C_wrongs C_free C_wrongIn )
def p_X7_likely (H_seats : Int32) (H_people : Int32) (C_ready : Int32) (C_meanWrong : Int64) (C_meanLooks : Int64) (H_sorts : Nat → Int32) (H_bySort : Nat → Int32) (H_owns : Nat → Int32) (H_kinds : Nat → Int32) (C_reach : Nat → Int64) (C_sits : Nat → Int64) (C_wrongs : Nat → Int64) (C_free : Nat → Int64) (C_wrongIn : Nat → Int64) (x1 : Int32) (x2 : Int32) (x3 : Int32) : Option (Int64 × Int32 × Int64 × Int64 × (Nat → Int64) × (Nat → Int64) × (Nat → Int64) × (Nat → Int64) × (Nat → Int64)) := p_X7_likely_b0 H_seats H_people C_ready C_meanWrong C_meanLooks H_sorts H_bySort H_owns H_kinds C_reach C_sits C_wrongs C_free C_wrongIn x1 x2 x3
-- X7_taken
def p_X7_taken_b36 (H_seats : Int32) (H_people : Int32) (C_ready : Int32) (C_meanWrong : Int64) (C_meanLooks : Int64) (H_sorts : Nat → Int32) (H_bySort : Nat → Int32) (H_owns : Nat → Int32) (H_kinds : Nat → Int32) (C_reach : Nat → Int64) (C_sits : Nat → Int64) (C_wrongs : Nat → Int64) (C_free : Nat → Int64) (C_wrongIn : Nat → Int64)  : Option (Int64 × Int32 × Int64 × Int64 × (Nat → Int64) × (Nat → Int64) × (Nat → Int64) × (Nat → Int64) × (Nat → Int64)) :=
  b1 (p_X7_asLong  (-2)) fun r38 =>
  some (r38, C_ready, C_meanWrong, C_meanLooks, C_reach, C_sits, C_wrongs, C_free, C_wrongIn)
def p_X7_taken_b70 (H_seats : Int32) (H_people : Int32) (C_ready : Int32) (C_meanWrong : Int64) (C_meanLooks : Int64) (H_sorts : Nat → Int32) (H_bySort : Nat → Int32) (H_owns : Nat → Int32) (H_kinds : Nat → Int32) (C_reach : Nat → Int64) (C_sits : Nat → Int64) (C_wrongs : Nat → Int64) (C_free : Nat → Int64) (C_wrongIn : Nat → Int64) (t0 : Int64) (x3 : Int32) : Option (Int64 × Int32 × Int64 × Int64 × (Nat → Int64) × (Nat → Int64) × (Nat → Int64) × (Nat → Int64) × (Nat → Int64)) :=
  b1 (p_X7_part  t0 182891520000 x3) fun r78 =>
  some (r78, C_ready, C_meanWrong, C_meanLooks, C_reach, C_sits, C_wrongs, C_free, C_wrongIn)
def p_X7_taken_b0 (H_seats : Int32) (H_people : Int32) (C_ready : Int32) (C_meanWrong : Int64) (C_meanLooks : Int64) (H_sorts : Nat → Int32) (H_bySort : Nat → Int32) (H_owns : Nat → Int32) (H_kinds : Nat → Int32) (C_reach : Nat → Int64) (C_sits : Nat → Int64) (C_wrongs : Nat → Int64) (C_free : Nat → Int64) (C_wrongIn : Nat → Int64) (x1 : Int32) (x2 : Int32) (x3 : Int32) : Option (Int64 × Int32 × Int64 × Int64 × (Nat → Int64) × (Nat → Int64) × (Nat → Int64) × (Nat → Int64) × (Nat → Int64)) :=
  if x1 < 0 then
  (p_X7_taken_b36 H_seats H_people C_ready C_meanWrong C_meanLooks H_sorts H_bySort H_owns H_kinds C_reach C_sits C_wrongs C_free C_wrongIn )
  else
  (if H_people < x1 then
  (p_X7_taken_b36 H_seats H_people C_ready C_meanWrong C_meanLooks H_sorts H_bySort H_owns H_kinds C_reach C_sits C_wrongs C_free C_wrongIn )
  else
  (b1 (p_X3_allSeats H_seats) fun r20 =>
  if (x2 &&& (r20 ^^^ (-1))) = 0 then
  (b1 (p_X7_isNoPart  x3) fun r30 =>
  if r30 = 0 then
  (b8 (p_X0_refresh H_seats H_people C_ready C_meanWrong C_meanLooks H_sorts H_bySort H_owns H_kinds C_reach C_sits C_wrongs C_free C_wrongIn) fun C_ready_46 C_meanWrong_46 C_meanLooks_46 C_reach_46 C_sits_46 C_wrongs_46 C_free_46 C_wrongIn_46 =>
  b1 (p_J6_bitCount_0f7a4  x2) fun r50 =>
  if r50 = x1 then
  (gd (inB x2 256) <|
  p_X7_taken_b70 H_seats H_people C_ready_46 C_meanWrong_46 C_meanLooks_46 H_sorts H_bySort H_owns H_kinds C_reach_46 C_sits_46 C_wrongs_46 C_free_46 C_wrongIn_46 (C_reach_46 x2.toNatClampNeg) x3)
  else
  (p_X7_taken_b70 H_seats H_people C_ready_46 C_meanWrong_46 C_meanLooks_46 H_sorts H_bySort H_owns H_kinds C_reach_46 C_sits_46 C_wrongs_46 C_free_46 C_wrongIn_46 0 x3))
  else
  (p_X7_taken_b36 H_seats H_people C_ready C_meanWrong C_meanLooks H_sorts H_bySort H_owns H_kinds C_reach C_sits C_wrongs C_free C_wrongIn ))
  else
  (p_X7_taken_b36 H_seats H_people C_ready C_meanWrong C_meanLooks H_sorts H_bySort H_owns H_kinds C_reach C_sits C_wrongs C_free C_wrongIn )))
def p_X7_taken (H_seats : Int32) (H_people : Int32) (C_ready : Int32) (C_meanWrong : Int64) (C_meanLooks : Int64) (H_sorts : Nat → Int32) (H_bySort : Nat → Int32) (H_owns : Nat → Int32) (H_kinds : Nat → Int32) (C_reach : Nat → Int64) (C_sits : Nat → Int64) (C_wrongs : Nat → Int64) (C_free : Nat → Int64) (C_wrongIn : Nat → Int64) (x1 : Int32) (x2 : Int32) (x3 : Int32) : Option (Int64 × Int32 × Int64 × Int64 × (Nat → Int64) × (Nat → Int64) × (Nat → Int64) × (Nat → Int64) × (Nat → Int64)) := p_X7_taken_b0 H_seats H_people C_ready C_meanWrong C_meanLooks H_sorts H_bySort H_owns H_kinds C_reach C_sits C_wrongs C_free C_wrongIn x1 x2 x3
-- X7_wrong
def p_X7_wrong_b23 (H_seats : Int32) (H_people : Int32) (C_ready : Int32) (C_meanWrong : Int64) (C_meanLooks : Int64) (H_sorts : Nat → Int32) (H_bySort : Nat → Int32) (H_owns : Nat → Int32) (H_kinds : Nat → Int32) (C_reach : Nat → Int64) (C_sits : Nat → Int64) (C_wrongs : Nat → Int64) (C_free : Nat → Int64) (C_wrongIn : Nat → Int64)  : Option (Int64 × Int32 × Int64 × Int64 × (Nat → Int64) × (Nat → Int64) × (Nat → Int64) × (Nat → Int64) × (Nat → Int64)) :=
  b1 (p_X7_asLong  (-2)) fun r25 =>
  some (r25, C_ready, C_meanWrong, C_meanLooks, C_reach, C_sits, C_wrongs, C_free, C_wrongIn)
def p_X7_wrong_b60 (H_seats : Int32) (H_people : Int32) (C_ready : Int32) (C_meanWrong : Int64) (C_meanLooks : Int64) (H_sorts : Nat → Int32) (H_bySort : Nat → Int32) (H_owns : Nat → Int32) (H_kinds : Nat → Int32) (C_reach : Nat → Int64) (C_sits : Nat → Int64) (C_wrongs : Nat → Int64) (C_free : Nat → Int64) (C_wrongIn : Nat → Int64) (t0 : Int64) (x2 : Int32) : Option (Int64 × Int32 × Int64 × Int64 × (Nat → Int64) × (Nat → Int64) × (Nat → Int64) × (Nat → Int64) × (Nat → Int64)) :=
  b1 (p_X7_part  t0 182891520000 x2) fun r64 =>
  some (r64, C_ready, C_meanWrong, C_meanLooks, C_reach, C_sits, C_wrongs, C_free, C_wrongIn)
def p_X7_wrong_b0 (H_seats : Int32) (H_people : Int32) (C_ready : Int32) (C_meanWrong : Int64) (C_meanLooks : Int64) (H_sorts : Nat → Int32) (H_bySort : Nat → Int32) (H_owns : Nat → Int32) (H_kinds : Nat → Int32) (C_reach : Nat → Int64) (C_sits : Nat → Int64) (C_wrongs : Nat → Int64) (C_free : Nat → Int64) (C_wrongIn : Nat → Int64) (x1 : Int32) (x2 : Int32) : Option (Int64 × Int32 × Int64 × Int64 × (Nat → Int64) × (Nat → Int64) × (Nat → Int64) × (Nat → Int64) × (Nat → Int64)) :=
  if x1 < (-1) then
  (p_X7_wrong_b23 H_seats H_people C_ready C_meanWrong C_meanLooks H_sorts H_bySort H_owns H_kinds C_reach C_sits C_wrongs C_free C_wrongIn )
  else
  (if H_people < x1 then
  (p_X7_wrong_b23 H_seats H_people C_ready C_meanWrong C_meanLooks H_sorts H_bySort H_owns H_kinds C_reach C_sits C_wrongs C_free C_wrongIn )
  else
  (b1 (p_X7_isNoPart  x2) fun r17 =>
  if r17 = 0 then
  (b8 (p_X0_refresh H_seats H_people C_ready C_meanWrong C_meanLooks H_sorts H_bySort H_owns H_kinds C_reach C_sits C_wrongs C_free C_wrongIn) fun C_ready_33 C_meanWrong_33 C_meanLooks_33 C_reach_33 C_sits_33 C_wrongs_33 C_free_33 C_wrongIn_33 =>
  if x1 = (-1) then
  (p_X7_wrong_b60 H_seats H_people C_ready_33 C_meanWrong_33 C_meanLooks_33 H_sorts H_bySort H_owns H_kinds C_reach_33 C_sits_33 C_wrongs_33 C_free_33 C_wrongIn_33 C_meanWrong_33 x2)
  else
  (gd (inB x1 9) <|
  p_X7_wrong_b60 H_seats H_people C_ready_33 C_meanWrong_33 C_meanLooks_33 H_sorts H_bySort H_owns H_kinds C_reach_33 C_sits_33 C_wrongs_33 C_free_33 C_wrongIn_33 (C_wrongs_33 x1.toNatClampNeg) x2))
  else
  (p_X7_wrong_b23 H_seats H_people C_ready C_meanWrong C_meanLooks H_sorts H_bySort H_owns H_kinds C_reach C_sits C_wrongs C_free C_wrongIn )))
def p_X7_wrong (H_seats : Int32) (H_people : Int32) (C_ready : Int32) (C_meanWrong : Int64) (C_meanLooks : Int64) (H_sorts : Nat → Int32) (H_bySort : Nat → Int32) (H_owns : Nat → Int32) (H_kinds : Nat → Int32) (C_reach : Nat → Int64) (C_sits : Nat → Int64) (C_wrongs : Nat → Int64) (C_free : Nat → Int64) (C_wrongIn : Nat → Int64) (x1 : Int32) (x2 : Int32) : Option (Int64 × Int32 × Int64 × Int64 × (Nat → Int64) × (Nat → Int64) × (Nat → Int64) × (Nat → Int64) × (Nat → Int64)) := p_X7_wrong_b0 H_seats H_people C_ready C_meanWrong C_meanLooks H_sorts H_bySort H_owns H_kinds C_reach C_sits C_wrongs C_free C_wrongIn x1 x2
-- X7_left
def p_X7_left_b15 (H_seats : Int32) (H_people : Int32) (C_ready : Int32) (C_meanWrong : Int64) (C_meanLooks : Int64) (H_sorts : Nat → Int32) (H_bySort : Nat → Int32) (H_owns : Nat → Int32) (H_kinds : Nat → Int32) (C_reach : Nat → Int64) (C_sits : Nat → Int64) (C_wrongs : Nat → Int64) (C_free : Nat → Int64) (C_wrongIn : Nat → Int64)  : Option (Int64 × Int32 × Int64 × Int64 × (Nat → Int64) × (Nat → Int64) × (Nat → Int64) × (Nat → Int64) × (Nat → Int64)) :=
  b1 (p_X7_asLong  (-2)) fun r17 =>
  some (r17, C_ready, C_meanWrong, C_meanLooks, C_reach, C_sits, C_wrongs, C_free, C_wrongIn)
def p_X7_left_b0 (H_seats : Int32) (H_people : Int32) (C_ready : Int32) (C_meanWrong : Int64) (C_meanLooks : Int64) (H_sorts : Nat → Int32) (H_bySort : Nat → Int32) (H_owns : Nat → Int32) (H_kinds : Nat → Int32) (C_reach : Nat → Int64) (C_sits : Nat → Int64) (C_wrongs : Nat → Int64) (C_free : Nat → Int64) (C_wrongIn : Nat → Int64) (x1 : Int32) (x2 : Int32) : Option (Int64 × Int32 × Int64 × Int64 × (Nat → Int64) × (Nat → Int64) × (Nat → Int64) × (Nat → Int64) × (Nat → Int64)) :=
  b1 (p_X7_isNoSeat H_seats x1) fun r2 =>
  if r2 = 0 then
  (b1 (p_X7_isNoPart  x2) fun r9 =>
  if r9 = 0 then
  (b8 (p_X0_refresh H_seats H_people C_ready C_meanWrong C_meanLooks H_sorts H_bySort H_owns H_kinds C_reach C_sits C_wrongs C_free C_wrongIn) fun C_ready_25 C_meanWrong_25 C_meanLooks_25 C_reach_25 C_sits_25 C_wrongs_25 C_free_25 C_wrongIn_25 =>
  gd (inB x1 8) <|
  b1 (p_X7_part  (C_free_25 x1.toNatClampNeg) 182891520000 x2) fun r41 =>
  some (r41, C_ready_25, C_meanWrong_25, C_meanLooks_25, C_reach_25, C_sits_25, C_wrongs_25, C_free_25, C_wrongIn_25))
  else
  (p_X7_left_b15 H_seats H_people C_ready C_meanWrong C_meanLooks H_sorts H_bySort H_owns H_kinds C_reach C_sits C_wrongs C_free C_wrongIn ))
  else
  (p_X7_left_b15 H_seats H_people C_ready C_meanWrong C_meanLooks H_sorts H_bySort H_owns H_kinds C_reach C_sits C_wrongs C_free C_wrongIn )
def p_X7_left (H_seats : Int32) (H_people : Int32) (C_ready : Int32) (C_meanWrong : Int64) (C_meanLooks : Int64) (H_sorts : Nat → Int32) (H_bySort : Nat → Int32) (H_owns : Nat → Int32) (H_kinds : Nat → Int32) (C_reach : Nat → Int64) (C_sits : Nat → Int64) (C_wrongs : Nat → Int64) (C_free : Nat → Int64) (C_wrongIn : Nat → Int64) (x1 : Int32) (x2 : Int32) : Option (Int64 × Int32 × Int64 × Int64 × (Nat → Int64) × (Nat → Int64) × (Nat → Int64) × (Nat → Int64) × (Nat → Int64)) := p_X7_left_b0 H_seats H_people C_ready C_meanWrong C_meanLooks H_sorts H_bySort H_owns H_kinds C_reach C_sits C_wrongs C_free C_wrongIn x1 x2
-- X7_looks
def p_X7_looks_b0 (H_seats : Int32) (H_people : Int32) (C_ready : Int32) (C_meanWrong : Int64) (C_meanLooks : Int64) (H_sorts : Nat → Int32) (H_bySort : Nat → Int32) (H_owns : Nat → Int32) (H_kinds : Nat → Int32) (C_reach : Nat → Int64) (C_sits : Nat → Int64) (C_wrongs : Nat → Int64) (C_free : Nat → Int64) (C_wrongIn : Nat → Int64) (x1 : Int32) : Option (Int64 × Int32 × Int64 × Int64 × (Nat → Int64) × (Nat → Int64) × (Nat → Int64) × (Nat → Int64) × (Nat → Int64)) :=
  b1 (p_X7_isNoPart  x1) fun r1 =>
  if r1 = 0 then
  (b8 (p_X0_refresh H_seats H_people C_ready C_meanWrong C_meanLooks H_sorts H_bySort H_owns H_kinds C_reach C_sits C_wrongs C_free C_wrongIn) fun C_ready_17 C_meanWrong_17 C_meanLooks_17 C_reach_17 C_sits_17 C_wrongs_17 C_free_17 C_wrongIn_17 =>
  b1 (p_X7_part  C_meanLooks_17 182891520000 x1) fun r31 =>
  some (r31, C_ready_17, C_meanWrong_17, C_meanLooks_17, C_reach_17, C_sits_17, C_wrongs_17, C_free_17, C_wrongIn_17))
  else
  (b1 (p_X7_asLong  (-2)) fun r9 =>
  some (r9, C_ready, C_meanWrong, C_meanLooks, C_reach, C_sits, C_wrongs, C_free, C_wrongIn))
def p_X7_looks (H_seats : Int32) (H_people : Int32) (C_ready : Int32) (C_meanWrong : Int64) (C_meanLooks : Int64) (H_sorts : Nat → Int32) (H_bySort : Nat → Int32) (H_owns : Nat → Int32) (H_kinds : Nat → Int32) (C_reach : Nat → Int64) (C_sits : Nat → Int64) (C_wrongs : Nat → Int64) (C_free : Nat → Int64) (C_wrongIn : Nat → Int64) (x1 : Int32) : Option (Int64 × Int32 × Int64 × Int64 × (Nat → Int64) × (Nat → Int64) × (Nat → Int64) × (Nat → Int64) × (Nat → Int64)) := p_X7_looks_b0 H_seats H_people C_ready C_meanWrong C_meanLooks H_sorts H_bySort H_owns H_kinds C_reach C_sits C_wrongs C_free C_wrongIn x1
-- X7_isNoSheet
def p_X7_isNoSheet_b14  (t0 : Int32) : Option (Int32) :=
  gd (isZ t0) <|
  some t0
def p_X7_isNoSheet_b9   : Option (Int32) :=
  p_X7_isNoSheet_b14  1
def p_X7_isNoSheet_b0  (x0 : Int32) : Option (Int32) :=
  if x0 < 0 then
  (p_X7_isNoSheet_b9  )
  else
  (if x0 < 4 then
  (p_X7_isNoSheet_b14  0)
  else
  (p_X7_isNoSheet_b9  ))
def p_X7_isNoSheet  (x0 : Int32) : Option (Int32) := p_X7_isNoSheet_b0  x0
-- X7_find
def p_X7_find_b0 (T_finding : Int32) (x1 : Int32) : Option (Int32 × Int32) :=
  some (((-10) - x1), x1)
def p_X7_find (T_finding : Int32) (x1 : Int32) : Option (Int32 × Int32) := p_X7_find_b0 T_finding x1
-- X7_refuseSheet
def p_X7_refuseSheet_b11 (T_finding : Int32) (S_size : Nat → Int32)  : Option (Int32 × Int32) :=
  some ((-2), T_finding)
def p_X7_refuseSheet_b36 (T_finding : Int32) (S_size : Nat → Int32) (t0 : Int32) : Option (Int32 × Int32) :=
  some (t0, T_finding)
def p_X7_refuseSheet_b0 (T_finding : Int32) (S_size : Nat → Int32) (x1 : Int32) (x2 : Int32) : Option (Int32 × Int32) :=
  b1 (p_X7_isNoSheet  x1) fun r1 =>
  if r1 = 0 then
  (if x2 = 0 then
  (p_X7_refuseSheet_b11 T_finding S_size )
  else
  (gd (inB x1 4) <|
  gd (decide (x1.toNatClampNeg < 4)) <|
  if (S_size x1.toNatClampNeg) = (-1) then
  (b2 (p_X7_find T_finding 1) fun r29 T_finding_29 =>
  p_X7_refuseSheet_b36 T_finding_29 S_size r29)
  else
  (p_X7_refuseSheet_b36 T_finding S_size 0)))
  else
  (p_X7_refuseSheet_b11 T_finding S_size )
def p_X7_refuseSheet (T_finding : Int32) (S_size : Nat → Int32) (x1 : Int32) (x2 : Int32) : Option (Int32 × Int32) := p_X7_refuseSheet_b0 T_finding S_size x1 x2
-- X7_refuseSitting
def p_X7_refuseSitting_b38 (H_people : Int32) (T_finding : Int32) (S_size : Nat → Int32) (t0 : Int32) : Option (Int32 × Int32) :=
  some (t0, T_finding)
def p_X7_refuseSitting_b0 (H_people : Int32) (T_finding : Int32) (S_size : Nat → Int32) (x1 : Int32) (x2 : Int32) : Option (Int32 × Int32) :=
  b2 (p_X7_refuseSheet T_finding S_size x1 x2) fun r3 T_finding_3 =>
  if r3 = 0 then
  (gd (inB x1 4) <|
  gd (decide (x1.toNatClampNeg < 4)) <|
  if H_people ≤ (S_size x1.toNatClampNeg) then
  (p_X7_refuseSitting_b38 H_people T_finding_3 S_size 0)
  else
  (p_X7_refuseSitting_b38 H_people T_finding_3 S_size (-3)))
  else
  (some (r3, T_finding_3))
def p_X7_refuseSitting (H_people : Int32) (T_finding : Int32) (S_size : Nat → Int32) (x1 : Int32) (x2 : Int32) : Option (Int32 × Int32) := p_X7_refuseSitting_b0 H_people T_finding S_size x1 x2
-- X7_judged
def p_X7_judged_b31 (H_seats : Int32) (H_people : Int32) (T_finding : Int32) (H_sorts : Nat → Int32) (H_bySort : Nat → Int32) (H_owns : Nat → Int32) (H_kinds : Nat → Int32) (S_size : Nat → Int32) (S_items : Nat → Nat → Int32) (t0 : Int32) : Option (Int32 × Int32) :=
  some (t0, T_finding)
def p_X7_judged_b0 (H_seats : Int32) (H_people : Int32) (T_finding : Int32) (H_sorts : Nat → Int32) (H_bySort : Nat → Int32) (H_owns : Nat → Int32) (H_kinds : Nat → Int32) (S_size : Nat → Int32) (S_items : Nat → Nat → Int32) (x1 : Int32) : Option (Int32 × Int32) :=
  b2 (p_X7_refuseSitting H_people T_finding S_size x1 1) fun r3 T_finding_3 =>
  if r3 = 0 then
  (gd (inB x1 4) <|
  gd (decide (x1.toNatClampNeg < 4)) <|
  b1 (p_X3_firstWhoCannot H_seats H_people H_sorts H_bySort H_owns H_kinds S_items x1.toNatClampNeg) fun r28 =>
  p_X7_judged_b31 H_seats H_people T_finding_3 H_sorts H_bySort H_owns H_kinds S_size S_items r28)
  else
  (p_X7_judged_b31 H_seats H_people T_finding_3 H_sorts H_bySort H_owns H_kinds S_size S_items r3)
def p_X7_judged (H_seats : Int32) (H_people : Int32) (T_finding : Int32) (H_sorts : Nat → Int32) (H_bySort : Nat → Int32) (H_owns : Nat → Int32) (H_kinds : Nat → Int32) (S_size : Nat → Int32) (S_items : Nat → Nat → Int32) (x1 : Int32) : Option (Int32 × Int32) := p_X7_judged_b0 H_seats H_people T_finding H_sorts H_bySort H_owns H_kinds S_size S_items x1
-- X7_sitting
def p_X7_sitting_b52 (H_seats : Int32) (H_people : Int32) (T_finding : Int32) (H_sorts : Nat → Int32) (H_bySort : Nat → Int32) (H_owns : Nat → Int32) (H_kinds : Nat → Int32) (S_size : Nat → Int32) (S_items : Nat → Nat → Int32) (t0 : Int64) : Option (Int64 × Int32) :=
  some (t0, T_finding)
def p_X7_sitting_b14 (H_seats : Int32) (H_people : Int32) (T_finding : Int32) (H_sorts : Nat → Int32) (H_bySort : Nat → Int32) (H_owns : Nat → Int32) (H_kinds : Nat → Int32) (S_size : Nat → Int32) (S_items : Nat → Nat → Int32) (t1 : Int32) (t2 : Int32) (x1 : Int32) (x2 : Int32) : Option (Int64 × Int32) :=
  b2 (p_X7_refuseSitting H_people T_finding S_size t1 t2) fun r14 T_finding_14 =>
  if r14 = 0 then
  (gd (inB x1 4) <|
  gd (decide (x1.toNatClampNeg < 4)) <|
  b1 (p_X3_chanceOf H_seats H_people H_sorts H_bySort H_owns H_kinds S_items x1.toNatClampNeg) fun r42 =>
  b1 (p_X7_part  r42 182891520000 x2) fun r49 =>
  p_X7_sitting_b52 H_seats H_people T_finding_14 H_sorts H_bySort H_owns H_kinds S_size S_items r49)
  else
  (b1 (p_X7_asLong  r14) fun r23 =>
  p_X7_sitting_b52 H_seats H_people T_finding_14 H_sorts H_bySort H_owns H_kinds S_size S_items r23)
def p_X7_sitting_b0 (H_seats : Int32) (H_people : Int32) (T_finding : Int32) (H_sorts : Nat → Int32) (H_bySort : Nat → Int32) (H_owns : Nat → Int32) (H_kinds : Nat → Int32) (S_size : Nat → Int32) (S_items : Nat → Nat → Int32) (x1 : Int32) (x2 : Int32) : Option (Int64 × Int32) :=
  b1 (p_X7_isNoPart  x2) fun r3 =>
  if r3 = 0 then
  (p_X7_sitting_b14 H_seats H_people T_finding H_sorts H_bySort H_owns H_kinds S_size S_items x1 1 x1 x2)
  else
  (p_X7_sitting_b14 H_seats H_people T_finding H_sorts H_bySort H_owns H_kinds S_size S_items x1 0 x1 x2)
def p_X7_sitting (H_seats : Int32) (H_people : Int32) (T_finding : Int32) (H_sorts : Nat → Int32) (H_bySort : Nat → Int32) (H_owns : Nat → Int32) (H_kinds : Nat → Int32) (S_size : Nat → Int32) (S_items : Nat → Nat → Int32) (x1 : Int32) (x2 : Int32) : Option (Int64 × Int32) := p_X7_sitting_b0 H_seats H_people T_finding H_sorts H_bySort H_owns H_kinds S_size S_items x1 x2
-- X7_order
def p_X7_order_b0 (H_seats : Int32) (H_people : Int32) (D_ready : Int32) (D_least : Int64) (H_sorts : Nat → Int32) (H_bySort : Nat → Int32) (H_owns : Nat → Int32) (H_kinds : Nat → Int32) (D_best : Nat → Int32) (D_row : Nat → Int32) (D_reach : Nat → Int64) (D_takenBehind : Nat → Int64) (x1 : Int32) : Option (Int32 × Int32 × Int64 × (Nat → Int32) × (Nat → Int32) × (Nat → Int64) × (Nat → Int64)) :=
  if 0 ≤ x1 then
  (if H_people ≤ 6 then
  (if x1 < H_people then
  (b6 (p_X1_refresh H_seats H_people D_ready D_least H_sorts H_bySort H_owns H_kinds D_best D_row D_reach D_takenBehind) fun D_ready_40 D_least_40 D_best_40 D_row_40 D_reach_40 D_takenBehind_40 =>
  gd (inB x1 6) <|
  some ((D_best_40 x1.toNatClampNeg), D_ready_40, D_least_40, D_best_40, D_row_40, D_reach_40, D_takenBehind_40))
  else
  (some ((-2), D_ready, D_least, D_best, D_row, D_reach, D_takenBehind)))
  else
  (some ((-4), D_ready, D_least, D_best, D_row, D_reach, D_takenBehind)))
  else
  (some ((-2), D_ready, D_least, D_best, D_row, D_reach, D_takenBehind))
def p_X7_order (H_seats : Int32) (H_people : Int32) (D_ready : Int32) (D_least : Int64) (H_sorts : Nat → Int32) (H_bySort : Nat → Int32) (H_owns : Nat → Int32) (H_kinds : Nat → Int32) (D_best : Nat → Int32) (D_row : Nat → Int32) (D_reach : Nat → Int64) (D_takenBehind : Nat → Int64) (x1 : Int32) : Option (Int32 × Int32 × Int64 × (Nat → Int32) × (Nat → Int32) × (Nat → Int64) × (Nat → Int64)) := p_X7_order_b0 H_seats H_people D_ready D_least H_sorts H_bySort H_owns H_kinds D_best D_row D_reach D_takenBehind x1
-- X7_best
def p_X7_best_b0 (H_seats : Int32) (H_people : Int32) (D_ready : Int32) (D_least : Int64) (H_sorts : Nat → Int32) (H_bySort : Nat → Int32) (H_owns : Nat → Int32) (H_kinds : Nat → Int32) (D_best : Nat → Int32) (D_row : Nat → Int32) (D_reach : Nat → Int64) (D_takenBehind : Nat → Int64) (x1 : Int32) : Option (Int64 × Int32 × Int64 × (Nat → Int32) × (Nat → Int32) × (Nat → Int64) × (Nat → Int64)) :=
  b1 (p_X7_isNoPart  x1) fun r1 =>
  if r1 = 0 then
  (if H_people ≤ 6 then
  (b6 (p_X1_refresh H_seats H_people D_ready D_least H_sorts H_bySort H_owns H_kinds D_best D_row D_reach D_takenBehind) fun D_ready_35 D_least_35 D_best_35 D_row_35 D_reach_35 D_takenBehind_35 =>
  b1 (p_X7_part  D_least_35 182891520000 x1) fun r49 =>
  some (r49, D_ready_35, D_least_35, D_best_35, D_row_35, D_reach_35, D_takenBehind_35))
  else
  (b1 (p_X7_asLong  (-4)) fun r27 =>
  some (r27, D_ready, D_least, D_best, D_row, D_reach, D_takenBehind)))
  else
  (b1 (p_X7_asLong  (-2)) fun r9 =>
  some (r9, D_ready, D_least, D_best, D_row, D_reach, D_takenBehind))
def p_X7_best (H_seats : Int32) (H_people : Int32) (D_ready : Int32) (D_least : Int64) (H_sorts : Nat → Int32) (H_bySort : Nat → Int32) (H_owns : Nat → Int32) (H_kinds : Nat → Int32) (D_best : Nat → Int32) (D_row : Nat → Int32) (D_reach : Nat → Int64) (D_takenBehind : Nat → Int64) (x1 : Int32) : Option (Int64 × Int32 × Int64 × (Nat → Int32) × (Nat → Int32) × (Nat → Int64) × (Nat → Int64)) := p_X7_best_b0 H_seats H_people D_ready D_least H_sorts H_bySort H_owns H_kinds D_best D_row D_reach D_takenBehind x1
-- X7_back
def p_X7_back_b82 (H_seats : Int32) (H_people : Int32) (R_number : Int32) (R_changes : Int32) (R_longest : Int32) (T_finding : Int32) (H_owns : Nat → Int32) (R_goal : Nat → Int32) (S_size : Nat → Int32) (S_items : Nat → Nat → Int32) (t0 : Int32) : Option (Int32 × Int32 × Int32 × Int32 × Int32 × (Nat → Int32)) :=
  some (t0, R_number, R_changes, R_longest, T_finding, R_goal)
def p_X7_back_b16 (H_seats : Int32) (H_people : Int32) (R_number : Int32) (R_changes : Int32) (R_longest : Int32) (T_finding : Int32) (H_owns : Nat → Int32) (R_goal : Nat → Int32) (S_size : Nat → Int32) (S_items : Nat → Nat → Int32) (t1 : Int32) (t2 : Int32) (x1 : Int32) (x2 : Int32) : Option (Int32 × Int32 × Int32 × Int32 × Int32 × (Nat → Int32)) :=
  b2 (p_X7_refuseSitting H_people T_finding S_size t1 t2) fun r16 T_finding_16 =>
  if r16 = 0 then
  (gd (inB x1 4) <|
  gd (decide (x1.toNatClampNeg < 4)) <|
  b5 (p_X4_follow H_seats H_people R_number R_changes R_longest H_owns R_goal S_items x1.toNatClampNeg) fun r39 R_number_39 R_changes_39 R_longest_39 R_goal_39 =>
  if r39 = 0 then
  (some ((-3), R_number_39, R_changes_39, R_longest_39, T_finding_16, R_goal_39))
  else
  (if x2 = 0 then
  (some (R_number_39, R_number_39, R_changes_39, R_longest_39, T_finding_16, R_goal_39))
  else
  (if x2 = 1 then
  (p_X7_back_b82 H_seats H_people R_number_39 R_changes_39 R_longest_39 T_finding_16 H_owns R_goal_39 S_size S_items R_changes_39)
  else
  (b1 (p_X4_rounds R_longest_39) fun r79 =>
  p_X7_back_b82 H_seats H_people R_number_39 R_changes_39 R_longest_39 T_finding_16 H_owns R_goal_39 S_size S_items r79))))
  else
  (some (r16, R_number, R_changes, R_longest, T_finding_16, R_goal))
def p_X7_back_b15 (H_seats : Int32) (H_people : Int32) (R_number : Int32) (R_changes : Int32) (R_longest : Int32) (T_finding : Int32) (H_owns : Nat → Int32) (R_goal : Nat → Int32) (S_size : Nat → Int32) (S_items : Nat → Nat → Int32) (t1 : Int32) (x1 : Int32) (x2 : Int32) : Option (Int32 × Int32 × Int32 × Int32 × Int32 × (Nat → Int32)) :=
  p_X7_back_b16 H_seats H_people R_number R_changes R_longest T_finding H_owns R_goal S_size S_items t1 0 x1 x2
def p_X7_back_b0 (H_seats : Int32) (H_people : Int32) (R_number : Int32) (R_changes : Int32) (R_longest : Int32) (T_finding : Int32) (H_owns : Nat → Int32) (R_goal : Nat → Int32) (S_size : Nat → Int32) (S_items : Nat → Nat → Int32) (x1 : Int32) (x2 : Int32) : Option (Int32 × Int32 × Int32 × Int32 × Int32 × (Nat → Int32)) :=
  if x2 < 0 then
  (p_X7_back_b15 H_seats H_people R_number R_changes R_longest T_finding H_owns R_goal S_size S_items x1 x1 x2)
  else
  (if 2 < x2 then
  (p_X7_back_b15 H_seats H_people R_number R_changes R_longest T_finding H_owns R_goal S_size S_items x1 x1 x2)
  else
  (p_X7_back_b16 H_seats H_people R_number R_changes R_longest T_finding H_owns R_goal S_size S_items x1 1 x1 x2))
def p_X7_back (H_seats : Int32) (H_people : Int32) (R_number : Int32) (R_changes : Int32) (R_longest : Int32) (T_finding : Int32) (H_owns : Nat → Int32) (R_goal : Nat → Int32) (S_size : Nat → Int32) (S_items : Nat → Nat → Int32) (x1 : Int32) (x2 : Int32) : Option (Int32 × Int32 × Int32 × Int32 × Int32 × (Nat → Int32)) := p_X7_back_b0 H_seats H_people R_number R_changes R_longest T_finding H_owns R_goal S_size S_items x1 x2
-- X7_seen
def p_X7_seen_b0 (W_size : Int32) (W_ready : Int32) (W_persons : Nat → Int32) (W_places : Nat → Int32) (x1 : Int32) (x2 : Int32) : Option (Int32 × Int32 × Int32 × (Nat → Int32) × (Nat → Int32)) :=
  b1 (p_X6_mayTell  x1 x2) fun r6 =>
  if r6 = 0 then
  (some ((-2), W_size, W_ready, W_persons, W_places))
  else
  (if W_size < 8 then
  (b4 (p_X6_tell W_size W_ready W_persons W_places x1 x2) fun W_size_36 W_ready_36 W_persons_36 W_places_36 =>
  some (W_size_36, W_size_36, W_ready_36, W_persons_36, W_places_36))
  else
  (some ((-4), W_size, W_ready, W_persons, W_places)))
def p_X7_seen (W_size : Int32) (W_ready : Int32) (W_persons : Nat → Int32) (W_places : Nat → Int32) (x1 : Int32) (x2 : Int32) : Option (Int32 × Int32 × Int32 × (Nat → Int32) × (Nat → Int32)) := p_X7_seen_b0 W_size W_ready W_persons W_places x1 x2
-- X7_read
def p_X7_read_b106 (W_size : Int32) (W_ready : Int32) (T_finding : Int32) (W_persons : Nat → Int32) (W_places : Nat → Int32) (S_size : Nat → Int32) (S_items : Nat → Nat → Int32) (x4 : Int32) : Option (Int32 × Int32 × Int32 × Int32 × (Nat → Int32) × (Nat → Int32)) :=
  some (x4, W_size, W_ready, T_finding, W_persons, W_places)
def p_X7_read_b29x (K29 : Int32 → Int32 → Int32 → (Nat → Int32) → (Nat → Int32) → (Nat → Int32) → (Nat → Nat → Int32) → Int32 → Nat → Int32 → Int32 → Option (Int32 × Int32 × Int32 × Int32 × (Nat → Int32) × (Nat → Int32))) (W_size : Int32) (W_ready : Int32) (T_finding : Int32) (W_persons : Nat → Int32) (W_places : Nat → Int32) (S_size : Nat → Int32) (S_items : Nat → Nat → Int32) (x1 : Int32) (s3 : Nat) (x4 : Int32) (x5 : Int32) : Option (Int32 × Int32 × Int32 × Int32 × (Nat → Int32) × (Nat → Int32)) :=
  gd (inB x1 4) <|
  gd (decide (x1.toNatClampNeg < 4)) <|
  if (S_size x1.toNatClampNeg) ≤ (x5 + 1) then
  (p_X7_read_b106 W_size W_ready T_finding W_persons W_places S_size S_items x4)
  else
  (if 8 ≤ W_size then
  (p_X7_read_b106 W_size W_ready T_finding W_persons W_places S_size S_items x4)
  else
  (gd (decide (s3 < 4)) <|
  gd (inB x5 60) <|
  gd (decide (s3 < 4)) <|
  gd (inB (x5 + 1) 60) <|
  b1 (p_X6_mayTell  (S_items s3 x5.toNatClampNeg) (S_items s3 (x5 + 1).toNatClampNeg)) fun r71 =>
  if r71 = 0 then
  (p_X7_read_b106 W_size W_ready T_finding W_persons W_places S_size S_items x4)
  else
  (gd (decide (s3 < 4)) <|
  gd (inB x5 60) <|
  gd (decide (s3 < 4)) <|
  gd (inB (x5 + 1) 60) <|
  b4 (p_X6_tell W_size W_ready W_persons W_places (S_items s3 x5.toNatClampNeg) (S_items s3 (x5 + 1).toNatClampNeg)) fun W_size_94 W_ready_94 W_persons_94 W_places_94 =>
  nm (x4 + 1 : Int32) fun x97 =>
  nm (x5 + 2 : Int32) fun x100 =>
  K29 W_size_94 W_ready_94 T_finding W_persons_94 W_places_94 S_size S_items x1 s3 x97 x100)))
def p_X7_read_b29 : Nat → Int32 → Int32 → Int32 → (Nat → Int32) → (Nat → Int32) → (Nat → Int32) → (Nat → Nat → Int32) → Int32 → Nat → Int32 → Int32 → Option (Int32 × Int32 × Int32 × Int32 × (Nat → Int32) × (Nat → Int32))
  | 0 => fun _ _ _ _ _ _ _ _ _ _ _ => none
  | n + 1 => p_X7_read_b29x (p_X7_read_b29 n)
def p_X7_read_b0 (W_size : Int32) (W_ready : Int32) (T_finding : Int32) (W_persons : Nat → Int32) (W_places : Nat → Int32) (S_size : Nat → Int32) (S_items : Nat → Nat → Int32) (x1 : Int32) : Option (Int32 × Int32 × Int32 × Int32 × (Nat → Int32) × (Nat → Int32)) :=
  b2 (p_X7_refuseSheet T_finding S_size x1 1) fun r3 T_finding_3 =>
  if r3 = 0 then
  (gd (inB x1 4) <|
  gd (decide (x1.toNatClampNeg < 4)) <|
  p_X7_read_b29 4096 W_size W_ready T_finding_3 W_persons W_places S_size S_items x1 x1.toNatClampNeg 0 0)
  else
  (some (r3, W_size, W_ready, T_finding_3, W_persons, W_places))
def p_X7_read (W_size : Int32) (W_ready : Int32) (T_finding : Int32) (W_persons : Nat → Int32) (W_places : Nat → Int32) (S_size : Nat → Int32) (S_items : Nat → Nat → Int32) (x1 : Int32) : Option (Int32 × Int32 × Int32 × Int32 × (Nat → Int32) × (Nat → Int32)) := p_X7_read_b0 W_size W_ready T_finding W_persons W_places S_size S_items x1
-- X7_forget
def p_X7_forget_b0 (W_size : Int32) (W_ready : Int32)  : Option (Int32 × Int32 × Int32) :=
  nm (W_size : Int32) fun x7 =>
  b2 (p_X6_clear W_size W_ready) fun W_size_12 W_ready_12 =>
  some (x7, W_size_12, W_ready_12)
def p_X7_forget (W_size : Int32) (W_ready : Int32)  : Option (Int32 × Int32 × Int32) := p_X7_forget_b0 W_size W_ready 
-- X7_losers
def p_X7_losers_b0 (H_seats : Int32) (H_people : Int32) (W_size : Int32) (W_suspects : Int32) (W_ready : Int32) (W_total : Int64) (H_sorts : Nat → Int32) (H_bySort : Nat → Int32) (H_owns : Nat → Int32) (H_kinds : Nat → Int32) (W_persons : Nat → Int32) (W_places : Nat → Int32) (W_allowed : Nat → Int32) (W_kinds : Nat → Int32) (W_answers : Nat → Int32) (W_weights : Nat → Int64) (W_reach : Nat → Int64)  : Option (Int32 × Int32 × Int32 × Int64 × (Nat → Int32) × (Nat → Int32) × (Nat → Int32) × (Nat → Int64) × (Nat → Int64)) :=
  b8 (p_X6_refresh H_seats H_people W_size W_suspects W_ready W_total H_sorts H_bySort H_owns H_kinds W_persons W_places W_allowed W_kinds W_answers W_weights W_reach) fun W_suspects_4 W_ready_4 W_total_4 W_allowed_4 W_kinds_4 W_answers_4 W_weights_4 W_reach_4 =>
  some (W_suspects_4, W_suspects_4, W_ready_4, W_total_4, W_allowed_4, W_kinds_4, W_answers_4, W_weights_4, W_reach_4)
def p_X7_losers (H_seats : Int32) (H_people : Int32) (W_size : Int32) (W_suspects : Int32) (W_ready : Int32) (W_total : Int64) (H_sorts : Nat → Int32) (H_bySort : Nat → Int32) (H_owns : Nat → Int32) (H_kinds : Nat → Int32) (W_persons : Nat → Int32) (W_places : Nat → Int32) (W_allowed : Nat → Int32) (W_kinds : Nat → Int32) (W_answers : Nat → Int32) (W_weights : Nat → Int64) (W_reach : Nat → Int64)  : Option (Int32 × Int32 × Int32 × Int64 × (Nat → Int32) × (Nat → Int32) × (Nat → Int32) × (Nat → Int64) × (Nat → Int64)) := p_X7_losers_b0 H_seats H_people W_size W_suspects W_ready W_total H_sorts H_bySort H_owns H_kinds W_persons W_places W_allowed W_kinds W_answers W_weights W_reach 
-- X7_share
def p_X7_share_b27 (H_seats : Int32) (H_people : Int32) (W_size : Int32) (W_suspects : Int32) (W_ready : Int32) (W_total : Int64) (H_sorts : Nat → Int32) (H_bySort : Nat → Int32) (H_owns : Nat → Int32) (H_kinds : Nat → Int32) (W_persons : Nat → Int32) (W_places : Nat → Int32) (W_allowed : Nat → Int32) (W_kinds : Nat → Int32) (W_answers : Nat → Int32) (W_weights : Nat → Int64) (W_reach : Nat → Int64)  : Option (Int64 × Int32 × Int32 × Int64 × (Nat → Int32) × (Nat → Int32) × (Nat → Int32) × (Nat → Int64) × (Nat → Int64)) :=
  b1 (p_X7_asLong  (-2)) fun r29 =>
  some (r29, W_suspects, W_ready, W_total, W_allowed, W_kinds, W_answers, W_weights, W_reach)
def p_X7_share_b80 (H_seats : Int32) (H_people : Int32) (W_size : Int32) (W_suspects : Int32) (W_ready : Int32) (W_total : Int64) (H_sorts : Nat → Int32) (H_bySort : Nat → Int32) (H_owns : Nat → Int32) (H_kinds : Nat → Int32) (W_persons : Nat → Int32) (W_places : Nat → Int32) (W_allowed : Nat → Int32) (W_kinds : Nat → Int32) (W_answers : Nat → Int32) (W_weights : Nat → Int64) (W_reach : Nat → Int64) (t0 : Int64) : Option (Int64 × Int32 × Int32 × Int64 × (Nat → Int32) × (Nat → Int32) × (Nat → Int32) × (Nat → Int64) × (Nat → Int64)) :=
  some (t0, W_suspects, W_ready, W_total, W_allowed, W_kinds, W_answers, W_weights, W_reach)
def p_X7_share_b0 (H_seats : Int32) (H_people : Int32) (W_size : Int32) (W_suspects : Int32) (W_ready : Int32) (W_total : Int64) (H_sorts : Nat → Int32) (H_bySort : Nat → Int32) (H_owns : Nat → Int32) (H_kinds : Nat → Int32) (W_persons : Nat → Int32) (W_places : Nat → Int32) (W_allowed : Nat → Int32) (W_kinds : Nat → Int32) (W_answers : Nat → Int32) (W_weights : Nat → Int64) (W_reach : Nat → Int64) (x1 : Int32) (x2 : Int32) : Option (Int64 × Int32 × Int32 × Int64 × (Nat → Int32) × (Nat → Int32) × (Nat → Int32) × (Nat → Int64) × (Nat → Int64)) :=
  b1 (p_X7_isNobody H_people x1) fun r2 =>
  if r2 = 0 then
  (b1 (p_X7_isNoPart  x2) fun r9 =>
  if r9 = 0 then
  (gd (inB x1 8) <|
  if (H_kinds x1.toNatClampNeg) = 0 then
  (b8 (p_X6_refresh H_seats H_people W_size W_suspects W_ready W_total H_sorts H_bySort H_owns H_kinds W_persons W_places W_allowed W_kinds W_answers W_weights W_reach) fun W_suspects_37 W_ready_37 W_total_37 W_allowed_37 W_kinds_37 W_answers_37 W_weights_37 W_reach_37 =>
  if (lg_cmp W_total_37 0) = 0 then
  (b1 (p_X7_asLong  (-3)) fun r54 =>
  p_X7_share_b80 H_seats H_people W_size W_suspects_37 W_ready_37 W_total_37 H_sorts H_bySort H_owns H_kinds W_persons W_places W_allowed_37 W_kinds_37 W_answers_37 W_weights_37 W_reach_37 r54)
  else
  (gd (inB x1 8) <|
  b1 (p_X7_part  (W_weights_37 x1.toNatClampNeg) W_total_37 x2) fun r77 =>
  p_X7_share_b80 H_seats H_people W_size W_suspects_37 W_ready_37 W_total_37 H_sorts H_bySort H_owns H_kinds W_persons W_places W_allowed_37 W_kinds_37 W_answers_37 W_weights_37 W_reach_37 r77))
  else
  (p_X7_share_b27 H_seats H_people W_size W_suspects W_ready W_total H_sorts H_bySort H_owns H_kinds W_persons W_places W_allowed W_kinds W_answers W_weights W_reach ))
  else
  (p_X7_share_b27 H_seats H_people W_size W_suspects W_ready W_total H_sorts H_bySort H_owns H_kinds W_persons W_places W_allowed W_kinds W_answers W_weights W_reach ))
  else
  (p_X7_share_b27 H_seats H_people W_size W_suspects W_ready W_total H_sorts H_bySort H_owns H_kinds W_persons W_places W_allowed W_kinds W_answers W_weights W_reach )
def p_X7_share (H_seats : Int32) (H_people : Int32) (W_size : Int32) (W_suspects : Int32) (W_ready : Int32) (W_total : Int64) (H_sorts : Nat → Int32) (H_bySort : Nat → Int32) (H_owns : Nat → Int32) (H_kinds : Nat → Int32) (W_persons : Nat → Int32) (W_places : Nat → Int32) (W_allowed : Nat → Int32) (W_kinds : Nat → Int32) (W_answers : Nat → Int32) (W_weights : Nat → Int64) (W_reach : Nat → Int64) (x1 : Int32) (x2 : Int32) : Option (Int64 × Int32 × Int32 × Int64 × (Nat → Int32) × (Nat → Int32) × (Nat → Int32) × (Nat → Int64) × (Nat → Int64)) := p_X7_share_b0 H_seats H_people W_size W_suspects W_ready W_total H_sorts H_bySort H_owns H_kinds W_persons W_places W_allowed W_kinds W_answers W_weights W_reach x1 x2
-- X7_likeliest
def p_X7_likeliest_b0 (H_seats : Int32) (H_people : Int32) (W_size : Int32) (W_suspects : Int32) (W_ready : Int32) (W_total : Int64) (H_sorts : Nat → Int32) (H_bySort : Nat → Int32) (H_owns : Nat → Int32) (H_kinds : Nat → Int32) (W_persons : Nat → Int32) (W_places : Nat → Int32) (W_allowed : Nat → Int32) (W_kinds : Nat → Int32) (W_answers : Nat → Int32) (W_weights : Nat → Int64) (W_reach : Nat → Int64)  : Option (Int32 × Int32 × Int32 × Int64 × (Nat → Int32) × (Nat → Int32) × (Nat → Int32) × (Nat → Int64) × (Nat → Int64)) :=
  b8 (p_X6_refresh H_seats H_people W_size W_suspects W_ready W_total H_sorts H_bySort H_owns H_kinds W_persons W_places W_allowed W_kinds W_answers W_weights W_reach) fun W_suspects_4 W_ready_4 W_total_4 W_allowed_4 W_kinds_4 W_answers_4 W_weights_4 W_reach_4 =>
  b1 (p_X6_heaviest H_people W_weights_4) fun r11 =>
  some (r11, W_suspects_4, W_ready_4, W_total_4, W_allowed_4, W_kinds_4, W_answers_4, W_weights_4, W_reach_4)
def p_X7_likeliest (H_seats : Int32) (H_people : Int32) (W_size : Int32) (W_suspects : Int32) (W_ready : Int32) (W_total : Int64) (H_sorts : Nat → Int32) (H_bySort : Nat → Int32) (H_owns : Nat → Int32) (H_kinds : Nat → Int32) (W_persons : Nat → Int32) (W_places : Nat → Int32) (W_allowed : Nat → Int32) (W_kinds : Nat → Int32) (W_answers : Nat → Int32) (W_weights : Nat → Int64) (W_reach : Nat → Int64)  : Option (Int32 × Int32 × Int32 × Int64 × (Nat → Int32) × (Nat → Int32) × (Nat → Int32) × (Nat → Int64) × (Nat → Int64)) := p_X7_likeliest_b0 H_seats H_people W_size W_suspects W_ready W_total H_sorts H_bySort H_owns H_kinds W_persons W_places W_allowed W_kinds W_answers W_weights W_reach 
-- X7_ask
def p_X7_ask_b49 (H_seats : Int32) (H_people : Int32) (W_size : Int32) (W_suspects : Int32) (W_ready : Int32) (W_total : Int64) (H_sorts : Nat → Int32) (H_bySort : Nat → Int32) (H_owns : Nat → Int32) (H_kinds : Nat → Int32) (W_persons : Nat → Int32) (W_places : Nat → Int32) (W_allowed : Nat → Int32) (W_kinds : Nat → Int32) (W_answers : Nat → Int32) (W_weights : Nat → Int64) (W_reach : Nat → Int64) (t0 : Int32) : Option (Int32 × Int32 × Int32 × Int64 × (Nat → Int32) × (Nat → Int32) × (Nat → Int32) × (Nat → Int64) × (Nat → Int64)) :=
  some (t0, W_suspects, W_ready, W_total, W_allowed, W_kinds, W_answers, W_weights, W_reach)
def p_X7_ask_b0 (H_seats : Int32) (H_people : Int32) (W_size : Int32) (W_suspects : Int32) (W_ready : Int32) (W_total : Int64) (H_sorts : Nat → Int32) (H_bySort : Nat → Int32) (H_owns : Nat → Int32) (H_kinds : Nat → Int32) (W_persons : Nat → Int32) (W_places : Nat → Int32) (W_allowed : Nat → Int32) (W_kinds : Nat → Int32) (W_answers : Nat → Int32) (W_weights : Nat → Int64) (W_reach : Nat → Int64) (x1 : Int32) : Option (Int32 × Int32 × Int32 × Int64 × (Nat → Int32) × (Nat → Int32) × (Nat → Int32) × (Nat → Int64) × (Nat → Int64)) :=
  b1 (p_X7_isNoPart  x1) fun r1 =>
  if r1 = 0 then
  (b8 (p_X6_refresh H_seats H_people W_size W_suspects W_ready W_total H_sorts H_bySort H_owns H_kinds W_persons W_places W_allowed W_kinds W_answers W_weights W_reach) fun W_suspects_14 W_ready_14 W_total_14 W_allowed_14 W_kinds_14 W_answers_14 W_weights_14 W_reach_14 =>
  b1 (p_X6_whomToAsk H_seats H_people W_size W_suspects_14 W_persons W_answers_14) fun r21 =>
  if r21 = (-1) then
  (some ((-3), W_suspects_14, W_ready_14, W_total_14, W_allowed_14, W_kinds_14, W_answers_14, W_weights_14, W_reach_14))
  else
  (if x1 = 0 then
  (p_X7_ask_b49 H_seats H_people W_size W_suspects_14 W_ready_14 W_total_14 H_sorts H_bySort H_owns H_kinds W_persons W_places W_allowed_14 W_kinds_14 W_answers_14 W_weights_14 W_reach_14 r21)
  else
  (b1 (p_X6_worstCase H_seats H_people W_answers_14 r21) fun r46 =>
  p_X7_ask_b49 H_seats H_people W_size W_suspects_14 W_ready_14 W_total_14 H_sorts H_bySort H_owns H_kinds W_persons W_places W_allowed_14 W_kinds_14 W_answers_14 W_weights_14 W_reach_14 r46)))
  else
  (some ((-2), W_suspects, W_ready, W_total, W_allowed, W_kinds, W_answers, W_weights, W_reach))
def p_X7_ask (H_seats : Int32) (H_people : Int32) (W_size : Int32) (W_suspects : Int32) (W_ready : Int32) (W_total : Int64) (H_sorts : Nat → Int32) (H_bySort : Nat → Int32) (H_owns : Nat → Int32) (H_kinds : Nat → Int32) (W_persons : Nat → Int32) (W_places : Nat → Int32) (W_allowed : Nat → Int32) (W_kinds : Nat → Int32) (W_answers : Nat → Int32) (W_weights : Nat → Int64) (W_reach : Nat → Int64) (x1 : Int32) : Option (Int32 × Int32 × Int32 × Int64 × (Nat → Int32) × (Nat → Int32) × (Nat → Int32) × (Nat → Int64) × (Nat → Int64)) := p_X7_ask_b0 H_seats H_people W_size W_suspects W_ready W_total H_sorts H_bySort H_owns H_kinds W_persons W_places W_allowed W_kinds W_answers W_weights W_reach x1
-- X7_turned
def p_X7_turned_b27   : Option (Int64) :=
  b1 (p_X7_asLong  (-2)) fun r29 =>
  some r29
def p_X7_turned_b41x (K41 : Int32 → Int32 → Int32 → Int64 → Int32 → Option (Int64))  (x1 : Int32) (x2 : Int32) (x3 : Int32) (x4 : Int64) (x6 : Int32) : Option (Int64) :=
  if x1 < x6 then
  (b1 (p_X7_part  x4 2520 x3) fun r74 =>
  some r74)
  else
  (gd (decide (¬ x6.toInt64 = 0)) <|
  nm ((x4 + ((x2.toInt64 * 2520) / x6.toInt64)) : Int64) fun x60 =>
  nm (x6 + 1 : Int32) fun x62 =>
  K41  x1 x2 x3 x60 x62)
def p_X7_turned_b41 : Nat → Int32 → Int32 → Int32 → Int64 → Int32 → Option (Int64)
  | 0 => fun _ _ _ _ _ => none
  | n + 1 => p_X7_turned_b41x (p_X7_turned_b41 n)
def p_X7_turned_b0  (x1 : Int32) (x2 : Int32) (x3 : Int32) : Option (Int64) :=
  if x1 < 1 then
  (p_X7_turned_b27  )
  else
  (if 9 < x1 then
  (p_X7_turned_b27  )
  else
  (if x2 < 0 then
  (p_X7_turned_b27  )
  else
  (if x1 < x2 then
  (p_X7_turned_b27  )
  else
  (b1 (p_X7_isNoPart  x3) fun r21 =>
  if r21 = 0 then
  (nm ((x2 + 1) : Int32) fun x39 =>
  p_X7_turned_b41 4096  x1 x2 x3 0 x39)
  else
  (p_X7_turned_b27  )))))
def p_X7_turned  (x1 : Int32) (x2 : Int32) (x3 : Int32) : Option (Int64) := p_X7_turned_b0  x1 x2 x3
-- X7_evening
def p_X7_evening_b48 (H_seats : Int32) (H_people : Int32) (E_wrongs : Int32) (E_state : Int32) (H_sorts : Nat → Int32) (H_bySort : Nat → Int32) (H_owns : Nat → Int32) (H_kinds : Nat → Int32) (E_places : Nat → Int32) (t0 : Int32) : Option (Int32 × Int32 × Int32 × (Nat → Int32)) :=
  some (t0, E_wrongs, E_state, E_places)
def p_X7_evening_b16 (H_seats : Int32) (H_people : Int32) (E_wrongs : Int32) (E_state : Int32) (H_sorts : Nat → Int32) (H_bySort : Nat → Int32) (H_owns : Nat → Int32) (H_kinds : Nat → Int32) (E_places : Nat → Int32) (x1 : Int32) (x2 : Int32) : Option (Int32 × Int32 × Int32 × (Nat → Int32)) :=
  b3 (p_X2_run H_seats H_people E_wrongs E_state H_sorts H_bySort H_owns H_kinds E_places x1) fun E_wrongs_21 E_state_21 E_places_21 =>
  if x2 = (-1) then
  (p_X7_evening_b48 H_seats H_people E_wrongs_21 E_state_21 H_sorts H_bySort H_owns H_kinds E_places_21 E_wrongs_21)
  else
  (gd (inB x2 8) <|
  p_X7_evening_b48 H_seats H_people E_wrongs_21 E_state_21 H_sorts H_bySort H_owns H_kinds E_places_21 (E_places_21 x2.toNatClampNeg))
def p_X7_evening_b0 (H_seats : Int32) (H_people : Int32) (E_wrongs : Int32) (E_state : Int32) (H_sorts : Nat → Int32) (H_bySort : Nat → Int32) (H_owns : Nat → Int32) (H_kinds : Nat → Int32) (E_places : Nat → Int32) (x1 : Int32) (x2 : Int32) : Option (Int32 × Int32 × Int32 × (Nat → Int32)) :=
  if x2 = (-1) then
  (p_X7_evening_b16 H_seats H_people E_wrongs E_state H_sorts H_bySort H_owns H_kinds E_places x1 x2)
  else
  (b1 (p_X7_isNobody H_people x2) fun r7 =>
  if r7 = 0 then
  (p_X7_evening_b16 H_seats H_people E_wrongs E_state H_sorts H_bySort H_owns H_kinds E_places x1 x2)
  else
  (some ((-2), E_wrongs, E_state, E_places)))
def p_X7_evening (H_seats : Int32) (H_people : Int32) (E_wrongs : Int32) (E_state : Int32) (H_sorts : Nat → Int32) (H_bySort : Nat → Int32) (H_owns : Nat → Int32) (H_kinds : Nat → Int32) (E_places : Nat → Int32) (x1 : Int32) (x2 : Int32) : Option (Int32 × Int32 × Int32 × (Nat → Int32)) := p_X7_evening_b0 H_seats H_people E_wrongs E_state H_sorts H_bySort H_owns H_kinds E_places x1 x2
-- X7_isNoForm
def p_X7_isNoForm_b14  (t0 : Int32) : Option (Int32) :=
  gd (isZ t0) <|
  some t0
def p_X7_isNoForm_b9   : Option (Int32) :=
  p_X7_isNoForm_b14  1
def p_X7_isNoForm_b0  (x0 : Int32) : Option (Int32) :=
  if x0 < 0 then
  (p_X7_isNoForm_b9  )
  else
  (if x0 ≤ 2 then
  (p_X7_isNoForm_b14  0)
  else
  (p_X7_isNoForm_b9  ))
def p_X7_isNoForm  (x0 : Int32) : Option (Int32) := p_X7_isNoForm_b0  x0
-- X7_sheet
def p_X7_sheet_b20 (T_finding : Int32) (S_form : Nat → Int32) (S_size : Nat → Int32) (S_items : Nat → Nat → Int32)  : Option (Int32 × Int32 × (Nat → Int32) × (Nat → Int32) × (Nat → Nat → Int32)) :=
  some ((-2), T_finding, S_form, S_size, S_items)
def p_X7_sheet_b0 (T_finding : Int32) (S_form : Nat → Int32) (S_size : Nat → Int32) (S_items : Nat → Nat → Int32) (x1 : Int32) (x2 : Int32) (x3 : Int32) : Option (Int32 × Int32 × (Nat → Int32) × (Nat → Int32) × (Nat → Nat → Int32)) :=
  b1 (p_X7_isNoSheet  x1) fun r1 =>
  if r1 = 0 then
  (b1 (p_X7_isNoForm  x2) fun r8 =>
  if r8 = 0 then
  (if x3 ≤ 60 then
  (if 0 ≤ x3 then
  (gd (inB x1 4) <|
  gd (decide (x1.toNatClampNeg < 4)) <|
  b3 (p_X5_renew S_form S_size S_items x1.toNatClampNeg x2 x3) fun S_form_41 S_size_41 S_items_41 =>
  some (x3, T_finding, S_form_41, S_size_41, S_items_41))
  else
  (b2 (p_X7_find T_finding 5) fun r29 T_finding_29 =>
  some (r29, T_finding_29, S_form, S_size, S_items)))
  else
  (p_X7_sheet_b20 T_finding S_form S_size S_items ))
  else
  (p_X7_sheet_b20 T_finding S_form S_size S_items ))
  else
  (p_X7_sheet_b20 T_finding S_form S_size S_items )
def p_X7_sheet (T_finding : Int32) (S_form : Nat → Int32) (S_size : Nat → Int32) (S_items : Nat → Nat → Int32) (x1 : Int32) (x2 : Int32) (x3 : Int32) : Option (Int32 × Int32 × (Nat → Int32) × (Nat → Int32) × (Nat → Nat → Int32)) := p_X7_sheet_b0 T_finding S_form S_size S_items x1 x2 x3
-- X7_lose
def p_X7_lose_b0 (T_finding : Int32) (S_size : Nat → Int32) (x1 : Int32) : Option (Int32 × Int32 × (Nat → Int32)) :=
  b2 (p_X7_refuseSheet T_finding S_size x1 1) fun r3 T_finding_3 =>
  if r3 = 0 then
  (gd (inB x1 4) <|
  gd (decide (x1.toNatClampNeg < 4)) <|
  nm ((S_size x1.toNatClampNeg) : Int32) fun x22 =>
  gd (inB x1 4) <|
  gd (decide (x1.toNatClampNeg < 4)) <|
  nm (upd S_size x1.toNatClampNeg (-1)) fun S_size_30 =>
  some (x22, T_finding_3, S_size_30))
  else
  (some (r3, T_finding_3, S_size))
def p_X7_lose (T_finding : Int32) (S_size : Nat → Int32) (x1 : Int32) : Option (Int32 × Int32 × (Nat → Int32)) := p_X7_lose_b0 T_finding S_size x1
-- X7_refuseItem
def p_X7_refuseItem_b69 (T_finding : Int32) (S_form : Nat → Int32) (S_size : Nat → Int32) (t0 : Int32) : Option (Int32 × Int32) :=
  some (t0, T_finding)
def p_X7_refuseItem_b14 (T_finding : Int32) (S_form : Nat → Int32) (S_size : Nat → Int32) (t1 : Int32) (t2 : Int32) (x1 : Int32) (x2 : Int32) (x3 : Int32) : Option (Int32 × Int32) :=
  b2 (p_X7_refuseSheet T_finding S_size t1 t2) fun r14 T_finding_14 =>
  if r14 = 0 then
  (gd (inB x1 4) <|
  gd (decide (x1.toNatClampNeg < 4)) <|
  if (S_form x1.toNatClampNeg) = x2 then
  (gd (inB x1 4) <|
  gd (decide (x1.toNatClampNeg < 4)) <|
  b1 (p_X5_holds S_size x1.toNatClampNeg x3 1) fun r54 =>
  if r54 = 0 then
  (b2 (p_X7_find T_finding_14 2) fun r66 T_finding_66 =>
  p_X7_refuseItem_b69 T_finding_66 S_form S_size r66)
  else
  (p_X7_refuseItem_b69 T_finding_14 S_form S_size 0))
  else
  (b2 (p_X7_find T_finding_14 3) fun r42 T_finding_42 =>
  some (r42, T_finding_42)))
  else
  (some (r14, T_finding_14))
def p_X7_refuseItem_b0 (T_finding : Int32) (S_form : Nat → Int32) (S_size : Nat → Int32) (x1 : Int32) (x2 : Int32) (x3 : Int32) : Option (Int32 × Int32) :=
  b1 (p_X7_isNoForm  x2) fun r3 =>
  if r3 = 0 then
  (p_X7_refuseItem_b14 T_finding S_form S_size x1 1 x1 x2 x3)
  else
  (p_X7_refuseItem_b14 T_finding S_form S_size x1 0 x1 x2 x3)
def p_X7_refuseItem (T_finding : Int32) (S_form : Nat → Int32) (S_size : Nat → Int32) (x1 : Int32) (x2 : Int32) (x3 : Int32) : Option (Int32 × Int32) := p_X7_refuseItem_b0 T_finding S_form S_size x1 x2 x3
-- X7_lay
def p_X7_lay_b0 (T_finding : Int32) (S_form : Nat → Int32) (S_size : Nat → Int32) (S_items : Nat → Nat → Int32) (x1 : Int32) (x2 : Int32) (x3 : Int32) (x4 : Int32) : Option (Int32 × Int32 × (Nat → Nat → Int32)) :=
  b2 (p_X7_refuseItem T_finding S_form S_size x1 x2 x3) fun r4 T_finding_4 =>
  if r4 = 0 then
  (gd (inB x1 4) <|
  gd (decide (x1.toNatClampNeg < 4)) <|
  b1 (p_X5_put S_form S_items x1.toNatClampNeg x3 x4) fun S_items_26 =>
  some (1, T_finding_4, S_items_26))
  else
  (some (r4, T_finding_4, S_items))
def p_X7_lay (T_finding : Int32) (S_form : Nat → Int32) (S_size : Nat → Int32) (S_items : Nat → Nat → Int32) (x1 : Int32) (x2 : Int32) (x3 : Int32) (x4 : Int32) : Option (Int32 × Int32 × (Nat → Nat → Int32)) := p_X7_lay_b0 T_finding S_form S_size S_items x1 x2 x3 x4
-- X7_get
def p_X7_get_b27 (T_finding : Int32) (S_form : Nat → Int32) (S_size : Nat → Int32) (S_items : Nat → Nat → Int32) (t0 : Int32) : Option (Int32 × Int32) :=
  some (t0, T_finding)
def p_X7_get_b0 (T_finding : Int32) (S_form : Nat → Int32) (S_size : Nat → Int32) (S_items : Nat → Nat → Int32) (x1 : Int32) (x2 : Int32) (x3 : Int32) : Option (Int32 × Int32) :=
  b2 (p_X7_refuseItem T_finding S_form S_size x1 x2 x3) fun r4 T_finding_4 =>
  if r4 = 0 then
  (gd (inB x1 4) <|
  gd (decide (x1.toNatClampNeg < 4)) <|
  gd (decide (x1.toNatClampNeg < 4)) <|
  gd (inB x3 60) <|
  p_X7_get_b27 T_finding_4 S_form S_size S_items (S_items x1.toNatClampNeg x3.toNatClampNeg))
  else
  (p_X7_get_b27 T_finding_4 S_form S_size S_items (-2147483648))
def p_X7_get (T_finding : Int32) (S_form : Nat → Int32) (S_size : Nat → Int32) (S_items : Nat → Nat → Int32) (x1 : Int32) (x2 : Int32) (x3 : Int32) : Option (Int32 × Int32) := p_X7_get_b0 T_finding S_form S_size S_items x1 x2 x3
-- X7_copy
def p_X7_copy_b14 (T_finding : Int32) (S_form : Nat → Int32) (S_size : Nat → Int32) (S_items : Nat → Nat → Int32)  : Option (Int32 × Int32 × (Nat → Nat → Int32)) :=
  some ((-2), T_finding, S_items)
def p_X7_copy_b51 (T_finding : Int32) (S_form : Nat → Int32) (S_size : Nat → Int32) (S_items : Nat → Nat → Int32)  : Option (Int32 × Int32 × (Nat → Nat → Int32)) :=
  b2 (p_X7_find T_finding 1) fun r53 T_finding_53 =>
  some (r53, T_finding_53, S_items)
def p_X7_copy_b99 (T_finding : Int32) (S_form : Nat → Int32) (S_size : Nat → Int32) (S_items : Nat → Nat → Int32)  : Option (Int32 × Int32 × (Nat → Nat → Int32)) :=
  b2 (p_X7_find T_finding 2) fun r101 T_finding_101 =>
  some (r101, T_finding_101, S_items)
def p_X7_copy_b0 (T_finding : Int32) (S_form : Nat → Int32) (S_size : Nat → Int32) (S_items : Nat → Nat → Int32) (x1 : Int32) (x2 : Int32) (x3 : Int32) (x4 : Int32) (x5 : Int32) : Option (Int32 × Int32 × (Nat → Nat → Int32)) :=
  b1 (p_X7_isNoSheet  x1) fun r1 =>
  if r1 = 0 then
  (b1 (p_X7_isNoSheet  x3) fun r8 =>
  if r8 = 0 then
  (gd (inB x1 4) <|
  gd (inB x3 4) <|
  gd (decide (x1.toNatClampNeg < 4)) <|
  if (S_size x1.toNatClampNeg) = (-1) then
  (p_X7_copy_b51 T_finding S_form S_size S_items )
  else
  (gd (decide (x3.toNatClampNeg < 4)) <|
  if (S_size x3.toNatClampNeg) = (-1) then
  (p_X7_copy_b51 T_finding S_form S_size S_items )
  else
  (gd (decide (x1.toNatClampNeg < 4)) <|
  gd (decide (x3.toNatClampNeg < 4)) <|
  if (S_form x1.toNatClampNeg) = (S_form x3.toNatClampNeg) then
  (gd (decide (x1.toNatClampNeg < 4)) <|
  b1 (p_X5_holds S_size x1.toNatClampNeg x2 x5) fun r81 =>
  if r81 = 0 then
  (p_X7_copy_b99 T_finding S_form S_size S_items )
  else
  (gd (decide (x3.toNatClampNeg < 4)) <|
  b1 (p_X5_holds S_size x3.toNatClampNeg x4 x5) fun r93 =>
  if r93 = 0 then
  (p_X7_copy_b99 T_finding S_form S_size S_items )
  else
  (gd (decide (x1.toNatClampNeg < 4)) <|
  gd (decide (x3.toNatClampNeg < 4)) <|
  gd (decide (x1.toNatClampNeg < 4)) <|
  gd (decide (x3.toNatClampNeg < 4)) <|
  gd (cpB x2 x4 x5 60 60) <|
  nm (va_up S_items x3.toNatClampNeg (va_cpy (S_items x1.toNatClampNeg) (S_items x3.toNatClampNeg) x2.toNatClampNeg x4.toNatClampNeg x5.toNatClampNeg)) fun S_items_120 =>
  some (1, T_finding, S_items_120))))
  else
  (b2 (p_X7_find T_finding 4) fun r72 T_finding_72 =>
  some (r72, T_finding_72, S_items)))))
  else
  (p_X7_copy_b14 T_finding S_form S_size S_items ))
  else
  (p_X7_copy_b14 T_finding S_form S_size S_items )
def p_X7_copy (T_finding : Int32) (S_form : Nat → Int32) (S_size : Nat → Int32) (S_items : Nat → Nat → Int32) (x1 : Int32) (x2 : Int32) (x3 : Int32) (x4 : Int32) (x5 : Int32) : Option (Int32 × Int32 × (Nat → Nat → Int32)) := p_X7_copy_b0 T_finding S_form S_size S_items x1 x2 x3 x4 x5
-- X7_write
def p_X7_write_b45x (K45 : Int32 → Int32 → Int32 → Int32 → Int32 → (Nat → Int32) → (Nat → Int32) → (Nat → Int32) → (Nat → Int32) → (Nat → Int32) → (Nat → Int32) → (Nat → Int32) → (Nat → Nat → Int32) → Int32 → Int32 → Int32 → Option (Int32 × Int32 × Int32 × Int32 × (Nat → Int32) × (Nat → Nat → Int32))) (H_seats : Int32) (H_people : Int32) (E_wrongs : Int32) (E_state : Int32) (T_finding : Int32) (H_sorts : Nat → Int32) (H_bySort : Nat → Int32) (H_owns : Nat → Int32) (H_kinds : Nat → Int32) (E_places : Nat → Int32) (S_form : Nat → Int32) (S_size : Nat → Int32) (S_items : Nat → Nat → Int32) (x2 : Int32) (x4 : Int32) (x5 : Int32) : Option (Int32 × Int32 × Int32 × Int32 × (Nat → Int32) × (Nat → Nat → Int32)) :=
  if x4 ≤ x5 then
  (some (x4, E_wrongs, E_state, T_finding, E_places, S_items))
  else
  (gd (inB x2 4) <|
  gd (inB x5 8) <|
  gd (decide (x2.toNatClampNeg < 4)) <|
  b1 (p_X5_put S_form S_items x2.toNatClampNeg x5 (E_places x5.toNatClampNeg)) fun S_items_70 =>
  nm (x5 + 1 : Int32) fun x73 =>
  K45 H_seats H_people E_wrongs E_state T_finding H_sorts H_bySort H_owns H_kinds E_places S_form S_size S_items_70 x2 x4 x73)
def p_X7_write_b45 : Nat → Int32 → Int32 → Int32 → Int32 → Int32 → (Nat → Int32) → (Nat → Int32) → (Nat → Int32) → (Nat → Int32) → (Nat → Int32) → (Nat → Int32) → (Nat → Int32) → (Nat → Nat → Int32) → Int32 → Int32 → Int32 → Option (Int32 × Int32 × Int32 × Int32 × (Nat → Int32) × (Nat → Nat → Int32))
  | 0 => fun _ _ _ _ _ _ _ _ _ _ _ _ _ _ _ _ => none
  | n + 1 => p_X7_write_b45x (p_X7_write_b45 n)
def p_X7_write_b0 (H_seats : Int32) (H_people : Int32) (E_wrongs : Int32) (E_state : Int32) (T_finding : Int32) (H_sorts : Nat → Int32) (H_bySort : Nat → Int32) (H_owns : Nat → Int32) (H_kinds : Nat → Int32) (E_places : Nat → Int32) (S_form : Nat → Int32) (S_size : Nat → Int32) (S_items : Nat → Nat → Int32) (x1 : Int32) (x2 : Int32) : Option (Int32 × Int32 × Int32 × Int32 × (Nat → Int32) × (Nat → Nat → Int32)) :=
  b2 (p_X7_refuseSheet T_finding S_size x2 1) fun r3 T_finding_3 =>
  if r3 = 0 then
  (b3 (p_X2_run H_seats H_people E_wrongs E_state H_sorts H_bySort H_owns H_kinds E_places x1) fun E_wrongs_18 E_state_18 E_places_18 =>
  gd (inB x2 4) <|
  gd (decide (x2.toNatClampNeg < 4)) <|
  nm ((if (S_size x2.toNatClampNeg) < H_people then (S_size x2.toNatClampNeg) else H_people) : Int32) fun x40 =>
  p_X7_write_b45 4096 H_seats H_people E_wrongs_18 E_state_18 T_finding_3 H_sorts H_bySort H_owns H_kinds E_places_18 S_form S_size S_items x2 x40 0)
  else
  (some (r3, E_wrongs, E_state, T_finding_3, E_places, S_items))
def p_X7_write (H_seats : Int32) (H_people : Int32) (E_wrongs : Int32) (E_state : Int32) (T_finding : Int32) (H_sorts : Nat → Int32) (H_bySort : Nat → Int32) (H_owns : Nat → Int32) (H_kinds : Nat → Int32) (E_places : Nat → Int32) (S_form : Nat → Int32) (S_size : Nat → Int32) (S_items : Nat → Nat → Int32) (x1 : Int32) (x2 : Int32) : Option (Int32 × Int32 × Int32 × Int32 × (Nat → Int32) × (Nat → Nat → Int32)) := p_X7_write_b0 H_seats H_people E_wrongs E_state T_finding H_sorts H_bySort H_owns H_kinds E_places S_form S_size S_items x1 x2
-- X7_count
def p_X7_count_b0 (H_seats : Int32) (H_rows : Int32) (H_people : Int32) (W_size : Int32) (T_finding : Int32) (H_lengths : Nat → Int32) (H_owns : Nat → Int32) (H_kinds : Nat → Int32) (x1 : Int32) : Option (Int32) :=
  if x1.toInt = 0 then
  (some H_seats)
  else
  (if x1.toInt = 1 then
  (some H_rows)
  else
  (if x1.toInt = 2 then
  (some H_people)
  else
  (if x1.toInt = 3 then
  (gd (inB 0 2) <|
  some (H_lengths (0 : Int32).toNatClampNeg))
  else
  (if x1.toInt = 4 then
  (gd (inB 1 2) <|
  some (H_lengths (1 : Int32).toNatClampNeg))
  else
  (if x1.toInt = 5 then
  (some W_size)
  else
  (if x1.toInt = 6 then
  (b1 (p_X3_countLost H_people H_kinds) fun r108 =>
  some r108)
  else
  (if x1.toInt = 7 then
  (b1 (p_X3_countUnowned H_seats H_people H_owns) fun r116 =>
  some r116)
  else
  (if x1.toInt = 8 then
  (some T_finding)
  else
  (some ((-2) : Int32))))))))))
def p_X7_count (H_seats : Int32) (H_rows : Int32) (H_people : Int32) (W_size : Int32) (T_finding : Int32) (H_lengths : Nat → Int32) (H_owns : Nat → Int32) (H_kinds : Nat → Int32) (x1 : Int32) : Option (Int32) := p_X7_count_b0 H_seats H_rows H_people W_size T_finding H_lengths H_owns H_kinds x1
-- X7_mix
def p_X7_mix_b0  (x0 : Int64) (x2 : Int64) (x4 : Int64) : Option (Int64) :=
  some ((31 * ((31 * x0) + x2)) + x4)
def p_X7_mix  (x0 : Int64) (x2 : Int64) (x4 : Int64) : Option (Int64) := p_X7_mix_b0  x0 x2 x4
-- X7_mixSeats
def p_X7_mixSeats_b20x (K5 : Int32 → Int32 → Int32 → Int64 → Int64 → (Nat → Int32) → (Nat → Int32) → (Nat → Int32) → (Nat → Int32) → (Nat → Int32) → (Nat → Int64) → (Nat → Int64) → (Nat → Int64) → (Nat → Int64) → (Nat → Int64) → Int64 → Int32 → Option (Int64 × Int32 × Int64 × Int64 × (Nat → Int64) × (Nat → Int64) × (Nat → Int64) × (Nat → Int64) × (Nat → Int64))) (K20 : Int32 → Int32 → Int32 → Int64 → Int64 → (Nat → Int32) → (Nat → Int32) → (Nat → Int32) → (Nat → Int32) → (Nat → Int32) → (Nat → Int64) → (Nat → Int64) → (Nat → Int64) → (Nat → Int64) → (Nat → Int64) → Int64 → Int32 → Int32 → Option (Int64 × Int32 × Int64 × Int64 × (Nat → Int64) × (Nat → Int64) × (Nat → Int64) × (Nat → Int64) × (Nat → Int64))) (H_seats : Int32) (H_people : Int32) (C_ready : Int32) (C_meanWrong : Int64) (C_meanLooks : Int64) (H_sorts : Nat → Int32) (H_rowOf : Nat → Int32) (H_bySort : Nat → Int32) (H_owns : Nat → Int32) (H_kinds : Nat → Int32) (C_reach : Nat → Int64) (C_sits : Nat → Int64) (C_wrongs : Nat → Int64) (C_free : Nat → Int64) (C_wrongIn : Nat → Int64) (x3 : Int64) (x5 : Int32) (x6 : Int32) : Option (Int64 × Int32 × Int64 × Int64 × (Nat → Int64) × (Nat → Int64) × (Nat → Int64) × (Nat → Int64) × (Nat → Int64)) :=
  if 2 < x6 then
  (b9 (p_X7_left H_seats H_people C_ready C_meanWrong C_meanLooks H_sorts H_bySort H_owns H_kinds C_reach C_sits C_wrongs C_free C_wrongIn x5 0) fun r53 C_ready_53 C_meanWrong_53 C_meanLooks_53 C_reach_53 C_sits_53 C_wrongs_53 C_free_53 C_wrongIn_53 =>
  b9 (p_X7_left H_seats H_people C_ready_53 C_meanWrong_53 C_meanLooks_53 H_sorts H_bySort H_owns H_kinds C_reach_53 C_sits_53 C_wrongs_53 C_free_53 C_wrongIn_53 x5 1) fun r60 C_ready_60 C_meanWrong_60 C_meanLooks_60 C_reach_60 C_sits_60 C_wrongs_60 C_free_60 C_wrongIn_60 =>
  b1 (p_X7_mix  x3 r53 r60) fun r63 =>
  nm (x5 + 1 : Int32) fun x67 =>
  K5 H_seats H_people C_ready_60 C_meanWrong_60 C_meanLooks_60 H_sorts H_rowOf H_bySort H_owns H_kinds C_reach_60 C_sits_60 C_wrongs_60 C_free_60 C_wrongIn_60 r63 x67)
  else
  (b1 (p_X7_seat H_seats H_people H_sorts H_rowOf H_owns x5 x6) fun r36 =>
  nm (((31 * x3) + r36.toInt64) : Int64) fun x41 =>
  nm (x6 + 1 : Int32) fun x42 =>
  K20 H_seats H_people C_ready C_meanWrong C_meanLooks H_sorts H_rowOf H_bySort H_owns H_kinds C_reach C_sits C_wrongs C_free C_wrongIn x41 x5 x42)
def p_X7_mixSeats_b20 (K5 : Int32 → Int32 → Int32 → Int64 → Int64 → (Nat → Int32) → (Nat → Int32) → (Nat → Int32) → (Nat → Int32) → (Nat → Int32) → (Nat → Int64) → (Nat → Int64) → (Nat → Int64) → (Nat → Int64) → (Nat → Int64) → Int64 → Int32 → Option (Int64 × Int32 × Int64 × Int64 × (Nat → Int64) × (Nat → Int64) × (Nat → Int64) × (Nat → Int64) × (Nat → Int64))) : Nat → Int32 → Int32 → Int32 → Int64 → Int64 → (Nat → Int32) → (Nat → Int32) → (Nat → Int32) → (Nat → Int32) → (Nat → Int32) → (Nat → Int64) → (Nat → Int64) → (Nat → Int64) → (Nat → Int64) → (Nat → Int64) → Int64 → Int32 → Int32 → Option (Int64 × Int32 × Int64 × Int64 × (Nat → Int64) × (Nat → Int64) × (Nat → Int64) × (Nat → Int64) × (Nat → Int64))
  | 0 => fun _ _ _ _ _ _ _ _ _ _ _ _ _ _ _ _ _ _ => none
  | n + 1 => p_X7_mixSeats_b20x K5 (p_X7_mixSeats_b20 K5 n)
def p_X7_mixSeats_b5x (K5 : Int32 → Int32 → Int32 → Int64 → Int64 → (Nat → Int32) → (Nat → Int32) → (Nat → Int32) → (Nat → Int32) → (Nat → Int32) → (Nat → Int64) → (Nat → Int64) → (Nat → Int64) → (Nat → Int64) → (Nat → Int64) → Int64 → Int32 → Option (Int64 × Int32 × Int64 × Int64 × (Nat → Int64) × (Nat → Int64) × (Nat → Int64) × (Nat → Int64) × (Nat → Int64))) (H_seats : Int32) (H_people : Int32) (C_ready : Int32) (C_meanWrong : Int64) (C_meanLooks : Int64) (H_sorts : Nat → Int32) (H_rowOf : Nat → Int32) (H_bySort : Nat → Int32) (H_owns : Nat → Int32) (H_kinds : Nat → Int32) (C_reach : Nat → Int64) (C_sits : Nat → Int64) (C_wrongs : Nat → Int64) (C_free : Nat → Int64) (C_wrongIn : Nat → Int64) (x3 : Int64) (x5 : Int32) : Option (Int64 × Int32 × Int64 × Int64 × (Nat → Int64) × (Nat → Int64) × (Nat → Int64) × (Nat → Int64) × (Nat → Int64)) :=
  if H_seats ≤ x5 then
  (some (x3, C_ready, C_meanWrong, C_meanLooks, C_reach, C_sits, C_wrongs, C_free, C_wrongIn))
  else
  (p_X7_mixSeats_b20 K5 4096 H_seats H_people C_ready C_meanWrong C_meanLooks H_sorts H_rowOf H_bySort H_owns H_kinds C_reach C_sits C_wrongs C_free C_wrongIn x3 x5 0)
def p_X7_mixSeats_b5 : Nat → Int32 → Int32 → Int32 → Int64 → Int64 → (Nat → Int32) → (Nat → Int32) → (Nat → Int32) → (Nat → Int32) → (Nat → Int32) → (Nat → Int64) → (Nat → Int64) → (Nat → Int64) → (Nat → Int64) → (Nat → Int64) → Int64 → Int32 → Option (Int64 × Int32 × Int64 × Int64 × (Nat → Int64) × (Nat → Int64) × (Nat → Int64) × (Nat → Int64) × (Nat → Int64))
  | 0 => fun _ _ _ _ _ _ _ _ _ _ _ _ _ _ _ _ _ => none
  | n + 1 => p_X7_mixSeats_b5x (p_X7_mixSeats_b5 n)
def p_X7_mixSeats_b0 (H_seats : Int32) (H_people : Int32) (C_ready : Int32) (C_meanWrong : Int64) (C_meanLooks : Int64) (H_sorts : Nat → Int32) (H_rowOf : Nat → Int32) (H_bySort : Nat → Int32) (H_owns : Nat → Int32) (H_kinds : Nat → Int32) (C_reach : Nat → Int64) (C_sits : Nat → Int64) (C_wrongs : Nat → Int64) (C_free : Nat → Int64) (C_wrongIn : Nat → Int64) (x1 : Int64) : Option (Int64 × Int32 × Int64 × Int64 × (Nat → Int64) × (Nat → Int64) × (Nat → Int64) × (Nat → Int64) × (Nat → Int64)) :=
  p_X7_mixSeats_b5 4096 H_seats H_people C_ready C_meanWrong C_meanLooks H_sorts H_rowOf H_bySort H_owns H_kinds C_reach C_sits C_wrongs C_free C_wrongIn x1 0
def p_X7_mixSeats (H_seats : Int32) (H_people : Int32) (C_ready : Int32) (C_meanWrong : Int64) (C_meanLooks : Int64) (H_sorts : Nat → Int32) (H_rowOf : Nat → Int32) (H_bySort : Nat → Int32) (H_owns : Nat → Int32) (H_kinds : Nat → Int32) (C_reach : Nat → Int64) (C_sits : Nat → Int64) (C_wrongs : Nat → Int64) (C_free : Nat → Int64) (C_wrongIn : Nat → Int64) (x1 : Int64) : Option (Int64 × Int32 × Int64 × Int64 × (Nat → Int64) × (Nat → Int64) × (Nat → Int64) × (Nat → Int64) × (Nat → Int64)) := p_X7_mixSeats_b0 H_seats H_people C_ready C_meanWrong C_meanLooks H_sorts H_rowOf H_bySort H_owns H_kinds C_reach C_sits C_wrongs C_free C_wrongIn x1
-- X7_mixPeople
def p_X7_mixPeople_b5x (K5 : Int32 → Int32 → Int32 → Int64 → Int64 → (Nat → Int32) → (Nat → Int32) → (Nat → Int32) → (Nat → Int32) → (Nat → Int64) → (Nat → Int64) → (Nat → Int64) → (Nat → Int64) → (Nat → Int64) → Int64 → Int32 → Option (Int64 × Int32 × Int64 × Int64 × (Nat → Int64) × (Nat → Int64) × (Nat → Int64) × (Nat → Int64) × (Nat → Int64))) (H_seats : Int32) (H_people : Int32) (C_ready : Int32) (C_meanWrong : Int64) (C_meanLooks : Int64) (H_sorts : Nat → Int32) (H_bySort : Nat → Int32) (H_owns : Nat → Int32) (H_kinds : Nat → Int32) (C_reach : Nat → Int64) (C_sits : Nat → Int64) (C_wrongs : Nat → Int64) (C_free : Nat → Int64) (C_wrongIn : Nat → Int64) (x3 : Int64) (x5 : Int32) : Option (Int64 × Int32 × Int64 × Int64 × (Nat → Int64) × (Nat → Int64) × (Nat → Int64) × (Nat → Int64) × (Nat → Int64)) :=
  if H_people ≤ x5 then
  (some (x3, C_ready, C_meanWrong, C_meanLooks, C_reach, C_sits, C_wrongs, C_free, C_wrongIn))
  else
  (b1 (p_X7_person H_people H_owns H_kinds x5 0) fun r21 =>
  b1 (p_X7_person H_people H_owns H_kinds x5 1) fun r34 =>
  b1 (p_X7_mix  x3 r21.toInt64 r34.toInt64) fun r38 =>
  b9 (p_X7_likely H_seats H_people C_ready C_meanWrong C_meanLooks H_sorts H_bySort H_owns H_kinds C_reach C_sits C_wrongs C_free C_wrongIn x5 r21 0) fun r49 C_ready_49 C_meanWrong_49 C_meanLooks_49 C_reach_49 C_sits_49 C_wrongs_49 C_free_49 C_wrongIn_49 =>
  b9 (p_X7_likely H_seats H_people C_ready_49 C_meanWrong_49 C_meanLooks_49 H_sorts H_bySort H_owns H_kinds C_reach_49 C_sits_49 C_wrongs_49 C_free_49 C_wrongIn_49 x5 r21 1) fun r58 C_ready_58 C_meanWrong_58 C_meanLooks_58 C_reach_58 C_sits_58 C_wrongs_58 C_free_58 C_wrongIn_58 =>
  b1 (p_X7_mix  r38 r49 r58) fun r61 =>
  nm (x5 + 1 : Int32) fun x65 =>
  K5 H_seats H_people C_ready_58 C_meanWrong_58 C_meanLooks_58 H_sorts H_bySort H_owns H_kinds C_reach_58 C_sits_58 C_wrongs_58 C_free_58 C_wrongIn_58 r61 x65)
def p_X7_mixPeople_b5 : Nat → Int32 → Int32 → Int32 → Int64 → Int64 → (Nat → Int32) → (Nat → Int32) → (Nat → Int32) → (Nat → Int32) → (Nat → Int64) → (Nat → Int64) → (Nat → Int64) → (Nat → Int64) → (Nat → Int64) → Int64 → Int32 → Option (Int64 × Int32 × Int64 × Int64 × (Nat → Int64) × (Nat → Int64) × (Nat → Int64) × (Nat → Int64) × (Nat → Int64))
  | 0 => fun _ _ _ _ _ _ _ _ _ _ _ _ _ _ _ _ => none
  | n + 1 => p_X7_mixPeople_b5x (p_X7_mixPeople_b5 n)
def p_X7_mixPeople_b0 (H_seats : Int32) (H_people : Int32) (C_ready : Int32) (C_meanWrong : Int64) (C_meanLooks : Int64) (H_sorts : Nat → Int32) (H_bySort : Nat → Int32) (H_owns : Nat → Int32) (H_kinds : Nat → Int32) (C_reach : Nat → Int64) (C_sits : Nat → Int64) (C_wrongs : Nat → Int64) (C_free : Nat → Int64) (C_wrongIn : Nat → Int64) (x1 : Int64) : Option (Int64 × Int32 × Int64 × Int64 × (Nat → Int64) × (Nat → Int64) × (Nat → Int64) × (Nat → Int64) × (Nat → Int64)) :=
  p_X7_mixPeople_b5 4096 H_seats H_people C_ready C_meanWrong C_meanLooks H_sorts H_bySort H_owns H_kinds C_reach C_sits C_wrongs C_free C_wrongIn x1 0
def p_X7_mixPeople (H_seats : Int32) (H_people : Int32) (C_ready : Int32) (C_meanWrong : Int64) (C_meanLooks : Int64) (H_sorts : Nat → Int32) (H_bySort : Nat → Int32) (H_owns : Nat → Int32) (H_kinds : Nat → Int32) (C_reach : Nat → Int64) (C_sits : Nat → Int64) (C_wrongs : Nat → Int64) (C_free : Nat → Int64) (C_wrongIn : Nat → Int64) (x1 : Int64) : Option (Int64 × Int32 × Int64 × Int64 × (Nat → Int64) × (Nat → Int64) × (Nat → Int64) × (Nat → Int64) × (Nat → Int64)) := p_X7_mixPeople_b0 H_seats H_people C_ready C_meanWrong C_meanLooks H_sorts H_bySort H_owns H_kinds C_reach C_sits C_wrongs C_free C_wrongIn x1
-- X7_digest
def p_X7_digest_b6x (K6 : Int32 → Int32 → Int32 → Int32 → Int32 → Int32 → Int32 → Int32 → Int32 → Int32 → Int32 → Int64 → Int64 → Int64 → Int64 → (Nat → Int32) → (Nat → Int32) → (Nat → Int32) → (Nat → Int32) → (Nat → Int32) → (Nat → Int32) → (Nat → Int32) → (Nat → Int32) → (Nat → Int32) → (Nat → Int32) → (Nat → Int32) → (Nat → Int32) → (Nat → Int32) → (Nat → Int32) → (Nat → Int32) → (Nat → Int64) → (Nat → Int64) → (Nat → Int64) → (Nat → Int64) → (Nat → Int64) → (Nat → Int64) → (Nat → Int64) → (Nat → Int64) → (Nat → Int64) → Int64 → Int32 → Option (Int64 × Int32 × Int32 × Int32 × Int32 × Int32 × Int32 × Int64 × Int64 × Int64 × Int64 × (Nat → Int32) × (Nat → Int32) × (Nat → Int32) × (Nat → Int32) × (Nat → Int32) × (Nat → Int32) × (Nat → Int64) × (Nat → Int64) × (Nat → Int64) × (Nat → Int64) × (Nat → Int64) × (Nat → Int64) × (Nat → Int64) × (Nat → Int64) × (Nat → Int64))) (H_seats : Int32) (H_rows : Int32) (H_people : Int32) (C_ready : Int32) (D_ready : Int32) (W_size : Int32) (W_suspects : Int32) (W_ready : Int32) (E_wrongs : Int32) (E_state : Int32) (T_finding : Int32) (C_meanWrong : Int64) (C_meanLooks : Int64) (D_least : Int64) (W_total : Int64) (H_lengths : Nat → Int32) (H_faults : Nat → Int32) (H_sorts : Nat → Int32) (H_rowOf : Nat → Int32) (H_bySort : Nat → Int32) (H_owns : Nat → Int32) (H_kinds : Nat → Int32) (D_best : Nat → Int32) (D_row : Nat → Int32) (W_persons : Nat → Int32) (W_places : Nat → Int32) (W_allowed : Nat → Int32) (W_kinds : Nat → Int32) (W_answers : Nat → Int32) (E_places : Nat → Int32) (C_reach : Nat → Int64) (C_sits : Nat → Int64) (C_wrongs : Nat → Int64) (C_free : Nat → Int64) (C_wrongIn : Nat → Int64) (D_reach : Nat → Int64) (D_takenBehind : Nat → Int64) (W_weights : Nat → Int64) (W_reach : Nat → Int64) (x1 : Int64) (x3 : Int32) : Option (Int64 × Int32 × Int32 × Int32 × Int32 × Int32 × Int32 × Int64 × Int64 × Int64 × Int64 × (Nat → Int32) × (Nat → Int32) × (Nat → Int32) × (Nat → Int32) × (Nat → Int32) × (Nat → Int32) × (Nat → Int64) × (Nat → Int64) × (Nat → Int64) × (Nat → Int64) × (Nat → Int64) × (Nat → Int64) × (Nat → Int64) × (Nat → Int64) × (Nat → Int64)) :=
  if 7 < x3 then
  (b1 (p_X7_fault H_faults 0) fun r38 =>
  nm (((31 * x1) + r38.toInt64) : Int64) fun x43 =>
  b1 (p_X7_fault H_faults 1) fun r51 =>
  nm (((31 * x43) + r51.toInt64) : Int64) fun x56 =>
  b9 (p_X7_mixSeats H_seats H_people C_ready C_meanWrong C_meanLooks H_sorts H_rowOf H_bySort H_owns H_kinds C_reach C_sits C_wrongs C_free C_wrongIn x56) fun r59 C_ready_59 C_meanWrong_59 C_meanLooks_59 C_reach_59 C_sits_59 C_wrongs_59 C_free_59 C_wrongIn_59 =>
  b9 (p_X7_mixPeople H_seats H_people C_ready_59 C_meanWrong_59 C_meanLooks_59 H_sorts H_bySort H_owns H_kinds C_reach_59 C_sits_59 C_wrongs_59 C_free_59 C_wrongIn_59 r59) fun r65 C_ready_65 C_meanWrong_65 C_meanLooks_65 C_reach_65 C_sits_65 C_wrongs_65 C_free_65 C_wrongIn_65 =>
  b9 (p_X7_wrong H_seats H_people C_ready_65 C_meanWrong_65 C_meanLooks_65 H_sorts H_bySort H_owns H_kinds C_reach_65 C_sits_65 C_wrongs_65 C_free_65 C_wrongIn_65 (-1) 0) fun r73 C_ready_73 C_meanWrong_73 C_meanLooks_73 C_reach_73 C_sits_73 C_wrongs_73 C_free_73 C_wrongIn_73 =>
  b9 (p_X7_wrong H_seats H_people C_ready_73 C_meanWrong_73 C_meanLooks_73 H_sorts H_bySort H_owns H_kinds C_reach_73 C_sits_73 C_wrongs_73 C_free_73 C_wrongIn_73 (-1) 1) fun r79 C_ready_79 C_meanWrong_79 C_meanLooks_79 C_reach_79 C_sits_79 C_wrongs_79 C_free_79 C_wrongIn_79 =>
  b1 (p_X7_mix  r65 r73 r79) fun r82 =>
  b9 (p_X7_looks H_seats H_people C_ready_79 C_meanWrong_79 C_meanLooks_79 H_sorts H_bySort H_owns H_kinds C_reach_79 C_sits_79 C_wrongs_79 C_free_79 C_wrongIn_79 0) fun r89 C_ready_89 C_meanWrong_89 C_meanLooks_89 C_reach_89 C_sits_89 C_wrongs_89 C_free_89 C_wrongIn_89 =>
  b9 (p_X7_looks H_seats H_people C_ready_89 C_meanWrong_89 C_meanLooks_89 H_sorts H_bySort H_owns H_kinds C_reach_89 C_sits_89 C_wrongs_89 C_free_89 C_wrongIn_89 1) fun r94 C_ready_94 C_meanWrong_94 C_meanLooks_94 C_reach_94 C_sits_94 C_wrongs_94 C_free_94 C_wrongIn_94 =>
  b1 (p_X7_mix  r82 r89 r94) fun r97 =>
  nm ((((1 : Int32) <<< (H_people &&& 31)) - 1) : Int32) fun x112 =>
  b9 (p_X7_taken H_seats H_people C_ready_94 C_meanWrong_94 C_meanLooks_94 H_sorts H_bySort H_owns H_kinds C_reach_94 C_sits_94 C_wrongs_94 C_free_94 C_wrongIn_94 H_people x112 0) fun r124 C_ready_124 C_meanWrong_124 C_meanLooks_124 C_reach_124 C_sits_124 C_wrongs_124 C_free_124 C_wrongIn_124 =>
  b9 (p_X7_taken H_seats H_people C_ready_124 C_meanWrong_124 C_meanLooks_124 H_sorts H_bySort H_owns H_kinds C_reach_124 C_sits_124 C_wrongs_124 C_free_124 C_wrongIn_124 H_people x112 1) fun r137 C_ready_137 C_meanWrong_137 C_meanLooks_137 C_reach_137 C_sits_137 C_wrongs_137 C_free_137 C_wrongIn_137 =>
  b1 (p_X7_mix  r97 r124 r137) fun r140 =>
  b7 (p_X7_best H_seats H_people D_ready D_least H_sorts H_bySort H_owns H_kinds D_best D_row D_reach D_takenBehind 0) fun r147 D_ready_147 D_least_147 D_best_147 D_row_147 D_reach_147 D_takenBehind_147 =>
  b7 (p_X7_best H_seats H_people D_ready_147 D_least_147 H_sorts H_bySort H_owns H_kinds D_best_147 D_row_147 D_reach_147 D_takenBehind_147 1) fun r152 D_ready_152 D_least_152 D_best_152 D_row_152 D_reach_152 D_takenBehind_152 =>
  b1 (p_X7_mix  r140 r147 r152) fun r155 =>
  b9 (p_X7_losers H_seats H_people W_size W_suspects W_ready W_total H_sorts H_bySort H_owns H_kinds W_persons W_places W_allowed W_kinds W_answers W_weights W_reach) fun r161 W_suspects_161 W_ready_161 W_total_161 W_allowed_161 W_kinds_161 W_answers_161 W_weights_161 W_reach_161 =>
  b9 (p_X7_likeliest H_seats H_people W_size W_suspects_161 W_ready_161 W_total_161 H_sorts H_bySort H_owns H_kinds W_persons W_places W_allowed_161 W_kinds_161 W_answers_161 W_weights_161 W_reach_161) fun r166 W_suspects_166 W_ready_166 W_total_166 W_allowed_166 W_kinds_166 W_answers_166 W_weights_166 W_reach_166 =>
  b1 (p_X7_mix  r155 r161.toInt64 r166.toInt64) fun r170 =>
  b9 (p_X7_ask H_seats H_people W_size W_suspects_166 W_ready_166 W_total_166 H_sorts H_bySort H_owns H_kinds W_persons W_places W_allowed_166 W_kinds_166 W_answers_166 W_weights_166 W_reach_166 0) fun r177 W_suspects_177 W_ready_177 W_total_177 W_allowed_177 W_kinds_177 W_answers_177 W_weights_177 W_reach_177 =>
  b9 (p_X7_ask H_seats H_people W_size W_suspects_177 W_ready_177 W_total_177 H_sorts H_bySort H_owns H_kinds W_persons W_places W_allowed_177 W_kinds_177 W_answers_177 W_weights_177 W_reach_177 1) fun r183 W_suspects_183 W_ready_183 W_total_183 W_allowed_183 W_kinds_183 W_answers_183 W_weights_183 W_reach_183 =>
  b1 (p_X7_mix  r170 r177.toInt64 r183.toInt64) fun r187 =>
  b4 (p_X7_evening H_seats H_people E_wrongs E_state H_sorts H_bySort H_owns H_kinds E_places 7 (-1)) fun r200 E_wrongs_200 E_state_200 E_places_200 =>
  nm (((31 * r187) + r200.toInt64) : Int64) fun x205 =>
  b1 (p_X7_turned  5 2 0) fun r211 =>
  b1 (p_X7_turned  5 2 1) fun r218 =>
  b1 (p_X7_mix  x205 r211 r218) fun r221 =>
  some (r221, C_ready_137, D_ready_152, W_suspects_183, W_ready_183, E_wrongs_200, E_state_200, C_meanWrong_137, C_meanLooks_137, D_least_152, W_total_183, D_best_152, D_row_152, W_allowed_183, W_kinds_183, W_answers_183, E_places_200, C_reach_137, C_sits_137, C_wrongs_137, C_free_137, C_wrongIn_137, D_reach_152, D_takenBehind_152, W_weights_183, W_reach_183))
  else
  (b1 (p_X7_count H_seats H_rows H_people W_size T_finding H_lengths H_owns H_kinds x3) fun r19 =>
  nm (((31 * x1) + r19.toInt64) : Int64) fun x24 =>
  nm (x3 + 1 : Int32) fun x25 =>
  K6 H_seats H_rows H_people C_ready D_ready W_size W_suspects W_ready E_wrongs E_state T_finding C_meanWrong C_meanLooks D_least W_total H_lengths H_faults H_sorts H_rowOf H_bySort H_owns H_kinds D_best D_row W_persons W_places W_allowed W_kinds W_answers E_places C_reach C_sits C_wrongs C_free C_wrongIn D_reach D_takenBehind W_weights W_reach x24 x25)
def p_X7_digest_b6 : Nat → Int32 → Int32 → Int32 → Int32 → Int32 → Int32 → Int32 → Int32 → Int32 → Int32 → Int32 → Int64 → Int64 → Int64 → Int64 → (Nat → Int32) → (Nat → Int32) → (Nat → Int32) → (Nat → Int32) → (Nat → Int32) → (Nat → Int32) → (Nat → Int32) → (Nat → Int32) → (Nat → Int32) → (Nat → Int32) → (Nat → Int32) → (Nat → Int32) → (Nat → Int32) → (Nat → Int32) → (Nat → Int32) → (Nat → Int64) → (Nat → Int64) → (Nat → Int64) → (Nat → Int64) → (Nat → Int64) → (Nat → Int64) → (Nat → Int64) → (Nat → Int64) → (Nat → Int64) → Int64 → Int32 → Option (Int64 × Int32 × Int32 × Int32 × Int32 × Int32 × Int32 × Int64 × Int64 × Int64 × Int64 × (Nat → Int32) × (Nat → Int32) × (Nat → Int32) × (Nat → Int32) × (Nat → Int32) × (Nat → Int32) × (Nat → Int64) × (Nat → Int64) × (Nat → Int64) × (Nat → Int64) × (Nat → Int64) × (Nat → Int64) × (Nat → Int64) × (Nat → Int64) × (Nat → Int64))
  | 0 => fun _ _ _ _ _ _ _ _ _ _ _ _ _ _ _ _ _ _ _ _ _ _ _ _ _ _ _ _ _ _ _ _ _ _ _ _ _ _ _ _ _ => none
  | n + 1 => p_X7_digest_b6x (p_X7_digest_b6 n)
def p_X7_digest_b0 (H_seats : Int32) (H_rows : Int32) (H_people : Int32) (C_ready : Int32) (D_ready : Int32) (W_size : Int32) (W_suspects : Int32) (W_ready : Int32) (E_wrongs : Int32) (E_state : Int32) (T_finding : Int32) (C_meanWrong : Int64) (C_meanLooks : Int64) (D_least : Int64) (W_total : Int64) (H_lengths : Nat → Int32) (H_faults : Nat → Int32) (H_sorts : Nat → Int32) (H_rowOf : Nat → Int32) (H_bySort : Nat → Int32) (H_owns : Nat → Int32) (H_kinds : Nat → Int32) (D_best : Nat → Int32) (D_row : Nat → Int32) (W_persons : Nat → Int32) (W_places : Nat → Int32) (W_allowed : Nat → Int32) (W_kinds : Nat → Int32) (W_answers : Nat → Int32) (E_places : Nat → Int32) (C_reach : Nat → Int64) (C_sits : Nat → Int64) (C_wrongs : Nat → Int64) (C_free : Nat → Int64) (C_wrongIn : Nat → Int64) (D_reach : Nat → Int64) (D_takenBehind : Nat → Int64) (W_weights : Nat → Int64) (W_reach : Nat → Int64)  : Option (Int64 × Int32 × Int32 × Int32 × Int32 × Int32 × Int32 × Int64 × Int64 × Int64 × Int64 × (Nat → Int32) × (Nat → Int32) × (Nat → Int32) × (Nat → Int32) × (Nat → Int32) × (Nat → Int32) × (Nat → Int64) × (Nat → Int64) × (Nat → Int64) × (Nat → Int64) × (Nat → Int64) × (Nat → Int64) × (Nat → Int64) × (Nat → Int64) × (Nat → Int64)) :=
  p_X7_digest_b6 4096 H_seats H_rows H_people C_ready D_ready W_size W_suspects W_ready E_wrongs E_state T_finding C_meanWrong C_meanLooks D_least W_total H_lengths H_faults H_sorts H_rowOf H_bySort H_owns H_kinds D_best D_row W_persons W_places W_allowed W_kinds W_answers E_places C_reach C_sits C_wrongs C_free C_wrongIn D_reach D_takenBehind W_weights W_reach 17 0
def p_X7_digest (H_seats : Int32) (H_rows : Int32) (H_people : Int32) (C_ready : Int32) (D_ready : Int32) (W_size : Int32) (W_suspects : Int32) (W_ready : Int32) (E_wrongs : Int32) (E_state : Int32) (T_finding : Int32) (C_meanWrong : Int64) (C_meanLooks : Int64) (D_least : Int64) (W_total : Int64) (H_lengths : Nat → Int32) (H_faults : Nat → Int32) (H_sorts : Nat → Int32) (H_rowOf : Nat → Int32) (H_bySort : Nat → Int32) (H_owns : Nat → Int32) (H_kinds : Nat → Int32) (D_best : Nat → Int32) (D_row : Nat → Int32) (W_persons : Nat → Int32) (W_places : Nat → Int32) (W_allowed : Nat → Int32) (W_kinds : Nat → Int32) (W_answers : Nat → Int32) (E_places : Nat → Int32) (C_reach : Nat → Int64) (C_sits : Nat → Int64) (C_wrongs : Nat → Int64) (C_free : Nat → Int64) (C_wrongIn : Nat → Int64) (D_reach : Nat → Int64) (D_takenBehind : Nat → Int64) (W_weights : Nat → Int64) (W_reach : Nat → Int64)  : Option (Int64 × Int32 × Int32 × Int32 × Int32 × Int32 × Int32 × Int64 × Int64 × Int64 × Int64 × (Nat → Int32) × (Nat → Int32) × (Nat → Int32) × (Nat → Int32) × (Nat → Int32) × (Nat → Int32) × (Nat → Int64) × (Nat → Int64) × (Nat → Int64) × (Nat → Int64) × (Nat → Int64) × (Nat → Int64) × (Nat → Int64) × (Nat → Int64) × (Nat → Int64)) := p_X7_digest_b0 H_seats H_rows H_people C_ready D_ready W_size W_suspects W_ready E_wrongs E_state T_finding C_meanWrong C_meanLooks D_least W_total H_lengths H_faults H_sorts H_rowOf H_bySort H_owns H_kinds D_best D_row W_persons W_places W_allowed W_kinds W_answers E_places C_reach C_sits C_wrongs C_free C_wrongIn D_reach D_takenBehind W_weights W_reach 
-- X8_in
def p_X8_in_b18  (t0 : Int32) : Option (Int32) :=
  gd (isZ t0) <|
  some t0
def p_X8_in_b17   : Option (Int32) :=
  p_X8_in_b18  0
def p_X8_in_b0  (x0 : Int64) (x2 : Int64) (x4 : Int64) : Option (Int32) :=
  if (lg_cmp x0 x2) < 0 then
  (p_X8_in_b17  )
  else
  (if 0 < (lg_cmp x0 x4) then
  (p_X8_in_b17  )
  else
  (p_X8_in_b18  1))
def p_X8_in  (x0 : Int64) (x2 : Int64) (x4 : Int64) : Option (Int32) := p_X8_in_b0  x0 x2 x4
-- X8_no
def p_X8_no_b0  (x0 : Int32) : Option (Int64) :=
  some ((-9223372036854775808) - x0.toInt64)
def p_X8_no  (x0 : Int32) : Option (Int64) := p_X8_no_b0  x0
-- X8_isTwo
def p_X8_isTwo_b0  (x0 : Int32) : Option (Int32) :=
  b1 (p_X8_in  x0.toInt64 0 1) fun r4 =>
  gd (isZ r4) <|
  some r4
def p_X8_isTwo  (x0 : Int32) : Option (Int32) := p_X8_isTwo_b0  x0
-- X8_isIn
def p_X8_isIn_b14  (t0 : Int32) : Option (Int32) :=
  gd (isZ t0) <|
  some t0
def p_X8_isIn_b0  (x0 : Int32) (x1 : Int32) : Option (Int32) :=
  if ((x0 >>> (x1 &&& 31)) &&& 1) = 1 then
  (p_X8_isIn_b14  1)
  else
  (p_X8_isIn_b14  0)
def p_X8_isIn  (x0 : Int32) (x1 : Int32) : Option (Int32) := p_X8_isIn_b0  x0 x1
-- X8_ones
def p_X8_ones_b4x (K4 : Int32 → Int32 → Option (Int32))  (x1 : Int32) (x2 : Int32) : Option (Int32) :=
  if x2 = 0 then
  (some x1)
  else
  (nm (x1 + 1 : Int32) fun x8 =>
  nm ((x2 &&& (x2 - 1)) : Int32) fun x16 =>
  K4  x8 x16)
def p_X8_ones_b4 : Nat → Int32 → Int32 → Option (Int32)
  | 0 => fun _ _ => none
  | n + 1 => p_X8_ones_b4x (p_X8_ones_b4 n)
def p_X8_ones_b0  (x0 : Int32) : Option (Int32) :=
  p_X8_ones_b4 4096  0 x0
def p_X8_ones  (x0 : Int32) : Option (Int32) := p_X8_ones_b0  x0
-- X8_part
def p_X8_part_b41  (t0 : Int64) (x5 : Int64) : Option (Int64) :=
  gd (decide (¬ x5 = 0)) <|
  some (t0 / x5)
def p_X8_part_b6x (K6 : Int64 → Int64 → Int32 → Int64 → Int64 → Option (Int64))  (x0 : Int64) (x2 : Int64) (x4 : Int32) (x5 : Int64) (x7 : Int64) : Option (Int64) :=
  if (lg_cmp x7 0) = 0 then
  (if x4 = 0 then
  (p_X8_part_b41  x0 x5)
  else
  (p_X8_part_b41  x2 x5))
  else
  (gd (decide (¬ x7 = 0)) <|
  nm ((x5 - (x5 / x7) * x7) : Int64) fun x18 =>
  K6  x0 x2 x4 x7 x18)
def p_X8_part_b6 : Nat → Int64 → Int64 → Int32 → Int64 → Int64 → Option (Int64)
  | 0 => fun _ _ _ _ _ => none
  | n + 1 => p_X8_part_b6x (p_X8_part_b6 n)
def p_X8_part_b0  (x0 : Int64) (x2 : Int64) (x4 : Int32) : Option (Int64) :=
  p_X8_part_b6 4096  x0 x2 x4 x0 x2
def p_X8_part  (x0 : Int64) (x2 : Int64) (x4 : Int32) : Option (Int64) := p_X8_part_b0  x0 x2 x4
-- X8_met
def p_X8_met_b0 (m_latest : Int32) (x1 : Int32) : Option (Int32 × Int32) :=
  some (((-10) - x1), x1)
def p_X8_met (m_latest : Int32) (x1 : Int32) : Option (Int32 × Int32) := p_X8_met_b0 m_latest x1
-- X8_isSheet
def p_X8_isSheet_b0  (x0 : Int32) : Option (Int32) :=
  b1 (p_X8_in  x0.toInt64 0 3) fun r6 =>
  gd (isZ r6) <|
  some r6
def p_X8_isSheet  (x0 : Int32) : Option (Int32) := p_X8_isSheet_b0  x0
-- X8_sheet
def p_X8_sheet_b25 (m_latest : Int32) (m_forms : Nat → Int32) (m_sizes : Nat → Int32) (m_items : Nat → Int32)  : Option (Int32 × Int32 × (Nat → Int32) × (Nat → Int32) × (Nat → Int32)) :=
  some ((-2), m_latest, m_forms, m_sizes, m_items)
def p_X8_sheet_b55x (K55 : Int32 → (Nat → Int32) → (Nat → Int32) → (Nat → Int32) → Int32 → Int32 → Int32 → Option (Int32 × Int32 × (Nat → Int32) × (Nat → Int32) × (Nat → Int32))) (m_latest : Int32) (m_forms : Nat → Int32) (m_sizes : Nat → Int32) (m_items : Nat → Int32) (x1 : Int32) (x3 : Int32) (x4 : Int32) : Option (Int32 × Int32 × (Nat → Int32) × (Nat → Int32) × (Nat → Int32)) :=
  if x3 ≤ x4 then
  (some (x3, m_latest, m_forms, m_sizes, m_items))
  else
  (gd (inB ((60 * x1) + x4) 240) <|
  nm (upd m_items ((60 * x1) + x4).toNatClampNeg 0) fun m_items_73 =>
  nm (x4 + 1 : Int32) fun x74 =>
  K55 m_latest m_forms m_sizes m_items_73 x1 x3 x74)
def p_X8_sheet_b55 : Nat → Int32 → (Nat → Int32) → (Nat → Int32) → (Nat → Int32) → Int32 → Int32 → Int32 → Option (Int32 × Int32 × (Nat → Int32) × (Nat → Int32) × (Nat → Int32))
  | 0 => fun _ _ _ _ _ _ _ => none
  | n + 1 => p_X8_sheet_b55x (p_X8_sheet_b55 n)
def p_X8_sheet_b0 (m_latest : Int32) (m_forms : Nat → Int32) (m_sizes : Nat → Int32) (m_items : Nat → Int32) (x1 : Int32) (x2 : Int32) (x3 : Int32) : Option (Int32 × Int32 × (Nat → Int32) × (Nat → Int32) × (Nat → Int32)) :=
  b1 (p_X8_isSheet  x1) fun r1 =>
  if r1 = 0 then
  (p_X8_sheet_b25 m_latest m_forms m_sizes m_items )
  else
  (b1 (p_X8_in  x2.toInt64 0 2) fun r13 =>
  if r13 = 0 then
  (p_X8_sheet_b25 m_latest m_forms m_sizes m_items )
  else
  (if x3 ≤ 60 then
  (if 0 ≤ x3 then
  (gd (inB x1 4) <|
  nm (upd m_forms x1.toNatClampNeg x2) fun m_forms_44 =>
  gd (inB x1 4) <|
  nm (upd m_sizes x1.toNatClampNeg x3) fun m_sizes_51 =>
  p_X8_sheet_b55 4096 m_latest m_forms_44 m_sizes_51 m_items x1 x3 0)
  else
  (b2 (p_X8_met m_latest 5) fun r34 m_latest_34 =>
  some (r34, m_latest_34, m_forms, m_sizes, m_items)))
  else
  (p_X8_sheet_b25 m_latest m_forms m_sizes m_items )))
def p_X8_sheet (m_latest : Int32) (m_forms : Nat → Int32) (m_sizes : Nat → Int32) (m_items : Nat → Int32) (x1 : Int32) (x2 : Int32) (x3 : Int32) : Option (Int32 × Int32 × (Nat → Int32) × (Nat → Int32) × (Nat → Int32)) := p_X8_sheet_b0 m_latest m_forms m_sizes m_items x1 x2 x3
-- X8_lose
def p_X8_lose_b0 (m_latest : Int32) (m_forms : Nat → Int32) (m_sizes : Nat → Int32) (x1 : Int32) : Option (Int32 × Int32 × (Nat → Int32)) :=
  b1 (p_X8_isSheet  x1) fun r1 =>
  if r1 = 0 then
  (some ((-2), m_latest, m_forms))
  else
  (gd (inB x1 4) <|
  if 0 ≤ (m_forms x1.toNatClampNeg) then
  (gd (inB x1 4) <|
  nm (upd m_forms x1.toNatClampNeg (-1)) fun m_forms_31 =>
  gd (inB x1 4) <|
  some ((m_sizes x1.toNatClampNeg), m_latest, m_forms_31))
  else
  (b2 (p_X8_met m_latest 1) fun r21 m_latest_21 =>
  some (r21, m_latest_21, m_forms)))
def p_X8_lose (m_latest : Int32) (m_forms : Nat → Int32) (m_sizes : Nat → Int32) (x1 : Int32) : Option (Int32 × Int32 × (Nat → Int32)) := p_X8_lose_b0 m_latest m_forms m_sizes x1
-- X8_lacks
def p_X8_lacks_b58 (m_latest : Int32) (m_forms : Nat → Int32) (m_sizes : Nat → Int32) (t0 : Int32) : Option (Int32 × Int32) :=
  some (t0, m_latest)
def p_X8_lacks_b0 (m_latest : Int32) (m_forms : Nat → Int32) (m_sizes : Nat → Int32) (x1 : Int32) (x2 : Int32) (x3 : Int32) : Option (Int32 × Int32) :=
  gd (inB x1 4) <|
  if 0 ≤ (m_forms x1.toNatClampNeg) then
  (gd (inB x1 4) <|
  if (m_forms x1.toNatClampNeg) = x2 then
  (gd (inB x1 4) <|
  b1 (p_X8_in  x3.toInt64 0 (((m_sizes x1.toNatClampNeg) - 1).toInt64)) fun r43 =>
  if r43 = 0 then
  (b2 (p_X8_met m_latest 2) fun r55 m_latest_55 =>
  p_X8_lacks_b58 m_latest_55 m_forms m_sizes r55)
  else
  (p_X8_lacks_b58 m_latest m_forms m_sizes 0))
  else
  (b2 (p_X8_met m_latest 3) fun r27 m_latest_27 =>
  some (r27, m_latest_27)))
  else
  (b2 (p_X8_met m_latest 1) fun r11 m_latest_11 =>
  some (r11, m_latest_11))
def p_X8_lacks (m_latest : Int32) (m_forms : Nat → Int32) (m_sizes : Nat → Int32) (x1 : Int32) (x2 : Int32) (x3 : Int32) : Option (Int32 × Int32) := p_X8_lacks_b0 m_latest m_forms m_sizes x1 x2 x3
-- X8_cut
def p_X8_cut_b20  (t0 : Int32) : Option (Int32) :=
  some t0
def p_X8_cut_b0  (x0 : Int32) (x1 : Int32) : Option (Int32) :=
  if x0 = 0 then
  (p_X8_cut_b20  x1.toInt8.toInt32)
  else
  (if x0 = 1 then
  (p_X8_cut_b20  x1.toInt16.toInt32)
  else
  (p_X8_cut_b20  x1))
def p_X8_cut  (x0 : Int32) (x1 : Int32) : Option (Int32) := p_X8_cut_b0  x0 x1
-- X8_lay
def p_X8_lay_b19 (m_latest : Int32) (m_forms : Nat → Int32) (m_sizes : Nat → Int32) (m_items : Nat → Int32)  : Option (Int32 × Int32 × (Nat → Int32)) :=
  some ((-2), m_latest, m_items)
def p_X8_lay_b0 (m_latest : Int32) (m_forms : Nat → Int32) (m_sizes : Nat → Int32) (m_items : Nat → Int32) (x1 : Int32) (x2 : Int32) (x3 : Int32) (x4 : Int32) : Option (Int32 × Int32 × (Nat → Int32)) :=
  b1 (p_X8_isSheet  x1) fun r1 =>
  if r1 = 0 then
  (p_X8_lay_b19 m_latest m_forms m_sizes m_items )
  else
  (b1 (p_X8_in  x2.toInt64 0 2) fun r13 =>
  if r13 = 0 then
  (p_X8_lay_b19 m_latest m_forms m_sizes m_items )
  else
  (b2 (p_X8_lacks m_latest m_forms m_sizes x1 x2 x3) fun r26 m_latest_26 =>
  if r26 = 0 then
  (b1 (p_X8_cut  x2 x4) fun r52 =>
  gd (inB ((60 * x1) + x3) 240) <|
  nm (upd m_items ((60 * x1) + x3).toNatClampNeg r52) fun m_items_55 =>
  some (1, m_latest_26, m_items_55))
  else
  (some (r26, m_latest_26, m_items))))
def p_X8_lay (m_latest : Int32) (m_forms : Nat → Int32) (m_sizes : Nat → Int32) (m_items : Nat → Int32) (x1 : Int32) (x2 : Int32) (x3 : Int32) (x4 : Int32) : Option (Int32 × Int32 × (Nat → Int32)) := p_X8_lay_b0 m_latest m_forms m_sizes m_items x1 x2 x3 x4
-- X8_get
def p_X8_get_b29 (m_latest : Int32) (m_forms : Nat → Int32) (m_sizes : Nat → Int32) (m_items : Nat → Int32)  : Option (Int32 × Int32) :=
  some ((-2147483648), m_latest)
def p_X8_get_b0 (m_latest : Int32) (m_forms : Nat → Int32) (m_sizes : Nat → Int32) (m_items : Nat → Int32) (x1 : Int32) (x2 : Int32) (x3 : Int32) : Option (Int32 × Int32) :=
  b1 (p_X8_isSheet  x1) fun r1 =>
  if r1 = 0 then
  (p_X8_get_b29 m_latest m_forms m_sizes m_items )
  else
  (b1 (p_X8_in  x2.toInt64 0 2) fun r13 =>
  if r13 = 0 then
  (p_X8_get_b29 m_latest m_forms m_sizes m_items )
  else
  (b2 (p_X8_lacks m_latest m_forms m_sizes x1 x2 x3) fun r23 m_latest_23 =>
  if r23 = 0 then
  (gd (inB ((60 * x1) + x3) 240) <|
  some ((m_items ((60 * x1) + x3).toNatClampNeg), m_latest_23))
  else
  (p_X8_get_b29 m_latest_23 m_forms m_sizes m_items )))
def p_X8_get (m_latest : Int32) (m_forms : Nat → Int32) (m_sizes : Nat → Int32) (m_items : Nat → Int32) (x1 : Int32) (x2 : Int32) (x3 : Int32) : Option (Int32 × Int32) := p_X8_get_b0 m_latest m_forms m_sizes m_items x1 x2 x3
-- X8_copy
def p_X8_copy_b14 (m_latest : Int32) (m_forms : Nat → Int32) (m_sizes : Nat → Int32) (m_items : Nat → Int32) (m_moved : Nat → Int32)  : Option (Int32 × Int32 × (Nat → Int32) × (Nat → Int32)) :=
  some ((-2), m_latest, m_items, m_moved)
def p_X8_copy_b35 (m_latest : Int32) (m_forms : Nat → Int32) (m_sizes : Nat → Int32) (m_items : Nat → Int32) (m_moved : Nat → Int32)  : Option (Int32 × Int32 × (Nat → Int32) × (Nat → Int32)) :=
  b2 (p_X8_met m_latest 1) fun r37 m_latest_37 =>
  some (r37, m_latest_37, m_items, m_moved)
def p_X8_copy_b111 (m_latest : Int32) (m_forms : Nat → Int32) (m_sizes : Nat → Int32) (m_items : Nat → Int32) (m_moved : Nat → Int32)  : Option (Int32 × Int32 × (Nat → Int32) × (Nat → Int32)) :=
  b2 (p_X8_met m_latest 2) fun r113 m_latest_113 =>
  some (r113, m_latest_113, m_items, m_moved)
def p_X8_copy_b157x (K157 : Int32 → (Nat → Int32) → (Nat → Int32) → (Nat → Int32) → (Nat → Int32) → Int32 → Int32 → Int32 → Int32 → Option (Int32 × Int32 × (Nat → Int32) × (Nat → Int32))) (m_latest : Int32) (m_forms : Nat → Int32) (m_sizes : Nat → Int32) (m_items : Nat → Int32) (m_moved : Nat → Int32) (x3 : Int32) (x4 : Int32) (x5 : Int32) (x6 : Int32) : Option (Int32 × Int32 × (Nat → Int32) × (Nat → Int32)) :=
  if x5 ≤ x6 then
  (some (1, m_latest, m_items, m_moved))
  else
  (gd (inB x6 60) <|
  gd (inB (((60 * x3) + x4) + x6) 240) <|
  nm (upd m_items (((60 * x3) + x4) + x6).toNatClampNeg (m_moved x6.toNatClampNeg)) fun m_items_185 =>
  nm (x6 + 1 : Int32) fun x186 =>
  K157 m_latest m_forms m_sizes m_items_185 m_moved x3 x4 x5 x186)
def p_X8_copy_b157 : Nat → Int32 → (Nat → Int32) → (Nat → Int32) → (Nat → Int32) → (Nat → Int32) → Int32 → Int32 → Int32 → Int32 → Option (Int32 × Int32 × (Nat → Int32) × (Nat → Int32))
  | 0 => fun _ _ _ _ _ _ _ _ _ => none
  | n + 1 => p_X8_copy_b157x (p_X8_copy_b157 n)
def p_X8_copy_b120x (K120 : Int32 → (Nat → Int32) → (Nat → Int32) → (Nat → Int32) → (Nat → Int32) → Int32 → Int32 → Int32 → Int32 → Int32 → Int32 → Option (Int32 × Int32 × (Nat → Int32) × (Nat → Int32))) (m_latest : Int32) (m_forms : Nat → Int32) (m_sizes : Nat → Int32) (m_items : Nat → Int32) (m_moved : Nat → Int32) (x1 : Int32) (x2 : Int32) (x3 : Int32) (x4 : Int32) (x5 : Int32) (x6 : Int32) : Option (Int32 × Int32 × (Nat → Int32) × (Nat → Int32)) :=
  if x5 ≤ x6 then
  (p_X8_copy_b157 4096 m_latest m_forms m_sizes m_items m_moved x3 x4 x5 0)
  else
  (gd (inB (((60 * x1) + x2) + x6) 240) <|
  gd (inB x6 60) <|
  nm (upd m_moved x6.toNatClampNeg (m_items (((60 * x1) + x2) + x6).toNatClampNeg)) fun m_moved_147 =>
  nm (x6 + 1 : Int32) fun x148 =>
  K120 m_latest m_forms m_sizes m_items m_moved_147 x1 x2 x3 x4 x5 x148)
def p_X8_copy_b120 : Nat → Int32 → (Nat → Int32) → (Nat → Int32) → (Nat → Int32) → (Nat → Int32) → Int32 → Int32 → Int32 → Int32 → Int32 → Int32 → Option (Int32 × Int32 × (Nat → Int32) × (Nat → Int32))
  | 0 => fun _ _ _ _ _ _ _ _ _ _ _ => none
  | n + 1 => p_X8_copy_b120x (p_X8_copy_b120 n)
def p_X8_copy_b0 (m_latest : Int32) (m_forms : Nat → Int32) (m_sizes : Nat → Int32) (m_items : Nat → Int32) (m_moved : Nat → Int32) (x1 : Int32) (x2 : Int32) (x3 : Int32) (x4 : Int32) (x5 : Int32) : Option (Int32 × Int32 × (Nat → Int32) × (Nat → Int32)) :=
  b1 (p_X8_isSheet  x1) fun r1 =>
  if r1 = 0 then
  (p_X8_copy_b14 m_latest m_forms m_sizes m_items m_moved )
  else
  (b1 (p_X8_isSheet  x3) fun r8 =>
  if r8 = 0 then
  (p_X8_copy_b14 m_latest m_forms m_sizes m_items m_moved )
  else
  (gd (inB x1 4) <|
  if (m_forms x1.toNatClampNeg) < 0 then
  (p_X8_copy_b35 m_latest m_forms m_sizes m_items m_moved )
  else
  (gd (inB x3 4) <|
  if 0 ≤ (m_forms x3.toNatClampNeg) then
  (gd (inB x1 4) <|
  gd (inB x3 4) <|
  if (m_forms x1.toNatClampNeg) = (m_forms x3.toNatClampNeg) then
  (if x2 < 0 then
  (p_X8_copy_b111 m_latest m_forms m_sizes m_items m_moved )
  else
  (if x4 < 0 then
  (p_X8_copy_b111 m_latest m_forms m_sizes m_items m_moved )
  else
  (if x5 < 0 then
  (p_X8_copy_b111 m_latest m_forms m_sizes m_items m_moved )
  else
  (gd (inB x1 4) <|
  if 0 < (lg_cmp (x2.toInt64 + x5.toInt64) ((m_sizes x1.toNatClampNeg).toInt64)) then
  (p_X8_copy_b111 m_latest m_forms m_sizes m_items m_moved )
  else
  (gd (inB x3 4) <|
  if (lg_cmp (x4.toInt64 + x5.toInt64) ((m_sizes x3.toNatClampNeg).toInt64)) ≤ 0 then
  (p_X8_copy_b120 4096 m_latest m_forms m_sizes m_items m_moved x1 x2 x3 x4 x5 0)
  else
  (p_X8_copy_b111 m_latest m_forms m_sizes m_items m_moved ))))))
  else
  (b2 (p_X8_met m_latest 4) fun r58 m_latest_58 =>
  some (r58, m_latest_58, m_items, m_moved)))
  else
  (p_X8_copy_b35 m_latest m_forms m_sizes m_items m_moved ))))
def p_X8_copy (m_latest : Int32) (m_forms : Nat → Int32) (m_sizes : Nat → Int32) (m_items : Nat → Int32) (m_moved : Nat → Int32) (x1 : Int32) (x2 : Int32) (x3 : Int32) (x4 : Int32) (x5 : Int32) : Option (Int32 × Int32 × (Nat → Int32) × (Nat → Int32)) := p_X8_copy_b0 m_latest m_forms m_sizes m_items m_moved x1 x2 x3 x4 x5
-- X8_type
def p_X8_type_b19 (m_bytes : Nat → Int32) (m_typed : Nat → Int32)  : Option (Int32 × (Nat → Int32) × (Nat → Int32)) :=
  some ((-2), m_bytes, m_typed)
def p_X8_type_b0 (m_bytes : Nat → Int32) (m_typed : Nat → Int32) (x1 : Int32) (x2 : Int32) : Option (Int32 × (Nat → Int32) × (Nat → Int32)) :=
  b1 (p_X8_isTwo  x1) fun r1 =>
  if r1 = 0 then
  (p_X8_type_b19 m_bytes m_typed )
  else
  (b1 (p_X8_in  x2.toInt64 0 255) fun r13 =>
  if r13 = 0 then
  (p_X8_type_b19 m_bytes m_typed )
  else
  (gd (inB x1 2) <|
  if (m_typed x1.toNatClampNeg) = 20 then
  (some ((-4), m_bytes, m_typed))
  else
  (gd (inB x1 2) <|
  gd (inB ((20 * x1) + (m_typed x1.toNatClampNeg)) 40) <|
  nm (upd m_bytes ((20 * x1) + (m_typed x1.toNatClampNeg)).toNatClampNeg x2) fun m_bytes_52 =>
  gd (inB x1 2) <|
  gd (inB x1 2) <|
  nm (upd m_typed x1.toNatClampNeg ((m_typed x1.toNatClampNeg) + 1)) fun m_typed_62 =>
  gd (inB x1 2) <|
  some ((m_typed_62 x1.toNatClampNeg), m_bytes_52, m_typed_62))))
def p_X8_type (m_bytes : Nat → Int32) (m_typed : Nat → Int32) (x1 : Int32) (x2 : Int32) : Option (Int32 × (Nat → Int32) × (Nat → Int32)) := p_X8_type_b0 m_bytes m_typed x1 x2
-- X8_wipe
def p_X8_wipe_b0 (m_typed : Nat → Int32) (x1 : Int32) : Option (Int32 × (Nat → Int32)) :=
  b1 (p_X8_isTwo  x1) fun r1 =>
  if r1 = 0 then
  (some ((-2), m_typed))
  else
  (gd (inB x1 2) <|
  nm ((m_typed x1.toNatClampNeg) : Int32) fun x16 =>
  gd (inB x1 2) <|
  nm (upd m_typed x1.toNatClampNeg 0) fun m_typed_23 =>
  some (x16, m_typed_23))
def p_X8_wipe (m_typed : Nat → Int32) (x1 : Int32) : Option (Int32 × (Nat → Int32)) := p_X8_wipe_b0 m_typed x1
-- X8_here
def p_X8_here_b31 (m_at : Int32) (m_bytes : Nat → Int32) (m_typed : Nat → Int32) (t0 : Int32) : Option (Int32) :=
  some t0
def p_X8_here_b0 (m_at : Int32) (m_bytes : Nat → Int32) (m_typed : Nat → Int32) (x1 : Int32) : Option (Int32) :=
  gd (inB x1 2) <|
  if (m_typed x1.toNatClampNeg) ≤ m_at then
  (p_X8_here_b31 m_at m_bytes m_typed (-1))
  else
  (gd (inB ((20 * x1) + m_at) 40) <|
  p_X8_here_b31 m_at m_bytes m_typed (m_bytes ((20 * x1) + m_at).toNatClampNeg))
def p_X8_here (m_at : Int32) (m_bytes : Nat → Int32) (m_typed : Nat → Int32) (x1 : Int32) : Option (Int32) := p_X8_here_b0 m_at m_bytes m_typed x1
-- X8_noSeats
def p_X8_noSeats_b0 (m_at : Int32) (m_seats : Int32) (m_rows : Int32)  : Option (Int32 × Int32 × Int32) :=
  some (m_at, 0, 0)
def p_X8_noSeats (m_at : Int32) (m_seats : Int32) (m_rows : Int32)  : Option (Int32 × Int32 × Int32) := p_X8_noSeats_b0 m_at m_seats m_rows 
-- X8_readsSeats
def p_X8_readsSeats_b151 (m_at : Int32) (m_seats : Int32) (m_rows : Int32) (m_bytes : Nat → Int32) (m_typed : Nat → Int32) (m_sorts : Nat → Int32) (m_rowOf : Nat → Int32)  : Option (Int32 × Int32 × Int32 × Int32 × (Nat → Int32) × (Nat → Int32)) :=
  b3 (p_X8_noSeats m_at m_seats m_rows) fun r152 m_seats_152 m_rows_152 =>
  some (r152, m_at, m_seats_152, m_rows_152, m_sorts, m_rowOf)
def p_X8_readsSeats_b188 (K19 : Int32 → Int32 → Int32 → (Nat → Int32) → (Nat → Int32) → (Nat → Int32) → (Nat → Int32) → Int32 → Int32 → Option (Int32 × Int32 × Int32 × Int32 × (Nat → Int32) × (Nat → Int32))) (m_at : Int32) (m_seats : Int32) (m_rows : Int32) (m_bytes : Nat → Int32) (m_typed : Nat → Int32) (m_sorts : Nat → Int32) (m_rowOf : Nat → Int32) (t0 : Int32) (x2 : Int32) : Option (Int32 × Int32 × Int32 × Int32 × (Nat → Int32) × (Nat → Int32)) :=
  K19 m_at m_seats m_rows m_bytes m_typed m_sorts m_rowOf t0 x2
def p_X8_readsSeats_b183 (K19 : Int32 → Int32 → Int32 → (Nat → Int32) → (Nat → Int32) → (Nat → Int32) → (Nat → Int32) → Int32 → Int32 → Option (Int32 × Int32 × Int32 × Int32 × (Nat → Int32) × (Nat → Int32))) (m_at : Int32) (m_seats : Int32) (m_rows : Int32) (m_bytes : Nat → Int32) (m_typed : Nat → Int32) (m_sorts : Nat → Int32) (m_rowOf : Nat → Int32) (x2 : Int32) : Option (Int32 × Int32 × Int32 × Int32 × (Nat → Int32) × (Nat → Int32)) :=
  p_X8_readsSeats_b188 K19 m_at m_seats m_rows m_bytes m_typed m_sorts m_rowOf 1 x2
def p_X8_readsSeats_b156 (K19 : Int32 → Int32 → Int32 → (Nat → Int32) → (Nat → Int32) → (Nat → Int32) → (Nat → Int32) → Int32 → Int32 → Option (Int32 × Int32 × Int32 × Int32 × (Nat → Int32) × (Nat → Int32))) (m_at : Int32) (m_seats : Int32) (m_rows : Int32) (m_bytes : Nat → Int32) (m_typed : Nat → Int32) (m_sorts : Nat → Int32) (m_rowOf : Nat → Int32) (x2 : Int32) : Option (Int32 × Int32 × Int32 × Int32 × (Nat → Int32) × (Nat → Int32)) :=
  nm ((m_at + 1) : Int32) fun m_at_163 =>
  gd (inB 0 2) <|
  if m_at_163 < (m_typed (0 : Int32).toNatClampNeg) then
  (p_X8_readsSeats_b183 K19 m_at_163 m_seats m_rows m_bytes m_typed m_sorts m_rowOf x2)
  else
  (if x2 = 0 then
  (p_X8_readsSeats_b188 K19 m_at_163 m_seats m_rows m_bytes m_typed m_sorts m_rowOf 0 x2)
  else
  (p_X8_readsSeats_b183 K19 m_at_163 m_seats m_rows m_bytes m_typed m_sorts m_rowOf x2))
def p_X8_readsSeats_b136 (K19 : Int32 → Int32 → Int32 → (Nat → Int32) → (Nat → Int32) → (Nat → Int32) → (Nat → Int32) → Int32 → Int32 → Option (Int32 × Int32 × Int32 × Int32 × (Nat → Int32) × (Nat → Int32))) (m_at : Int32) (m_seats : Int32) (m_rows : Int32) (m_bytes : Nat → Int32) (m_typed : Nat → Int32) (m_sorts : Nat → Int32) (m_rowOf : Nat → Int32) (x2 : Int32) (x3 : Int32) : Option (Int32 × Int32 × Int32 × Int32 × (Nat → Int32) × (Nat → Int32)) :=
  if x3 = 59 then
  (if x2 = 0 then
  (p_X8_readsSeats_b156 K19 m_at m_seats m_rows m_bytes m_typed m_sorts m_rowOf 1)
  else
  (p_X8_readsSeats_b151 m_at m_seats m_rows m_bytes m_typed m_sorts m_rowOf ))
  else
  (p_X8_readsSeats_b151 m_at m_seats m_rows m_bytes m_typed m_sorts m_rowOf )
def p_X8_readsSeats_b91 (K19 : Int32 → Int32 → Int32 → (Nat → Int32) → (Nat → Int32) → (Nat → Int32) → (Nat → Int32) → Int32 → Int32 → Option (Int32 × Int32 × Int32 × Int32 × (Nat → Int32) × (Nat → Int32))) (m_at : Int32) (m_seats : Int32) (m_rows : Int32) (m_bytes : Nat → Int32) (m_typed : Nat → Int32) (m_sorts : Nat → Int32) (m_rowOf : Nat → Int32) (t1 : Int32) (t2 : Int32) (x4 : Int32) : Option (Int32 × Int32 × Int32 × Int32 × (Nat → Int32) × (Nat → Int32)) :=
  nm ((t1 + t2) : Int32) fun m_rows_92 =>
  gd (inB m_seats 8) <|
  nm (upd m_sorts m_seats.toNatClampNeg x4) fun m_sorts_105 =>
  gd (inB m_seats 8) <|
  nm (upd m_rowOf m_seats.toNatClampNeg (m_rows_92 - 1)) fun m_rowOf_120 =>
  nm ((m_seats + 1) : Int32) fun m_seats_128 =>
  p_X8_readsSeats_b156 K19 m_at m_seats_128 m_rows_92 m_bytes m_typed m_sorts_105 m_rowOf_120 0
def p_X8_readsSeats_b60 (K19 : Int32 → Int32 → Int32 → (Nat → Int32) → (Nat → Int32) → (Nat → Int32) → (Nat → Int32) → Int32 → Int32 → Option (Int32 × Int32 × Int32 × Int32 × (Nat → Int32) × (Nat → Int32))) (m_at : Int32) (m_seats : Int32) (m_rows : Int32) (m_bytes : Nat → Int32) (m_typed : Nat → Int32) (m_sorts : Nat → Int32) (m_rowOf : Nat → Int32) (t0 : Int32) (x2 : Int32) (x3 : Int32) : Option (Int32 × Int32 × Int32 × Int32 × (Nat → Int32) × (Nat → Int32)) :=
  if t0 = (-1) then
  (p_X8_readsSeats_b136 K19 m_at m_seats m_rows m_bytes m_typed m_sorts m_rowOf x2 x3)
  else
  (if 8 ≤ m_seats then
  (p_X8_readsSeats_b136 K19 m_at m_seats m_rows m_bytes m_typed m_sorts m_rowOf x2 x3)
  else
  (if x2 = 0 then
  (p_X8_readsSeats_b91 K19 m_at m_seats m_rows m_bytes m_typed m_sorts m_rowOf m_rows 0 t0)
  else
  (p_X8_readsSeats_b91 K19 m_at m_seats m_rows m_bytes m_typed m_sorts m_rowOf m_rows 1 t0)))
def p_X8_readsSeats_b19x (K19 : Int32 → Int32 → Int32 → (Nat → Int32) → (Nat → Int32) → (Nat → Int32) → (Nat → Int32) → Int32 → Int32 → Option (Int32 × Int32 × Int32 × Int32 × (Nat → Int32) × (Nat → Int32))) (m_at : Int32) (m_seats : Int32) (m_rows : Int32) (m_bytes : Nat → Int32) (m_typed : Nat → Int32) (m_sorts : Nat → Int32) (m_rowOf : Nat → Int32) (x1 : Int32) (x2 : Int32) : Option (Int32 × Int32 × Int32 × Int32 × (Nat → Int32) × (Nat → Int32)) :=
  if x1 = 0 then
  (some ((-1), m_at, m_seats, m_rows, m_sorts, m_rowOf))
  else
  (b1 (p_X8_here m_at m_bytes m_typed 0) fun r25 =>
  if r25 = 119 then
  (p_X8_readsSeats_b60 K19 m_at m_seats m_rows m_bytes m_typed m_sorts m_rowOf 0 x2 r25)
  else
  (if r25 = 109 then
  (p_X8_readsSeats_b60 K19 m_at m_seats m_rows m_bytes m_typed m_sorts m_rowOf 1 x2 r25)
  else
  (if r25 = 97 then
  (p_X8_readsSeats_b60 K19 m_at m_seats m_rows m_bytes m_typed m_sorts m_rowOf 2 x2 r25)
  else
  (p_X8_readsSeats_b60 K19 m_at m_seats m_rows m_bytes m_typed m_sorts m_rowOf (-1) x2 r25))))
def p_X8_readsSeats_b19 : Nat → Int32 → Int32 → Int32 → (Nat → Int32) → (Nat → Int32) → (Nat → Int32) → (Nat → Int32) → Int32 → Int32 → Option (Int32 × Int32 × Int32 × Int32 × (Nat → Int32) × (Nat → Int32))
  | 0 => fun _ _ _ _ _ _ _ _ _ => none
  | n + 1 => p_X8_readsSeats_b19x (p_X8_readsSeats_b19 n)
def p_X8_readsSeats_b0 (m_at : Int32) (m_seats : Int32) (m_rows : Int32) (m_bytes : Nat → Int32) (m_typed : Nat → Int32) (m_sorts : Nat → Int32) (m_rowOf : Nat → Int32)  : Option (Int32 × Int32 × Int32 × Int32 × (Nat → Int32) × (Nat → Int32)) :=
  p_X8_readsSeats_b19 4096 0 0 0 m_bytes m_typed m_sorts m_rowOf 1 1
def p_X8_readsSeats (m_at : Int32) (m_seats : Int32) (m_rows : Int32) (m_bytes : Nat → Int32) (m_typed : Nat → Int32) (m_sorts : Nat → Int32) (m_rowOf : Nat → Int32)  : Option (Int32 × Int32 × Int32 × Int32 × (Nat → Int32) × (Nat → Int32)) := p_X8_readsSeats_b0 m_at m_seats m_rows m_bytes m_typed m_sorts m_rowOf 
-- X8_kindOf
def p_X8_kindOf_b41  (t0 : Int32) : Option (Int32) :=
  some t0
def p_X8_kindOf_b0  (x0 : Int32) : Option (Int32) :=
  if x0 = 111 then
  (p_X8_kindOf_b41  0)
  else
  (if x0 = 108 then
  (p_X8_kindOf_b41  1)
  else
  (if x0 = 110 then
  (p_X8_kindOf_b41  2)
  else
  (if x0 = 115 then
  (p_X8_kindOf_b41  3)
  else
  (p_X8_kindOf_b41  (-1)))))
def p_X8_kindOf  (x0 : Int32) : Option (Int32) := p_X8_kindOf_b0  x0
-- X8_nobody
def p_X8_nobody_b0 (m_at : Int32) (m_people : Int32)  : Option (Int32 × Int32) :=
  some (m_at, 0)
def p_X8_nobody (m_at : Int32) (m_people : Int32)  : Option (Int32 × Int32) := p_X8_nobody_b0 m_at m_people 
-- X8_readsPeople
def p_X8_readsPeople_b59 (m_at : Int32) (m_seats : Int32) (m_people : Int32) (m_bytes : Nat → Int32) (m_typed : Nat → Int32) (m_own : Nat → Int32) (m_kinds : Nat → Int32)  : Option (Int32 × Int32 × Int32 × (Nat → Int32) × (Nat → Int32)) :=
  b2 (p_X8_nobody m_at m_people) fun r60 m_people_60 =>
  some (r60, m_at, m_people_60, m_own, m_kinds)
def p_X8_readsPeople_b10x (K10 : Int32 → Int32 → Int32 → (Nat → Int32) → (Nat → Int32) → (Nat → Int32) → (Nat → Int32) → Option (Int32 × Int32 × Int32 × (Nat → Int32) × (Nat → Int32))) (m_at : Int32) (m_seats : Int32) (m_people : Int32) (m_bytes : Nat → Int32) (m_typed : Nat → Int32) (m_own : Nat → Int32) (m_kinds : Nat → Int32)  : Option (Int32 × Int32 × Int32 × (Nat → Int32) × (Nat → Int32)) :=
  gd (inB 1 2) <|
  if (m_typed (1 : Int32).toNatClampNeg) ≤ m_at then
  (some ((-1), m_at, m_people, m_own, m_kinds))
  else
  (b1 (p_X8_here m_at m_bytes m_typed 1) fun r25 =>
  nm ((r25 - 48) : Int32) fun x31 =>
  if m_people = m_seats then
  (p_X8_readsPeople_b59 m_at m_seats m_people m_bytes m_typed m_own m_kinds )
  else
  (b1 (p_X8_in  x31.toInt64 0 ((m_seats - 1).toInt64)) fun r53 =>
  if r53 = 0 then
  (p_X8_readsPeople_b59 m_at m_seats m_people m_bytes m_typed m_own m_kinds )
  else
  (nm ((m_at + 1) : Int32) fun m_at_71 =>
  b1 (p_X8_here m_at_71 m_bytes m_typed 1) fun r76 =>
  b1 (p_X8_kindOf  r76) fun r79 =>
  if r79 = (-1) then
  (b2 (p_X8_nobody m_at_71 m_people) fun r89 m_people_89 =>
  some (r89, m_at_71, m_people_89, m_own, m_kinds))
  else
  (nm ((m_at_71 + 1) : Int32) fun m_at_100 =>
  gd (inB m_people 8) <|
  nm (upd m_own m_people.toNatClampNeg x31) fun m_own_112 =>
  gd (inB m_people 8) <|
  nm (upd m_kinds m_people.toNatClampNeg r79) fun m_kinds_122 =>
  nm ((m_people + 1) : Int32) fun m_people_130 =>
  K10 m_at_100 m_seats m_people_130 m_bytes m_typed m_own_112 m_kinds_122 ))))
def p_X8_readsPeople_b10 : Nat → Int32 → Int32 → Int32 → (Nat → Int32) → (Nat → Int32) → (Nat → Int32) → (Nat → Int32) → Option (Int32 × Int32 × Int32 × (Nat → Int32) × (Nat → Int32))
  | 0 => fun _ _ _ _ _ _ _ => none
  | n + 1 => p_X8_readsPeople_b10x (p_X8_readsPeople_b10 n)
def p_X8_readsPeople_b0 (m_at : Int32) (m_seats : Int32) (m_people : Int32) (m_bytes : Nat → Int32) (m_typed : Nat → Int32) (m_own : Nat → Int32) (m_kinds : Nat → Int32)  : Option (Int32 × Int32 × Int32 × (Nat → Int32) × (Nat → Int32)) :=
  p_X8_readsPeople_b10 4096 0 m_seats 0 m_bytes m_typed m_own m_kinds 
def p_X8_readsPeople (m_at : Int32) (m_seats : Int32) (m_people : Int32) (m_bytes : Nat → Int32) (m_typed : Nat → Int32) (m_own : Nat → Int32) (m_kinds : Nat → Int32)  : Option (Int32 × Int32 × Int32 × (Nat → Int32) × (Nat → Int32)) := p_X8_readsPeople_b0 m_at m_seats m_people m_bytes m_typed m_own m_kinds 
-- X8_find
def p_X8_find_b0 (m_at : Int32) (m_seats : Int32) (m_rows : Int32) (m_people : Int32) (m_bytes : Nat → Int32) (m_typed : Nat → Int32) (m_sorts : Nat → Int32) (m_rowOf : Nat → Int32) (m_own : Nat → Int32) (m_kinds : Nat → Int32)  : Option (Int32 × Int32 × Int32 × Int32 × (Nat → Int32) × (Nat → Int32) × (Nat → Int32) × (Nat → Int32)) :=
  b6 (p_X8_readsSeats m_at m_seats m_rows m_bytes m_typed m_sorts m_rowOf) fun r1 m_at_1 m_seats_1 m_rows_1 m_sorts_1 m_rowOf_1 =>
  b5 (p_X8_readsPeople m_at_1 m_seats_1 m_people m_bytes m_typed m_own m_kinds) fun r6 m_at_6 m_people_6 m_own_6 m_kinds_6 =>
  some (m_at_6, m_seats_1, m_rows_1, m_people_6, m_sorts_1, m_rowOf_1, m_own_6, m_kinds_6)
def p_X8_find (m_at : Int32) (m_seats : Int32) (m_rows : Int32) (m_people : Int32) (m_bytes : Nat → Int32) (m_typed : Nat → Int32) (m_sorts : Nat → Int32) (m_rowOf : Nat → Int32) (m_own : Nat → Int32) (m_kinds : Nat → Int32)  : Option (Int32 × Int32 × Int32 × Int32 × (Nat → Int32) × (Nat → Int32) × (Nat → Int32) × (Nat → Int32)) := p_X8_find_b0 m_at m_seats m_rows m_people m_bytes m_typed m_sorts m_rowOf m_own m_kinds 
-- X8_faultOf
def p_X8_faultOf_b19 (m_at : Int32) (m_seats : Int32) (m_rows : Int32) (m_people : Int32) (m_bytes : Nat → Int32) (m_typed : Nat → Int32) (m_sorts : Nat → Int32) (m_rowOf : Nat → Int32) (m_own : Nat → Int32) (m_kinds : Nat → Int32) (t0 : Int32) : Option (Int32 × Int32 × Int32 × Int32 × Int32 × (Nat → Int32) × (Nat → Int32) × (Nat → Int32) × (Nat → Int32)) :=
  some (t0, m_at, m_seats, m_rows, m_people, m_sorts, m_rowOf, m_own, m_kinds)
def p_X8_faultOf_b0 (m_at : Int32) (m_seats : Int32) (m_rows : Int32) (m_people : Int32) (m_bytes : Nat → Int32) (m_typed : Nat → Int32) (m_sorts : Nat → Int32) (m_rowOf : Nat → Int32) (m_own : Nat → Int32) (m_kinds : Nat → Int32) (x1 : Int32) : Option (Int32 × Int32 × Int32 × Int32 × Int32 × (Nat → Int32) × (Nat → Int32) × (Nat → Int32) × (Nat → Int32)) :=
  b6 (p_X8_readsSeats m_at m_seats m_rows m_bytes m_typed m_sorts m_rowOf) fun r1 m_at_1 m_seats_1 m_rows_1 m_sorts_1 m_rowOf_1 =>
  b5 (p_X8_readsPeople m_at_1 m_seats_1 m_people m_bytes m_typed m_own m_kinds) fun r6 m_at_6 m_people_6 m_own_6 m_kinds_6 =>
  if x1 = 0 then
  (p_X8_faultOf_b19 m_at_6 m_seats_1 m_rows_1 m_people_6 m_bytes m_typed m_sorts_1 m_rowOf_1 m_own_6 m_kinds_6 r1)
  else
  (p_X8_faultOf_b19 m_at_6 m_seats_1 m_rows_1 m_people_6 m_bytes m_typed m_sorts_1 m_rowOf_1 m_own_6 m_kinds_6 r6)
def p_X8_faultOf (m_at : Int32) (m_seats : Int32) (m_rows : Int32) (m_people : Int32) (m_bytes : Nat → Int32) (m_typed : Nat → Int32) (m_sorts : Nat → Int32) (m_rowOf : Nat → Int32) (m_own : Nat → Int32) (m_kinds : Nat → Int32) (x1 : Int32) : Option (Int32 × Int32 × Int32 × Int32 × Int32 × (Nat → Int32) × (Nat → Int32) × (Nat → Int32) × (Nat → Int32)) := p_X8_faultOf_b0 m_at m_seats m_rows m_people m_bytes m_typed m_sorts m_rowOf m_own m_kinds x1
-- X8_fault
def p_X8_fault_b17 (m_at : Int32) (m_seats : Int32) (m_rows : Int32) (m_people : Int32) (m_bytes : Nat → Int32) (m_typed : Nat → Int32) (m_sorts : Nat → Int32) (m_rowOf : Nat → Int32) (m_own : Nat → Int32) (m_kinds : Nat → Int32) (t0 : Int32) : Option (Int32 × Int32 × Int32 × Int32 × Int32 × (Nat → Int32) × (Nat → Int32) × (Nat → Int32) × (Nat → Int32)) :=
  some (t0, m_at, m_seats, m_rows, m_people, m_sorts, m_rowOf, m_own, m_kinds)
def p_X8_fault_b0 (m_at : Int32) (m_seats : Int32) (m_rows : Int32) (m_people : Int32) (m_bytes : Nat → Int32) (m_typed : Nat → Int32) (m_sorts : Nat → Int32) (m_rowOf : Nat → Int32) (m_own : Nat → Int32) (m_kinds : Nat → Int32) (x1 : Int32) : Option (Int32 × Int32 × Int32 × Int32 × Int32 × (Nat → Int32) × (Nat → Int32) × (Nat → Int32) × (Nat → Int32)) :=
  b1 (p_X8_isTwo  x1) fun r1 =>
  if r1 = 0 then
  (p_X8_fault_b17 m_at m_seats m_rows m_people m_bytes m_typed m_sorts m_rowOf m_own m_kinds (-2))
  else
  (b9 (p_X8_faultOf m_at m_seats m_rows m_people m_bytes m_typed m_sorts m_rowOf m_own m_kinds x1) fun r9 m_at_9 m_seats_9 m_rows_9 m_people_9 m_sorts_9 m_rowOf_9 m_own_9 m_kinds_9 =>
  p_X8_fault_b17 m_at_9 m_seats_9 m_rows_9 m_people_9 m_bytes m_typed m_sorts_9 m_rowOf_9 m_own_9 m_kinds_9 r9)
def p_X8_fault (m_at : Int32) (m_seats : Int32) (m_rows : Int32) (m_people : Int32) (m_bytes : Nat → Int32) (m_typed : Nat → Int32) (m_sorts : Nat → Int32) (m_rowOf : Nat → Int32) (m_own : Nat → Int32) (m_kinds : Nat → Int32) (x1 : Int32) : Option (Int32 × Int32 × Int32 × Int32 × Int32 × (Nat → Int32) × (Nat → Int32) × (Nat → Int32) × (Nat → Int32)) := p_X8_fault_b0 m_at m_seats m_rows m_people m_bytes m_typed m_sorts m_rowOf m_own m_kinds x1
-- X8_isSeat
def p_X8_isSeat_b0 (m_at : Int32) (m_seats : Int32) (m_rows : Int32) (m_people : Int32) (m_bytes : Nat → Int32) (m_typed : Nat → Int32) (m_sorts : Nat → Int32) (m_rowOf : Nat → Int32) (m_own : Nat → Int32) (m_kinds : Nat → Int32) (x1 : Int32) : Option (Int32 × Int32 × Int32 × Int32 × Int32 × (Nat → Int32) × (Nat → Int32) × (Nat → Int32) × (Nat → Int32)) :=
  b8 (p_X8_find m_at m_seats m_rows m_people m_bytes m_typed m_sorts m_rowOf m_own m_kinds) fun m_at_1 m_seats_1 m_rows_1 m_people_1 m_sorts_1 m_rowOf_1 m_own_1 m_kinds_1 =>
  b1 (p_X8_in  x1.toInt64 0 ((m_seats_1 - 1).toInt64)) fun r14 =>
  gd (isZ r14) <|
  some (r14, m_at_1, m_seats_1, m_rows_1, m_people_1, m_sorts_1, m_rowOf_1, m_own_1, m_kinds_1)
def p_X8_isSeat (m_at : Int32) (m_seats : Int32) (m_rows : Int32) (m_people : Int32) (m_bytes : Nat → Int32) (m_typed : Nat → Int32) (m_sorts : Nat → Int32) (m_rowOf : Nat → Int32) (m_own : Nat → Int32) (m_kinds : Nat → Int32) (x1 : Int32) : Option (Int32 × Int32 × Int32 × Int32 × Int32 × (Nat → Int32) × (Nat → Int32) × (Nat → Int32) × (Nat → Int32)) := p_X8_isSeat_b0 m_at m_seats m_rows m_people m_bytes m_typed m_sorts m_rowOf m_own m_kinds x1
-- X8_isPerson
def p_X8_isPerson_b0 (m_at : Int32) (m_seats : Int32) (m_rows : Int32) (m_people : Int32) (m_bytes : Nat → Int32) (m_typed : Nat → Int32) (m_sorts : Nat → Int32) (m_rowOf : Nat → Int32) (m_own : Nat → Int32) (m_kinds : Nat → Int32) (x1 : Int32) : Option (Int32 × Int32 × Int32 × Int32 × Int32 × (Nat → Int32) × (Nat → Int32) × (Nat → Int32) × (Nat → Int32)) :=
  b8 (p_X8_find m_at m_seats m_rows m_people m_bytes m_typed m_sorts m_rowOf m_own m_kinds) fun m_at_1 m_seats_1 m_rows_1 m_people_1 m_sorts_1 m_rowOf_1 m_own_1 m_kinds_1 =>
  b1 (p_X8_in  x1.toInt64 0 ((m_people_1 - 1).toInt64)) fun r14 =>
  gd (isZ r14) <|
  some (r14, m_at_1, m_seats_1, m_rows_1, m_people_1, m_sorts_1, m_rowOf_1, m_own_1, m_kinds_1)
def p_X8_isPerson (m_at : Int32) (m_seats : Int32) (m_rows : Int32) (m_people : Int32) (m_bytes : Nat → Int32) (m_typed : Nat → Int32) (m_sorts : Nat → Int32) (m_rowOf : Nat → Int32) (m_own : Nat → Int32) (m_kinds : Nat → Int32) (x1 : Int32) : Option (Int32 × Int32 × Int32 × Int32 × Int32 × (Nat → Int32) × (Nat → Int32) × (Nat → Int32) × (Nat → Int32)) := p_X8_isPerson_b0 m_at m_seats m_rows m_people m_bytes m_typed m_sorts m_rowOf m_own m_kinds x1
-- X8_ownersOf
def p_X8_ownersOf_b30 (K4 : Int32 → (Nat → Int32) → Int32 → Int32 → Int32 → Option (Int32)) (m_people : Int32) (m_own : Nat → Int32) (t0 : Int32) (t1 : Int32) (x1 : Int32) (x3 : Int32) : Option (Int32) :=
  nm ((t0 ||| t1) : Int32) fun x31 =>
  nm (x3 + 1 : Int32) fun x32 =>
  K4 m_people m_own x1 x31 x32
def p_X8_ownersOf_b4x (K4 : Int32 → (Nat → Int32) → Int32 → Int32 → Int32 → Option (Int32)) (m_people : Int32) (m_own : Nat → Int32) (x1 : Int32) (x2 : Int32) (x3 : Int32) : Option (Int32) :=
  if m_people ≤ x3 then
  (some x2)
  else
  (gd (inB x3 8) <|
  if (m_own x3.toNatClampNeg) = x1 then
  (p_X8_ownersOf_b30 K4 m_people m_own x2 ((1 : Int32) <<< (x3 &&& 31)) x1 x3)
  else
  (p_X8_ownersOf_b30 K4 m_people m_own x2 0 x1 x3))
def p_X8_ownersOf_b4 : Nat → Int32 → (Nat → Int32) → Int32 → Int32 → Int32 → Option (Int32)
  | 0 => fun _ _ _ _ _ => none
  | n + 1 => p_X8_ownersOf_b4x (p_X8_ownersOf_b4 n)
def p_X8_ownersOf_b0 (m_people : Int32) (m_own : Nat → Int32) (x1 : Int32) : Option (Int32) :=
  p_X8_ownersOf_b4 4096 m_people m_own x1 0 0
def p_X8_ownersOf (m_people : Int32) (m_own : Nat → Int32) (x1 : Int32) : Option (Int32) := p_X8_ownersOf_b0 m_people m_own x1
-- X8_seatOf
def p_X8_seatOf_b32 (m_people : Int32) (m_sorts : Nat → Int32) (m_rowOf : Nat → Int32) (m_own : Nat → Int32) (t0 : Int32) : Option (Int32) :=
  some t0
def p_X8_seatOf_b0 (m_people : Int32) (m_sorts : Nat → Int32) (m_rowOf : Nat → Int32) (m_own : Nat → Int32) (x1 : Int32) (x2 : Int32) : Option (Int32) :=
  if x2 = 0 then
  (gd (inB x1 8) <|
  p_X8_seatOf_b32 m_people m_sorts m_rowOf m_own (m_sorts x1.toNatClampNeg))
  else
  (if x2 = 1 then
  (gd (inB x1 8) <|
  p_X8_seatOf_b32 m_people m_sorts m_rowOf m_own (m_rowOf x1.toNatClampNeg))
  else
  (b1 (p_X8_ownersOf m_people m_own x1) fun r29 =>
  p_X8_seatOf_b32 m_people m_sorts m_rowOf m_own r29))
def p_X8_seatOf (m_people : Int32) (m_sorts : Nat → Int32) (m_rowOf : Nat → Int32) (m_own : Nat → Int32) (x1 : Int32) (x2 : Int32) : Option (Int32) := p_X8_seatOf_b0 m_people m_sorts m_rowOf m_own x1 x2
-- X8_seat
def p_X8_seat_b31 (m_at : Int32) (m_seats : Int32) (m_rows : Int32) (m_people : Int32) (m_bytes : Nat → Int32) (m_typed : Nat → Int32) (m_sorts : Nat → Int32) (m_rowOf : Nat → Int32) (m_own : Nat → Int32) (m_kinds : Nat → Int32) (t0 : Int32) : Option (Int32 × Int32 × Int32 × Int32 × Int32 × (Nat → Int32) × (Nat → Int32) × (Nat → Int32) × (Nat → Int32)) :=
  some (t0, m_at, m_seats, m_rows, m_people, m_sorts, m_rowOf, m_own, m_kinds)
def p_X8_seat_b29 (m_at : Int32) (m_seats : Int32) (m_rows : Int32) (m_people : Int32) (m_bytes : Nat → Int32) (m_typed : Nat → Int32) (m_sorts : Nat → Int32) (m_rowOf : Nat → Int32) (m_own : Nat → Int32) (m_kinds : Nat → Int32)  : Option (Int32 × Int32 × Int32 × Int32 × Int32 × (Nat → Int32) × (Nat → Int32) × (Nat → Int32) × (Nat → Int32)) :=
  p_X8_seat_b31 m_at m_seats m_rows m_people m_bytes m_typed m_sorts m_rowOf m_own m_kinds (-2)
def p_X8_seat_b0 (m_at : Int32) (m_seats : Int32) (m_rows : Int32) (m_people : Int32) (m_bytes : Nat → Int32) (m_typed : Nat → Int32) (m_sorts : Nat → Int32) (m_rowOf : Nat → Int32) (m_own : Nat → Int32) (m_kinds : Nat → Int32) (x1 : Int32) (x2 : Int32) : Option (Int32 × Int32 × Int32 × Int32 × Int32 × (Nat → Int32) × (Nat → Int32) × (Nat → Int32) × (Nat → Int32)) :=
  b9 (p_X8_isSeat m_at m_seats m_rows m_people m_bytes m_typed m_sorts m_rowOf m_own m_kinds x1) fun r2 m_at_2 m_seats_2 m_rows_2 m_people_2 m_sorts_2 m_rowOf_2 m_own_2 m_kinds_2 =>
  if r2 = 0 then
  (p_X8_seat_b29 m_at_2 m_seats_2 m_rows_2 m_people_2 m_bytes m_typed m_sorts_2 m_rowOf_2 m_own_2 m_kinds_2 )
  else
  (b1 (p_X8_in  x2.toInt64 0 2) fun r14 =>
  if r14 = 0 then
  (p_X8_seat_b29 m_at_2 m_seats_2 m_rows_2 m_people_2 m_bytes m_typed m_sorts_2 m_rowOf_2 m_own_2 m_kinds_2 )
  else
  (b1 (p_X8_seatOf m_people_2 m_sorts_2 m_rowOf_2 m_own_2 x1 x2) fun r23 =>
  p_X8_seat_b31 m_at_2 m_seats_2 m_rows_2 m_people_2 m_bytes m_typed m_sorts_2 m_rowOf_2 m_own_2 m_kinds_2 r23))
def p_X8_seat (m_at : Int32) (m_seats : Int32) (m_rows : Int32) (m_people : Int32) (m_bytes : Nat → Int32) (m_typed : Nat → Int32) (m_sorts : Nat → Int32) (m_rowOf : Nat → Int32) (m_own : Nat → Int32) (m_kinds : Nat → Int32) (x1 : Int32) (x2 : Int32) : Option (Int32 × Int32 × Int32 × Int32 × Int32 × (Nat → Int32) × (Nat → Int32) × (Nat → Int32) × (Nat → Int32)) := p_X8_seat_b0 m_at m_seats m_rows m_people m_bytes m_typed m_sorts m_rowOf m_own m_kinds x1 x2
-- X8_person
def p_X8_person_b39 (m_at : Int32) (m_seats : Int32) (m_rows : Int32) (m_people : Int32) (m_bytes : Nat → Int32) (m_typed : Nat → Int32) (m_sorts : Nat → Int32) (m_rowOf : Nat → Int32) (m_own : Nat → Int32) (m_kinds : Nat → Int32) (t0 : Int32) : Option (Int32 × Int32 × Int32 × Int32 × Int32 × (Nat → Int32) × (Nat → Int32) × (Nat → Int32) × (Nat → Int32)) :=
  some (t0, m_at, m_seats, m_rows, m_people, m_sorts, m_rowOf, m_own, m_kinds)
def p_X8_person_b37 (m_at : Int32) (m_seats : Int32) (m_rows : Int32) (m_people : Int32) (m_bytes : Nat → Int32) (m_typed : Nat → Int32) (m_sorts : Nat → Int32) (m_rowOf : Nat → Int32) (m_own : Nat → Int32) (m_kinds : Nat → Int32)  : Option (Int32 × Int32 × Int32 × Int32 × Int32 × (Nat → Int32) × (Nat → Int32) × (Nat → Int32) × (Nat → Int32)) :=
  p_X8_person_b39 m_at m_seats m_rows m_people m_bytes m_typed m_sorts m_rowOf m_own m_kinds (-2)
def p_X8_person_b0 (m_at : Int32) (m_seats : Int32) (m_rows : Int32) (m_people : Int32) (m_bytes : Nat → Int32) (m_typed : Nat → Int32) (m_sorts : Nat → Int32) (m_rowOf : Nat → Int32) (m_own : Nat → Int32) (m_kinds : Nat → Int32) (x1 : Int32) (x2 : Int32) : Option (Int32 × Int32 × Int32 × Int32 × Int32 × (Nat → Int32) × (Nat → Int32) × (Nat → Int32) × (Nat → Int32)) :=
  b9 (p_X8_isPerson m_at m_seats m_rows m_people m_bytes m_typed m_sorts m_rowOf m_own m_kinds x1) fun r2 m_at_2 m_seats_2 m_rows_2 m_people_2 m_sorts_2 m_rowOf_2 m_own_2 m_kinds_2 =>
  if r2 = 0 then
  (p_X8_person_b37 m_at_2 m_seats_2 m_rows_2 m_people_2 m_bytes m_typed m_sorts_2 m_rowOf_2 m_own_2 m_kinds_2 )
  else
  (b1 (p_X8_isTwo  x2) fun r9 =>
  if r9 = 0 then
  (p_X8_person_b37 m_at_2 m_seats_2 m_rows_2 m_people_2 m_bytes m_typed m_sorts_2 m_rowOf_2 m_own_2 m_kinds_2 )
  else
  (if x2 = 0 then
  (gd (inB x1 8) <|
  p_X8_person_b39 m_at_2 m_seats_2 m_rows_2 m_people_2 m_bytes m_typed m_sorts_2 m_rowOf_2 m_own_2 m_kinds_2 (m_own_2 x1.toNatClampNeg))
  else
  (gd (inB x1 8) <|
  p_X8_person_b39 m_at_2 m_seats_2 m_rows_2 m_people_2 m_bytes m_typed m_sorts_2 m_rowOf_2 m_own_2 m_kinds_2 (m_kinds_2 x1.toNatClampNeg))))
def p_X8_person (m_at : Int32) (m_seats : Int32) (m_rows : Int32) (m_people : Int32) (m_bytes : Nat → Int32) (m_typed : Nat → Int32) (m_sorts : Nat → Int32) (m_rowOf : Nat → Int32) (m_own : Nat → Int32) (m_kinds : Nat → Int32) (x1 : Int32) (x2 : Int32) : Option (Int32 × Int32 × Int32 × Int32 × Int32 × (Nat → Int32) × (Nat → Int32) × (Nat → Int32) × (Nat → Int32)) := p_X8_person_b0 m_at m_seats m_rows m_people m_bytes m_typed m_sorts m_rowOf m_own m_kinds x1 x2
-- X8_whole
def p_X8_whole_b0 (m_seats : Int32)  : Option (Int32) :=
  some (((1 : Int32) <<< (m_seats &&& 31)) - 1)
def p_X8_whole (m_seats : Int32)  : Option (Int32) := p_X8_whole_b0 m_seats 
-- X8_ofSort
def p_X8_ofSort_b30 (K4 : Int32 → (Nat → Int32) → Int32 → Int32 → Int32 → Option (Int32)) (m_seats : Int32) (m_sorts : Nat → Int32) (t0 : Int32) (t1 : Int32) (x1 : Int32) (x3 : Int32) : Option (Int32) :=
  nm ((t0 ||| t1) : Int32) fun x31 =>
  nm (x3 + 1 : Int32) fun x32 =>
  K4 m_seats m_sorts x1 x31 x32
def p_X8_ofSort_b4x (K4 : Int32 → (Nat → Int32) → Int32 → Int32 → Int32 → Option (Int32)) (m_seats : Int32) (m_sorts : Nat → Int32) (x1 : Int32) (x2 : Int32) (x3 : Int32) : Option (Int32) :=
  if m_seats ≤ x3 then
  (some x2)
  else
  (gd (inB x3 8) <|
  if (m_sorts x3.toNatClampNeg) = x1 then
  (p_X8_ofSort_b30 K4 m_seats m_sorts x2 ((1 : Int32) <<< (x3 &&& 31)) x1 x3)
  else
  (p_X8_ofSort_b30 K4 m_seats m_sorts x2 0 x1 x3))
def p_X8_ofSort_b4 : Nat → Int32 → (Nat → Int32) → Int32 → Int32 → Int32 → Option (Int32)
  | 0 => fun _ _ _ _ _ => none
  | n + 1 => p_X8_ofSort_b4x (p_X8_ofSort_b4 n)
def p_X8_ofSort_b0 (m_seats : Int32) (m_sorts : Nat → Int32) (x1 : Int32) : Option (Int32) :=
  p_X8_ofSort_b4 4096 m_seats m_sorts x1 0 0
def p_X8_ofSort (m_seats : Int32) (m_sorts : Nat → Int32) (x1 : Int32) : Option (Int32) := p_X8_ofSort_b0 m_seats m_sorts x1
-- X8_nextFree
def p_X8_nextFree_b2x (K2 : Int32 → Int32 → Int32 → Option (Int32)) (m_seats : Int32) (x2 : Int32) (x3 : Int32) : Option (Int32) :=
  b1 (p_X8_isIn  x2 x3) fun r4 =>
  if r4 = 0 then
  (gd (decide (¬ m_seats = 0)) <|
  nm (((x3 + 1) - ((x3 + 1) / m_seats) * m_seats) : Int32) fun x18 =>
  K2 m_seats x2 x18)
  else
  (some x3)
def p_X8_nextFree_b2 : Nat → Int32 → Int32 → Int32 → Option (Int32)
  | 0 => fun _ _ _ => none
  | n + 1 => p_X8_nextFree_b2x (p_X8_nextFree_b2 n)
def p_X8_nextFree_b0 (m_seats : Int32) (x1 : Int32) (x2 : Int32) : Option (Int32) :=
  p_X8_nextFree_b2 4096 m_seats x2 x1
def p_X8_nextFree (m_seats : Int32) (x1 : Int32) (x2 : Int32) : Option (Int32) := p_X8_nextFree_b0 m_seats x1 x2
-- X8_choices
def p_X8_choices_b102 (m_seats : Int32) (m_sorts : Nat → Int32) (m_own : Nat → Int32) (t0 : Int32) : Option (Int32) :=
  some t0
def p_X8_choices_b88 (m_seats : Int32) (m_sorts : Nat → Int32) (m_own : Nat → Int32) (t0 : Int32) (x4 : Int32) : Option (Int32) :=
  if t0 = 0 then
  (p_X8_choices_b102 m_seats m_sorts m_own x4)
  else
  (p_X8_choices_b102 m_seats m_sorts m_own t0)
def p_X8_choices_b0 (m_seats : Int32) (m_sorts : Nat → Int32) (m_own : Nat → Int32) (x1 : Int32) (x2 : Int32) (x3 : Int32) : Option (Int32) :=
  b1 (p_X8_whole m_seats) fun r1 =>
  nm ((r1 &&& (x3 ^^^ (-1))) : Int32) fun x8 =>
  if x2 = 1 then
  (some x8)
  else
  (gd (inB x1 8) <|
  b1 (p_X8_isIn  x8 (m_own x1.toNatClampNeg)) fun r26 =>
  if r26 = 0 then
  (if x2 = 2 then
  (gd (inB x1 8) <|
  b1 (p_X8_nextFree m_seats (m_own x1.toNatClampNeg) x8) fun r56 =>
  some ((1 : Int32) <<< (r56 &&& 31)))
  else
  (if x2 = 3 then
  (gd (inB x1 8) <|
  gd (inB (m_own x1.toNatClampNeg) 8) <|
  b1 (p_X8_ofSort m_seats m_sorts (m_sorts (m_own x1.toNatClampNeg).toNatClampNeg)) fun r80 =>
  p_X8_choices_b88 m_seats m_sorts m_own (x8 &&& r80) x8)
  else
  (p_X8_choices_b88 m_seats m_sorts m_own 0 x8)))
  else
  (gd (inB x1 8) <|
  some ((1 : Int32) <<< ((m_own x1.toNatClampNeg) &&& 31))))
def p_X8_choices (m_seats : Int32) (m_sorts : Nat → Int32) (m_own : Nat → Int32) (x1 : Int32) (x2 : Int32) (x3 : Int32) : Option (Int32) := p_X8_choices_b0 m_seats m_sorts m_own x1 x2 x3
-- X8_partsOf
def p_X8_partsOf_b59  (t0 : Int64) : Option (Int64) :=
  some t0
def p_X8_partsOf_b0  (x0 : Int32) : Option (Int64) :=
  if x0 = 8 then
  (p_X8_partsOf_b59  840)
  else
  (if x0 = 7 then
  (p_X8_partsOf_b59  420)
  else
  (if x0 ≤ 4 then
  (if x0 = 4 then
  (p_X8_partsOf_b59  12)
  else
  (if x0 = 3 then
  (p_X8_partsOf_b59  6)
  else
  (p_X8_partsOf_b59  x0.toInt64)))
  else
  (p_X8_partsOf_b59  60)))
def p_X8_partsOf  (x0 : Int32) : Option (Int64) := p_X8_partsOf_b0  x0
-- X8_begins
def p_X8_begins_b23 (K2 : Int64 → (Nat → Int64) → Int32 → Option (Int64 × (Nat → Int64))) (m_all : Int64) (m_ways : Nat → Int64) (t1 : Int32) (t2 : Int64) (x1 : Int32) : Option (Int64 × (Nat → Int64)) :=
  gd (inB t1 256) <|
  nm (vp_updL m_ways t1.toNatClampNeg t2) fun m_ways_23 =>
  nm (x1 + 1 : Int32) fun x24 =>
  K2 m_all m_ways_23 x24
def p_X8_begins_b2x (K2 : Int64 → (Nat → Int64) → Int32 → Option (Int64 × (Nat → Int64))) (m_all : Int64) (m_ways : Nat → Int64) (x1 : Int32) : Option (Int64 × (Nat → Int64)) :=
  if 256 ≤ x1 then
  (some (1, m_ways))
  else
  (if x1 = 0 then
  (p_X8_begins_b23 K2 m_all m_ways x1 1 x1)
  else
  (p_X8_begins_b23 K2 m_all m_ways x1 0 x1))
def p_X8_begins_b2 : Nat → Int64 → (Nat → Int64) → Int32 → Option (Int64 × (Nat → Int64))
  | 0 => fun _ _ _ => none
  | n + 1 => p_X8_begins_b2x (p_X8_begins_b2 n)
def p_X8_begins_b0 (m_all : Int64) (m_ways : Nat → Int64)  : Option (Int64 × (Nat → Int64)) :=
  p_X8_begins_b2 4096 m_all m_ways 0
def p_X8_begins (m_all : Int64) (m_ways : Nat → Int64)  : Option (Int64 × (Nat → Int64)) := p_X8_begins_b0 m_all m_ways 
-- X8_kindNow
def p_X8_kindNow_b18 (m_loser : Int32) (m_kinds : Nat → Int32) (t0 : Int32) : Option (Int32) :=
  some t0
def p_X8_kindNow_b0 (m_loser : Int32) (m_kinds : Nat → Int32) (x1 : Int32) : Option (Int32) :=
  if x1 = m_loser then
  (p_X8_kindNow_b18 m_loser m_kinds 1)
  else
  (gd (inB x1 8) <|
  p_X8_kindNow_b18 m_loser m_kinds (m_kinds x1.toNatClampNeg))
def p_X8_kindNow (m_loser : Int32) (m_kinds : Nat → Int32) (x1 : Int32) : Option (Int32) := p_X8_kindNow_b0 m_loser m_kinds x1
-- X8_noBounds
def p_X8_noBounds_b17x (K17 : Int32 → Int32 → Int32 → (Nat → Int32) → Int32 → Option (Int32 × Int32 × Int32 × (Nat → Int32))) (m_loser : Int32) (m_onlyWho : Int32) (m_keptFree : Int32) (m_keptSeat : Nat → Int32) (x1 : Int32) : Option (Int32 × Int32 × Int32 × (Nat → Int32)) :=
  if 8 ≤ x1 then
  (some (m_loser, m_onlyWho, m_keptFree, m_keptSeat))
  else
  (gd (inB x1 8) <|
  nm (upd m_keptSeat x1.toNatClampNeg (-1)) fun m_keptSeat_29 =>
  nm (x1 + 1 : Int32) fun x30 =>
  K17 m_loser m_onlyWho m_keptFree m_keptSeat_29 x30)
def p_X8_noBounds_b17 : Nat → Int32 → Int32 → Int32 → (Nat → Int32) → Int32 → Option (Int32 × Int32 × Int32 × (Nat → Int32))
  | 0 => fun _ _ _ _ _ => none
  | n + 1 => p_X8_noBounds_b17x (p_X8_noBounds_b17 n)
def p_X8_noBounds_b0 (m_loser : Int32) (m_onlyWho : Int32) (m_keptFree : Int32) (m_keptSeat : Nat → Int32)  : Option (Int32 × Int32 × Int32 × (Nat → Int32)) :=
  p_X8_noBounds_b17 4096 (-1) (-1) 0 m_keptSeat 0
def p_X8_noBounds (m_loser : Int32) (m_onlyWho : Int32) (m_keptFree : Int32) (m_keptSeat : Nat → Int32)  : Option (Int32 × Int32 × Int32 × (Nat → Int32)) := p_X8_noBounds_b0 m_loser m_onlyWho m_keptFree m_keptSeat 
-- X8_mayBe
def p_X8_mayBe_b52 (m_onlyWho : Int32) (m_onlyWhere : Int32) (m_keptFree : Int32) (m_keptSeat : Nat → Int32) (t0 : Int32) : Option (Int32) :=
  gd (isZ t0) <|
  some t0
def p_X8_mayBe_b51 (m_onlyWho : Int32) (m_onlyWhere : Int32) (m_keptFree : Int32) (m_keptSeat : Nat → Int32)  : Option (Int32) :=
  p_X8_mayBe_b52 m_onlyWho m_onlyWhere m_keptFree m_keptSeat 0
def p_X8_mayBe_b47 (m_onlyWho : Int32) (m_onlyWhere : Int32) (m_keptFree : Int32) (m_keptSeat : Nat → Int32)  : Option (Int32) :=
  p_X8_mayBe_b52 m_onlyWho m_onlyWhere m_keptFree m_keptSeat 1
def p_X8_mayBe_b31 (m_onlyWho : Int32) (m_onlyWhere : Int32) (m_keptFree : Int32) (m_keptSeat : Nat → Int32) (x1 : Int32) (x2 : Int32) : Option (Int32) :=
  if m_onlyWho = x1 then
  (if m_onlyWhere = x2 then
  (p_X8_mayBe_b47 m_onlyWho m_onlyWhere m_keptFree m_keptSeat )
  else
  (p_X8_mayBe_b51 m_onlyWho m_onlyWhere m_keptFree m_keptSeat ))
  else
  (p_X8_mayBe_b47 m_onlyWho m_onlyWhere m_keptFree m_keptSeat )
def p_X8_mayBe_b0 (m_onlyWho : Int32) (m_onlyWhere : Int32) (m_keptFree : Int32) (m_keptSeat : Nat → Int32) (x1 : Int32) (x2 : Int32) : Option (Int32) :=
  b1 (p_X8_isIn  m_keptFree x2) fun r5 =>
  if r5 = 0 then
  (gd (inB x1 8) <|
  if (m_keptSeat x1.toNatClampNeg) = (-1) then
  (p_X8_mayBe_b31 m_onlyWho m_onlyWhere m_keptFree m_keptSeat x1 x2)
  else
  (gd (inB x1 8) <|
  if (m_keptSeat x1.toNatClampNeg) = x2 then
  (p_X8_mayBe_b31 m_onlyWho m_onlyWhere m_keptFree m_keptSeat x1 x2)
  else
  (p_X8_mayBe_b51 m_onlyWho m_onlyWhere m_keptFree m_keptSeat )))
  else
  (p_X8_mayBe_b51 m_onlyWho m_onlyWhere m_keptFree m_keptSeat )
def p_X8_mayBe (m_onlyWho : Int32) (m_onlyWhere : Int32) (m_keptFree : Int32) (m_keptSeat : Nat → Int32) (x1 : Int32) (x2 : Int32) : Option (Int32) := p_X8_mayBe_b0 m_onlyWho m_onlyWhere m_keptFree m_keptSeat x1 x2
-- X8_sits
def p_X8_sits_b156x (K156 : Int32 → Int32 → Int32 → Int32 → Int32 → Int64 → (Nat → Int32) → (Nat → Int32) → (Nat → Int32) → (Nat → Int32) → (Nat → Int64) → (Nat → Int64) → Int64 → Int32 → Option (Int64 × (Nat → Int64) × (Nat → Int64))) (m_seats : Int32) (m_loser : Int32) (m_onlyWho : Int32) (m_onlyWhere : Int32) (m_keptFree : Int32) (m_all : Int64) (m_sorts : Nat → Int32) (m_own : Nat → Int32) (m_kinds : Nat → Int32) (m_keptSeat : Nat → Int32) (m_ways : Nat → Int64) (m_next : Nat → Int64) (x3 : Int64) (x5 : Int32) : Option (Int64 × (Nat → Int64) × (Nat → Int64)) :=
  b1 (p_X8_whole m_seats) fun r159 =>
  if r159 < x5 then
  (nm ((m_all * x3) : Int64) fun m_all_192 =>
  some (m_all_192, m_ways, m_next))
  else
  (gd (inB x5 256) <|
  gd (inB x5 256) <|
  nm (vp_updL m_ways x5.toNatClampNeg (m_next x5.toNatClampNeg)) fun m_ways_178 =>
  nm (x5 + 1 : Int32) fun x179 =>
  K156 m_seats m_loser m_onlyWho m_onlyWhere m_keptFree m_all m_sorts m_own m_kinds m_keptSeat m_ways_178 m_next x3 x179)
def p_X8_sits_b156 : Nat → Int32 → Int32 → Int32 → Int32 → Int32 → Int64 → (Nat → Int32) → (Nat → Int32) → (Nat → Int32) → (Nat → Int32) → (Nat → Int64) → (Nat → Int64) → Int64 → Int32 → Option (Int64 × (Nat → Int64) × (Nat → Int64))
  | 0 => fun _ _ _ _ _ _ _ _ _ _ _ _ _ _ => none
  | n + 1 => p_X8_sits_b156x (p_X8_sits_b156 n)
def p_X8_sits_b147 (K39 : Int32 → Int32 → Int32 → Int32 → Int32 → Int64 → (Nat → Int32) → (Nat → Int32) → (Nat → Int32) → (Nat → Int32) → (Nat → Int64) → (Nat → Int64) → Int32 → Int64 → Int32 → Option (Int64 × (Nat → Int64) × (Nat → Int64))) (m_seats : Int32) (m_loser : Int32) (m_onlyWho : Int32) (m_onlyWhere : Int32) (m_keptFree : Int32) (m_all : Int64) (m_sorts : Nat → Int32) (m_own : Nat → Int32) (m_kinds : Nat → Int32) (m_keptSeat : Nat → Int32) (m_ways : Nat → Int64) (m_next : Nat → Int64) (x1 : Int32) (x3 : Int64) (x5 : Int32) : Option (Int64 × (Nat → Int64) × (Nat → Int64)) :=
  nm (x5 + 1 : Int32) fun x147 =>
  K39 m_seats m_loser m_onlyWho m_onlyWhere m_keptFree m_all m_sorts m_own m_kinds m_keptSeat m_ways m_next x1 x3 x147
def p_X8_sits_b141 (K39 : Int32 → Int32 → Int32 → Int32 → Int32 → Int64 → (Nat → Int32) → (Nat → Int32) → (Nat → Int32) → (Nat → Int32) → (Nat → Int64) → (Nat → Int64) → Int32 → Int64 → Int32 → Option (Int64 × (Nat → Int64) × (Nat → Int64))) (K95 : Int32 → Int32 → Int32 → Int32 → Int32 → Int64 → (Nat → Int32) → (Nat → Int32) → (Nat → Int32) → (Nat → Int32) → (Nat → Int64) → (Nat → Int64) → Int32 → Int64 → Int32 → Int32 → Int64 → Int32 → Option (Int64 × (Nat → Int64) × (Nat → Int64))) (m_seats : Int32) (m_loser : Int32) (m_onlyWho : Int32) (m_onlyWhere : Int32) (m_keptFree : Int32) (m_all : Int64) (m_sorts : Nat → Int32) (m_own : Nat → Int32) (m_kinds : Nat → Int32) (m_keptSeat : Nat → Int32) (m_ways : Nat → Int64) (m_next : Nat → Int64) (x1 : Int32) (x3 : Int64) (x5 : Int32) (x6 : Int32) (x7 : Int64) (x9 : Int32) : Option (Int64 × (Nat → Int64) × (Nat → Int64)) :=
  nm (x9 + 1 : Int32) fun x141 =>
  K95 m_seats m_loser m_onlyWho m_onlyWhere m_keptFree m_all m_sorts m_own m_kinds m_keptSeat m_ways m_next x1 x3 x5 x6 x7 x141
def p_X8_sits_b95x (K39 : Int32 → Int32 → Int32 → Int32 → Int32 → Int64 → (Nat → Int32) → (Nat → Int32) → (Nat → Int32) → (Nat → Int32) → (Nat → Int64) → (Nat → Int64) → Int32 → Int64 → Int32 → Option (Int64 × (Nat → Int64) × (Nat → Int64))) (K95 : Int32 → Int32 → Int32 → Int32 → Int32 → Int64 → (Nat → Int32) → (Nat → Int32) → (Nat → Int32) → (Nat → Int32) → (Nat → Int64) → (Nat → Int64) → Int32 → Int64 → Int32 → Int32 → Int64 → Int32 → Option (Int64 × (Nat → Int64) × (Nat → Int64))) (m_seats : Int32) (m_loser : Int32) (m_onlyWho : Int32) (m_onlyWhere : Int32) (m_keptFree : Int32) (m_all : Int64) (m_sorts : Nat → Int32) (m_own : Nat → Int32) (m_kinds : Nat → Int32) (m_keptSeat : Nat → Int32) (m_ways : Nat → Int64) (m_next : Nat → Int64) (x1 : Int32) (x3 : Int64) (x5 : Int32) (x6 : Int32) (x7 : Int64) (x9 : Int32) : Option (Int64 × (Nat → Int64) × (Nat → Int64)) :=
  if m_seats ≤ x9 then
  (p_X8_sits_b147 K39 m_seats m_loser m_onlyWho m_onlyWhere m_keptFree m_all m_sorts m_own m_kinds m_keptSeat m_ways m_next x1 x3 x5)
  else
  (b1 (p_X8_isIn  x6 x9) fun r108 =>
  if r108 = 0 then
  (p_X8_sits_b141 K39 K95 m_seats m_loser m_onlyWho m_onlyWhere m_keptFree m_all m_sorts m_own m_kinds m_keptSeat m_ways m_next x1 x3 x5 x6 x7 x9)
  else
  (b1 (p_X8_mayBe m_onlyWho m_onlyWhere m_keptFree m_keptSeat x1 x9) fun r118 =>
  if r118 = 0 then
  (p_X8_sits_b141 K39 K95 m_seats m_loser m_onlyWho m_onlyWhere m_keptFree m_all m_sorts m_own m_kinds m_keptSeat m_ways m_next x1 x3 x5 x6 x7 x9)
  else
  (gd (inB (x5 ||| ((1 : Int32) <<< (x9 &&& 31))) 256) <|
  gd (inB (x5 ||| ((1 : Int32) <<< (x9 &&& 31))) 256) <|
  nm (vp_updL m_next (x5 ||| ((1 : Int32) <<< (x9 &&& 31))).toNatClampNeg ((m_next (x5 ||| ((1 : Int32) <<< (x9 &&& 31))).toNatClampNeg) + x7)) fun m_next_140 =>
  p_X8_sits_b141 K39 K95 m_seats m_loser m_onlyWho m_onlyWhere m_keptFree m_all m_sorts m_own m_kinds m_keptSeat m_ways m_next_140 x1 x3 x5 x6 x7 x9)))
def p_X8_sits_b95 (K39 : Int32 → Int32 → Int32 → Int32 → Int32 → Int64 → (Nat → Int32) → (Nat → Int32) → (Nat → Int32) → (Nat → Int32) → (Nat → Int64) → (Nat → Int64) → Int32 → Int64 → Int32 → Option (Int64 × (Nat → Int64) × (Nat → Int64))) : Nat → Int32 → Int32 → Int32 → Int32 → Int32 → Int64 → (Nat → Int32) → (Nat → Int32) → (Nat → Int32) → (Nat → Int32) → (Nat → Int64) → (Nat → Int64) → Int32 → Int64 → Int32 → Int32 → Int64 → Int32 → Option (Int64 × (Nat → Int64) × (Nat → Int64))
  | 0 => fun _ _ _ _ _ _ _ _ _ _ _ _ _ _ _ _ _ _ => none
  | n + 1 => p_X8_sits_b95x K39 (p_X8_sits_b95 K39 n)
def p_X8_sits_b39x (K39 : Int32 → Int32 → Int32 → Int32 → Int32 → Int64 → (Nat → Int32) → (Nat → Int32) → (Nat → Int32) → (Nat → Int32) → (Nat → Int64) → (Nat → Int64) → Int32 → Int64 → Int32 → Option (Int64 × (Nat → Int64) × (Nat → Int64))) (m_seats : Int32) (m_loser : Int32) (m_onlyWho : Int32) (m_onlyWhere : Int32) (m_keptFree : Int32) (m_all : Int64) (m_sorts : Nat → Int32) (m_own : Nat → Int32) (m_kinds : Nat → Int32) (m_keptSeat : Nat → Int32) (m_ways : Nat → Int64) (m_next : Nat → Int64) (x1 : Int32) (x3 : Int64) (x5 : Int32) : Option (Int64 × (Nat → Int64) × (Nat → Int64)) :=
  b1 (p_X8_whole m_seats) fun r42 =>
  if r42 < x5 then
  (p_X8_sits_b156 4096 m_seats m_loser m_onlyWho m_onlyWhere m_keptFree m_all m_sorts m_own m_kinds m_keptSeat m_ways m_next x3 0)
  else
  (gd (inB x5 256) <|
  if (lg_cmp (m_ways x5.toNatClampNeg) 0) ≤ 0 then
  (p_X8_sits_b147 K39 m_seats m_loser m_onlyWho m_onlyWhere m_keptFree m_all m_sorts m_own m_kinds m_keptSeat m_ways m_next x1 x3 x5)
  else
  (b1 (p_X8_kindNow m_loser m_kinds x1) fun r64 =>
  b1 (p_X8_choices m_seats m_sorts m_own x1 r64 x5) fun r69 =>
  gd (inB x5 256) <|
  b1 (p_X8_ones  r69) fun r84 =>
  gd (decide (¬ r84.toInt64 = 0)) <|
  nm (((m_ways x5.toNatClampNeg) * (x3 / r84.toInt64)) : Int64) fun x90 =>
  p_X8_sits_b95 K39 4096 m_seats m_loser m_onlyWho m_onlyWhere m_keptFree m_all m_sorts m_own m_kinds m_keptSeat m_ways m_next x1 x3 x5 r69 x90 0))
def p_X8_sits_b39 : Nat → Int32 → Int32 → Int32 → Int32 → Int32 → Int64 → (Nat → Int32) → (Nat → Int32) → (Nat → Int32) → (Nat → Int32) → (Nat → Int64) → (Nat → Int64) → Int32 → Int64 → Int32 → Option (Int64 × (Nat → Int64) × (Nat → Int64))
  | 0 => fun _ _ _ _ _ _ _ _ _ _ _ _ _ _ _ => none
  | n + 1 => p_X8_sits_b39x (p_X8_sits_b39 n)
def p_X8_sits_b13x (K13 : Int32 → Int32 → Int32 → Int32 → Int32 → Int64 → (Nat → Int32) → (Nat → Int32) → (Nat → Int32) → (Nat → Int32) → (Nat → Int64) → (Nat → Int64) → Int32 → Int64 → Int32 → Option (Int64 × (Nat → Int64) × (Nat → Int64))) (m_seats : Int32) (m_loser : Int32) (m_onlyWho : Int32) (m_onlyWhere : Int32) (m_keptFree : Int32) (m_all : Int64) (m_sorts : Nat → Int32) (m_own : Nat → Int32) (m_kinds : Nat → Int32) (m_keptSeat : Nat → Int32) (m_ways : Nat → Int64) (m_next : Nat → Int64) (x1 : Int32) (x3 : Int64) (x5 : Int32) : Option (Int64 × (Nat → Int64) × (Nat → Int64)) :=
  b1 (p_X8_whole m_seats) fun r16 =>
  if r16 < x5 then
  (p_X8_sits_b39 4096 m_seats m_loser m_onlyWho m_onlyWhere m_keptFree m_all m_sorts m_own m_kinds m_keptSeat m_ways m_next x1 x3 0)
  else
  (gd (inB x5 256) <|
  nm (vp_updL m_next x5.toNatClampNeg 0) fun m_next_29 =>
  nm (x5 + 1 : Int32) fun x30 =>
  K13 m_seats m_loser m_onlyWho m_onlyWhere m_keptFree m_all m_sorts m_own m_kinds m_keptSeat m_ways m_next_29 x1 x3 x30)
def p_X8_sits_b13 : Nat → Int32 → Int32 → Int32 → Int32 → Int32 → Int64 → (Nat → Int32) → (Nat → Int32) → (Nat → Int32) → (Nat → Int32) → (Nat → Int64) → (Nat → Int64) → Int32 → Int64 → Int32 → Option (Int64 × (Nat → Int64) × (Nat → Int64))
  | 0 => fun _ _ _ _ _ _ _ _ _ _ _ _ _ _ _ => none
  | n + 1 => p_X8_sits_b13x (p_X8_sits_b13 n)
def p_X8_sits_b0 (m_seats : Int32) (m_loser : Int32) (m_onlyWho : Int32) (m_onlyWhere : Int32) (m_keptFree : Int32) (m_all : Int64) (m_sorts : Nat → Int32) (m_own : Nat → Int32) (m_kinds : Nat → Int32) (m_keptSeat : Nat → Int32) (m_ways : Nat → Int64) (m_next : Nat → Int64) (x1 : Int32) (x2 : Int32) : Option (Int64 × (Nat → Int64) × (Nat → Int64)) :=
  b1 (p_X8_partsOf  (m_seats - x2)) fun r6 =>
  p_X8_sits_b13 4096 m_seats m_loser m_onlyWho m_onlyWhere m_keptFree m_all m_sorts m_own m_kinds m_keptSeat m_ways m_next x1 r6 0
def p_X8_sits (m_seats : Int32) (m_loser : Int32) (m_onlyWho : Int32) (m_onlyWhere : Int32) (m_keptFree : Int32) (m_all : Int64) (m_sorts : Nat → Int32) (m_own : Nat → Int32) (m_kinds : Nat → Int32) (m_keptSeat : Nat → Int32) (m_ways : Nat → Int64) (m_next : Nat → Int64) (x1 : Int32) (x2 : Int32) : Option (Int64 × (Nat → Int64) × (Nat → Int64)) := p_X8_sits_b0 m_seats m_loser m_onlyWho m_onlyWhere m_keptFree m_all m_sorts m_own m_kinds m_keptSeat m_ways m_next x1 x2
-- X8_firstSit
def p_X8_firstSit_b10x (K10 : Int32 → Int32 → Int32 → Int32 → Int32 → Int64 → (Nat → Int32) → (Nat → Int32) → (Nat → Int32) → (Nat → Int32) → (Nat → Int64) → (Nat → Int64) → Int32 → Int32 → Option (Int32 × Int32 × Int32 × Int64 × (Nat → Int32) × (Nat → Int64) × (Nat → Int64))) (m_seats : Int32) (m_loser : Int32) (m_onlyWho : Int32) (m_onlyWhere : Int32) (m_keptFree : Int32) (m_all : Int64) (m_sorts : Nat → Int32) (m_own : Nat → Int32) (m_kinds : Nat → Int32) (m_keptSeat : Nat → Int32) (m_ways : Nat → Int64) (m_next : Nat → Int64) (x1 : Int32) (x2 : Int32) : Option (Int32 × Int32 × Int32 × Int64 × (Nat → Int32) × (Nat → Int64) × (Nat → Int64)) :=
  if x1 ≤ x2 then
  (some (m_loser, m_onlyWho, m_keptFree, m_all, m_keptSeat, m_ways, m_next))
  else
  (b3 (p_X8_sits m_seats m_loser m_onlyWho m_onlyWhere m_keptFree m_all m_sorts m_own m_kinds m_keptSeat m_ways m_next x2 x2) fun m_all_18 m_ways_18 m_next_18 =>
  nm (x2 + 1 : Int32) fun x21 =>
  K10 m_seats m_loser m_onlyWho m_onlyWhere m_keptFree m_all_18 m_sorts m_own m_kinds m_keptSeat m_ways_18 m_next_18 x1 x21)
def p_X8_firstSit_b10 : Nat → Int32 → Int32 → Int32 → Int32 → Int32 → Int64 → (Nat → Int32) → (Nat → Int32) → (Nat → Int32) → (Nat → Int32) → (Nat → Int64) → (Nat → Int64) → Int32 → Int32 → Option (Int32 × Int32 × Int32 × Int64 × (Nat → Int32) × (Nat → Int64) × (Nat → Int64))
  | 0 => fun _ _ _ _ _ _ _ _ _ _ _ _ _ _ => none
  | n + 1 => p_X8_firstSit_b10x (p_X8_firstSit_b10 n)
def p_X8_firstSit_b0 (m_seats : Int32) (m_loser : Int32) (m_onlyWho : Int32) (m_onlyWhere : Int32) (m_keptFree : Int32) (m_all : Int64) (m_sorts : Nat → Int32) (m_own : Nat → Int32) (m_kinds : Nat → Int32) (m_keptSeat : Nat → Int32) (m_ways : Nat → Int64) (m_next : Nat → Int64) (x1 : Int32) : Option (Int32 × Int32 × Int32 × Int64 × (Nat → Int32) × (Nat → Int64) × (Nat → Int64)) :=
  b4 (p_X8_noBounds m_loser m_onlyWho m_keptFree m_keptSeat) fun m_loser_1 m_onlyWho_1 m_keptFree_1 m_keptSeat_1 =>
  b2 (p_X8_begins m_all m_ways) fun m_all_5 m_ways_5 =>
  p_X8_firstSit_b10 4096 m_seats m_loser_1 m_onlyWho_1 m_onlyWhere m_keptFree_1 m_all_5 m_sorts m_own m_kinds m_keptSeat_1 m_ways_5 m_next x1 0
def p_X8_firstSit (m_seats : Int32) (m_loser : Int32) (m_onlyWho : Int32) (m_onlyWhere : Int32) (m_keptFree : Int32) (m_all : Int64) (m_sorts : Nat → Int32) (m_own : Nat → Int32) (m_kinds : Nat → Int32) (m_keptSeat : Nat → Int32) (m_ways : Nat → Int64) (m_next : Nat → Int64) (x1 : Int32) : Option (Int32 × Int32 × Int32 × Int64 × (Nat → Int32) × (Nat → Int64) × (Nat → Int64)) := p_X8_firstSit_b0 m_seats m_loser m_onlyWho m_onlyWhere m_keptFree m_all m_sorts m_own m_kinds m_keptSeat m_ways m_next x1
-- X8_nextOn
def p_X8_nextOn_b87 (K17 : Int32 → Int32 → (Nat → Int32) → (Nat → Int32) → (Nat → Int32) → (Nat → Int64) → Int32 → Int32 → Int64 → Int64 → Int32 → Option (Int64)) (m_seats : Int32) (m_loser : Int32) (m_sorts : Nat → Int32) (m_own : Nat → Int32) (m_kinds : Nat → Int32) (m_ways : Nat → Int64) (x1 : Int32) (x2 : Int32) (x4 : Int64) (x6 : Int64) (x8 : Int32) : Option (Int64) :=
  nm (x8 + 1 : Int32) fun x87 =>
  K17 m_seats m_loser m_sorts m_own m_kinds m_ways x1 x2 x4 x6 x87
def p_X8_nextOn_b84 (K17 : Int32 → Int32 → (Nat → Int32) → (Nat → Int32) → (Nat → Int32) → (Nat → Int64) → Int32 → Int32 → Int64 → Int64 → Int32 → Option (Int64)) (m_seats : Int32) (m_loser : Int32) (m_sorts : Nat → Int32) (m_own : Nat → Int32) (m_kinds : Nat → Int32) (m_ways : Nat → Int64) (t0 : Int64) (t1 : Int64) (x1 : Int32) (x2 : Int32) (x4 : Int64) (x8 : Int32) : Option (Int64) :=
  nm ((t0 + t1) : Int64) fun x85 =>
  p_X8_nextOn_b87 K17 m_seats m_loser m_sorts m_own m_kinds m_ways x1 x2 x4 x85 x8
def p_X8_nextOn_b17x (K17 : Int32 → Int32 → (Nat → Int32) → (Nat → Int32) → (Nat → Int32) → (Nat → Int64) → Int32 → Int32 → Int64 → Int64 → Int32 → Option (Int64)) (m_seats : Int32) (m_loser : Int32) (m_sorts : Nat → Int32) (m_own : Nat → Int32) (m_kinds : Nat → Int32) (m_ways : Nat → Int64) (x1 : Int32) (x2 : Int32) (x4 : Int64) (x6 : Int64) (x8 : Int32) : Option (Int64) :=
  b1 (p_X8_whole m_seats) fun r20 =>
  if r20 < x8 then
  (some x6)
  else
  (gd (inB x8 256) <|
  if (lg_cmp (m_ways x8.toNatClampNeg) 0) ≤ 0 then
  (p_X8_nextOn_b87 K17 m_seats m_loser m_sorts m_own m_kinds m_ways x1 x2 x4 x6 x8)
  else
  (b1 (p_X8_kindNow m_loser m_kinds x1) fun r42 =>
  b1 (p_X8_choices m_seats m_sorts m_own x1 r42 x8) fun r47 =>
  b1 (p_X8_isIn  r47 x2) fun r57 =>
  if r57 = 0 then
  (p_X8_nextOn_b84 K17 m_seats m_loser m_sorts m_own m_kinds m_ways x6 0 x1 x2 x4 x8)
  else
  (gd (inB x8 256) <|
  b1 (p_X8_ones  r47) fun r74 =>
  gd (decide (¬ r74.toInt64 = 0)) <|
  p_X8_nextOn_b84 K17 m_seats m_loser m_sorts m_own m_kinds m_ways x6 ((m_ways x8.toNatClampNeg) * (x4 / r74.toInt64)) x1 x2 x4 x8)))
def p_X8_nextOn_b17 : Nat → Int32 → Int32 → (Nat → Int32) → (Nat → Int32) → (Nat → Int32) → (Nat → Int64) → Int32 → Int32 → Int64 → Int64 → Int32 → Option (Int64)
  | 0 => fun _ _ _ _ _ _ _ _ _ _ _ => none
  | n + 1 => p_X8_nextOn_b17x (p_X8_nextOn_b17 n)
def p_X8_nextOn_b0 (m_seats : Int32) (m_loser : Int32) (m_sorts : Nat → Int32) (m_own : Nat → Int32) (m_kinds : Nat → Int32) (m_ways : Nat → Int64) (x1 : Int32) (x2 : Int32) (x3 : Int32) : Option (Int64) :=
  b1 (p_X8_partsOf  (m_seats - x3)) fun r6 =>
  p_X8_nextOn_b17 4096 m_seats m_loser m_sorts m_own m_kinds m_ways x1 x2 r6 0 0
def p_X8_nextOn (m_seats : Int32) (m_loser : Int32) (m_sorts : Nat → Int32) (m_own : Nat → Int32) (m_kinds : Nat → Int32) (m_ways : Nat → Int64) (x1 : Int32) (x2 : Int32) (x3 : Int32) : Option (Int64) := p_X8_nextOn_b0 m_seats m_loser m_sorts m_own m_kinds m_ways x1 x2 x3
-- X8_likelyOf
def p_X8_likelyOf_b0 (m_seats : Int32) (m_loser : Int32) (m_onlyWho : Int32) (m_onlyWhere : Int32) (m_keptFree : Int32) (m_all : Int64) (m_sorts : Nat → Int32) (m_own : Nat → Int32) (m_kinds : Nat → Int32) (m_keptSeat : Nat → Int32) (m_ways : Nat → Int64) (m_next : Nat → Int64) (x1 : Int32) (x2 : Int32) (x3 : Int32) : Option (Int64 × Int32 × Int32 × Int32 × Int64 × (Nat → Int32) × (Nat → Int64) × (Nat → Int64)) :=
  b7 (p_X8_firstSit m_seats m_loser m_onlyWho m_onlyWhere m_keptFree m_all m_sorts m_own m_kinds m_keptSeat m_ways m_next x1) fun m_loser_2 m_onlyWho_2 m_keptFree_2 m_all_2 m_keptSeat_2 m_ways_2 m_next_2 =>
  b1 (p_X8_nextOn m_seats m_loser_2 m_sorts m_own m_kinds m_ways_2 x1 x2 x1) fun r9 =>
  b1 (p_X8_partsOf  (m_seats - x1)) fun r22 =>
  b1 (p_X8_part  r9 (m_all_2 * r22) x3) fun r27 =>
  some (r27, m_loser_2, m_onlyWho_2, m_keptFree_2, m_all_2, m_keptSeat_2, m_ways_2, m_next_2)
def p_X8_likelyOf (m_seats : Int32) (m_loser : Int32) (m_onlyWho : Int32) (m_onlyWhere : Int32) (m_keptFree : Int32) (m_all : Int64) (m_sorts : Nat → Int32) (m_own : Nat → Int32) (m_kinds : Nat → Int32) (m_keptSeat : Nat → Int32) (m_ways : Nat → Int64) (m_next : Nat → Int64) (x1 : Int32) (x2 : Int32) (x3 : Int32) : Option (Int64 × Int32 × Int32 × Int32 × Int64 × (Nat → Int32) × (Nat → Int64) × (Nat → Int64)) := p_X8_likelyOf_b0 m_seats m_loser m_onlyWho m_onlyWhere m_keptFree m_all m_sorts m_own m_kinds m_keptSeat m_ways m_next x1 x2 x3
-- X8_likely
def p_X8_likely_b38 (m_at : Int32) (m_seats : Int32) (m_rows : Int32) (m_people : Int32) (m_loser : Int32) (m_onlyWho : Int32) (m_onlyWhere : Int32) (m_keptFree : Int32) (m_all : Int64) (m_bytes : Nat → Int32) (m_typed : Nat → Int32) (m_sorts : Nat → Int32) (m_rowOf : Nat → Int32) (m_own : Nat → Int32) (m_kinds : Nat → Int32) (m_keptSeat : Nat → Int32) (m_ways : Nat → Int64) (m_next : Nat → Int64) (t0 : Int64) : Option (Int64 × Int32 × Int32 × Int32 × Int32 × Int32 × Int32 × Int32 × Int64 × (Nat → Int32) × (Nat → Int32) × (Nat → Int32) × (Nat → Int32) × (Nat → Int32) × (Nat → Int64) × (Nat → Int64)) :=
  some (t0, m_at, m_seats, m_rows, m_people, m_loser, m_onlyWho, m_keptFree, m_all, m_sorts, m_rowOf, m_own, m_kinds, m_keptSeat, m_ways, m_next)
def p_X8_likely_b33 (m_at : Int32) (m_seats : Int32) (m_rows : Int32) (m_people : Int32) (m_loser : Int32) (m_onlyWho : Int32) (m_onlyWhere : Int32) (m_keptFree : Int32) (m_all : Int64) (m_bytes : Nat → Int32) (m_typed : Nat → Int32) (m_sorts : Nat → Int32) (m_rowOf : Nat → Int32) (m_own : Nat → Int32) (m_kinds : Nat → Int32) (m_keptSeat : Nat → Int32) (m_ways : Nat → Int64) (m_next : Nat → Int64)  : Option (Int64 × Int32 × Int32 × Int32 × Int32 × Int32 × Int32 × Int32 × Int64 × (Nat → Int32) × (Nat → Int32) × (Nat → Int32) × (Nat → Int32) × (Nat → Int32) × (Nat → Int64) × (Nat → Int64)) :=
  b1 (p_X8_no  (-2)) fun r35 =>
  p_X8_likely_b38 m_at m_seats m_rows m_people m_loser m_onlyWho m_onlyWhere m_keptFree m_all m_bytes m_typed m_sorts m_rowOf m_own m_kinds m_keptSeat m_ways m_next r35
def p_X8_likely_b0 (m_at : Int32) (m_seats : Int32) (m_rows : Int32) (m_people : Int32) (m_loser : Int32) (m_onlyWho : Int32) (m_onlyWhere : Int32) (m_keptFree : Int32) (m_all : Int64) (m_bytes : Nat → Int32) (m_typed : Nat → Int32) (m_sorts : Nat → Int32) (m_rowOf : Nat → Int32) (m_own : Nat → Int32) (m_kinds : Nat → Int32) (m_keptSeat : Nat → Int32) (m_ways : Nat → Int64) (m_next : Nat → Int64) (x1 : Int32) (x2 : Int32) (x3 : Int32) : Option (Int64 × Int32 × Int32 × Int32 × Int32 × Int32 × Int32 × Int32 × Int64 × (Nat → Int32) × (Nat → Int32) × (Nat → Int32) × (Nat → Int32) × (Nat → Int32) × (Nat → Int64) × (Nat → Int64)) :=
  b9 (p_X8_isPerson m_at m_seats m_rows m_people m_bytes m_typed m_sorts m_rowOf m_own m_kinds x1) fun r2 m_at_2 m_seats_2 m_rows_2 m_people_2 m_sorts_2 m_rowOf_2 m_own_2 m_kinds_2 =>
  if r2 = 0 then
  (p_X8_likely_b33 m_at_2 m_seats_2 m_rows_2 m_people_2 m_loser m_onlyWho m_onlyWhere m_keptFree m_all m_bytes m_typed m_sorts_2 m_rowOf_2 m_own_2 m_kinds_2 m_keptSeat m_ways m_next )
  else
  (b9 (p_X8_isSeat m_at_2 m_seats_2 m_rows_2 m_people_2 m_bytes m_typed m_sorts_2 m_rowOf_2 m_own_2 m_kinds_2 x2) fun r10 m_at_10 m_seats_10 m_rows_10 m_people_10 m_sorts_10 m_rowOf_10 m_own_10 m_kinds_10 =>
  if r10 = 0 then
  (p_X8_likely_b33 m_at_10 m_seats_10 m_rows_10 m_people_10 m_loser m_onlyWho m_onlyWhere m_keptFree m_all m_bytes m_typed m_sorts_10 m_rowOf_10 m_own_10 m_kinds_10 m_keptSeat m_ways m_next )
  else
  (b1 (p_X8_isTwo  x3) fun r17 =>
  if r17 = 0 then
  (p_X8_likely_b33 m_at_10 m_seats_10 m_rows_10 m_people_10 m_loser m_onlyWho m_onlyWhere m_keptFree m_all m_bytes m_typed m_sorts_10 m_rowOf_10 m_own_10 m_kinds_10 m_keptSeat m_ways m_next )
  else
  (b8 (p_X8_likelyOf m_seats_10 m_loser m_onlyWho m_onlyWhere m_keptFree m_all m_sorts_10 m_own_10 m_kinds_10 m_keptSeat m_ways m_next x1 x2 x3) fun r27 m_loser_27 m_onlyWho_27 m_keptFree_27 m_all_27 m_keptSeat_27 m_ways_27 m_next_27 =>
  p_X8_likely_b38 m_at_10 m_seats_10 m_rows_10 m_people_10 m_loser_27 m_onlyWho_27 m_onlyWhere m_keptFree_27 m_all_27 m_bytes m_typed m_sorts_10 m_rowOf_10 m_own_10 m_kinds_10 m_keptSeat_27 m_ways_27 m_next_27 r27)))
def p_X8_likely (m_at : Int32) (m_seats : Int32) (m_rows : Int32) (m_people : Int32) (m_loser : Int32) (m_onlyWho : Int32) (m_onlyWhere : Int32) (m_keptFree : Int32) (m_all : Int64) (m_bytes : Nat → Int32) (m_typed : Nat → Int32) (m_sorts : Nat → Int32) (m_rowOf : Nat → Int32) (m_own : Nat → Int32) (m_kinds : Nat → Int32) (m_keptSeat : Nat → Int32) (m_ways : Nat → Int64) (m_next : Nat → Int64) (x1 : Int32) (x2 : Int32) (x3 : Int32) : Option (Int64 × Int32 × Int32 × Int32 × Int32 × Int32 × Int32 × Int32 × Int64 × (Nat → Int32) × (Nat → Int32) × (Nat → Int32) × (Nat → Int32) × (Nat → Int32) × (Nat → Int64) × (Nat → Int64)) := p_X8_likely_b0 m_at m_seats m_rows m_people m_loser m_onlyWho m_onlyWhere m_keptFree m_all m_bytes m_typed m_sorts m_rowOf m_own m_kinds m_keptSeat m_ways m_next x1 x2 x3
-- X8_takenOf
def p_X8_takenOf_b0 (m_seats : Int32) (m_loser : Int32) (m_onlyWho : Int32) (m_onlyWhere : Int32) (m_keptFree : Int32) (m_all : Int64) (m_sorts : Nat → Int32) (m_own : Nat → Int32) (m_kinds : Nat → Int32) (m_keptSeat : Nat → Int32) (m_ways : Nat → Int64) (m_next : Nat → Int64) (x1 : Int32) (x2 : Int32) (x3 : Int32) : Option (Int64 × Int32 × Int32 × Int32 × Int64 × (Nat → Int32) × (Nat → Int64) × (Nat → Int64)) :=
  b7 (p_X8_firstSit m_seats m_loser m_onlyWho m_onlyWhere m_keptFree m_all m_sorts m_own m_kinds m_keptSeat m_ways m_next x1) fun m_loser_2 m_onlyWho_2 m_keptFree_2 m_all_2 m_keptSeat_2 m_ways_2 m_next_2 =>
  gd (inB x2 256) <|
  b1 (p_X8_part  (m_ways_2 x2.toNatClampNeg) m_all_2 x3) fun r16 =>
  some (r16, m_loser_2, m_onlyWho_2, m_keptFree_2, m_all_2, m_keptSeat_2, m_ways_2, m_next_2)
def p_X8_takenOf (m_seats : Int32) (m_loser : Int32) (m_onlyWho : Int32) (m_onlyWhere : Int32) (m_keptFree : Int32) (m_all : Int64) (m_sorts : Nat → Int32) (m_own : Nat → Int32) (m_kinds : Nat → Int32) (m_keptSeat : Nat → Int32) (m_ways : Nat → Int64) (m_next : Nat → Int64) (x1 : Int32) (x2 : Int32) (x3 : Int32) : Option (Int64 × Int32 × Int32 × Int32 × Int64 × (Nat → Int32) × (Nat → Int64) × (Nat → Int64)) := p_X8_takenOf_b0 m_seats m_loser m_onlyWho m_onlyWhere m_keptFree m_all m_sorts m_own m_kinds m_keptSeat m_ways m_next x1 x2 x3
-- X8_taken
def p_X8_taken_b54 (m_at : Int32) (m_seats : Int32) (m_rows : Int32) (m_people : Int32) (m_loser : Int32) (m_onlyWho : Int32) (m_onlyWhere : Int32) (m_keptFree : Int32) (m_all : Int64) (m_bytes : Nat → Int32) (m_typed : Nat → Int32) (m_sorts : Nat → Int32) (m_rowOf : Nat → Int32) (m_own : Nat → Int32) (m_kinds : Nat → Int32) (m_keptSeat : Nat → Int32) (m_ways : Nat → Int64) (m_next : Nat → Int64) (t0 : Int64) : Option (Int64 × Int32 × Int32 × Int32 × Int32 × Int32 × Int32 × Int32 × Int64 × (Nat → Int32) × (Nat → Int32) × (Nat → Int32) × (Nat → Int32) × (Nat → Int32) × (Nat → Int64) × (Nat → Int64)) :=
  some (t0, m_at, m_seats, m_rows, m_people, m_loser, m_onlyWho, m_keptFree, m_all, m_sorts, m_rowOf, m_own, m_kinds, m_keptSeat, m_ways, m_next)
def p_X8_taken_b49 (m_at : Int32) (m_seats : Int32) (m_rows : Int32) (m_people : Int32) (m_loser : Int32) (m_onlyWho : Int32) (m_onlyWhere : Int32) (m_keptFree : Int32) (m_all : Int64) (m_bytes : Nat → Int32) (m_typed : Nat → Int32) (m_sorts : Nat → Int32) (m_rowOf : Nat → Int32) (m_own : Nat → Int32) (m_kinds : Nat → Int32) (m_keptSeat : Nat → Int32) (m_ways : Nat → Int64) (m_next : Nat → Int64)  : Option (Int64 × Int32 × Int32 × Int32 × Int32 × Int32 × Int32 × Int32 × Int64 × (Nat → Int32) × (Nat → Int32) × (Nat → Int32) × (Nat → Int32) × (Nat → Int32) × (Nat → Int64) × (Nat → Int64)) :=
  b1 (p_X8_no  (-2)) fun r51 =>
  p_X8_taken_b54 m_at m_seats m_rows m_people m_loser m_onlyWho m_onlyWhere m_keptFree m_all m_bytes m_typed m_sorts m_rowOf m_own m_kinds m_keptSeat m_ways m_next r51
def p_X8_taken_b0 (m_at : Int32) (m_seats : Int32) (m_rows : Int32) (m_people : Int32) (m_loser : Int32) (m_onlyWho : Int32) (m_onlyWhere : Int32) (m_keptFree : Int32) (m_all : Int64) (m_bytes : Nat → Int32) (m_typed : Nat → Int32) (m_sorts : Nat → Int32) (m_rowOf : Nat → Int32) (m_own : Nat → Int32) (m_kinds : Nat → Int32) (m_keptSeat : Nat → Int32) (m_ways : Nat → Int64) (m_next : Nat → Int64) (x1 : Int32) (x2 : Int32) (x3 : Int32) : Option (Int64 × Int32 × Int32 × Int32 × Int32 × Int32 × Int32 × Int32 × Int64 × (Nat → Int32) × (Nat → Int32) × (Nat → Int32) × (Nat → Int32) × (Nat → Int32) × (Nat → Int64) × (Nat → Int64)) :=
  b8 (p_X8_find m_at m_seats m_rows m_people m_bytes m_typed m_sorts m_rowOf m_own m_kinds) fun m_at_1 m_seats_1 m_rows_1 m_people_1 m_sorts_1 m_rowOf_1 m_own_1 m_kinds_1 =>
  b1 (p_X8_in  x1.toInt64 0 m_people_1.toInt64) fun r12 =>
  if r12 = 0 then
  (p_X8_taken_b49 m_at_1 m_seats_1 m_rows_1 m_people_1 m_loser m_onlyWho m_onlyWhere m_keptFree m_all m_bytes m_typed m_sorts_1 m_rowOf_1 m_own_1 m_kinds_1 m_keptSeat m_ways m_next )
  else
  (b1 (p_X8_whole m_seats_1) fun r22 =>
  b1 (p_X8_in  x2.toInt64 0 r22.toInt64) fun r26 =>
  if r26 = 0 then
  (p_X8_taken_b49 m_at_1 m_seats_1 m_rows_1 m_people_1 m_loser m_onlyWho m_onlyWhere m_keptFree m_all m_bytes m_typed m_sorts_1 m_rowOf_1 m_own_1 m_kinds_1 m_keptSeat m_ways m_next )
  else
  (b1 (p_X8_isTwo  x3) fun r33 =>
  if r33 = 0 then
  (p_X8_taken_b49 m_at_1 m_seats_1 m_rows_1 m_people_1 m_loser m_onlyWho m_onlyWhere m_keptFree m_all m_bytes m_typed m_sorts_1 m_rowOf_1 m_own_1 m_kinds_1 m_keptSeat m_ways m_next )
  else
  (b8 (p_X8_takenOf m_seats_1 m_loser m_onlyWho m_onlyWhere m_keptFree m_all m_sorts_1 m_own_1 m_kinds_1 m_keptSeat m_ways m_next x1 x2 x3) fun r43 m_loser_43 m_onlyWho_43 m_keptFree_43 m_all_43 m_keptSeat_43 m_ways_43 m_next_43 =>
  p_X8_taken_b54 m_at_1 m_seats_1 m_rows_1 m_people_1 m_loser_43 m_onlyWho_43 m_onlyWhere m_keptFree_43 m_all_43 m_bytes m_typed m_sorts_1 m_rowOf_1 m_own_1 m_kinds_1 m_keptSeat_43 m_ways_43 m_next_43 r43)))
def p_X8_taken (m_at : Int32) (m_seats : Int32) (m_rows : Int32) (m_people : Int32) (m_loser : Int32) (m_onlyWho : Int32) (m_onlyWhere : Int32) (m_keptFree : Int32) (m_all : Int64) (m_bytes : Nat → Int32) (m_typed : Nat → Int32) (m_sorts : Nat → Int32) (m_rowOf : Nat → Int32) (m_own : Nat → Int32) (m_kinds : Nat → Int32) (m_keptSeat : Nat → Int32) (m_ways : Nat → Int64) (m_next : Nat → Int64) (x1 : Int32) (x2 : Int32) (x3 : Int32) : Option (Int64 × Int32 × Int32 × Int32 × Int32 × Int32 × Int32 × Int32 × Int64 × (Nat → Int32) × (Nat → Int32) × (Nat → Int32) × (Nat → Int32) × (Nat → Int32) × (Nat → Int64) × (Nat → Int64)) := p_X8_taken_b0 m_at m_seats m_rows m_people m_loser m_onlyWho m_onlyWhere m_keptFree m_all m_bytes m_typed m_sorts m_rowOf m_own m_kinds m_keptSeat m_ways m_next x1 x2 x3
-- X8_rightByOrder
def p_X8_rightByOrder_b13x (K13 : Int32 → Int32 → Int32 → Int32 → Int32 → Int64 → (Nat → Int32) → (Nat → Int32) → (Nat → Int32) → (Nat → Int32) → (Nat → Int32) → (Nat → Int64) → (Nat → Int64) → Int32 → Int64 → Int32 → Option (Int64 × Int32 × Int32 × Int32 × Int64 × (Nat → Int32) × (Nat → Int64) × (Nat → Int64))) (m_seats : Int32) (m_loser : Int32) (m_onlyWho : Int32) (m_onlyWhere : Int32) (m_keptFree : Int32) (m_all : Int64) (m_sorts : Nat → Int32) (m_own : Nat → Int32) (m_kinds : Nat → Int32) (m_keptSeat : Nat → Int32) (m_order : Nat → Int32) (m_ways : Nat → Int64) (m_next : Nat → Int64) (x1 : Int32) (x2 : Int64) (x4 : Int32) : Option (Int64 × Int32 × Int32 × Int32 × Int64 × (Nat → Int32) × (Nat → Int64) × (Nat → Int64)) :=
  if x1 ≤ x4 then
  (some (x2, m_loser, m_onlyWho, m_keptFree, m_all, m_keptSeat, m_ways, m_next))
  else
  (gd (inB x4 8) <|
  nm ((m_order x4.toNatClampNeg) : Int32) fun x26 =>
  b1 (p_X8_partsOf  (m_seats - x4)) fun r35 =>
  gd (inB x26 8) <|
  b1 (p_X8_nextOn m_seats m_loser m_sorts m_own m_kinds m_ways x26 (m_own x26.toNatClampNeg) x4) fun r56 =>
  nm (((x2 * r35) + r56) : Int64) fun x60 =>
  b3 (p_X8_sits m_seats m_loser m_onlyWho m_onlyWhere m_keptFree m_all m_sorts m_own m_kinds m_keptSeat m_ways m_next x26 x4) fun m_all_66 m_ways_66 m_next_66 =>
  nm (x4 + 1 : Int32) fun x69 =>
  K13 m_seats m_loser m_onlyWho m_onlyWhere m_keptFree m_all_66 m_sorts m_own m_kinds m_keptSeat m_order m_ways_66 m_next_66 x1 x60 x69)
def p_X8_rightByOrder_b13 : Nat → Int32 → Int32 → Int32 → Int32 → Int32 → Int64 → (Nat → Int32) → (Nat → Int32) → (Nat → Int32) → (Nat → Int32) → (Nat → Int32) → (Nat → Int64) → (Nat → Int64) → Int32 → Int64 → Int32 → Option (Int64 × Int32 × Int32 × Int32 × Int64 × (Nat → Int32) × (Nat → Int64) × (Nat → Int64))
  | 0 => fun _ _ _ _ _ _ _ _ _ _ _ _ _ _ _ _ => none
  | n + 1 => p_X8_rightByOrder_b13x (p_X8_rightByOrder_b13 n)
def p_X8_rightByOrder_b0 (m_seats : Int32) (m_loser : Int32) (m_onlyWho : Int32) (m_onlyWhere : Int32) (m_keptFree : Int32) (m_all : Int64) (m_sorts : Nat → Int32) (m_own : Nat → Int32) (m_kinds : Nat → Int32) (m_keptSeat : Nat → Int32) (m_order : Nat → Int32) (m_ways : Nat → Int64) (m_next : Nat → Int64) (x1 : Int32) : Option (Int64 × Int32 × Int32 × Int32 × Int64 × (Nat → Int32) × (Nat → Int64) × (Nat → Int64)) :=
  b4 (p_X8_noBounds m_loser m_onlyWho m_keptFree m_keptSeat) fun m_loser_1 m_onlyWho_1 m_keptFree_1 m_keptSeat_1 =>
  b2 (p_X8_begins m_all m_ways) fun m_all_5 m_ways_5 =>
  p_X8_rightByOrder_b13 4096 m_seats m_loser_1 m_onlyWho_1 m_onlyWhere m_keptFree_1 m_all_5 m_sorts m_own m_kinds m_keptSeat_1 m_order m_ways_5 m_next x1 0 0
def p_X8_rightByOrder (m_seats : Int32) (m_loser : Int32) (m_onlyWho : Int32) (m_onlyWhere : Int32) (m_keptFree : Int32) (m_all : Int64) (m_sorts : Nat → Int32) (m_own : Nat → Int32) (m_kinds : Nat → Int32) (m_keptSeat : Nat → Int32) (m_order : Nat → Int32) (m_ways : Nat → Int64) (m_next : Nat → Int64) (x1 : Int32) : Option (Int64 × Int32 × Int32 × Int32 × Int64 × (Nat → Int32) × (Nat → Int64) × (Nat → Int64)) := p_X8_rightByOrder_b0 m_seats m_loser m_onlyWho m_onlyWhere m_keptFree m_all m_sorts m_own m_kinds m_keptSeat m_order m_ways m_next x1
-- X8_asTheyCome
def p_X8_asTheyCome_b2x (K2 : Int32 → (Nat → Int32) → Int32 → Option ((Nat → Int32))) (m_people : Int32) (m_order : Nat → Int32) (x1 : Int32) : Option ((Nat → Int32)) :=
  if m_people ≤ x1 then
  (some (m_order))
  else
  (gd (inB x1 8) <|
  nm (upd m_order x1.toNatClampNeg x1) fun m_order_16 =>
  nm (x1 + 1 : Int32) fun x17 =>
  K2 m_people m_order_16 x17)
def p_X8_asTheyCome_b2 : Nat → Int32 → (Nat → Int32) → Int32 → Option ((Nat → Int32))
  | 0 => fun _ _ _ => none
  | n + 1 => p_X8_asTheyCome_b2x (p_X8_asTheyCome_b2 n)
def p_X8_asTheyCome_b0 (m_people : Int32) (m_order : Nat → Int32)  : Option ((Nat → Int32)) :=
  p_X8_asTheyCome_b2 4096 m_people m_order 0
def p_X8_asTheyCome (m_people : Int32) (m_order : Nat → Int32)  : Option ((Nat → Int32)) := p_X8_asTheyCome_b0 m_people m_order 
-- X8_meanOf
def p_X8_meanOf_b0 (m_seats : Int32) (m_people : Int32) (m_loser : Int32) (m_onlyWho : Int32) (m_onlyWhere : Int32) (m_keptFree : Int32) (m_all : Int64) (m_sorts : Nat → Int32) (m_own : Nat → Int32) (m_kinds : Nat → Int32) (m_keptSeat : Nat → Int32) (m_order : Nat → Int32) (m_ways : Nat → Int64) (m_next : Nat → Int64) (x1 : Int32) : Option (Int64 × Int32 × Int32 × Int32 × Int64 × (Nat → Int32) × (Nat → Int32) × (Nat → Int64) × (Nat → Int64)) :=
  b1 (p_X8_asTheyCome m_people m_order) fun m_order_1 =>
  b8 (p_X8_rightByOrder m_seats m_loser m_onlyWho m_onlyWhere m_keptFree m_all m_sorts m_own m_kinds m_keptSeat m_order_1 m_ways m_next m_people) fun r9 m_loser_9 m_onlyWho_9 m_keptFree_9 m_all_9 m_keptSeat_9 m_ways_9 m_next_9 =>
  b1 (p_X8_part  ((m_people.toInt64 * m_all_9) - r9) m_all_9 x1) fun r30 =>
  some (r30, m_loser_9, m_onlyWho_9, m_keptFree_9, m_all_9, m_keptSeat_9, m_order_1, m_ways_9, m_next_9)
def p_X8_meanOf (m_seats : Int32) (m_people : Int32) (m_loser : Int32) (m_onlyWho : Int32) (m_onlyWhere : Int32) (m_keptFree : Int32) (m_all : Int64) (m_sorts : Nat → Int32) (m_own : Nat → Int32) (m_kinds : Nat → Int32) (m_keptSeat : Nat → Int32) (m_order : Nat → Int32) (m_ways : Nat → Int64) (m_next : Nat → Int64) (x1 : Int32) : Option (Int64 × Int32 × Int32 × Int32 × Int64 × (Nat → Int32) × (Nat → Int32) × (Nat → Int64) × (Nat → Int64)) := p_X8_meanOf_b0 m_seats m_people m_loser m_onlyWho m_onlyWhere m_keptFree m_all m_sorts m_own m_kinds m_keptSeat m_order m_ways m_next x1
-- X8_justOf
def p_X8_justOf_b303 (K273 : Int32 → Int32 → Int32 → Int32 → Int32 → (Nat → Int32) → (Nat → Int32) → (Nat → Int32) → (Nat → Int32) → (Nat → Int64) → (Nat → Int64) → Int32 → Int32 → Int64 → Int64 → Int32 → Option (Int64 × Int32 × Int32 × Int32 × (Nat → Int32) × (Nat → Int64) × (Nat → Int64))) (m_seats : Int32) (m_people : Int32) (m_loser : Int32) (m_onlyWho : Int32) (m_keptFree : Int32) (m_sorts : Nat → Int32) (m_own : Nat → Int32) (m_kinds : Nat → Int32) (m_keptSeat : Nat → Int32) (m_both : Nat → Int64) (m_bothNext : Nat → Int64) (t0 : Int64) (t1 : Int64) (x1 : Int32) (x2 : Int32) (x3 : Int64) (x7 : Int32) : Option (Int64 × Int32 × Int32 × Int32 × (Nat → Int32) × (Nat → Int64) × (Nat → Int64)) :=
  nm ((t0 + t1) : Int64) fun x304 =>
  nm (x7 + 1 : Int32) fun x306 =>
  K273 m_seats m_people m_loser m_onlyWho m_keptFree m_sorts m_own m_kinds m_keptSeat m_both m_bothNext x1 x2 x3 x304 x306
def p_X8_justOf_b273x (K273 : Int32 → Int32 → Int32 → Int32 → Int32 → (Nat → Int32) → (Nat → Int32) → (Nat → Int32) → (Nat → Int32) → (Nat → Int64) → (Nat → Int64) → Int32 → Int32 → Int64 → Int64 → Int32 → Option (Int64 × Int32 × Int32 × Int32 × (Nat → Int32) × (Nat → Int64) × (Nat → Int64))) (m_seats : Int32) (m_people : Int32) (m_loser : Int32) (m_onlyWho : Int32) (m_keptFree : Int32) (m_sorts : Nat → Int32) (m_own : Nat → Int32) (m_kinds : Nat → Int32) (m_keptSeat : Nat → Int32) (m_both : Nat → Int64) (m_bothNext : Nat → Int64) (x1 : Int32) (x2 : Int32) (x3 : Int64) (x5 : Int64) (x7 : Int32) : Option (Int64 × Int32 × Int32 × Int32 × (Nat → Int32) × (Nat → Int64) × (Nat → Int64)) :=
  if 2304 ≤ x7 then
  (b1 (p_X8_part  x5 x3 x2) fun r316 =>
  some (r316, m_loser, m_onlyWho, m_keptFree, m_keptSeat, m_both, m_bothNext))
  else
  (gd (decide (¬ 9 = 0)) <|
  if (x7 - (x7 / 9) * 9) = x1 then
  (gd (inB x7 2304) <|
  p_X8_justOf_b303 K273 m_seats m_people m_loser m_onlyWho m_keptFree m_sorts m_own m_kinds m_keptSeat m_both m_bothNext x5 (m_both x7.toNatClampNeg) x1 x2 x3 x7)
  else
  (p_X8_justOf_b303 K273 m_seats m_people m_loser m_onlyWho m_keptFree m_sorts m_own m_kinds m_keptSeat m_both m_bothNext x5 0 x1 x2 x3 x7))
def p_X8_justOf_b273 : Nat → Int32 → Int32 → Int32 → Int32 → Int32 → (Nat → Int32) → (Nat → Int32) → (Nat → Int32) → (Nat → Int32) → (Nat → Int64) → (Nat → Int64) → Int32 → Int32 → Int64 → Int64 → Int32 → Option (Int64 × Int32 × Int32 × Int32 × (Nat → Int32) × (Nat → Int64) × (Nat → Int64))
  | 0 => fun _ _ _ _ _ _ _ _ _ _ _ _ _ _ _ _ => none
  | n + 1 => p_X8_justOf_b273x (p_X8_justOf_b273 n)
def p_X8_justOf_b233x (K39 : Int32 → Int32 → Int32 → Int32 → Int32 → (Nat → Int32) → (Nat → Int32) → (Nat → Int32) → (Nat → Int32) → (Nat → Int64) → (Nat → Int64) → Int32 → Int32 → Int64 → Int32 → Option (Int64 × Int32 × Int32 × Int32 × (Nat → Int32) × (Nat → Int64) × (Nat → Int64))) (K233 : Int32 → Int32 → Int32 → Int32 → Int32 → (Nat → Int32) → (Nat → Int32) → (Nat → Int32) → (Nat → Int32) → (Nat → Int64) → (Nat → Int64) → Int32 → Int32 → Int64 → Int32 → Int32 → Option (Int64 × Int32 × Int32 × Int32 × (Nat → Int32) × (Nat → Int64) × (Nat → Int64))) (m_seats : Int32) (m_people : Int32) (m_loser : Int32) (m_onlyWho : Int32) (m_keptFree : Int32) (m_sorts : Nat → Int32) (m_own : Nat → Int32) (m_kinds : Nat → Int32) (m_keptSeat : Nat → Int32) (m_both : Nat → Int64) (m_bothNext : Nat → Int64) (x1 : Int32) (x2 : Int32) (x3 : Int64) (x5 : Int32) (x8 : Int32) : Option (Int64 × Int32 × Int32 × Int32 × (Nat → Int32) × (Nat → Int64) × (Nat → Int64)) :=
  if 2304 ≤ x8 then
  (nm (x5 + 1 : Int32) fun x261 =>
  K39 m_seats m_people m_loser m_onlyWho m_keptFree m_sorts m_own m_kinds m_keptSeat m_both m_bothNext x1 x2 x3 x261)
  else
  (gd (inB x8 2304) <|
  gd (inB x8 2304) <|
  nm (vp_updL m_both x8.toNatClampNeg (m_bothNext x8.toNatClampNeg)) fun m_both_254 =>
  nm (x8 + 1 : Int32) fun x255 =>
  K233 m_seats m_people m_loser m_onlyWho m_keptFree m_sorts m_own m_kinds m_keptSeat m_both_254 m_bothNext x1 x2 x3 x5 x255)
def p_X8_justOf_b233 (K39 : Int32 → Int32 → Int32 → Int32 → Int32 → (Nat → Int32) → (Nat → Int32) → (Nat → Int32) → (Nat → Int32) → (Nat → Int64) → (Nat → Int64) → Int32 → Int32 → Int64 → Int32 → Option (Int64 × Int32 × Int32 × Int32 × (Nat → Int32) × (Nat → Int64) × (Nat → Int64))) : Nat → Int32 → Int32 → Int32 → Int32 → Int32 → (Nat → Int32) → (Nat → Int32) → (Nat → Int32) → (Nat → Int32) → (Nat → Int64) → (Nat → Int64) → Int32 → Int32 → Int64 → Int32 → Int32 → Option (Int64 × Int32 × Int32 × Int32 × (Nat → Int32) × (Nat → Int64) × (Nat → Int64))
  | 0 => fun _ _ _ _ _ _ _ _ _ _ _ _ _ _ _ _ => none
  | n + 1 => p_X8_justOf_b233x K39 (p_X8_justOf_b233 K39 n)
def p_X8_justOf_b224 (K39 : Int32 → Int32 → Int32 → Int32 → Int32 → (Nat → Int32) → (Nat → Int32) → (Nat → Int32) → (Nat → Int32) → (Nat → Int64) → (Nat → Int64) → Int32 → Int32 → Int64 → Int32 → Option (Int64 × Int32 × Int32 × Int32 × (Nat → Int32) × (Nat → Int64) × (Nat → Int64))) (K93 : Int32 → Int32 → Int32 → Int32 → Int32 → (Nat → Int32) → (Nat → Int32) → (Nat → Int32) → (Nat → Int32) → (Nat → Int64) → (Nat → Int64) → Int32 → Int32 → Int64 → Int32 → Int64 → Int32 → Option (Int64 × Int32 × Int32 × Int32 × (Nat → Int32) × (Nat → Int64) × (Nat → Int64))) (m_seats : Int32) (m_people : Int32) (m_loser : Int32) (m_onlyWho : Int32) (m_keptFree : Int32) (m_sorts : Nat → Int32) (m_own : Nat → Int32) (m_kinds : Nat → Int32) (m_keptSeat : Nat → Int32) (m_both : Nat → Int64) (m_bothNext : Nat → Int64) (x1 : Int32) (x2 : Int32) (x3 : Int64) (x5 : Int32) (x6 : Int64) (x8 : Int32) : Option (Int64 × Int32 × Int32 × Int32 × (Nat → Int32) × (Nat → Int64) × (Nat → Int64)) :=
  nm (x8 + 1 : Int32) fun x224 =>
  K93 m_seats m_people m_loser m_onlyWho m_keptFree m_sorts m_own m_kinds m_keptSeat m_both m_bothNext x1 x2 x3 x5 x6 x224
def p_X8_justOf_b218 (K39 : Int32 → Int32 → Int32 → Int32 → Int32 → (Nat → Int32) → (Nat → Int32) → (Nat → Int32) → (Nat → Int32) → (Nat → Int64) → (Nat → Int64) → Int32 → Int32 → Int64 → Int32 → Option (Int64 × Int32 × Int32 × Int32 × (Nat → Int32) × (Nat → Int64) × (Nat → Int64))) (K93 : Int32 → Int32 → Int32 → Int32 → Int32 → (Nat → Int32) → (Nat → Int32) → (Nat → Int32) → (Nat → Int32) → (Nat → Int64) → (Nat → Int64) → Int32 → Int32 → Int64 → Int32 → Int64 → Int32 → Option (Int64 × Int32 × Int32 × Int32 × (Nat → Int32) × (Nat → Int64) × (Nat → Int64))) (K140 : Int32 → Int32 → Int32 → Int32 → Int32 → (Nat → Int32) → (Nat → Int32) → (Nat → Int32) → (Nat → Int32) → (Nat → Int64) → (Nat → Int64) → Int32 → Int32 → Int64 → Int32 → Int64 → Int32 → Int32 → Int32 → Int32 → Option (Int64 × Int32 × Int32 × Int32 × (Nat → Int32) × (Nat → Int64) × (Nat → Int64))) (m_seats : Int32) (m_people : Int32) (m_loser : Int32) (m_onlyWho : Int32) (m_keptFree : Int32) (m_sorts : Nat → Int32) (m_own : Nat → Int32) (m_kinds : Nat → Int32) (m_keptSeat : Nat → Int32) (m_both : Nat → Int64) (m_bothNext : Nat → Int64) (x1 : Int32) (x2 : Int32) (x3 : Int64) (x5 : Int32) (x6 : Int64) (x8 : Int32) (x9 : Int32) (x10 : Int32) (x11 : Int32) : Option (Int64 × Int32 × Int32 × Int32 × (Nat → Int32) × (Nat → Int64) × (Nat → Int64)) :=
  nm (x11 + 1 : Int32) fun x218 =>
  K140 m_seats m_people m_loser m_onlyWho m_keptFree m_sorts m_own m_kinds m_keptSeat m_both m_bothNext x1 x2 x3 x5 x6 x8 x9 x10 x218
def p_X8_justOf_b196 (K39 : Int32 → Int32 → Int32 → Int32 → Int32 → (Nat → Int32) → (Nat → Int32) → (Nat → Int32) → (Nat → Int32) → (Nat → Int64) → (Nat → Int64) → Int32 → Int32 → Int64 → Int32 → Option (Int64 × Int32 × Int32 × Int32 × (Nat → Int32) × (Nat → Int64) × (Nat → Int64))) (K93 : Int32 → Int32 → Int32 → Int32 → Int32 → (Nat → Int32) → (Nat → Int32) → (Nat → Int32) → (Nat → Int32) → (Nat → Int64) → (Nat → Int64) → Int32 → Int32 → Int64 → Int32 → Int64 → Int32 → Option (Int64 × Int32 × Int32 × Int32 × (Nat → Int32) × (Nat → Int64) × (Nat → Int64))) (K140 : Int32 → Int32 → Int32 → Int32 → Int32 → (Nat → Int32) → (Nat → Int32) → (Nat → Int32) → (Nat → Int32) → (Nat → Int64) → (Nat → Int64) → Int32 → Int32 → Int64 → Int32 → Int64 → Int32 → Int32 → Int32 → Int32 → Option (Int64 × Int32 × Int32 × Int32 × (Nat → Int32) × (Nat → Int64) × (Nat → Int64))) (m_seats : Int32) (m_people : Int32) (m_loser : Int32) (m_onlyWho : Int32) (m_keptFree : Int32) (m_sorts : Nat → Int32) (m_own : Nat → Int32) (m_kinds : Nat → Int32) (m_keptSeat : Nat → Int32) (m_both : Nat → Int64) (m_bothNext : Nat → Int64) (t1 : Int32) (t2 : Int32) (x1 : Int32) (x2 : Int32) (x3 : Int64) (x5 : Int32) (x6 : Int64) (x8 : Int32) (x9 : Int32) (x10 : Int32) (x11 : Int32) : Option (Int64 × Int32 × Int32 × Int32 × (Nat → Int32) × (Nat → Int64) × (Nat → Int64)) :=
  gd (inB (t1 + t2) 2304) <|
  gd (inB x8 2304) <|
  b1 (p_X8_ones  x10) fun r210 =>
  gd (decide (¬ r210.toInt64 = 0)) <|
  gd (inB (t1 + t2) 2304) <|
  nm (vp_updL m_bothNext (t1 + t2).toNatClampNeg ((m_bothNext (t1 + t2).toNatClampNeg) + ((m_both x8.toNatClampNeg) * (x6 / r210.toInt64)))) fun m_bothNext_217 =>
  p_X8_justOf_b218 K39 K93 K140 m_seats m_people m_loser m_onlyWho m_keptFree m_sorts m_own m_kinds m_keptSeat m_both m_bothNext_217 x1 x2 x3 x5 x6 x8 x9 x10 x11
def p_X8_justOf_b140x (K39 : Int32 → Int32 → Int32 → Int32 → Int32 → (Nat → Int32) → (Nat → Int32) → (Nat → Int32) → (Nat → Int32) → (Nat → Int64) → (Nat → Int64) → Int32 → Int32 → Int64 → Int32 → Option (Int64 × Int32 × Int32 × Int32 × (Nat → Int32) × (Nat → Int64) × (Nat → Int64))) (K93 : Int32 → Int32 → Int32 → Int32 → Int32 → (Nat → Int32) → (Nat → Int32) → (Nat → Int32) → (Nat → Int32) → (Nat → Int64) → (Nat → Int64) → Int32 → Int32 → Int64 → Int32 → Int64 → Int32 → Option (Int64 × Int32 × Int32 × Int32 × (Nat → Int32) × (Nat → Int64) × (Nat → Int64))) (K140 : Int32 → Int32 → Int32 → Int32 → Int32 → (Nat → Int32) → (Nat → Int32) → (Nat → Int32) → (Nat → Int32) → (Nat → Int64) → (Nat → Int64) → Int32 → Int32 → Int64 → Int32 → Int64 → Int32 → Int32 → Int32 → Int32 → Option (Int64 × Int32 × Int32 × Int32 × (Nat → Int32) × (Nat → Int64) × (Nat → Int64))) (m_seats : Int32) (m_people : Int32) (m_loser : Int32) (m_onlyWho : Int32) (m_keptFree : Int32) (m_sorts : Nat → Int32) (m_own : Nat → Int32) (m_kinds : Nat → Int32) (m_keptSeat : Nat → Int32) (m_both : Nat → Int64) (m_bothNext : Nat → Int64) (x1 : Int32) (x2 : Int32) (x3 : Int64) (x5 : Int32) (x6 : Int64) (x8 : Int32) (x9 : Int32) (x10 : Int32) (x11 : Int32) : Option (Int64 × Int32 × Int32 × Int32 × (Nat → Int32) × (Nat → Int64) × (Nat → Int64)) :=
  if m_seats ≤ x11 then
  (p_X8_justOf_b224 K39 K93 m_seats m_people m_loser m_onlyWho m_keptFree m_sorts m_own m_kinds m_keptSeat m_both m_bothNext x1 x2 x3 x5 x6 x8)
  else
  (b1 (p_X8_isIn  x10 x11) fun r153 =>
  if r153 = 0 then
  (p_X8_justOf_b218 K39 K93 K140 m_seats m_people m_loser m_onlyWho m_keptFree m_sorts m_own m_kinds m_keptSeat m_both m_bothNext x1 x2 x3 x5 x6 x8 x9 x10 x11)
  else
  (gd (decide (¬ 9 = 0)) <|
  gd (inB x5 8) <|
  if x11 = (m_own x5.toNatClampNeg) then
  (p_X8_justOf_b196 K39 K93 K140 m_seats m_people m_loser m_onlyWho m_keptFree m_sorts m_own m_kinds m_keptSeat m_both m_bothNext ((9 * (x9 ||| ((1 : Int32) <<< (x11 &&& 31)))) + (x8 - (x8 / 9) * 9)) 0 x1 x2 x3 x5 x6 x8 x9 x10 x11)
  else
  (p_X8_justOf_b196 K39 K93 K140 m_seats m_people m_loser m_onlyWho m_keptFree m_sorts m_own m_kinds m_keptSeat m_both m_bothNext ((9 * (x9 ||| ((1 : Int32) <<< (x11 &&& 31)))) + (x8 - (x8 / 9) * 9)) 1 x1 x2 x3 x5 x6 x8 x9 x10 x11)))
def p_X8_justOf_b140 (K39 : Int32 → Int32 → Int32 → Int32 → Int32 → (Nat → Int32) → (Nat → Int32) → (Nat → Int32) → (Nat → Int32) → (Nat → Int64) → (Nat → Int64) → Int32 → Int32 → Int64 → Int32 → Option (Int64 × Int32 × Int32 × Int32 × (Nat → Int32) × (Nat → Int64) × (Nat → Int64))) (K93 : Int32 → Int32 → Int32 → Int32 → Int32 → (Nat → Int32) → (Nat → Int32) → (Nat → Int32) → (Nat → Int32) → (Nat → Int64) → (Nat → Int64) → Int32 → Int32 → Int64 → Int32 → Int64 → Int32 → Option (Int64 × Int32 × Int32 × Int32 × (Nat → Int32) × (Nat → Int64) × (Nat → Int64))) : Nat → Int32 → Int32 → Int32 → Int32 → Int32 → (Nat → Int32) → (Nat → Int32) → (Nat → Int32) → (Nat → Int32) → (Nat → Int64) → (Nat → Int64) → Int32 → Int32 → Int64 → Int32 → Int64 → Int32 → Int32 → Int32 → Int32 → Option (Int64 × Int32 × Int32 × Int32 × (Nat → Int32) × (Nat → Int64) × (Nat → Int64))
  | 0 => fun _ _ _ _ _ _ _ _ _ _ _ _ _ _ _ _ _ _ _ _ => none
  | n + 1 => p_X8_justOf_b140x K39 K93 (p_X8_justOf_b140 K39 K93 n)
def p_X8_justOf_b93x (K39 : Int32 → Int32 → Int32 → Int32 → Int32 → (Nat → Int32) → (Nat → Int32) → (Nat → Int32) → (Nat → Int32) → (Nat → Int64) → (Nat → Int64) → Int32 → Int32 → Int64 → Int32 → Option (Int64 × Int32 × Int32 × Int32 × (Nat → Int32) × (Nat → Int64) × (Nat → Int64))) (K93 : Int32 → Int32 → Int32 → Int32 → Int32 → (Nat → Int32) → (Nat → Int32) → (Nat → Int32) → (Nat → Int32) → (Nat → Int64) → (Nat → Int64) → Int32 → Int32 → Int64 → Int32 → Int64 → Int32 → Option (Int64 × Int32 × Int32 × Int32 × (Nat → Int32) × (Nat → Int64) × (Nat → Int64))) (m_seats : Int32) (m_people : Int32) (m_loser : Int32) (m_onlyWho : Int32) (m_keptFree : Int32) (m_sorts : Nat → Int32) (m_own : Nat → Int32) (m_kinds : Nat → Int32) (m_keptSeat : Nat → Int32) (m_both : Nat → Int64) (m_bothNext : Nat → Int64) (x1 : Int32) (x2 : Int32) (x3 : Int64) (x5 : Int32) (x6 : Int64) (x8 : Int32) : Option (Int64 × Int32 × Int32 × Int32 × (Nat → Int32) × (Nat → Int64) × (Nat → Int64)) :=
  if 2304 ≤ x8 then
  (p_X8_justOf_b233 K39 4096 m_seats m_people m_loser m_onlyWho m_keptFree m_sorts m_own m_kinds m_keptSeat m_both m_bothNext x1 x2 x3 x5 0)
  else
  (gd (inB x8 2304) <|
  if (lg_cmp (m_both x8.toNatClampNeg) 0) ≤ 0 then
  (p_X8_justOf_b224 K39 K93 m_seats m_people m_loser m_onlyWho m_keptFree m_sorts m_own m_kinds m_keptSeat m_both m_bothNext x1 x2 x3 x5 x6 x8)
  else
  (gd (decide (¬ 9 = 0)) <|
  nm ((x8 / 9) : Int32) fun x118 =>
  gd (inB x5 8) <|
  b1 (p_X8_choices m_seats m_sorts m_own x5 (m_kinds x5.toNatClampNeg) x118) fun r132 =>
  p_X8_justOf_b140 K39 K93 4096 m_seats m_people m_loser m_onlyWho m_keptFree m_sorts m_own m_kinds m_keptSeat m_both m_bothNext x1 x2 x3 x5 x6 x8 x118 r132 0))
def p_X8_justOf_b93 (K39 : Int32 → Int32 → Int32 → Int32 → Int32 → (Nat → Int32) → (Nat → Int32) → (Nat → Int32) → (Nat → Int32) → (Nat → Int64) → (Nat → Int64) → Int32 → Int32 → Int64 → Int32 → Option (Int64 × Int32 × Int32 × Int32 × (Nat → Int32) × (Nat → Int64) × (Nat → Int64))) : Nat → Int32 → Int32 → Int32 → Int32 → Int32 → (Nat → Int32) → (Nat → Int32) → (Nat → Int32) → (Nat → Int32) → (Nat → Int64) → (Nat → Int64) → Int32 → Int32 → Int64 → Int32 → Int64 → Int32 → Option (Int64 × Int32 × Int32 × Int32 × (Nat → Int32) × (Nat → Int64) × (Nat → Int64))
  | 0 => fun _ _ _ _ _ _ _ _ _ _ _ _ _ _ _ _ _ => none
  | n + 1 => p_X8_justOf_b93x K39 (p_X8_justOf_b93 K39 n)
def p_X8_justOf_b68x (K39 : Int32 → Int32 → Int32 → Int32 → Int32 → (Nat → Int32) → (Nat → Int32) → (Nat → Int32) → (Nat → Int32) → (Nat → Int64) → (Nat → Int64) → Int32 → Int32 → Int64 → Int32 → Option (Int64 × Int32 × Int32 × Int32 × (Nat → Int32) × (Nat → Int64) × (Nat → Int64))) (K68 : Int32 → Int32 → Int32 → Int32 → Int32 → (Nat → Int32) → (Nat → Int32) → (Nat → Int32) → (Nat → Int32) → (Nat → Int64) → (Nat → Int64) → Int32 → Int32 → Int64 → Int32 → Int64 → Int32 → Option (Int64 × Int32 × Int32 × Int32 × (Nat → Int32) × (Nat → Int64) × (Nat → Int64))) (m_seats : Int32) (m_people : Int32) (m_loser : Int32) (m_onlyWho : Int32) (m_keptFree : Int32) (m_sorts : Nat → Int32) (m_own : Nat → Int32) (m_kinds : Nat → Int32) (m_keptSeat : Nat → Int32) (m_both : Nat → Int64) (m_bothNext : Nat → Int64) (x1 : Int32) (x2 : Int32) (x3 : Int64) (x5 : Int32) (x6 : Int64) (x8 : Int32) : Option (Int64 × Int32 × Int32 × Int32 × (Nat → Int32) × (Nat → Int64) × (Nat → Int64)) :=
  if 2304 ≤ x8 then
  (p_X8_justOf_b93 K39 4096 m_seats m_people m_loser m_onlyWho m_keptFree m_sorts m_own m_kinds m_keptSeat m_both m_bothNext x1 x2 x3 x5 x6 0)
  else
  (gd (inB x8 2304) <|
  nm (vp_updL m_bothNext x8.toNatClampNeg 0) fun m_bothNext_83 =>
  nm (x8 + 1 : Int32) fun x84 =>
  K68 m_seats m_people m_loser m_onlyWho m_keptFree m_sorts m_own m_kinds m_keptSeat m_both m_bothNext_83 x1 x2 x3 x5 x6 x84)
def p_X8_justOf_b68 (K39 : Int32 → Int32 → Int32 → Int32 → Int32 → (Nat → Int32) → (Nat → Int32) → (Nat → Int32) → (Nat → Int32) → (Nat → Int64) → (Nat → Int64) → Int32 → Int32 → Int64 → Int32 → Option (Int64 × Int32 × Int32 × Int32 × (Nat → Int32) × (Nat → Int64) × (Nat → Int64))) : Nat → Int32 → Int32 → Int32 → Int32 → Int32 → (Nat → Int32) → (Nat → Int32) → (Nat → Int32) → (Nat → Int32) → (Nat → Int64) → (Nat → Int64) → Int32 → Int32 → Int64 → Int32 → Int64 → Int32 → Option (Int64 × Int32 × Int32 × Int32 × (Nat → Int32) × (Nat → Int64) × (Nat → Int64))
  | 0 => fun _ _ _ _ _ _ _ _ _ _ _ _ _ _ _ _ _ => none
  | n + 1 => p_X8_justOf_b68x K39 (p_X8_justOf_b68 K39 n)
def p_X8_justOf_b39x (K39 : Int32 → Int32 → Int32 → Int32 → Int32 → (Nat → Int32) → (Nat → Int32) → (Nat → Int32) → (Nat → Int32) → (Nat → Int64) → (Nat → Int64) → Int32 → Int32 → Int64 → Int32 → Option (Int64 × Int32 × Int32 × Int32 × (Nat → Int32) × (Nat → Int64) × (Nat → Int64))) (m_seats : Int32) (m_people : Int32) (m_loser : Int32) (m_onlyWho : Int32) (m_keptFree : Int32) (m_sorts : Nat → Int32) (m_own : Nat → Int32) (m_kinds : Nat → Int32) (m_keptSeat : Nat → Int32) (m_both : Nat → Int64) (m_bothNext : Nat → Int64) (x1 : Int32) (x2 : Int32) (x3 : Int64) (x5 : Int32) : Option (Int64 × Int32 × Int32 × Int32 × (Nat → Int32) × (Nat → Int64) × (Nat → Int64)) :=
  if m_people ≤ x5 then
  (p_X8_justOf_b273 4096 m_seats m_people m_loser m_onlyWho m_keptFree m_sorts m_own m_kinds m_keptSeat m_both m_bothNext x1 x2 x3 0 0)
  else
  (b1 (p_X8_partsOf  (m_seats - x5)) fun r55 =>
  nm ((x3 * r55) : Int64) fun x64 =>
  p_X8_justOf_b68 K39 4096 m_seats m_people m_loser m_onlyWho m_keptFree m_sorts m_own m_kinds m_keptSeat m_both m_bothNext x1 x2 x64 x5 r55 0)
def p_X8_justOf_b39 : Nat → Int32 → Int32 → Int32 → Int32 → Int32 → (Nat → Int32) → (Nat → Int32) → (Nat → Int32) → (Nat → Int32) → (Nat → Int64) → (Nat → Int64) → Int32 → Int32 → Int64 → Int32 → Option (Int64 × Int32 × Int32 × Int32 × (Nat → Int32) × (Nat → Int64) × (Nat → Int64))
  | 0 => fun _ _ _ _ _ _ _ _ _ _ _ _ _ _ _ => none
  | n + 1 => p_X8_justOf_b39x (p_X8_justOf_b39 n)
def p_X8_justOf_b27 (K6 : Int32 → Int32 → Int32 → Int32 → Int32 → (Nat → Int32) → (Nat → Int32) → (Nat → Int32) → (Nat → Int32) → (Nat → Int64) → (Nat → Int64) → Int32 → Int32 → Int32 → Option (Int64 × Int32 × Int32 × Int32 × (Nat → Int32) × (Nat → Int64) × (Nat → Int64))) (m_seats : Int32) (m_people : Int32) (m_loser : Int32) (m_onlyWho : Int32) (m_keptFree : Int32) (m_sorts : Nat → Int32) (m_own : Nat → Int32) (m_kinds : Nat → Int32) (m_keptSeat : Nat → Int32) (m_both : Nat → Int64) (m_bothNext : Nat → Int64) (t1 : Int32) (t2 : Int64) (x1 : Int32) (x2 : Int32) (x3 : Int32) : Option (Int64 × Int32 × Int32 × Int32 × (Nat → Int32) × (Nat → Int64) × (Nat → Int64)) :=
  gd (inB t1 2304) <|
  nm (vp_updL m_both t1.toNatClampNeg t2) fun m_both_27 =>
  nm (x3 + 1 : Int32) fun x28 =>
  K6 m_seats m_people m_loser m_onlyWho m_keptFree m_sorts m_own m_kinds m_keptSeat m_both_27 m_bothNext x1 x2 x28
def p_X8_justOf_b6x (K6 : Int32 → Int32 → Int32 → Int32 → Int32 → (Nat → Int32) → (Nat → Int32) → (Nat → Int32) → (Nat → Int32) → (Nat → Int64) → (Nat → Int64) → Int32 → Int32 → Int32 → Option (Int64 × Int32 × Int32 × Int32 × (Nat → Int32) × (Nat → Int64) × (Nat → Int64))) (m_seats : Int32) (m_people : Int32) (m_loser : Int32) (m_onlyWho : Int32) (m_keptFree : Int32) (m_sorts : Nat → Int32) (m_own : Nat → Int32) (m_kinds : Nat → Int32) (m_keptSeat : Nat → Int32) (m_both : Nat → Int64) (m_bothNext : Nat → Int64) (x1 : Int32) (x2 : Int32) (x3 : Int32) : Option (Int64 × Int32 × Int32 × Int32 × (Nat → Int32) × (Nat → Int64) × (Nat → Int64)) :=
  if 2304 ≤ x3 then
  (p_X8_justOf_b39 4096 m_seats m_people m_loser m_onlyWho m_keptFree m_sorts m_own m_kinds m_keptSeat m_both m_bothNext x1 x2 1 0)
  else
  (if x3 = 0 then
  (p_X8_justOf_b27 K6 m_seats m_people m_loser m_onlyWho m_keptFree m_sorts m_own m_kinds m_keptSeat m_both m_bothNext x3 1 x1 x2 x3)
  else
  (p_X8_justOf_b27 K6 m_seats m_people m_loser m_onlyWho m_keptFree m_sorts m_own m_kinds m_keptSeat m_both m_bothNext x3 0 x1 x2 x3))
def p_X8_justOf_b6 : Nat → Int32 → Int32 → Int32 → Int32 → Int32 → (Nat → Int32) → (Nat → Int32) → (Nat → Int32) → (Nat → Int32) → (Nat → Int64) → (Nat → Int64) → Int32 → Int32 → Int32 → Option (Int64 × Int32 × Int32 × Int32 × (Nat → Int32) × (Nat → Int64) × (Nat → Int64))
  | 0 => fun _ _ _ _ _ _ _ _ _ _ _ _ _ _ => none
  | n + 1 => p_X8_justOf_b6x (p_X8_justOf_b6 n)
def p_X8_justOf_b0 (m_seats : Int32) (m_people : Int32) (m_loser : Int32) (m_onlyWho : Int32) (m_keptFree : Int32) (m_sorts : Nat → Int32) (m_own : Nat → Int32) (m_kinds : Nat → Int32) (m_keptSeat : Nat → Int32) (m_both : Nat → Int64) (m_bothNext : Nat → Int64) (x1 : Int32) (x2 : Int32) : Option (Int64 × Int32 × Int32 × Int32 × (Nat → Int32) × (Nat → Int64) × (Nat → Int64)) :=
  b4 (p_X8_noBounds m_loser m_onlyWho m_keptFree m_keptSeat) fun m_loser_1 m_onlyWho_1 m_keptFree_1 m_keptSeat_1 =>
  p_X8_justOf_b6 4096 m_seats m_people m_loser_1 m_onlyWho_1 m_keptFree_1 m_sorts m_own m_kinds m_keptSeat_1 m_both m_bothNext x1 x2 0
def p_X8_justOf (m_seats : Int32) (m_people : Int32) (m_loser : Int32) (m_onlyWho : Int32) (m_keptFree : Int32) (m_sorts : Nat → Int32) (m_own : Nat → Int32) (m_kinds : Nat → Int32) (m_keptSeat : Nat → Int32) (m_both : Nat → Int64) (m_bothNext : Nat → Int64) (x1 : Int32) (x2 : Int32) : Option (Int64 × Int32 × Int32 × Int32 × (Nat → Int32) × (Nat → Int64) × (Nat → Int64)) := p_X8_justOf_b0 m_seats m_people m_loser m_onlyWho m_keptFree m_sorts m_own m_kinds m_keptSeat m_both m_bothNext x1 x2
-- X8_wrong
def p_X8_wrong_b27 (m_at : Int32) (m_seats : Int32) (m_rows : Int32) (m_people : Int32) (m_loser : Int32) (m_onlyWho : Int32) (m_onlyWhere : Int32) (m_keptFree : Int32) (m_all : Int64) (m_bytes : Nat → Int32) (m_typed : Nat → Int32) (m_sorts : Nat → Int32) (m_rowOf : Nat → Int32) (m_own : Nat → Int32) (m_kinds : Nat → Int32) (m_keptSeat : Nat → Int32) (m_order : Nat → Int32) (m_ways : Nat → Int64) (m_next : Nat → Int64) (m_both : Nat → Int64) (m_bothNext : Nat → Int64)  : Option (Int64 × Int32 × Int32 × Int32 × Int32 × Int32 × Int32 × Int32 × Int64 × (Nat → Int32) × (Nat → Int32) × (Nat → Int32) × (Nat → Int32) × (Nat → Int32) × (Nat → Int32) × (Nat → Int64) × (Nat → Int64) × (Nat → Int64) × (Nat → Int64)) :=
  b1 (p_X8_no  (-2)) fun r29 =>
  some (r29, m_at, m_seats, m_rows, m_people, m_loser, m_onlyWho, m_keptFree, m_all, m_sorts, m_rowOf, m_own, m_kinds, m_keptSeat, m_order, m_ways, m_next, m_both, m_bothNext)
def p_X8_wrong_b52 (m_at : Int32) (m_seats : Int32) (m_rows : Int32) (m_people : Int32) (m_loser : Int32) (m_onlyWho : Int32) (m_onlyWhere : Int32) (m_keptFree : Int32) (m_all : Int64) (m_bytes : Nat → Int32) (m_typed : Nat → Int32) (m_sorts : Nat → Int32) (m_rowOf : Nat → Int32) (m_own : Nat → Int32) (m_kinds : Nat → Int32) (m_keptSeat : Nat → Int32) (m_order : Nat → Int32) (m_ways : Nat → Int64) (m_next : Nat → Int64) (m_both : Nat → Int64) (m_bothNext : Nat → Int64) (t0 : Int64) : Option (Int64 × Int32 × Int32 × Int32 × Int32 × Int32 × Int32 × Int32 × Int64 × (Nat → Int32) × (Nat → Int32) × (Nat → Int32) × (Nat → Int32) × (Nat → Int32) × (Nat → Int32) × (Nat → Int64) × (Nat → Int64) × (Nat → Int64) × (Nat → Int64)) :=
  some (t0, m_at, m_seats, m_rows, m_people, m_loser, m_onlyWho, m_keptFree, m_all, m_sorts, m_rowOf, m_own, m_kinds, m_keptSeat, m_order, m_ways, m_next, m_both, m_bothNext)
def p_X8_wrong_b0 (m_at : Int32) (m_seats : Int32) (m_rows : Int32) (m_people : Int32) (m_loser : Int32) (m_onlyWho : Int32) (m_onlyWhere : Int32) (m_keptFree : Int32) (m_all : Int64) (m_bytes : Nat → Int32) (m_typed : Nat → Int32) (m_sorts : Nat → Int32) (m_rowOf : Nat → Int32) (m_own : Nat → Int32) (m_kinds : Nat → Int32) (m_keptSeat : Nat → Int32) (m_order : Nat → Int32) (m_ways : Nat → Int64) (m_next : Nat → Int64) (m_both : Nat → Int64) (m_bothNext : Nat → Int64) (x1 : Int32) (x2 : Int32) : Option (Int64 × Int32 × Int32 × Int32 × Int32 × Int32 × Int32 × Int32 × Int64 × (Nat → Int32) × (Nat → Int32) × (Nat → Int32) × (Nat → Int32) × (Nat → Int32) × (Nat → Int32) × (Nat → Int64) × (Nat → Int64) × (Nat → Int64) × (Nat → Int64)) :=
  b8 (p_X8_find m_at m_seats m_rows m_people m_bytes m_typed m_sorts m_rowOf m_own m_kinds) fun m_at_1 m_seats_1 m_rows_1 m_people_1 m_sorts_1 m_rowOf_1 m_own_1 m_kinds_1 =>
  b1 (p_X8_in  x1.toInt64 (-1) m_people_1.toInt64) fun r14 =>
  if r14 = 0 then
  (p_X8_wrong_b27 m_at_1 m_seats_1 m_rows_1 m_people_1 m_loser m_onlyWho m_onlyWhere m_keptFree m_all m_bytes m_typed m_sorts_1 m_rowOf_1 m_own_1 m_kinds_1 m_keptSeat m_order m_ways m_next m_both m_bothNext )
  else
  (b1 (p_X8_isTwo  x2) fun r21 =>
  if r21 = 0 then
  (p_X8_wrong_b27 m_at_1 m_seats_1 m_rows_1 m_people_1 m_loser m_onlyWho m_onlyWhere m_keptFree m_all m_bytes m_typed m_sorts_1 m_rowOf_1 m_own_1 m_kinds_1 m_keptSeat m_order m_ways m_next m_both m_bothNext )
  else
  (if x1 = (-1) then
  (b9 (p_X8_meanOf m_seats_1 m_people_1 m_loser m_onlyWho m_onlyWhere m_keptFree m_all m_sorts_1 m_own_1 m_kinds_1 m_keptSeat m_order m_ways m_next x2) fun r40 m_loser_40 m_onlyWho_40 m_keptFree_40 m_all_40 m_keptSeat_40 m_order_40 m_ways_40 m_next_40 =>
  p_X8_wrong_b52 m_at_1 m_seats_1 m_rows_1 m_people_1 m_loser_40 m_onlyWho_40 m_onlyWhere m_keptFree_40 m_all_40 m_bytes m_typed m_sorts_1 m_rowOf_1 m_own_1 m_kinds_1 m_keptSeat_40 m_order_40 m_ways_40 m_next_40 m_both m_bothNext r40)
  else
  (b7 (p_X8_justOf m_seats_1 m_people_1 m_loser m_onlyWho m_keptFree m_sorts_1 m_own_1 m_kinds_1 m_keptSeat m_both m_bothNext x1 x2) fun r49 m_loser_49 m_onlyWho_49 m_keptFree_49 m_keptSeat_49 m_both_49 m_bothNext_49 =>
  p_X8_wrong_b52 m_at_1 m_seats_1 m_rows_1 m_people_1 m_loser_49 m_onlyWho_49 m_onlyWhere m_keptFree_49 m_all m_bytes m_typed m_sorts_1 m_rowOf_1 m_own_1 m_kinds_1 m_keptSeat_49 m_order m_ways m_next m_both_49 m_bothNext_49 r49)))
def p_X8_wrong (m_at : Int32) (m_seats : Int32) (m_rows : Int32) (m_people : Int32) (m_loser : Int32) (m_onlyWho : Int32) (m_onlyWhere : Int32) (m_keptFree : Int32) (m_all : Int64) (m_bytes : Nat → Int32) (m_typed : Nat → Int32) (m_sorts : Nat → Int32) (m_rowOf : Nat → Int32) (m_own : Nat → Int32) (m_kinds : Nat → Int32) (m_keptSeat : Nat → Int32) (m_order : Nat → Int32) (m_ways : Nat → Int64) (m_next : Nat → Int64) (m_both : Nat → Int64) (m_bothNext : Nat → Int64) (x1 : Int32) (x2 : Int32) : Option (Int64 × Int32 × Int32 × Int32 × Int32 × Int32 × Int32 × Int32 × Int64 × (Nat → Int32) × (Nat → Int32) × (Nat → Int32) × (Nat → Int32) × (Nat → Int32) × (Nat → Int32) × (Nat → Int64) × (Nat → Int64) × (Nat → Int64) × (Nat → Int64)) := p_X8_wrong_b0 m_at m_seats m_rows m_people m_loser m_onlyWho m_onlyWhere m_keptFree m_all m_bytes m_typed m_sorts m_rowOf m_own m_kinds m_keptSeat m_order m_ways m_next m_both m_bothNext x1 x2
-- X8_leftOf
def p_X8_leftOf_b43 (K13 : Int32 → Int32 → Int32 → Int32 → Int32 → Int32 → Int64 → (Nat → Int32) → (Nat → Int32) → (Nat → Int32) → (Nat → Int32) → (Nat → Int64) → (Nat → Int64) → Int32 → Int32 → Int64 → Int32 → Option (Int64 × Int32 × Int32 × Int32 × Int64 × (Nat → Int32) × (Nat → Int64) × (Nat → Int64))) (m_seats : Int32) (m_people : Int32) (m_loser : Int32) (m_onlyWho : Int32) (m_onlyWhere : Int32) (m_keptFree : Int32) (m_all : Int64) (m_sorts : Nat → Int32) (m_own : Nat → Int32) (m_kinds : Nat → Int32) (m_keptSeat : Nat → Int32) (m_ways : Nat → Int64) (m_next : Nat → Int64) (t0 : Int64) (t1 : Int64) (x1 : Int32) (x2 : Int32) (x5 : Int32) : Option (Int64 × Int32 × Int32 × Int32 × Int64 × (Nat → Int32) × (Nat → Int64) × (Nat → Int64)) :=
  nm ((t0 + t1) : Int64) fun x44 =>
  nm (x5 + 1 : Int32) fun x45 =>
  K13 m_seats m_people m_loser m_onlyWho m_onlyWhere m_keptFree m_all m_sorts m_own m_kinds m_keptSeat m_ways m_next x1 x2 x44 x45
def p_X8_leftOf_b13x (K13 : Int32 → Int32 → Int32 → Int32 → Int32 → Int32 → Int64 → (Nat → Int32) → (Nat → Int32) → (Nat → Int32) → (Nat → Int32) → (Nat → Int64) → (Nat → Int64) → Int32 → Int32 → Int64 → Int32 → Option (Int64 × Int32 × Int32 × Int32 × Int64 × (Nat → Int32) × (Nat → Int64) × (Nat → Int64))) (m_seats : Int32) (m_people : Int32) (m_loser : Int32) (m_onlyWho : Int32) (m_onlyWhere : Int32) (m_keptFree : Int32) (m_all : Int64) (m_sorts : Nat → Int32) (m_own : Nat → Int32) (m_kinds : Nat → Int32) (m_keptSeat : Nat → Int32) (m_ways : Nat → Int64) (m_next : Nat → Int64) (x1 : Int32) (x2 : Int32) (x3 : Int64) (x5 : Int32) : Option (Int64 × Int32 × Int32 × Int32 × Int64 × (Nat → Int32) × (Nat → Int64) × (Nat → Int64)) :=
  b1 (p_X8_whole m_seats) fun r16 =>
  if r16 < x5 then
  (b1 (p_X8_part  x3 m_all x2) fun r57 =>
  some (r57, m_loser, m_onlyWho, m_keptFree, m_all, m_keptSeat, m_ways, m_next))
  else
  (b1 (p_X8_isIn  x5 x1) fun r26 =>
  if r26 = 0 then
  (gd (inB x5 256) <|
  p_X8_leftOf_b43 K13 m_seats m_people m_loser m_onlyWho m_onlyWhere m_keptFree m_all m_sorts m_own m_kinds m_keptSeat m_ways m_next x3 (m_ways x5.toNatClampNeg) x1 x2 x5)
  else
  (p_X8_leftOf_b43 K13 m_seats m_people m_loser m_onlyWho m_onlyWhere m_keptFree m_all m_sorts m_own m_kinds m_keptSeat m_ways m_next x3 0 x1 x2 x5))
def p_X8_leftOf_b13 : Nat → Int32 → Int32 → Int32 → Int32 → Int32 → Int32 → Int64 → (Nat → Int32) → (Nat → Int32) → (Nat → Int32) → (Nat → Int32) → (Nat → Int64) → (Nat → Int64) → Int32 → Int32 → Int64 → Int32 → Option (Int64 × Int32 × Int32 × Int32 × Int64 × (Nat → Int32) × (Nat → Int64) × (Nat → Int64))
  | 0 => fun _ _ _ _ _ _ _ _ _ _ _ _ _ _ _ _ _ => none
  | n + 1 => p_X8_leftOf_b13x (p_X8_leftOf_b13 n)
def p_X8_leftOf_b0 (m_seats : Int32) (m_people : Int32) (m_loser : Int32) (m_onlyWho : Int32) (m_onlyWhere : Int32) (m_keptFree : Int32) (m_all : Int64) (m_sorts : Nat → Int32) (m_own : Nat → Int32) (m_kinds : Nat → Int32) (m_keptSeat : Nat → Int32) (m_ways : Nat → Int64) (m_next : Nat → Int64) (x1 : Int32) (x2 : Int32) : Option (Int64 × Int32 × Int32 × Int32 × Int64 × (Nat → Int32) × (Nat → Int64) × (Nat → Int64)) :=
  b7 (p_X8_firstSit m_seats m_loser m_onlyWho m_onlyWhere m_keptFree m_all m_sorts m_own m_kinds m_keptSeat m_ways m_next m_people) fun m_loser_5 m_onlyWho_5 m_keptFree_5 m_all_5 m_keptSeat_5 m_ways_5 m_next_5 =>
  p_X8_leftOf_b13 4096 m_seats m_people m_loser_5 m_onlyWho_5 m_onlyWhere m_keptFree_5 m_all_5 m_sorts m_own m_kinds m_keptSeat_5 m_ways_5 m_next_5 x1 x2 0 0
def p_X8_leftOf (m_seats : Int32) (m_people : Int32) (m_loser : Int32) (m_onlyWho : Int32) (m_onlyWhere : Int32) (m_keptFree : Int32) (m_all : Int64) (m_sorts : Nat → Int32) (m_own : Nat → Int32) (m_kinds : Nat → Int32) (m_keptSeat : Nat → Int32) (m_ways : Nat → Int64) (m_next : Nat → Int64) (x1 : Int32) (x2 : Int32) : Option (Int64 × Int32 × Int32 × Int32 × Int64 × (Nat → Int32) × (Nat → Int64) × (Nat → Int64)) := p_X8_leftOf_b0 m_seats m_people m_loser m_onlyWho m_onlyWhere m_keptFree m_all m_sorts m_own m_kinds m_keptSeat m_ways m_next x1 x2
-- X8_left
def p_X8_left_b29 (m_at : Int32) (m_seats : Int32) (m_rows : Int32) (m_people : Int32) (m_loser : Int32) (m_onlyWho : Int32) (m_onlyWhere : Int32) (m_keptFree : Int32) (m_all : Int64) (m_bytes : Nat → Int32) (m_typed : Nat → Int32) (m_sorts : Nat → Int32) (m_rowOf : Nat → Int32) (m_own : Nat → Int32) (m_kinds : Nat → Int32) (m_keptSeat : Nat → Int32) (m_ways : Nat → Int64) (m_next : Nat → Int64) (t0 : Int64) : Option (Int64 × Int32 × Int32 × Int32 × Int32 × Int32 × Int32 × Int32 × Int64 × (Nat → Int32) × (Nat → Int32) × (Nat → Int32) × (Nat → Int32) × (Nat → Int32) × (Nat → Int64) × (Nat → Int64)) :=
  some (t0, m_at, m_seats, m_rows, m_people, m_loser, m_onlyWho, m_keptFree, m_all, m_sorts, m_rowOf, m_own, m_kinds, m_keptSeat, m_ways, m_next)
def p_X8_left_b24 (m_at : Int32) (m_seats : Int32) (m_rows : Int32) (m_people : Int32) (m_loser : Int32) (m_onlyWho : Int32) (m_onlyWhere : Int32) (m_keptFree : Int32) (m_all : Int64) (m_bytes : Nat → Int32) (m_typed : Nat → Int32) (m_sorts : Nat → Int32) (m_rowOf : Nat → Int32) (m_own : Nat → Int32) (m_kinds : Nat → Int32) (m_keptSeat : Nat → Int32) (m_ways : Nat → Int64) (m_next : Nat → Int64)  : Option (Int64 × Int32 × Int32 × Int32 × Int32 × Int32 × Int32 × Int32 × Int64 × (Nat → Int32) × (Nat → Int32) × (Nat → Int32) × (Nat → Int32) × (Nat → Int32) × (Nat → Int64) × (Nat → Int64)) :=
  b1 (p_X8_no  (-2)) fun r26 =>
  p_X8_left_b29 m_at m_seats m_rows m_people m_loser m_onlyWho m_onlyWhere m_keptFree m_all m_bytes m_typed m_sorts m_rowOf m_own m_kinds m_keptSeat m_ways m_next r26
def p_X8_left_b0 (m_at : Int32) (m_seats : Int32) (m_rows : Int32) (m_people : Int32) (m_loser : Int32) (m_onlyWho : Int32) (m_onlyWhere : Int32) (m_keptFree : Int32) (m_all : Int64) (m_bytes : Nat → Int32) (m_typed : Nat → Int32) (m_sorts : Nat → Int32) (m_rowOf : Nat → Int32) (m_own : Nat → Int32) (m_kinds : Nat → Int32) (m_keptSeat : Nat → Int32) (m_ways : Nat → Int64) (m_next : Nat → Int64) (x1 : Int32) (x2 : Int32) : Option (Int64 × Int32 × Int32 × Int32 × Int32 × Int32 × Int32 × Int32 × Int64 × (Nat → Int32) × (Nat → Int32) × (Nat → Int32) × (Nat → Int32) × (Nat → Int32) × (Nat → Int64) × (Nat → Int64)) :=
  b9 (p_X8_isSeat m_at m_seats m_rows m_people m_bytes m_typed m_sorts m_rowOf m_own m_kinds x1) fun r2 m_at_2 m_seats_2 m_rows_2 m_people_2 m_sorts_2 m_rowOf_2 m_own_2 m_kinds_2 =>
  if r2 = 0 then
  (p_X8_left_b24 m_at_2 m_seats_2 m_rows_2 m_people_2 m_loser m_onlyWho m_onlyWhere m_keptFree m_all m_bytes m_typed m_sorts_2 m_rowOf_2 m_own_2 m_kinds_2 m_keptSeat m_ways m_next )
  else
  (b1 (p_X8_isTwo  x2) fun r9 =>
  if r9 = 0 then
  (p_X8_left_b24 m_at_2 m_seats_2 m_rows_2 m_people_2 m_loser m_onlyWho m_onlyWhere m_keptFree m_all m_bytes m_typed m_sorts_2 m_rowOf_2 m_own_2 m_kinds_2 m_keptSeat m_ways m_next )
  else
  (b8 (p_X8_leftOf m_seats_2 m_people_2 m_loser m_onlyWho m_onlyWhere m_keptFree m_all m_sorts_2 m_own_2 m_kinds_2 m_keptSeat m_ways m_next x1 x2) fun r18 m_loser_18 m_onlyWho_18 m_keptFree_18 m_all_18 m_keptSeat_18 m_ways_18 m_next_18 =>
  p_X8_left_b29 m_at_2 m_seats_2 m_rows_2 m_people_2 m_loser_18 m_onlyWho_18 m_onlyWhere m_keptFree_18 m_all_18 m_bytes m_typed m_sorts_2 m_rowOf_2 m_own_2 m_kinds_2 m_keptSeat_18 m_ways_18 m_next_18 r18))
def p_X8_left (m_at : Int32) (m_seats : Int32) (m_rows : Int32) (m_people : Int32) (m_loser : Int32) (m_onlyWho : Int32) (m_onlyWhere : Int32) (m_keptFree : Int32) (m_all : Int64) (m_bytes : Nat → Int32) (m_typed : Nat → Int32) (m_sorts : Nat → Int32) (m_rowOf : Nat → Int32) (m_own : Nat → Int32) (m_kinds : Nat → Int32) (m_keptSeat : Nat → Int32) (m_ways : Nat → Int64) (m_next : Nat → Int64) (x1 : Int32) (x2 : Int32) : Option (Int64 × Int32 × Int32 × Int32 × Int32 × Int32 × Int32 × Int32 × Int64 × (Nat → Int32) × (Nat → Int32) × (Nat → Int32) × (Nat → Int32) × (Nat → Int32) × (Nat → Int64) × (Nat → Int64)) := p_X8_left_b0 m_at m_seats m_rows m_people m_loser m_onlyWho m_onlyWhere m_keptFree m_all m_bytes m_typed m_sorts m_rowOf m_own m_kinds m_keptSeat m_ways m_next x1 x2
-- X8_looksNow
def p_X8_looksNow_b121 (K13 : Int32 → Int32 → Int32 → Int32 → Int32 → Int32 → Int64 → (Nat → Int32) → (Nat → Int32) → (Nat → Int32) → (Nat → Int32) → (Nat → Int64) → (Nat → Int64) → Int32 → Int64 → Int32 → Option (Int64 × Int32 × Int32 × Int32 × Int64 × (Nat → Int32) × (Nat → Int64) × (Nat → Int64))) (K28 : Int32 → Int32 → Int32 → Int32 → Int32 → Int32 → Int64 → (Nat → Int32) → (Nat → Int32) → (Nat → Int32) → (Nat → Int32) → (Nat → Int64) → (Nat → Int64) → Int32 → Int64 → Int32 → Int64 → Int32 → Option (Int64 × Int32 × Int32 × Int32 × Int64 × (Nat → Int32) × (Nat → Int64) × (Nat → Int64))) (m_seats : Int32) (m_people : Int32) (m_loser : Int32) (m_onlyWho : Int32) (m_onlyWhere : Int32) (m_keptFree : Int32) (m_all : Int64) (m_sorts : Nat → Int32) (m_own : Nat → Int32) (m_kinds : Nat → Int32) (m_keptSeat : Nat → Int32) (m_ways : Nat → Int64) (m_next : Nat → Int64) (x1 : Int32) (x2 : Int64) (x4 : Int32) (x5 : Int64) (x7 : Int32) : Option (Int64 × Int32 × Int32 × Int32 × Int64 × (Nat → Int32) × (Nat → Int64) × (Nat → Int64)) :=
  nm (x7 + 1 : Int32) fun x121 =>
  K28 m_seats m_people m_loser m_onlyWho m_onlyWhere m_keptFree m_all m_sorts m_own m_kinds m_keptSeat m_ways m_next x1 x2 x4 x5 x121
def p_X8_looksNow_b116 (K13 : Int32 → Int32 → Int32 → Int32 → Int32 → Int32 → Int64 → (Nat → Int32) → (Nat → Int32) → (Nat → Int32) → (Nat → Int32) → (Nat → Int64) → (Nat → Int64) → Int32 → Int64 → Int32 → Option (Int64 × Int32 × Int32 × Int32 × Int64 × (Nat → Int32) × (Nat → Int64) × (Nat → Int64))) (K28 : Int32 → Int32 → Int32 → Int32 → Int32 → Int32 → Int64 → (Nat → Int32) → (Nat → Int32) → (Nat → Int32) → (Nat → Int32) → (Nat → Int64) → (Nat → Int64) → Int32 → Int64 → Int32 → Int64 → Int32 → Option (Int64 × Int32 × Int32 × Int32 × Int64 × (Nat → Int32) × (Nat → Int64) × (Nat → Int64))) (m_seats : Int32) (m_people : Int32) (m_loser : Int32) (m_onlyWho : Int32) (m_onlyWhere : Int32) (m_keptFree : Int32) (m_all : Int64) (m_sorts : Nat → Int32) (m_own : Nat → Int32) (m_kinds : Nat → Int32) (m_keptSeat : Nat → Int32) (m_ways : Nat → Int64) (m_next : Nat → Int64) (t0 : Int64) (t1 : Int64) (t2 : Int32) (x1 : Int32) (x2 : Int64) (x4 : Int32) (x7 : Int32) : Option (Int64 × Int32 × Int32 × Int32 × Int64 × (Nat → Int32) × (Nat → Int64) × (Nat → Int64)) :=
  nm ((t0 + (t1 * t2.toInt64)) : Int64) fun x119 =>
  p_X8_looksNow_b121 K13 K28 m_seats m_people m_loser m_onlyWho m_onlyWhere m_keptFree m_all m_sorts m_own m_kinds m_keptSeat m_ways m_next x1 x2 x4 x119 x7
def p_X8_looksNow_b28x (K13 : Int32 → Int32 → Int32 → Int32 → Int32 → Int32 → Int64 → (Nat → Int32) → (Nat → Int32) → (Nat → Int32) → (Nat → Int32) → (Nat → Int64) → (Nat → Int64) → Int32 → Int64 → Int32 → Option (Int64 × Int32 × Int32 × Int32 × Int64 × (Nat → Int32) × (Nat → Int64) × (Nat → Int64))) (K28 : Int32 → Int32 → Int32 → Int32 → Int32 → Int32 → Int64 → (Nat → Int32) → (Nat → Int32) → (Nat → Int32) → (Nat → Int32) → (Nat → Int64) → (Nat → Int64) → Int32 → Int64 → Int32 → Int64 → Int32 → Option (Int64 × Int32 × Int32 × Int32 × Int64 × (Nat → Int32) × (Nat → Int64) × (Nat → Int64))) (m_seats : Int32) (m_people : Int32) (m_loser : Int32) (m_onlyWho : Int32) (m_onlyWhere : Int32) (m_keptFree : Int32) (m_all : Int64) (m_sorts : Nat → Int32) (m_own : Nat → Int32) (m_kinds : Nat → Int32) (m_keptSeat : Nat → Int32) (m_ways : Nat → Int64) (m_next : Nat → Int64) (x1 : Int32) (x2 : Int64) (x4 : Int32) (x5 : Int64) (x7 : Int32) : Option (Int64 × Int32 × Int32 × Int32 × Int64 × (Nat → Int32) × (Nat → Int64) × (Nat → Int64)) :=
  b1 (p_X8_whole m_seats) fun r31 =>
  if r31 < x7 then
  (b1 (p_X8_partsOf  (m_seats - x4)) fun r134 =>
  nm (((x2 + x5) * r134) : Int64) fun x146 =>
  b3 (p_X8_sits m_seats m_loser m_onlyWho m_onlyWhere m_keptFree m_all m_sorts m_own m_kinds m_keptSeat m_ways m_next x4 x4) fun m_all_152 m_ways_152 m_next_152 =>
  nm (x4 + 1 : Int32) fun x155 =>
  K13 m_seats m_people m_loser m_onlyWho m_onlyWhere m_keptFree m_all_152 m_sorts m_own m_kinds m_keptSeat m_ways_152 m_next_152 x1 x146 x155)
  else
  (gd (inB x7 256) <|
  if (lg_cmp (m_ways x7.toNatClampNeg) 0) ≤ 0 then
  (p_X8_looksNow_b121 K13 K28 m_seats m_people m_loser m_onlyWho m_onlyWhere m_keptFree m_all m_sorts m_own m_kinds m_keptSeat m_ways m_next x1 x2 x4 x5 x7)
  else
  (gd (inB x4 8) <|
  if (m_kinds x4.toNatClampNeg) = 2 then
  (gd (inB x4 8) <|
  b1 (p_X8_whole m_seats) fun r69 =>
  b1 (p_X8_nextFree m_seats (m_own x4.toNatClampNeg) (r69 &&& (x7 ^^^ (-1)))) fun r77 =>
  gd (inB x4 8) <|
  nm ((r77 - (m_own x4.toNatClampNeg)) : Int32) fun x88 =>
  gd (inB x7 256) <|
  if 0 ≤ x88 then
  (p_X8_looksNow_b116 K13 K28 m_seats m_people m_loser m_onlyWho m_onlyWhere m_keptFree m_all m_sorts m_own m_kinds m_keptSeat m_ways m_next x5 (m_ways x7.toNatClampNeg) x88 x1 x2 x4 x7)
  else
  (p_X8_looksNow_b116 K13 K28 m_seats m_people m_loser m_onlyWho m_onlyWhere m_keptFree m_all m_sorts m_own m_kinds m_keptSeat m_ways m_next x5 (m_ways x7.toNatClampNeg) (x88 + m_seats) x1 x2 x4 x7))
  else
  (p_X8_looksNow_b121 K13 K28 m_seats m_people m_loser m_onlyWho m_onlyWhere m_keptFree m_all m_sorts m_own m_kinds m_keptSeat m_ways m_next x1 x2 x4 x5 x7)))
def p_X8_looksNow_b28 (K13 : Int32 → Int32 → Int32 → Int32 → Int32 → Int32 → Int64 → (Nat → Int32) → (Nat → Int32) → (Nat → Int32) → (Nat → Int32) → (Nat → Int64) → (Nat → Int64) → Int32 → Int64 → Int32 → Option (Int64 × Int32 × Int32 × Int32 × Int64 × (Nat → Int32) × (Nat → Int64) × (Nat → Int64))) : Nat → Int32 → Int32 → Int32 → Int32 → Int32 → Int32 → Int64 → (Nat → Int32) → (Nat → Int32) → (Nat → Int32) → (Nat → Int32) → (Nat → Int64) → (Nat → Int64) → Int32 → Int64 → Int32 → Int64 → Int32 → Option (Int64 × Int32 × Int32 × Int32 × Int64 × (Nat → Int32) × (Nat → Int64) × (Nat → Int64))
  | 0 => fun _ _ _ _ _ _ _ _ _ _ _ _ _ _ _ _ _ _ => none
  | n + 1 => p_X8_looksNow_b28x K13 (p_X8_looksNow_b28 K13 n)
def p_X8_looksNow_b13x (K13 : Int32 → Int32 → Int32 → Int32 → Int32 → Int32 → Int64 → (Nat → Int32) → (Nat → Int32) → (Nat → Int32) → (Nat → Int32) → (Nat → Int64) → (Nat → Int64) → Int32 → Int64 → Int32 → Option (Int64 × Int32 × Int32 × Int32 × Int64 × (Nat → Int32) × (Nat → Int64) × (Nat → Int64))) (m_seats : Int32) (m_people : Int32) (m_loser : Int32) (m_onlyWho : Int32) (m_onlyWhere : Int32) (m_keptFree : Int32) (m_all : Int64) (m_sorts : Nat → Int32) (m_own : Nat → Int32) (m_kinds : Nat → Int32) (m_keptSeat : Nat → Int32) (m_ways : Nat → Int64) (m_next : Nat → Int64) (x1 : Int32) (x2 : Int64) (x4 : Int32) : Option (Int64 × Int32 × Int32 × Int32 × Int64 × (Nat → Int32) × (Nat → Int64) × (Nat → Int64)) :=
  if m_people ≤ x4 then
  (b1 (p_X8_part  x2 m_all x1) fun r167 =>
  some (r167, m_loser, m_onlyWho, m_keptFree, m_all, m_keptSeat, m_ways, m_next))
  else
  (p_X8_looksNow_b28 K13 4096 m_seats m_people m_loser m_onlyWho m_onlyWhere m_keptFree m_all m_sorts m_own m_kinds m_keptSeat m_ways m_next x1 x2 x4 0 0)
def p_X8_looksNow_b13 : Nat → Int32 → Int32 → Int32 → Int32 → Int32 → Int32 → Int64 → (Nat → Int32) → (Nat → Int32) → (Nat → Int32) → (Nat → Int32) → (Nat → Int64) → (Nat → Int64) → Int32 → Int64 → Int32 → Option (Int64 × Int32 × Int32 × Int32 × Int64 × (Nat → Int32) × (Nat → Int64) × (Nat → Int64))
  | 0 => fun _ _ _ _ _ _ _ _ _ _ _ _ _ _ _ _ => none
  | n + 1 => p_X8_looksNow_b13x (p_X8_looksNow_b13 n)
def p_X8_looksNow_b0 (m_seats : Int32) (m_people : Int32) (m_loser : Int32) (m_onlyWho : Int32) (m_onlyWhere : Int32) (m_keptFree : Int32) (m_all : Int64) (m_sorts : Nat → Int32) (m_own : Nat → Int32) (m_kinds : Nat → Int32) (m_keptSeat : Nat → Int32) (m_ways : Nat → Int64) (m_next : Nat → Int64) (x1 : Int32) : Option (Int64 × Int32 × Int32 × Int32 × Int64 × (Nat → Int32) × (Nat → Int64) × (Nat → Int64)) :=
  b4 (p_X8_noBounds m_loser m_onlyWho m_keptFree m_keptSeat) fun m_loser_1 m_onlyWho_1 m_keptFree_1 m_keptSeat_1 =>
  b2 (p_X8_begins m_all m_ways) fun m_all_5 m_ways_5 =>
  p_X8_looksNow_b13 4096 m_seats m_people m_loser_1 m_onlyWho_1 m_onlyWhere m_keptFree_1 m_all_5 m_sorts m_own m_kinds m_keptSeat_1 m_ways_5 m_next x1 0 0
def p_X8_looksNow (m_seats : Int32) (m_people : Int32) (m_loser : Int32) (m_onlyWho : Int32) (m_onlyWhere : Int32) (m_keptFree : Int32) (m_all : Int64) (m_sorts : Nat → Int32) (m_own : Nat → Int32) (m_kinds : Nat → Int32) (m_keptSeat : Nat → Int32) (m_ways : Nat → Int64) (m_next : Nat → Int64) (x1 : Int32) : Option (Int64 × Int32 × Int32 × Int32 × Int64 × (Nat → Int32) × (Nat → Int64) × (Nat → Int64)) := p_X8_looksNow_b0 m_seats m_people m_loser m_onlyWho m_onlyWhere m_keptFree m_all m_sorts m_own m_kinds m_keptSeat m_ways m_next x1
-- X8_looks
def p_X8_looks_b24 (m_at : Int32) (m_seats : Int32) (m_rows : Int32) (m_people : Int32) (m_loser : Int32) (m_onlyWho : Int32) (m_onlyWhere : Int32) (m_keptFree : Int32) (m_all : Int64) (m_bytes : Nat → Int32) (m_typed : Nat → Int32) (m_sorts : Nat → Int32) (m_rowOf : Nat → Int32) (m_own : Nat → Int32) (m_kinds : Nat → Int32) (m_keptSeat : Nat → Int32) (m_ways : Nat → Int64) (m_next : Nat → Int64) (t0 : Int64) : Option (Int64 × Int32 × Int32 × Int32 × Int32 × Int32 × Int32 × Int32 × Int64 × (Nat → Int32) × (Nat → Int32) × (Nat → Int32) × (Nat → Int32) × (Nat → Int32) × (Nat → Int64) × (Nat → Int64)) :=
  some (t0, m_at, m_seats, m_rows, m_people, m_loser, m_onlyWho, m_keptFree, m_all, m_sorts, m_rowOf, m_own, m_kinds, m_keptSeat, m_ways, m_next)
def p_X8_looks_b0 (m_at : Int32) (m_seats : Int32) (m_rows : Int32) (m_people : Int32) (m_loser : Int32) (m_onlyWho : Int32) (m_onlyWhere : Int32) (m_keptFree : Int32) (m_all : Int64) (m_bytes : Nat → Int32) (m_typed : Nat → Int32) (m_sorts : Nat → Int32) (m_rowOf : Nat → Int32) (m_own : Nat → Int32) (m_kinds : Nat → Int32) (m_keptSeat : Nat → Int32) (m_ways : Nat → Int64) (m_next : Nat → Int64) (x1 : Int32) : Option (Int64 × Int32 × Int32 × Int32 × Int32 × Int32 × Int32 × Int32 × Int64 × (Nat → Int32) × (Nat → Int32) × (Nat → Int32) × (Nat → Int32) × (Nat → Int32) × (Nat → Int64) × (Nat → Int64)) :=
  b8 (p_X8_find m_at m_seats m_rows m_people m_bytes m_typed m_sorts m_rowOf m_own m_kinds) fun m_at_1 m_seats_1 m_rows_1 m_people_1 m_sorts_1 m_rowOf_1 m_own_1 m_kinds_1 =>
  b1 (p_X8_isTwo  x1) fun r5 =>
  if r5 = 0 then
  (b1 (p_X8_no  (-2)) fun r21 =>
  p_X8_looks_b24 m_at_1 m_seats_1 m_rows_1 m_people_1 m_loser m_onlyWho m_onlyWhere m_keptFree m_all m_bytes m_typed m_sorts_1 m_rowOf_1 m_own_1 m_kinds_1 m_keptSeat m_ways m_next r21)
  else
  (b8 (p_X8_looksNow m_seats_1 m_people_1 m_loser m_onlyWho m_onlyWhere m_keptFree m_all m_sorts_1 m_own_1 m_kinds_1 m_keptSeat m_ways m_next x1) fun r13 m_loser_13 m_onlyWho_13 m_keptFree_13 m_all_13 m_keptSeat_13 m_ways_13 m_next_13 =>
  p_X8_looks_b24 m_at_1 m_seats_1 m_rows_1 m_people_1 m_loser_13 m_onlyWho_13 m_onlyWhere m_keptFree_13 m_all_13 m_bytes m_typed m_sorts_1 m_rowOf_1 m_own_1 m_kinds_1 m_keptSeat_13 m_ways_13 m_next_13 r13)
def p_X8_looks (m_at : Int32) (m_seats : Int32) (m_rows : Int32) (m_people : Int32) (m_loser : Int32) (m_onlyWho : Int32) (m_onlyWhere : Int32) (m_keptFree : Int32) (m_all : Int64) (m_bytes : Nat → Int32) (m_typed : Nat → Int32) (m_sorts : Nat → Int32) (m_rowOf : Nat → Int32) (m_own : Nat → Int32) (m_kinds : Nat → Int32) (m_keptSeat : Nat → Int32) (m_ways : Nat → Int64) (m_next : Nat → Int64) (x1 : Int32) : Option (Int64 × Int32 × Int32 × Int32 × Int32 × Int32 × Int32 × Int32 × Int64 × (Nat → Int32) × (Nat → Int32) × (Nat → Int32) × (Nat → Int32) × (Nat → Int32) × (Nat → Int64) × (Nat → Int64)) := p_X8_looks_b0 m_at m_seats m_rows m_people m_loser m_onlyWho m_onlyWhere m_keptFree m_all m_bytes m_typed m_sorts m_rowOf m_own m_kinds m_keptSeat m_ways m_next x1
-- X8_noSitting
def p_X8_noSitting_b48 (m_latest : Int32) (m_at : Int32) (m_seats : Int32) (m_rows : Int32) (m_people : Int32) (m_forms : Nat → Int32) (m_sizes : Nat → Int32) (m_bytes : Nat → Int32) (m_typed : Nat → Int32) (m_sorts : Nat → Int32) (m_rowOf : Nat → Int32) (m_own : Nat → Int32) (m_kinds : Nat → Int32) (t0 : Int32) : Option (Int32 × Int32 × Int32 × Int32 × Int32 × Int32 × (Nat → Int32) × (Nat → Int32) × (Nat → Int32) × (Nat → Int32)) :=
  some (t0, m_latest, m_at, m_seats, m_rows, m_people, m_sorts, m_rowOf, m_own, m_kinds)
def p_X8_noSitting_b0 (m_latest : Int32) (m_at : Int32) (m_seats : Int32) (m_rows : Int32) (m_people : Int32) (m_forms : Nat → Int32) (m_sizes : Nat → Int32) (m_bytes : Nat → Int32) (m_typed : Nat → Int32) (m_sorts : Nat → Int32) (m_rowOf : Nat → Int32) (m_own : Nat → Int32) (m_kinds : Nat → Int32) (x1 : Int32) : Option (Int32 × Int32 × Int32 × Int32 × Int32 × Int32 × (Nat → Int32) × (Nat → Int32) × (Nat → Int32) × (Nat → Int32)) :=
  b1 (p_X8_isSheet  x1) fun r1 =>
  if r1 = 0 then
  (some ((-2), m_latest, m_at, m_seats, m_rows, m_people, m_sorts, m_rowOf, m_own, m_kinds))
  else
  (gd (inB x1 4) <|
  if 0 ≤ (m_forms x1.toNatClampNeg) then
  (b8 (p_X8_find m_at m_seats m_rows m_people m_bytes m_typed m_sorts m_rowOf m_own m_kinds) fun m_at_26 m_seats_26 m_rows_26 m_people_26 m_sorts_26 m_rowOf_26 m_own_26 m_kinds_26 =>
  gd (inB x1 4) <|
  if m_people_26 ≤ (m_sizes x1.toNatClampNeg) then
  (p_X8_noSitting_b48 m_latest m_at_26 m_seats_26 m_rows_26 m_people_26 m_forms m_sizes m_bytes m_typed m_sorts_26 m_rowOf_26 m_own_26 m_kinds_26 0)
  else
  (p_X8_noSitting_b48 m_latest m_at_26 m_seats_26 m_rows_26 m_people_26 m_forms m_sizes m_bytes m_typed m_sorts_26 m_rowOf_26 m_own_26 m_kinds_26 (-3)))
  else
  (b2 (p_X8_met m_latest 1) fun r21 m_latest_21 =>
  some (r21, m_latest_21, m_at, m_seats, m_rows, m_people, m_sorts, m_rowOf, m_own, m_kinds)))
def p_X8_noSitting (m_latest : Int32) (m_at : Int32) (m_seats : Int32) (m_rows : Int32) (m_people : Int32) (m_forms : Nat → Int32) (m_sizes : Nat → Int32) (m_bytes : Nat → Int32) (m_typed : Nat → Int32) (m_sorts : Nat → Int32) (m_rowOf : Nat → Int32) (m_own : Nat → Int32) (m_kinds : Nat → Int32) (x1 : Int32) : Option (Int32 × Int32 × Int32 × Int32 × Int32 × Int32 × (Nat → Int32) × (Nat → Int32) × (Nat → Int32) × (Nat → Int32)) := p_X8_noSitting_b0 m_latest m_at m_seats m_rows m_people m_forms m_sizes m_bytes m_typed m_sorts m_rowOf m_own m_kinds x1
-- X8_isSeatNow
def p_X8_isSeatNow_b0 (m_seats : Int32) (x1 : Int32) : Option (Int32) :=
  b1 (p_X8_in  x1.toInt64 0 ((m_seats - 1).toInt64)) fun r10 =>
  gd (isZ r10) <|
  some r10
def p_X8_isSeatNow (m_seats : Int32) (x1 : Int32) : Option (Int32) := p_X8_isSeatNow_b0 m_seats x1
-- X8_judged
def p_X8_judged_b71 (m_latest : Int32) (m_at : Int32) (m_seats : Int32) (m_rows : Int32) (m_people : Int32) (m_forms : Nat → Int32) (m_sizes : Nat → Int32) (m_items : Nat → Int32) (m_bytes : Nat → Int32) (m_typed : Nat → Int32) (m_sorts : Nat → Int32) (m_rowOf : Nat → Int32) (m_own : Nat → Int32) (m_kinds : Nat → Int32) (x4 : Int32) : Option (Int32 × Int32 × Int32 × Int32 × Int32 × Int32 × (Nat → Int32) × (Nat → Int32) × (Nat → Int32) × (Nat → Int32)) :=
  some (x4, m_latest, m_at, m_seats, m_rows, m_people, m_sorts, m_rowOf, m_own, m_kinds)
def p_X8_judged_b17x (K17 : Int32 → Int32 → Int32 → Int32 → Int32 → (Nat → Int32) → (Nat → Int32) → (Nat → Int32) → (Nat → Int32) → (Nat → Int32) → (Nat → Int32) → (Nat → Int32) → (Nat → Int32) → (Nat → Int32) → Int32 → Int32 → Int32 → Option (Int32 × Int32 × Int32 × Int32 × Int32 × Int32 × (Nat → Int32) × (Nat → Int32) × (Nat → Int32) × (Nat → Int32))) (m_latest : Int32) (m_at : Int32) (m_seats : Int32) (m_rows : Int32) (m_people : Int32) (m_forms : Nat → Int32) (m_sizes : Nat → Int32) (m_items : Nat → Int32) (m_bytes : Nat → Int32) (m_typed : Nat → Int32) (m_sorts : Nat → Int32) (m_rowOf : Nat → Int32) (m_own : Nat → Int32) (m_kinds : Nat → Int32) (x1 : Int32) (x3 : Int32) (x4 : Int32) : Option (Int32 × Int32 × Int32 × Int32 × Int32 × Int32 × (Nat → Int32) × (Nat → Int32) × (Nat → Int32) × (Nat → Int32)) :=
  if m_people ≤ x4 then
  (some ((-1), m_latest, m_at, m_seats, m_rows, m_people, m_sorts, m_rowOf, m_own, m_kinds))
  else
  (gd (inB ((60 * x1) + x4) 240) <|
  nm ((m_items ((60 * x1) + x4).toNatClampNeg) : Int32) fun x38 =>
  b1 (p_X8_isSeatNow m_seats x38) fun r43 =>
  if r43 = 0 then
  (p_X8_judged_b71 m_latest m_at m_seats m_rows m_people m_forms m_sizes m_items m_bytes m_typed m_sorts m_rowOf m_own m_kinds x4)
  else
  (gd (inB x4 8) <|
  b1 (p_X8_choices m_seats m_sorts m_own x4 (m_kinds x4.toNatClampNeg) x3) fun r60 =>
  b1 (p_X8_isIn  r60 x38) fun r65 =>
  if r65 = 0 then
  (p_X8_judged_b71 m_latest m_at m_seats m_rows m_people m_forms m_sizes m_items m_bytes m_typed m_sorts m_rowOf m_own m_kinds x4)
  else
  (nm ((x3 ||| ((1 : Int32) <<< (x38 &&& 31))) : Int32) fun x80 =>
  nm (x4 + 1 : Int32) fun x81 =>
  K17 m_latest m_at m_seats m_rows m_people m_forms m_sizes m_items m_bytes m_typed m_sorts m_rowOf m_own m_kinds x1 x80 x81)))
def p_X8_judged_b17 : Nat → Int32 → Int32 → Int32 → Int32 → Int32 → (Nat → Int32) → (Nat → Int32) → (Nat → Int32) → (Nat → Int32) → (Nat → Int32) → (Nat → Int32) → (Nat → Int32) → (Nat → Int32) → (Nat → Int32) → Int32 → Int32 → Int32 → Option (Int32 × Int32 × Int32 × Int32 × Int32 × Int32 × (Nat → Int32) × (Nat → Int32) × (Nat → Int32) × (Nat → Int32))
  | 0 => fun _ _ _ _ _ _ _ _ _ _ _ _ _ _ _ _ _ => none
  | n + 1 => p_X8_judged_b17x (p_X8_judged_b17 n)
def p_X8_judged_b0 (m_latest : Int32) (m_at : Int32) (m_seats : Int32) (m_rows : Int32) (m_people : Int32) (m_forms : Nat → Int32) (m_sizes : Nat → Int32) (m_items : Nat → Int32) (m_bytes : Nat → Int32) (m_typed : Nat → Int32) (m_sorts : Nat → Int32) (m_rowOf : Nat → Int32) (m_own : Nat → Int32) (m_kinds : Nat → Int32) (x1 : Int32) : Option (Int32 × Int32 × Int32 × Int32 × Int32 × Int32 × (Nat → Int32) × (Nat → Int32) × (Nat → Int32) × (Nat → Int32)) :=
  b10 (p_X8_noSitting m_latest m_at m_seats m_rows m_people m_forms m_sizes m_bytes m_typed m_sorts m_rowOf m_own m_kinds x1) fun r2 m_latest_2 m_at_2 m_seats_2 m_rows_2 m_people_2 m_sorts_2 m_rowOf_2 m_own_2 m_kinds_2 =>
  if r2 = 0 then
  (p_X8_judged_b17 4096 m_latest_2 m_at_2 m_seats_2 m_rows_2 m_people_2 m_forms m_sizes m_items m_bytes m_typed m_sorts_2 m_rowOf_2 m_own_2 m_kinds_2 x1 0 0)
  else
  (some (r2, m_latest_2, m_at_2, m_seats_2, m_rows_2, m_people_2, m_sorts_2, m_rowOf_2, m_own_2, m_kinds_2))
def p_X8_judged (m_latest : Int32) (m_at : Int32) (m_seats : Int32) (m_rows : Int32) (m_people : Int32) (m_forms : Nat → Int32) (m_sizes : Nat → Int32) (m_items : Nat → Int32) (m_bytes : Nat → Int32) (m_typed : Nat → Int32) (m_sorts : Nat → Int32) (m_rowOf : Nat → Int32) (m_own : Nat → Int32) (m_kinds : Nat → Int32) (x1 : Int32) : Option (Int32 × Int32 × Int32 × Int32 × Int32 × Int32 × (Nat → Int32) × (Nat → Int32) × (Nat → Int32) × (Nat → Int32)) := p_X8_judged_b0 m_latest m_at m_seats m_rows m_people m_forms m_sizes m_items m_bytes m_typed m_sorts m_rowOf m_own m_kinds x1
-- X8_sittingOf
def p_X8_sittingOf_b110 (m_seats : Int32) (m_people : Int32) (m_items : Nat → Int32) (m_sorts : Nat → Int32) (m_own : Nat → Int32) (m_kinds : Nat → Int32) (t0 : Int64) : Option (Int64) :=
  some t0
def p_X8_sittingOf_b75 (m_seats : Int32) (m_people : Int32) (m_items : Nat → Int32) (m_sorts : Nat → Int32) (m_own : Nat → Int32) (m_kinds : Nat → Int32) (t0 : Int64) : Option (Int64) :=
  some t0
def p_X8_sittingOf_b66 (m_seats : Int32) (m_people : Int32) (m_items : Nat → Int32) (m_sorts : Nat → Int32) (m_own : Nat → Int32) (m_kinds : Nat → Int32) (x2 : Int32) : Option (Int64) :=
  if x2 = 0 then
  (p_X8_sittingOf_b75 m_seats m_people m_items m_sorts m_own m_kinds 0)
  else
  (p_X8_sittingOf_b75 m_seats m_people m_items m_sorts m_own m_kinds 1)
def p_X8_sittingOf_b8x (K8 : Int32 → Int32 → (Nat → Int32) → (Nat → Int32) → (Nat → Int32) → (Nat → Int32) → Int32 → Int32 → Int32 → Int64 → Int32 → Option (Int64)) (m_seats : Int32) (m_people : Int32) (m_items : Nat → Int32) (m_sorts : Nat → Int32) (m_own : Nat → Int32) (m_kinds : Nat → Int32) (x1 : Int32) (x2 : Int32) (x3 : Int32) (x4 : Int64) (x6 : Int32) : Option (Int64) :=
  if m_people ≤ x6 then
  (if x2 = 0 then
  (p_X8_sittingOf_b110 m_seats m_people m_items m_sorts m_own m_kinds 1)
  else
  (p_X8_sittingOf_b110 m_seats m_people m_items m_sorts m_own m_kinds x4))
  else
  (gd (inB ((60 * x1) + x6) 240) <|
  nm ((m_items ((60 * x1) + x6).toNatClampNeg) : Int32) fun x29 =>
  gd (inB x6 8) <|
  b1 (p_X8_choices m_seats m_sorts m_own x6 (m_kinds x6.toNatClampNeg) x3) fun r42 =>
  b1 (p_X8_isSeatNow m_seats x29) fun r50 =>
  if r50 = 0 then
  (p_X8_sittingOf_b66 m_seats m_people m_items m_sorts m_own m_kinds x2)
  else
  (b1 (p_X8_isIn  r42 x29) fun r60 =>
  if r60 = 0 then
  (p_X8_sittingOf_b66 m_seats m_people m_items m_sorts m_own m_kinds x2)
  else
  (b1 (p_X8_ones  r42) fun r80 =>
  nm ((x4 * r80.toInt64) : Int64) fun x85 =>
  nm ((x3 ||| ((1 : Int32) <<< (x29 &&& 31))) : Int32) fun x93 =>
  nm (x6 + 1 : Int32) fun x94 =>
  K8 m_seats m_people m_items m_sorts m_own m_kinds x1 x2 x93 x85 x94)))
def p_X8_sittingOf_b8 : Nat → Int32 → Int32 → (Nat → Int32) → (Nat → Int32) → (Nat → Int32) → (Nat → Int32) → Int32 → Int32 → Int32 → Int64 → Int32 → Option (Int64)
  | 0 => fun _ _ _ _ _ _ _ _ _ _ _ => none
  | n + 1 => p_X8_sittingOf_b8x (p_X8_sittingOf_b8 n)
def p_X8_sittingOf_b0 (m_seats : Int32) (m_people : Int32) (m_items : Nat → Int32) (m_sorts : Nat → Int32) (m_own : Nat → Int32) (m_kinds : Nat → Int32) (x1 : Int32) (x2 : Int32) : Option (Int64) :=
  p_X8_sittingOf_b8 4096 m_seats m_people m_items m_sorts m_own m_kinds x1 x2 0 1 0
def p_X8_sittingOf (m_seats : Int32) (m_people : Int32) (m_items : Nat → Int32) (m_sorts : Nat → Int32) (m_own : Nat → Int32) (m_kinds : Nat → Int32) (x1 : Int32) (x2 : Int32) : Option (Int64) := p_X8_sittingOf_b0 m_seats m_people m_items m_sorts m_own m_kinds x1 x2
-- X8_sitting
def p_X8_sitting_b14 (m_latest : Int32) (m_at : Int32) (m_seats : Int32) (m_rows : Int32) (m_people : Int32) (m_forms : Nat → Int32) (m_sizes : Nat → Int32) (m_items : Nat → Int32) (m_bytes : Nat → Int32) (m_typed : Nat → Int32) (m_sorts : Nat → Int32) (m_rowOf : Nat → Int32) (m_own : Nat → Int32) (m_kinds : Nat → Int32)  : Option (Int64 × Int32 × Int32 × Int32 × Int32 × Int32 × (Nat → Int32) × (Nat → Int32) × (Nat → Int32) × (Nat → Int32)) :=
  b1 (p_X8_no  (-2)) fun r16 =>
  some (r16, m_latest, m_at, m_seats, m_rows, m_people, m_sorts, m_rowOf, m_own, m_kinds)
def p_X8_sitting_b43 (m_latest : Int32) (m_at : Int32) (m_seats : Int32) (m_rows : Int32) (m_people : Int32) (m_forms : Nat → Int32) (m_sizes : Nat → Int32) (m_items : Nat → Int32) (m_bytes : Nat → Int32) (m_typed : Nat → Int32) (m_sorts : Nat → Int32) (m_rowOf : Nat → Int32) (m_own : Nat → Int32) (m_kinds : Nat → Int32) (t0 : Int64) : Option (Int64 × Int32 × Int32 × Int32 × Int32 × Int32 × (Nat → Int32) × (Nat → Int32) × (Nat → Int32) × (Nat → Int32)) :=
  some (t0, m_latest, m_at, m_seats, m_rows, m_people, m_sorts, m_rowOf, m_own, m_kinds)
def p_X8_sitting_b0 (m_latest : Int32) (m_at : Int32) (m_seats : Int32) (m_rows : Int32) (m_people : Int32) (m_forms : Nat → Int32) (m_sizes : Nat → Int32) (m_items : Nat → Int32) (m_bytes : Nat → Int32) (m_typed : Nat → Int32) (m_sorts : Nat → Int32) (m_rowOf : Nat → Int32) (m_own : Nat → Int32) (m_kinds : Nat → Int32) (x1 : Int32) (x2 : Int32) : Option (Int64 × Int32 × Int32 × Int32 × Int32 × Int32 × (Nat → Int32) × (Nat → Int32) × (Nat → Int32) × (Nat → Int32)) :=
  b1 (p_X8_isSheet  x1) fun r1 =>
  if r1 = 0 then
  (p_X8_sitting_b14 m_latest m_at m_seats m_rows m_people m_forms m_sizes m_items m_bytes m_typed m_sorts m_rowOf m_own m_kinds )
  else
  (b1 (p_X8_isTwo  x2) fun r8 =>
  if r8 = 0 then
  (p_X8_sitting_b14 m_latest m_at m_seats m_rows m_people m_forms m_sizes m_items m_bytes m_typed m_sorts m_rowOf m_own m_kinds )
  else
  (b10 (p_X8_noSitting m_latest m_at m_seats m_rows m_people m_forms m_sizes m_bytes m_typed m_sorts m_rowOf m_own m_kinds x1) fun r22 m_latest_22 m_at_22 m_seats_22 m_rows_22 m_people_22 m_sorts_22 m_rowOf_22 m_own_22 m_kinds_22 =>
  if r22 = 0 then
  (b1 (p_X8_sittingOf m_seats_22 m_people_22 m_items m_sorts_22 m_own_22 m_kinds_22 x1 x2) fun r40 =>
  p_X8_sitting_b43 m_latest_22 m_at_22 m_seats_22 m_rows_22 m_people_22 m_forms m_sizes m_items m_bytes m_typed m_sorts_22 m_rowOf_22 m_own_22 m_kinds_22 r40)
  else
  (b1 (p_X8_no  r22) fun r31 =>
  p_X8_sitting_b43 m_latest_22 m_at_22 m_seats_22 m_rows_22 m_people_22 m_forms m_sizes m_items m_bytes m_typed m_sorts_22 m_rowOf_22 m_own_22 m_kinds_22 r31)))
def p_X8_sitting (m_latest : Int32) (m_at : Int32) (m_seats : Int32) (m_rows : Int32) (m_people : Int32) (m_forms : Nat → Int32) (m_sizes : Nat → Int32) (m_items : Nat → Int32) (m_bytes : Nat → Int32) (m_typed : Nat → Int32) (m_sorts : Nat → Int32) (m_rowOf : Nat → Int32) (m_own : Nat → Int32) (m_kinds : Nat → Int32) (x1 : Int32) (x2 : Int32) : Option (Int64 × Int32 × Int32 × Int32 × Int32 × Int32 × (Nat → Int32) × (Nat → Int32) × (Nat → Int32) × (Nat → Int32)) := p_X8_sitting_b0 m_latest m_at m_seats m_rows m_people m_forms m_sizes m_items m_bytes m_typed m_sorts m_rowOf m_own m_kinds x1 x2
-- X8_swaps
def p_X8_swaps_b0 (m_order : Nat → Int32) (x1 : Int32) (x2 : Int32) : Option ((Nat → Int32)) :=
  gd (inB x1 8) <|
  nm ((m_order x1.toNatClampNeg) : Int32) fun x6 =>
  gd (inB x2 8) <|
  gd (inB x1 8) <|
  nm (upd m_order x1.toNatClampNeg (m_order x2.toNatClampNeg)) fun m_order_18 =>
  gd (inB x2 8) <|
  nm (upd m_order_18 x2.toNatClampNeg x6) fun m_order_25 =>
  some (m_order_25)
def p_X8_swaps (m_order : Nat → Int32) (x1 : Int32) (x2 : Int32) : Option ((Nat → Int32)) := p_X8_swaps_b0 m_order x1 x2
-- X8_goesOn
def p_X8_goesOn_b78x (K78 : (Nat → Int32) → Int32 → Int32 → Option (Int32 × (Nat → Int32))) (m_order : Nat → Int32) (x4 : Int32) (x5 : Int32) : Option (Int32 × (Nat → Int32)) :=
  if x5 ≤ x4 then
  (some (1, m_order))
  else
  (b1 (p_X8_swaps m_order x4 x5) fun m_order_90 =>
  nm (x4 + 1 : Int32) fun x93 =>
  nm (x5 + (-1) : Int32) fun x96 =>
  K78 m_order_90 x93 x96)
def p_X8_goesOn_b78 : Nat → (Nat → Int32) → Int32 → Int32 → Option (Int32 × (Nat → Int32))
  | 0 => fun _ _ _ => none
  | n + 1 => p_X8_goesOn_b78x (p_X8_goesOn_b78 n)
def p_X8_goesOn_b41x (K41 : (Nat → Int32) → Int32 → Int32 → Int32 → Option (Int32 × (Nat → Int32))) (m_order : Nat → Int32) (x1 : Int32) (x2 : Int32) (x3 : Int32) : Option (Int32 × (Nat → Int32)) :=
  gd (inB x3 8) <|
  gd (inB x2 8) <|
  if (m_order x2.toNatClampNeg) ≤ (m_order x3.toNatClampNeg) then
  (b1 (p_X8_swaps m_order x2 x3) fun m_order_65 =>
  nm ((x2 + 1) : Int32) fun x71 =>
  nm ((x1 - 1) : Int32) fun x76 =>
  p_X8_goesOn_b78 4096 m_order_65 x71 x76)
  else
  (nm (x3 + (-1) : Int32) fun x56 =>
  K41 m_order x1 x2 x56)
def p_X8_goesOn_b41 : Nat → (Nat → Int32) → Int32 → Int32 → Int32 → Option (Int32 × (Nat → Int32))
  | 0 => fun _ _ _ _ => none
  | n + 1 => p_X8_goesOn_b41x (p_X8_goesOn_b41 n)
def p_X8_goesOn_b31 (m_order : Nat → Int32) (x1 : Int32) (x2 : Int32) : Option (Int32 × (Nat → Int32)) :=
  if 0 ≤ x2 then
  (nm ((x1 - 1) : Int32) fun x40 =>
  p_X8_goesOn_b41 4096 m_order x1 x2 x40)
  else
  (some (0, m_order))
def p_X8_goesOn_b4x (K4 : (Nat → Int32) → Int32 → Int32 → Option (Int32 × (Nat → Int32))) (m_order : Nat → Int32) (x1 : Int32) (x2 : Int32) : Option (Int32 × (Nat → Int32)) :=
  if x2 < 0 then
  (p_X8_goesOn_b31 m_order x1 x2)
  else
  (gd (inB x2 8) <|
  gd (inB (x2 + 1) 8) <|
  if (m_order x2.toNatClampNeg) ≤ (m_order (x2 + 1).toNatClampNeg) then
  (p_X8_goesOn_b31 m_order x1 x2)
  else
  (nm (x2 + (-1) : Int32) fun x25 =>
  K4 m_order x1 x25))
def p_X8_goesOn_b4 : Nat → (Nat → Int32) → Int32 → Int32 → Option (Int32 × (Nat → Int32))
  | 0 => fun _ _ _ => none
  | n + 1 => p_X8_goesOn_b4x (p_X8_goesOn_b4 n)
def p_X8_goesOn_b0 (m_order : Nat → Int32) (x1 : Int32) : Option (Int32 × (Nat → Int32)) :=
  nm ((x1 - 2) : Int32) fun x3 =>
  p_X8_goesOn_b4 4096 m_order x1 x3
def p_X8_goesOn (m_order : Nat → Int32) (x1 : Int32) : Option (Int32 × (Nat → Int32)) := p_X8_goesOn_b0 m_order x1
-- X8_findOrder
def p_X8_findOrder_b72 (K13 : Int32 → Int32 → Int32 → Int32 → Int32 → Int32 → Int64 → Int64 → (Nat → Int32) → (Nat → Int32) → (Nat → Int32) → (Nat → Int32) → (Nat → Int32) → (Nat → Int32) → (Nat → Int64) → (Nat → Int64) → Int32 → Option (Int32 × Int32 × Int32 × Int64 × Int64 × (Nat → Int32) × (Nat → Int32) × (Nat → Int32) × (Nat → Int64) × (Nat → Int64))) (m_seats : Int32) (m_people : Int32) (m_loser : Int32) (m_onlyWho : Int32) (m_onlyWhere : Int32) (m_keptFree : Int32) (m_all : Int64) (m_bestRight : Int64) (m_sorts : Nat → Int32) (m_own : Nat → Int32) (m_kinds : Nat → Int32) (m_keptSeat : Nat → Int32) (m_order : Nat → Int32) (m_bestOrder : Nat → Int32) (m_ways : Nat → Int64) (m_next : Nat → Int64)  : Option (Int32 × Int32 × Int32 × Int64 × Int64 × (Nat → Int32) × (Nat → Int32) × (Nat → Int32) × (Nat → Int64) × (Nat → Int64)) :=
  b2 (p_X8_goesOn m_order m_people) fun r77 m_order_77 =>
  K13 m_seats m_people m_loser m_onlyWho m_onlyWhere m_keptFree m_all m_bestRight m_sorts m_own m_kinds m_keptSeat m_order_77 m_bestOrder m_ways m_next r77
def p_X8_findOrder_b43x (K13 : Int32 → Int32 → Int32 → Int32 → Int32 → Int32 → Int64 → Int64 → (Nat → Int32) → (Nat → Int32) → (Nat → Int32) → (Nat → Int32) → (Nat → Int32) → (Nat → Int32) → (Nat → Int64) → (Nat → Int64) → Int32 → Option (Int32 × Int32 × Int32 × Int64 × Int64 × (Nat → Int32) × (Nat → Int32) × (Nat → Int32) × (Nat → Int64) × (Nat → Int64))) (K43 : Int32 → Int32 → Int32 → Int32 → Int32 → Int32 → Int64 → Int64 → (Nat → Int32) → (Nat → Int32) → (Nat → Int32) → (Nat → Int32) → (Nat → Int32) → (Nat → Int32) → (Nat → Int64) → (Nat → Int64) → Int32 → Option (Int32 × Int32 × Int32 × Int64 × Int64 × (Nat → Int32) × (Nat → Int32) × (Nat → Int32) × (Nat → Int64) × (Nat → Int64))) (m_seats : Int32) (m_people : Int32) (m_loser : Int32) (m_onlyWho : Int32) (m_onlyWhere : Int32) (m_keptFree : Int32) (m_all : Int64) (m_bestRight : Int64) (m_sorts : Nat → Int32) (m_own : Nat → Int32) (m_kinds : Nat → Int32) (m_keptSeat : Nat → Int32) (m_order : Nat → Int32) (m_bestOrder : Nat → Int32) (m_ways : Nat → Int64) (m_next : Nat → Int64) (x4 : Int32) : Option (Int32 × Int32 × Int32 × Int64 × Int64 × (Nat → Int32) × (Nat → Int32) × (Nat → Int32) × (Nat → Int64) × (Nat → Int64)) :=
  if m_people ≤ x4 then
  (p_X8_findOrder_b72 K13 m_seats m_people m_loser m_onlyWho m_onlyWhere m_keptFree m_all m_bestRight m_sorts m_own m_kinds m_keptSeat m_order m_bestOrder m_ways m_next )
  else
  (gd (inB x4 8) <|
  gd (inB x4 8) <|
  nm (upd m_bestOrder x4.toNatClampNeg (m_order x4.toNatClampNeg)) fun m_bestOrder_65 =>
  nm (x4 + 1 : Int32) fun x66 =>
  K43 m_seats m_people m_loser m_onlyWho m_onlyWhere m_keptFree m_all m_bestRight m_sorts m_own m_kinds m_keptSeat m_order m_bestOrder_65 m_ways m_next x66)
def p_X8_findOrder_b43 (K13 : Int32 → Int32 → Int32 → Int32 → Int32 → Int32 → Int64 → Int64 → (Nat → Int32) → (Nat → Int32) → (Nat → Int32) → (Nat → Int32) → (Nat → Int32) → (Nat → Int32) → (Nat → Int64) → (Nat → Int64) → Int32 → Option (Int32 × Int32 × Int32 × Int64 × Int64 × (Nat → Int32) × (Nat → Int32) × (Nat → Int32) × (Nat → Int64) × (Nat → Int64))) : Nat → Int32 → Int32 → Int32 → Int32 → Int32 → Int32 → Int64 → Int64 → (Nat → Int32) → (Nat → Int32) → (Nat → Int32) → (Nat → Int32) → (Nat → Int32) → (Nat → Int32) → (Nat → Int64) → (Nat → Int64) → Int32 → Option (Int32 × Int32 × Int32 × Int64 × Int64 × (Nat → Int32) × (Nat → Int32) × (Nat → Int32) × (Nat → Int64) × (Nat → Int64))
  | 0 => fun _ _ _ _ _ _ _ _ _ _ _ _ _ _ _ _ _ => none
  | n + 1 => p_X8_findOrder_b43x K13 (p_X8_findOrder_b43 K13 n)
def p_X8_findOrder_b13x (K13 : Int32 → Int32 → Int32 → Int32 → Int32 → Int32 → Int64 → Int64 → (Nat → Int32) → (Nat → Int32) → (Nat → Int32) → (Nat → Int32) → (Nat → Int32) → (Nat → Int32) → (Nat → Int64) → (Nat → Int64) → Int32 → Option (Int32 × Int32 × Int32 × Int64 × Int64 × (Nat → Int32) × (Nat → Int32) × (Nat → Int32) × (Nat → Int64) × (Nat → Int64))) (m_seats : Int32) (m_people : Int32) (m_loser : Int32) (m_onlyWho : Int32) (m_onlyWhere : Int32) (m_keptFree : Int32) (m_all : Int64) (m_bestRight : Int64) (m_sorts : Nat → Int32) (m_own : Nat → Int32) (m_kinds : Nat → Int32) (m_keptSeat : Nat → Int32) (m_order : Nat → Int32) (m_bestOrder : Nat → Int32) (m_ways : Nat → Int64) (m_next : Nat → Int64) (x1 : Int32) : Option (Int32 × Int32 × Int32 × Int64 × Int64 × (Nat → Int32) × (Nat → Int32) × (Nat → Int32) × (Nat → Int64) × (Nat → Int64)) :=
  if x1 = 0 then
  (some (m_loser, m_onlyWho, m_keptFree, m_all, m_bestRight, m_keptSeat, m_order, m_bestOrder, m_ways, m_next))
  else
  (b8 (p_X8_rightByOrder m_seats m_loser m_onlyWho m_onlyWhere m_keptFree m_all m_sorts m_own m_kinds m_keptSeat m_order m_ways m_next m_people) fun r22 m_loser_22 m_onlyWho_22 m_keptFree_22 m_all_22 m_keptSeat_22 m_ways_22 m_next_22 =>
  if (lg_cmp r22 m_bestRight) ≤ 0 then
  (p_X8_findOrder_b72 K13 m_seats m_people m_loser_22 m_onlyWho_22 m_onlyWhere m_keptFree_22 m_all_22 m_bestRight m_sorts m_own m_kinds m_keptSeat_22 m_order m_bestOrder m_ways_22 m_next_22 )
  else
  (p_X8_findOrder_b43 K13 4096 m_seats m_people m_loser_22 m_onlyWho_22 m_onlyWhere m_keptFree_22 m_all_22 r22 m_sorts m_own m_kinds m_keptSeat_22 m_order m_bestOrder m_ways_22 m_next_22 0))
def p_X8_findOrder_b13 : Nat → Int32 → Int32 → Int32 → Int32 → Int32 → Int32 → Int64 → Int64 → (Nat → Int32) → (Nat → Int32) → (Nat → Int32) → (Nat → Int32) → (Nat → Int32) → (Nat → Int32) → (Nat → Int64) → (Nat → Int64) → Int32 → Option (Int32 × Int32 × Int32 × Int64 × Int64 × (Nat → Int32) × (Nat → Int32) × (Nat → Int32) × (Nat → Int64) × (Nat → Int64))
  | 0 => fun _ _ _ _ _ _ _ _ _ _ _ _ _ _ _ _ _ => none
  | n + 1 => p_X8_findOrder_b13x (p_X8_findOrder_b13 n)
def p_X8_findOrder_b0 (m_seats : Int32) (m_people : Int32) (m_loser : Int32) (m_onlyWho : Int32) (m_onlyWhere : Int32) (m_keptFree : Int32) (m_all : Int64) (m_bestRight : Int64) (m_sorts : Nat → Int32) (m_own : Nat → Int32) (m_kinds : Nat → Int32) (m_keptSeat : Nat → Int32) (m_order : Nat → Int32) (m_bestOrder : Nat → Int32) (m_ways : Nat → Int64) (m_next : Nat → Int64)  : Option (Int32 × Int32 × Int32 × Int64 × Int64 × (Nat → Int32) × (Nat → Int32) × (Nat → Int32) × (Nat → Int64) × (Nat → Int64)) :=
  b1 (p_X8_asTheyCome m_people m_order) fun m_order_1 =>
  p_X8_findOrder_b13 4096 m_seats m_people m_loser m_onlyWho m_onlyWhere m_keptFree m_all (-1) m_sorts m_own m_kinds m_keptSeat m_order_1 m_bestOrder m_ways m_next 1
def p_X8_findOrder (m_seats : Int32) (m_people : Int32) (m_loser : Int32) (m_onlyWho : Int32) (m_onlyWhere : Int32) (m_keptFree : Int32) (m_all : Int64) (m_bestRight : Int64) (m_sorts : Nat → Int32) (m_own : Nat → Int32) (m_kinds : Nat → Int32) (m_keptSeat : Nat → Int32) (m_order : Nat → Int32) (m_bestOrder : Nat → Int32) (m_ways : Nat → Int64) (m_next : Nat → Int64)  : Option (Int32 × Int32 × Int32 × Int64 × Int64 × (Nat → Int32) × (Nat → Int32) × (Nat → Int32) × (Nat → Int64) × (Nat → Int64)) := p_X8_findOrder_b0 m_seats m_people m_loser m_onlyWho m_onlyWhere m_keptFree m_all m_bestRight m_sorts m_own m_kinds m_keptSeat m_order m_bestOrder m_ways m_next 
-- X8_order
def p_X8_order_b20 (m_at : Int32) (m_seats : Int32) (m_rows : Int32) (m_people : Int32) (m_loser : Int32) (m_onlyWho : Int32) (m_onlyWhere : Int32) (m_keptFree : Int32) (m_all : Int64) (m_bestRight : Int64) (m_bytes : Nat → Int32) (m_typed : Nat → Int32) (m_sorts : Nat → Int32) (m_rowOf : Nat → Int32) (m_own : Nat → Int32) (m_kinds : Nat → Int32) (m_keptSeat : Nat → Int32) (m_order : Nat → Int32) (m_bestOrder : Nat → Int32) (m_ways : Nat → Int64) (m_next : Nat → Int64) (x1 : Int32) : Option (Int32 × Int32 × Int32 × Int32 × Int32 × Int32 × Int32 × Int32 × Int64 × Int64 × (Nat → Int32) × (Nat → Int32) × (Nat → Int32) × (Nat → Int32) × (Nat → Int32) × (Nat → Int32) × (Nat → Int32) × (Nat → Int64) × (Nat → Int64)) :=
  b1 (p_X8_in  x1.toInt64 0 ((m_people - 1).toInt64)) fun r30 =>
  if r30 = 0 then
  (some ((-2), m_at, m_seats, m_rows, m_people, m_loser, m_onlyWho, m_keptFree, m_all, m_bestRight, m_sorts, m_rowOf, m_own, m_kinds, m_keptSeat, m_order, m_bestOrder, m_ways, m_next))
  else
  (b10 (p_X8_findOrder m_seats m_people m_loser m_onlyWho m_onlyWhere m_keptFree m_all m_bestRight m_sorts m_own m_kinds m_keptSeat m_order m_bestOrder m_ways m_next) fun m_loser_40 m_onlyWho_40 m_keptFree_40 m_all_40 m_bestRight_40 m_keptSeat_40 m_order_40 m_bestOrder_40 m_ways_40 m_next_40 =>
  gd (inB x1 8) <|
  some ((m_bestOrder_40 x1.toNatClampNeg), m_at, m_seats, m_rows, m_people, m_loser_40, m_onlyWho_40, m_keptFree_40, m_all_40, m_bestRight_40, m_sorts, m_rowOf, m_own, m_kinds, m_keptSeat_40, m_order_40, m_bestOrder_40, m_ways_40, m_next_40))
def p_X8_order_b0 (m_at : Int32) (m_seats : Int32) (m_rows : Int32) (m_people : Int32) (m_loser : Int32) (m_onlyWho : Int32) (m_onlyWhere : Int32) (m_keptFree : Int32) (m_all : Int64) (m_bestRight : Int64) (m_bytes : Nat → Int32) (m_typed : Nat → Int32) (m_sorts : Nat → Int32) (m_rowOf : Nat → Int32) (m_own : Nat → Int32) (m_kinds : Nat → Int32) (m_keptSeat : Nat → Int32) (m_order : Nat → Int32) (m_bestOrder : Nat → Int32) (m_ways : Nat → Int64) (m_next : Nat → Int64) (x1 : Int32) : Option (Int32 × Int32 × Int32 × Int32 × Int32 × Int32 × Int32 × Int32 × Int64 × Int64 × (Nat → Int32) × (Nat → Int32) × (Nat → Int32) × (Nat → Int32) × (Nat → Int32) × (Nat → Int32) × (Nat → Int32) × (Nat → Int64) × (Nat → Int64)) :=
  b8 (p_X8_find m_at m_seats m_rows m_people m_bytes m_typed m_sorts m_rowOf m_own m_kinds) fun m_at_1 m_seats_1 m_rows_1 m_people_1 m_sorts_1 m_rowOf_1 m_own_1 m_kinds_1 =>
  if m_people_1 ≤ 6 then
  (p_X8_order_b20 m_at_1 m_seats_1 m_rows_1 m_people_1 m_loser m_onlyWho m_onlyWhere m_keptFree m_all m_bestRight m_bytes m_typed m_sorts_1 m_rowOf_1 m_own_1 m_kinds_1 m_keptSeat m_order m_bestOrder m_ways m_next x1)
  else
  (if x1 < 0 then
  (p_X8_order_b20 m_at_1 m_seats_1 m_rows_1 m_people_1 m_loser m_onlyWho m_onlyWhere m_keptFree m_all m_bestRight m_bytes m_typed m_sorts_1 m_rowOf_1 m_own_1 m_kinds_1 m_keptSeat m_order m_bestOrder m_ways m_next x1)
  else
  (some ((-4), m_at_1, m_seats_1, m_rows_1, m_people_1, m_loser, m_onlyWho, m_keptFree, m_all, m_bestRight, m_sorts_1, m_rowOf_1, m_own_1, m_kinds_1, m_keptSeat, m_order, m_bestOrder, m_ways, m_next)))
def p_X8_order (m_at : Int32) (m_seats : Int32) (m_rows : Int32) (m_people : Int32) (m_loser : Int32) (m_onlyWho : Int32) (m_onlyWhere : Int32) (m_keptFree : Int32) (m_all : Int64) (m_bestRight : Int64) (m_bytes : Nat → Int32) (m_typed : Nat → Int32) (m_sorts : Nat → Int32) (m_rowOf : Nat → Int32) (m_own : Nat → Int32) (m_kinds : Nat → Int32) (m_keptSeat : Nat → Int32) (m_order : Nat → Int32) (m_bestOrder : Nat → Int32) (m_ways : Nat → Int64) (m_next : Nat → Int64) (x1 : Int32) : Option (Int32 × Int32 × Int32 × Int32 × Int32 × Int32 × Int32 × Int32 × Int64 × Int64 × (Nat → Int32) × (Nat → Int32) × (Nat → Int32) × (Nat → Int32) × (Nat → Int32) × (Nat → Int32) × (Nat → Int32) × (Nat → Int64) × (Nat → Int64)) := p_X8_order_b0 m_at m_seats m_rows m_people m_loser m_onlyWho m_onlyWhere m_keptFree m_all m_bestRight m_bytes m_typed m_sorts m_rowOf m_own m_kinds m_keptSeat m_order m_bestOrder m_ways m_next x1
-- X8_bestOf
def p_X8_bestOf_b0 (m_seats : Int32) (m_people : Int32) (m_loser : Int32) (m_onlyWho : Int32) (m_onlyWhere : Int32) (m_keptFree : Int32) (m_all : Int64) (m_bestRight : Int64) (m_sorts : Nat → Int32) (m_own : Nat → Int32) (m_kinds : Nat → Int32) (m_keptSeat : Nat → Int32) (m_order : Nat → Int32) (m_bestOrder : Nat → Int32) (m_ways : Nat → Int64) (m_next : Nat → Int64) (x1 : Int32) : Option (Int64 × Int32 × Int32 × Int32 × Int64 × Int64 × (Nat → Int32) × (Nat → Int32) × (Nat → Int32) × (Nat → Int64) × (Nat → Int64)) :=
  if m_people ≤ 6 then
  (b10 (p_X8_findOrder m_seats m_people m_loser m_onlyWho m_onlyWhere m_keptFree m_all m_bestRight m_sorts m_own m_kinds m_keptSeat m_order m_bestOrder m_ways m_next) fun m_loser_16 m_onlyWho_16 m_keptFree_16 m_all_16 m_bestRight_16 m_keptSeat_16 m_order_16 m_bestOrder_16 m_ways_16 m_next_16 =>
  b1 (p_X8_part  ((m_people.toInt64 * m_all_16) - m_bestRight_16) m_all_16 x1) fun r39 =>
  some (r39, m_loser_16, m_onlyWho_16, m_keptFree_16, m_all_16, m_bestRight_16, m_keptSeat_16, m_order_16, m_bestOrder_16, m_ways_16, m_next_16))
  else
  (b1 (p_X8_no  (-4)) fun r11 =>
  some (r11, m_loser, m_onlyWho, m_keptFree, m_all, m_bestRight, m_keptSeat, m_order, m_bestOrder, m_ways, m_next))
def p_X8_bestOf (m_seats : Int32) (m_people : Int32) (m_loser : Int32) (m_onlyWho : Int32) (m_onlyWhere : Int32) (m_keptFree : Int32) (m_all : Int64) (m_bestRight : Int64) (m_sorts : Nat → Int32) (m_own : Nat → Int32) (m_kinds : Nat → Int32) (m_keptSeat : Nat → Int32) (m_order : Nat → Int32) (m_bestOrder : Nat → Int32) (m_ways : Nat → Int64) (m_next : Nat → Int64) (x1 : Int32) : Option (Int64 × Int32 × Int32 × Int32 × Int64 × Int64 × (Nat → Int32) × (Nat → Int32) × (Nat → Int32) × (Nat → Int64) × (Nat → Int64)) := p_X8_bestOf_b0 m_seats m_people m_loser m_onlyWho m_onlyWhere m_keptFree m_all m_bestRight m_sorts m_own m_kinds m_keptSeat m_order m_bestOrder m_ways m_next x1
-- X8_best
def p_X8_best_b24 (m_at : Int32) (m_seats : Int32) (m_rows : Int32) (m_people : Int32) (m_loser : Int32) (m_onlyWho : Int32) (m_onlyWhere : Int32) (m_keptFree : Int32) (m_all : Int64) (m_bestRight : Int64) (m_bytes : Nat → Int32) (m_typed : Nat → Int32) (m_sorts : Nat → Int32) (m_rowOf : Nat → Int32) (m_own : Nat → Int32) (m_kinds : Nat → Int32) (m_keptSeat : Nat → Int32) (m_order : Nat → Int32) (m_bestOrder : Nat → Int32) (m_ways : Nat → Int64) (m_next : Nat → Int64) (t0 : Int64) : Option (Int64 × Int32 × Int32 × Int32 × Int32 × Int32 × Int32 × Int32 × Int64 × Int64 × (Nat → Int32) × (Nat → Int32) × (Nat → Int32) × (Nat → Int32) × (Nat → Int32) × (Nat → Int32) × (Nat → Int32) × (Nat → Int64) × (Nat → Int64)) :=
  some (t0, m_at, m_seats, m_rows, m_people, m_loser, m_onlyWho, m_keptFree, m_all, m_bestRight, m_sorts, m_rowOf, m_own, m_kinds, m_keptSeat, m_order, m_bestOrder, m_ways, m_next)
def p_X8_best_b0 (m_at : Int32) (m_seats : Int32) (m_rows : Int32) (m_people : Int32) (m_loser : Int32) (m_onlyWho : Int32) (m_onlyWhere : Int32) (m_keptFree : Int32) (m_all : Int64) (m_bestRight : Int64) (m_bytes : Nat → Int32) (m_typed : Nat → Int32) (m_sorts : Nat → Int32) (m_rowOf : Nat → Int32) (m_own : Nat → Int32) (m_kinds : Nat → Int32) (m_keptSeat : Nat → Int32) (m_order : Nat → Int32) (m_bestOrder : Nat → Int32) (m_ways : Nat → Int64) (m_next : Nat → Int64) (x1 : Int32) : Option (Int64 × Int32 × Int32 × Int32 × Int32 × Int32 × Int32 × Int32 × Int64 × Int64 × (Nat → Int32) × (Nat → Int32) × (Nat → Int32) × (Nat → Int32) × (Nat → Int32) × (Nat → Int32) × (Nat → Int32) × (Nat → Int64) × (Nat → Int64)) :=
  b8 (p_X8_find m_at m_seats m_rows m_people m_bytes m_typed m_sorts m_rowOf m_own m_kinds) fun m_at_1 m_seats_1 m_rows_1 m_people_1 m_sorts_1 m_rowOf_1 m_own_1 m_kinds_1 =>
  b1 (p_X8_isTwo  x1) fun r5 =>
  if r5 = 0 then
  (b1 (p_X8_no  (-2)) fun r21 =>
  p_X8_best_b24 m_at_1 m_seats_1 m_rows_1 m_people_1 m_loser m_onlyWho m_onlyWhere m_keptFree m_all m_bestRight m_bytes m_typed m_sorts_1 m_rowOf_1 m_own_1 m_kinds_1 m_keptSeat m_order m_bestOrder m_ways m_next r21)
  else
  (b11 (p_X8_bestOf m_seats_1 m_people_1 m_loser m_onlyWho m_onlyWhere m_keptFree m_all m_bestRight m_sorts_1 m_own_1 m_kinds_1 m_keptSeat m_order m_bestOrder m_ways m_next x1) fun r13 m_loser_13 m_onlyWho_13 m_keptFree_13 m_all_13 m_bestRight_13 m_keptSeat_13 m_order_13 m_bestOrder_13 m_ways_13 m_next_13 =>
  p_X8_best_b24 m_at_1 m_seats_1 m_rows_1 m_people_1 m_loser_13 m_onlyWho_13 m_onlyWhere m_keptFree_13 m_all_13 m_bestRight_13 m_bytes m_typed m_sorts_1 m_rowOf_1 m_own_1 m_kinds_1 m_keptSeat_13 m_order_13 m_bestOrder_13 m_ways_13 m_next_13 r13)
def p_X8_best (m_at : Int32) (m_seats : Int32) (m_rows : Int32) (m_people : Int32) (m_loser : Int32) (m_onlyWho : Int32) (m_onlyWhere : Int32) (m_keptFree : Int32) (m_all : Int64) (m_bestRight : Int64) (m_bytes : Nat → Int32) (m_typed : Nat → Int32) (m_sorts : Nat → Int32) (m_rowOf : Nat → Int32) (m_own : Nat → Int32) (m_kinds : Nat → Int32) (m_keptSeat : Nat → Int32) (m_order : Nat → Int32) (m_bestOrder : Nat → Int32) (m_ways : Nat → Int64) (m_next : Nat → Int64) (x1 : Int32) : Option (Int64 × Int32 × Int32 × Int32 × Int32 × Int32 × Int32 × Int32 × Int64 × Int64 × (Nat → Int32) × (Nat → Int32) × (Nat → Int32) × (Nat → Int32) × (Nat → Int32) × (Nat → Int32) × (Nat → Int32) × (Nat → Int64) × (Nat → Int64)) := p_X8_best_b0 m_at m_seats m_rows m_people m_loser m_onlyWho m_onlyWhere m_keptFree m_all m_bestRight m_bytes m_typed m_sorts m_rowOf m_own m_kinds m_keptSeat m_order m_bestOrder m_ways m_next x1
-- X8_sitter
def p_X8_sitter_b36 (K5 : Int32 → (Nat → Int32) → Int32 → Int32 → Int32 → Int32 → Option (Int32)) (m_people : Int32) (m_items : Nat → Int32) (t0 : Int32) (x1 : Int32) (x2 : Int32) (x4 : Int32) : Option (Int32) :=
  nm (x4 + 1 : Int32) fun x37 =>
  K5 m_people m_items x1 x2 t0 x37
def p_X8_sitter_b5x (K5 : Int32 → (Nat → Int32) → Int32 → Int32 → Int32 → Int32 → Option (Int32)) (m_people : Int32) (m_items : Nat → Int32) (x1 : Int32) (x2 : Int32) (x3 : Int32) (x4 : Int32) : Option (Int32) :=
  if m_people ≤ x4 then
  (some x3)
  else
  (gd (inB ((60 * x1) + x4) 240) <|
  if (m_items ((60 * x1) + x4).toNatClampNeg) = x2 then
  (p_X8_sitter_b36 K5 m_people m_items x4 x1 x2 x4)
  else
  (p_X8_sitter_b36 K5 m_people m_items x3 x1 x2 x4))
def p_X8_sitter_b5 : Nat → Int32 → (Nat → Int32) → Int32 → Int32 → Int32 → Int32 → Option (Int32)
  | 0 => fun _ _ _ _ _ _ => none
  | n + 1 => p_X8_sitter_b5x (p_X8_sitter_b5 n)
def p_X8_sitter_b0 (m_people : Int32) (m_items : Nat → Int32) (x1 : Int32) (x2 : Int32) : Option (Int32) :=
  p_X8_sitter_b5 4096 m_people m_items x1 x2 0 0
def p_X8_sitter (m_people : Int32) (m_items : Nat → Int32) (x1 : Int32) (x2 : Int32) : Option (Int32) := p_X8_sitter_b0 m_people m_items x1 x2
-- X8_findRings
def p_X8_findRings_b95 (m_seats : Int32) (m_people : Int32) (m_rings : Int32) (m_wrongOnes : Int32) (m_longer : Int32) (m_items : Nat → Int32) (m_own : Nat → Int32)  : Option (Int32 × Int32 × Int32 × Int32) :=
  some (0, m_rings, m_wrongOnes, m_longer)
def p_X8_findRings_b233 (K118 : Int32 → Int32 → Int32 → Int32 → Int32 → (Nat → Int32) → (Nat → Int32) → Int32 → Int32 → Int32 → Option (Int32 × Int32 × Int32 × Int32)) (m_seats : Int32) (m_people : Int32) (m_rings : Int32) (m_wrongOnes : Int32) (m_longer : Int32) (m_items : Nat → Int32) (m_own : Nat → Int32) (t1 : Int32) (x1 : Int32) (x4 : Int32) (x5 : Int32) : Option (Int32 × Int32 × Int32 × Int32) :=
  gd (isZ t1) <|
  nm (x5 + 1 : Int32) fun x236 =>
  K118 m_seats m_people m_rings m_wrongOnes t1 m_items m_own x1 x4 x236
def p_X8_findRings_b228 (K118 : Int32 → Int32 → Int32 → Int32 → Int32 → (Nat → Int32) → (Nat → Int32) → Int32 → Int32 → Int32 → Option (Int32 × Int32 × Int32 × Int32)) (m_seats : Int32) (m_people : Int32) (m_rings : Int32) (m_wrongOnes : Int32) (m_longer : Int32) (m_items : Nat → Int32) (m_own : Nat → Int32) (x1 : Int32) (x4 : Int32) (x5 : Int32) : Option (Int32 × Int32 × Int32 × Int32) :=
  p_X8_findRings_b233 K118 m_seats m_people m_rings m_wrongOnes m_longer m_items m_own 1 x1 x4 x5
def p_X8_findRings_b210 (K118 : Int32 → Int32 → Int32 → Int32 → Int32 → (Nat → Int32) → (Nat → Int32) → Int32 → Int32 → Int32 → Option (Int32 × Int32 × Int32 × Int32)) (m_seats : Int32) (m_people : Int32) (m_rings : Int32) (m_wrongOnes : Int32) (m_longer : Int32) (m_items : Nat → Int32) (m_own : Nat → Int32) (t1 : Int32) (t2 : Int32) (x1 : Int32) (x4 : Int32) (x5 : Int32) (x6 : Int32) : Option (Int32 × Int32 × Int32 × Int32) :=
  nm ((t1 + t2) : Int32) fun m_wrongOnes_211 =>
  if m_longer = 0 then
  (if x6 ≤ 2 then
  (p_X8_findRings_b233 K118 m_seats m_people m_rings m_wrongOnes_211 m_longer m_items m_own 0 x1 x4 x5)
  else
  (p_X8_findRings_b228 K118 m_seats m_people m_rings m_wrongOnes_211 m_longer m_items m_own x1 x4 x5))
  else
  (p_X8_findRings_b228 K118 m_seats m_people m_rings m_wrongOnes_211 m_longer m_items m_own x1 x4 x5)
def p_X8_findRings_b189 (K118 : Int32 → Int32 → Int32 → Int32 → Int32 → (Nat → Int32) → (Nat → Int32) → Int32 → Int32 → Int32 → Option (Int32 × Int32 × Int32 × Int32)) (m_seats : Int32) (m_people : Int32) (m_rings : Int32) (m_wrongOnes : Int32) (m_longer : Int32) (m_items : Nat → Int32) (m_own : Nat → Int32) (t1 : Int32) (t2 : Int32) (x1 : Int32) (x4 : Int32) (x5 : Int32) (x6 : Int32) : Option (Int32 × Int32 × Int32 × Int32) :=
  nm ((t1 + t2) : Int32) fun m_rings_190 =>
  if x6 ≤ 1 then
  (p_X8_findRings_b210 K118 m_seats m_people m_rings_190 m_wrongOnes m_longer m_items m_own m_wrongOnes 0 x1 x4 x5 x6)
  else
  (p_X8_findRings_b210 K118 m_seats m_people m_rings_190 m_wrongOnes m_longer m_items m_own m_wrongOnes x6 x1 x4 x5 x6)
def p_X8_findRings_b134x (K118 : Int32 → Int32 → Int32 → Int32 → Int32 → (Nat → Int32) → (Nat → Int32) → Int32 → Int32 → Int32 → Option (Int32 × Int32 × Int32 × Int32)) (K134 : Int32 → Int32 → Int32 → Int32 → Int32 → (Nat → Int32) → (Nat → Int32) → Int32 → Int32 → Int32 → Int32 → Int32 → Option (Int32 × Int32 × Int32 × Int32)) (m_seats : Int32) (m_people : Int32) (m_rings : Int32) (m_wrongOnes : Int32) (m_longer : Int32) (m_items : Nat → Int32) (m_own : Nat → Int32) (x1 : Int32) (x4 : Int32) (x5 : Int32) (x6 : Int32) (x7 : Int32) : Option (Int32 × Int32 × Int32 × Int32) :=
  b1 (p_X8_isIn  x4 x7) fun r138 =>
  if r138 = 0 then
  (nm ((x4 ||| ((1 : Int32) <<< (x7 &&& 31))) : Int32) fun x151 =>
  nm (x6 + 1 : Int32) fun x153 =>
  gd (inB x7 8) <|
  b1 (p_X8_sitter m_people m_items x1 (m_own x7.toNatClampNeg)) fun r165 =>
  K134 m_seats m_people m_rings m_wrongOnes m_longer m_items m_own x1 x151 x5 x153 r165)
  else
  (if x6 ≤ 1 then
  (p_X8_findRings_b189 K118 m_seats m_people m_rings m_wrongOnes m_longer m_items m_own m_rings 0 x1 x4 x5 x6)
  else
  (p_X8_findRings_b189 K118 m_seats m_people m_rings m_wrongOnes m_longer m_items m_own m_rings 1 x1 x4 x5 x6))
def p_X8_findRings_b134 (K118 : Int32 → Int32 → Int32 → Int32 → Int32 → (Nat → Int32) → (Nat → Int32) → Int32 → Int32 → Int32 → Option (Int32 × Int32 × Int32 × Int32)) : Nat → Int32 → Int32 → Int32 → Int32 → Int32 → (Nat → Int32) → (Nat → Int32) → Int32 → Int32 → Int32 → Int32 → Int32 → Option (Int32 × Int32 × Int32 × Int32)
  | 0 => fun _ _ _ _ _ _ _ _ _ _ _ _ => none
  | n + 1 => p_X8_findRings_b134x K118 (p_X8_findRings_b134 K118 n)
def p_X8_findRings_b118x (K118 : Int32 → Int32 → Int32 → Int32 → Int32 → (Nat → Int32) → (Nat → Int32) → Int32 → Int32 → Int32 → Option (Int32 × Int32 × Int32 × Int32)) (m_seats : Int32) (m_people : Int32) (m_rings : Int32) (m_wrongOnes : Int32) (m_longer : Int32) (m_items : Nat → Int32) (m_own : Nat → Int32) (x1 : Int32) (x4 : Int32) (x5 : Int32) : Option (Int32 × Int32 × Int32 × Int32) :=
  if m_people ≤ x5 then
  (some (1, m_rings, m_wrongOnes, m_longer))
  else
  (p_X8_findRings_b134 K118 4096 m_seats m_people m_rings m_wrongOnes m_longer m_items m_own x1 x4 x5 0 x5)
def p_X8_findRings_b118 : Nat → Int32 → Int32 → Int32 → Int32 → Int32 → (Nat → Int32) → (Nat → Int32) → Int32 → Int32 → Int32 → Option (Int32 × Int32 × Int32 × Int32)
  | 0 => fun _ _ _ _ _ _ _ _ _ _ => none
  | n + 1 => p_X8_findRings_b118x (p_X8_findRings_b118 n)
def p_X8_findRings_b48 (K7 : Int32 → Int32 → Int32 → Int32 → Int32 → (Nat → Int32) → (Nat → Int32) → Int32 → Int32 → Int32 → Int32 → Option (Int32 × Int32 × Int32 × Int32)) (m_seats : Int32) (m_people : Int32) (m_rings : Int32) (m_wrongOnes : Int32) (m_longer : Int32) (m_items : Nat → Int32) (m_own : Nat → Int32) (t0 : Int32) (t1 : Int32) (x1 : Int32) (x3 : Int32) (x4 : Int32) : Option (Int32 × Int32 × Int32 × Int32) :=
  nm ((t0 ||| t1) : Int32) fun x49 =>
  gd (inB x4 8) <|
  nm ((x3 ||| ((1 : Int32) <<< ((m_own x4.toNatClampNeg) &&& 31))) : Int32) fun x61 =>
  nm (x4 + 1 : Int32) fun x62 =>
  K7 m_seats m_people m_rings m_wrongOnes m_longer m_items m_own x1 x49 x61 x62
def p_X8_findRings_b7x (K7 : Int32 → Int32 → Int32 → Int32 → Int32 → (Nat → Int32) → (Nat → Int32) → Int32 → Int32 → Int32 → Int32 → Option (Int32 × Int32 × Int32 × Int32)) (m_seats : Int32) (m_people : Int32) (m_rings : Int32) (m_wrongOnes : Int32) (m_longer : Int32) (m_items : Nat → Int32) (m_own : Nat → Int32) (x1 : Int32) (x2 : Int32) (x3 : Int32) (x4 : Int32) : Option (Int32 × Int32 × Int32 × Int32) :=
  if m_people ≤ x4 then
  (if m_people = m_seats then
  (b1 (p_X8_whole m_seats) fun r81 =>
  if x2 = r81 then
  (b1 (p_X8_whole m_seats) fun r89 =>
  if x3 = r89 then
  (p_X8_findRings_b118 4096 m_seats m_people 0 0 0 m_items m_own x1 0 0)
  else
  (p_X8_findRings_b95 m_seats m_people m_rings m_wrongOnes m_longer m_items m_own ))
  else
  (p_X8_findRings_b95 m_seats m_people m_rings m_wrongOnes m_longer m_items m_own ))
  else
  (p_X8_findRings_b95 m_seats m_people m_rings m_wrongOnes m_longer m_items m_own ))
  else
  (gd (inB ((60 * x1) + x4) 240) <|
  nm ((m_items ((60 * x1) + x4).toNatClampNeg) : Int32) fun x28 =>
  b1 (p_X8_isSeatNow m_seats x28) fun r34 =>
  if r34 = 0 then
  (p_X8_findRings_b48 K7 m_seats m_people m_rings m_wrongOnes m_longer m_items m_own x2 0 x1 x3 x4)
  else
  (p_X8_findRings_b48 K7 m_seats m_people m_rings m_wrongOnes m_longer m_items m_own x2 ((1 : Int32) <<< (x28 &&& 31)) x1 x3 x4))
def p_X8_findRings_b7 : Nat → Int32 → Int32 → Int32 → Int32 → Int32 → (Nat → Int32) → (Nat → Int32) → Int32 → Int32 → Int32 → Int32 → Option (Int32 × Int32 × Int32 × Int32)
  | 0 => fun _ _ _ _ _ _ _ _ _ _ _ => none
  | n + 1 => p_X8_findRings_b7x (p_X8_findRings_b7 n)
def p_X8_findRings_b0 (m_seats : Int32) (m_people : Int32) (m_rings : Int32) (m_wrongOnes : Int32) (m_longer : Int32) (m_items : Nat → Int32) (m_own : Nat → Int32) (x1 : Int32) : Option (Int32 × Int32 × Int32 × Int32) :=
  p_X8_findRings_b7 4096 m_seats m_people m_rings m_wrongOnes m_longer m_items m_own x1 0 0 0
def p_X8_findRings (m_seats : Int32) (m_people : Int32) (m_rings : Int32) (m_wrongOnes : Int32) (m_longer : Int32) (m_items : Nat → Int32) (m_own : Nat → Int32) (x1 : Int32) : Option (Int32 × Int32 × Int32 × Int32) := p_X8_findRings_b0 m_seats m_people m_rings m_wrongOnes m_longer m_items m_own x1
-- X8_back
def p_X8_back_b19 (m_latest : Int32) (m_at : Int32) (m_seats : Int32) (m_rows : Int32) (m_people : Int32) (m_rings : Int32) (m_wrongOnes : Int32) (m_longer : Int32) (m_forms : Nat → Int32) (m_sizes : Nat → Int32) (m_items : Nat → Int32) (m_bytes : Nat → Int32) (m_typed : Nat → Int32) (m_sorts : Nat → Int32) (m_rowOf : Nat → Int32) (m_own : Nat → Int32) (m_kinds : Nat → Int32)  : Option (Int32 × Int32 × Int32 × Int32 × Int32 × Int32 × Int32 × Int32 × Int32 × (Nat → Int32) × (Nat → Int32) × (Nat → Int32) × (Nat → Int32)) :=
  some ((-2), m_latest, m_at, m_seats, m_rows, m_people, m_rings, m_wrongOnes, m_longer, m_sorts, m_rowOf, m_own, m_kinds)
def p_X8_back_b96 (m_latest : Int32) (m_at : Int32) (m_seats : Int32) (m_rows : Int32) (m_people : Int32) (m_rings : Int32) (m_wrongOnes : Int32) (m_longer : Int32) (m_forms : Nat → Int32) (m_sizes : Nat → Int32) (m_items : Nat → Int32) (m_bytes : Nat → Int32) (m_typed : Nat → Int32) (m_sorts : Nat → Int32) (m_rowOf : Nat → Int32) (m_own : Nat → Int32) (m_kinds : Nat → Int32) (t0 : Int32) : Option (Int32 × Int32 × Int32 × Int32 × Int32 × Int32 × Int32 × Int32 × Int32 × (Nat → Int32) × (Nat → Int32) × (Nat → Int32) × (Nat → Int32)) :=
  some (t0, m_latest, m_at, m_seats, m_rows, m_people, m_rings, m_wrongOnes, m_longer, m_sorts, m_rowOf, m_own, m_kinds)
def p_X8_back_b0 (m_latest : Int32) (m_at : Int32) (m_seats : Int32) (m_rows : Int32) (m_people : Int32) (m_rings : Int32) (m_wrongOnes : Int32) (m_longer : Int32) (m_forms : Nat → Int32) (m_sizes : Nat → Int32) (m_items : Nat → Int32) (m_bytes : Nat → Int32) (m_typed : Nat → Int32) (m_sorts : Nat → Int32) (m_rowOf : Nat → Int32) (m_own : Nat → Int32) (m_kinds : Nat → Int32) (x1 : Int32) (x2 : Int32) : Option (Int32 × Int32 × Int32 × Int32 × Int32 × Int32 × Int32 × Int32 × Int32 × (Nat → Int32) × (Nat → Int32) × (Nat → Int32) × (Nat → Int32)) :=
  b1 (p_X8_isSheet  x1) fun r1 =>
  if r1 = 0 then
  (p_X8_back_b19 m_latest m_at m_seats m_rows m_people m_rings m_wrongOnes m_longer m_forms m_sizes m_items m_bytes m_typed m_sorts m_rowOf m_own m_kinds )
  else
  (b1 (p_X8_in  x2.toInt64 0 2) fun r13 =>
  if r13 = 0 then
  (p_X8_back_b19 m_latest m_at m_seats m_rows m_people m_rings m_wrongOnes m_longer m_forms m_sizes m_items m_bytes m_typed m_sorts m_rowOf m_own m_kinds )
  else
  (b10 (p_X8_noSitting m_latest m_at m_seats m_rows m_people m_forms m_sizes m_bytes m_typed m_sorts m_rowOf m_own m_kinds x1) fun r24 m_latest_24 m_at_24 m_seats_24 m_rows_24 m_people_24 m_sorts_24 m_rowOf_24 m_own_24 m_kinds_24 =>
  if r24 = 0 then
  (b4 (p_X8_findRings m_seats_24 m_people_24 m_rings m_wrongOnes m_longer m_items m_own_24 x1) fun r36 m_rings_36 m_wrongOnes_36 m_longer_36 =>
  if r36 = 0 then
  (some ((-3), m_latest_24, m_at_24, m_seats_24, m_rows_24, m_people_24, m_rings_36, m_wrongOnes_36, m_longer_36, m_sorts_24, m_rowOf_24, m_own_24, m_kinds_24))
  else
  (if x2 = 0 then
  (p_X8_back_b96 m_latest_24 m_at_24 m_seats_24 m_rows_24 m_people_24 m_rings_36 m_wrongOnes_36 m_longer_36 m_forms m_sizes m_items m_bytes m_typed m_sorts_24 m_rowOf_24 m_own_24 m_kinds_24 m_rings_36)
  else
  (if x2 = 1 then
  (p_X8_back_b96 m_latest_24 m_at_24 m_seats_24 m_rows_24 m_people_24 m_rings_36 m_wrongOnes_36 m_longer_36 m_forms m_sizes m_items m_bytes m_typed m_sorts_24 m_rowOf_24 m_own_24 m_kinds_24 (m_wrongOnes_36 - m_rings_36))
  else
  (if m_rings_36 = 0 then
  (p_X8_back_b96 m_latest_24 m_at_24 m_seats_24 m_rows_24 m_people_24 m_rings_36 m_wrongOnes_36 m_longer_36 m_forms m_sizes m_items m_bytes m_typed m_sorts_24 m_rowOf_24 m_own_24 m_kinds_24 0)
  else
  (if m_longer_36 = 0 then
  (p_X8_back_b96 m_latest_24 m_at_24 m_seats_24 m_rows_24 m_people_24 m_rings_36 m_wrongOnes_36 m_longer_36 m_forms m_sizes m_items m_bytes m_typed m_sorts_24 m_rowOf_24 m_own_24 m_kinds_24 1)
  else
  (p_X8_back_b96 m_latest_24 m_at_24 m_seats_24 m_rows_24 m_people_24 m_rings_36 m_wrongOnes_36 m_longer_36 m_forms m_sizes m_items m_bytes m_typed m_sorts_24 m_rowOf_24 m_own_24 m_kinds_24 2))))))
  else
  (some (r24, m_latest_24, m_at_24, m_seats_24, m_rows_24, m_people_24, m_rings, m_wrongOnes, m_longer, m_sorts_24, m_rowOf_24, m_own_24, m_kinds_24))))
def p_X8_back (m_latest : Int32) (m_at : Int32) (m_seats : Int32) (m_rows : Int32) (m_people : Int32) (m_rings : Int32) (m_wrongOnes : Int32) (m_longer : Int32) (m_forms : Nat → Int32) (m_sizes : Nat → Int32) (m_items : Nat → Int32) (m_bytes : Nat → Int32) (m_typed : Nat → Int32) (m_sorts : Nat → Int32) (m_rowOf : Nat → Int32) (m_own : Nat → Int32) (m_kinds : Nat → Int32) (x1 : Int32) (x2 : Int32) : Option (Int32 × Int32 × Int32 × Int32 × Int32 × Int32 × Int32 × Int32 × Int32 × (Nat → Int32) × (Nat → Int32) × (Nat → Int32) × (Nat → Int32)) := p_X8_back_b0 m_latest m_at m_seats m_rows m_people m_rings m_wrongOnes m_longer m_forms m_sizes m_items m_bytes m_typed m_sorts m_rowOf m_own m_kinds x1 x2
-- X8_seen
def p_X8_seen_b26 (m_sights : Int32) (m_sightWho : Nat → Int32) (m_sightWhere : Nat → Int32)  : Option (Int32 × Int32 × (Nat → Int32) × (Nat → Int32)) :=
  some ((-2), m_sights, m_sightWho, m_sightWhere)
def p_X8_seen_b0 (m_sights : Int32) (m_sightWho : Nat → Int32) (m_sightWhere : Nat → Int32) (x1 : Int32) (x2 : Int32) : Option (Int32 × Int32 × (Nat → Int32) × (Nat → Int32)) :=
  b1 (p_X8_in  x1.toInt64 (-1) 7) fun r8 =>
  if r8 = 0 then
  (p_X8_seen_b26 m_sights m_sightWho m_sightWhere )
  else
  (b1 (p_X8_in  x2.toInt64 0 7) fun r20 =>
  if r20 = 0 then
  (p_X8_seen_b26 m_sights m_sightWho m_sightWhere )
  else
  (if m_sights = 8 then
  (some ((-4), m_sights, m_sightWho, m_sightWhere))
  else
  (gd (inB m_sights 8) <|
  nm (upd m_sightWho m_sights.toNatClampNeg x1) fun m_sightWho_50 =>
  gd (inB m_sights 8) <|
  nm (upd m_sightWhere m_sights.toNatClampNeg x2) fun m_sightWhere_60 =>
  nm ((m_sights + 1) : Int32) fun m_sights_68 =>
  some (m_sights_68, m_sights_68, m_sightWho_50, m_sightWhere_60))))
def p_X8_seen (m_sights : Int32) (m_sightWho : Nat → Int32) (m_sightWhere : Nat → Int32) (x1 : Int32) (x2 : Int32) : Option (Int32 × Int32 × (Nat → Int32) × (Nat → Int32)) := p_X8_seen_b0 m_sights m_sightWho m_sightWhere x1 x2
-- X8_read
def p_X8_read_b103 (m_latest : Int32) (m_sights : Int32) (m_forms : Nat → Int32) (m_sizes : Nat → Int32) (m_items : Nat → Int32) (m_sightWho : Nat → Int32) (m_sightWhere : Nat → Int32) (x2 : Int32) : Option (Int32 × Int32 × Int32 × (Nat → Int32) × (Nat → Int32)) :=
  some (x2, m_latest, m_sights, m_sightWho, m_sightWhere)
def p_X8_read_b98 (K29 : Int32 → Int32 → (Nat → Int32) → (Nat → Int32) → (Nat → Int32) → (Nat → Int32) → (Nat → Int32) → Int32 → Int32 → Int32 → Option (Int32 × Int32 × Int32 × (Nat → Int32) × (Nat → Int32))) (m_latest : Int32) (m_sights : Int32) (m_forms : Nat → Int32) (m_sizes : Nat → Int32) (m_items : Nat → Int32) (m_sightWho : Nat → Int32) (m_sightWhere : Nat → Int32) (t0 : Int32) (t1 : Int32) (x1 : Int32) (x3 : Int32) : Option (Int32 × Int32 × Int32 × (Nat → Int32) × (Nat → Int32)) :=
  nm ((t0 + t1) : Int32) fun x99 =>
  K29 m_latest m_sights m_forms m_sizes m_items m_sightWho m_sightWhere x1 x99 x3
def p_X8_read_b87 (K29 : Int32 → Int32 → (Nat → Int32) → (Nat → Int32) → (Nat → Int32) → (Nat → Int32) → (Nat → Int32) → Int32 → Int32 → Int32 → Option (Int32 × Int32 × Int32 × (Nat → Int32) × (Nat → Int32))) (m_latest : Int32) (m_sights : Int32) (m_forms : Nat → Int32) (m_sizes : Nat → Int32) (m_items : Nat → Int32) (m_sightWho : Nat → Int32) (m_sightWhere : Nat → Int32) (t0 : Int32) (x1 : Int32) (x2 : Int32) : Option (Int32 × Int32 × Int32 × (Nat → Int32) × (Nat → Int32)) :=
  if t0 = 0 then
  (p_X8_read_b98 K29 m_latest m_sights m_forms m_sizes m_items m_sightWho m_sightWhere x2 0 x1 t0)
  else
  (p_X8_read_b98 K29 m_latest m_sights m_forms m_sizes m_items m_sightWho m_sightWhere x2 1 x1 t0)
def p_X8_read_b29x (K29 : Int32 → Int32 → (Nat → Int32) → (Nat → Int32) → (Nat → Int32) → (Nat → Int32) → (Nat → Int32) → Int32 → Int32 → Int32 → Option (Int32 × Int32 × Int32 × (Nat → Int32) × (Nat → Int32))) (m_latest : Int32) (m_sights : Int32) (m_forms : Nat → Int32) (m_sizes : Nat → Int32) (m_items : Nat → Int32) (m_sightWho : Nat → Int32) (m_sightWhere : Nat → Int32) (x1 : Int32) (x2 : Int32) (x3 : Int32) : Option (Int32 × Int32 × Int32 × (Nat → Int32) × (Nat → Int32)) :=
  if x3 = 0 then
  (p_X8_read_b103 m_latest m_sights m_forms m_sizes m_items m_sightWho m_sightWhere x2)
  else
  (gd (inB x1 4) <|
  if (m_sizes x1.toNatClampNeg) < ((2 * x2) + 2) then
  (p_X8_read_b103 m_latest m_sights m_forms m_sizes m_items m_sightWho m_sightWhere x2)
  else
  (gd (inB ((60 * x1) + (2 * x2)) 240) <|
  gd (inB (((60 * x1) + (2 * x2)) + 1) 240) <|
  b4 (p_X8_seen m_sights m_sightWho m_sightWhere (m_items ((60 * x1) + (2 * x2)).toNatClampNeg) (m_items (((60 * x1) + (2 * x2)) + 1).toNatClampNeg)) fun r76 m_sights_76 m_sightWho_76 m_sightWhere_76 =>
  if r76 < 0 then
  (p_X8_read_b87 K29 m_latest m_sights_76 m_forms m_sizes m_items m_sightWho_76 m_sightWhere_76 0 x1 x2)
  else
  (p_X8_read_b87 K29 m_latest m_sights_76 m_forms m_sizes m_items m_sightWho_76 m_sightWhere_76 1 x1 x2)))
def p_X8_read_b29 : Nat → Int32 → Int32 → (Nat → Int32) → (Nat → Int32) → (Nat → Int32) → (Nat → Int32) → (Nat → Int32) → Int32 → Int32 → Int32 → Option (Int32 × Int32 × Int32 × (Nat → Int32) × (Nat → Int32))
  | 0 => fun _ _ _ _ _ _ _ _ _ _ => none
  | n + 1 => p_X8_read_b29x (p_X8_read_b29 n)
def p_X8_read_b0 (m_latest : Int32) (m_sights : Int32) (m_forms : Nat → Int32) (m_sizes : Nat → Int32) (m_items : Nat → Int32) (m_sightWho : Nat → Int32) (m_sightWhere : Nat → Int32) (x1 : Int32) : Option (Int32 × Int32 × Int32 × (Nat → Int32) × (Nat → Int32)) :=
  b1 (p_X8_isSheet  x1) fun r1 =>
  if r1 = 0 then
  (some ((-2), m_latest, m_sights, m_sightWho, m_sightWhere))
  else
  (gd (inB x1 4) <|
  if 0 ≤ (m_forms x1.toNatClampNeg) then
  (p_X8_read_b29 4096 m_latest m_sights m_forms m_sizes m_items m_sightWho m_sightWhere x1 0 1)
  else
  (b2 (p_X8_met m_latest 1) fun r21 m_latest_21 =>
  some (r21, m_latest_21, m_sights, m_sightWho, m_sightWhere)))
def p_X8_read (m_latest : Int32) (m_sights : Int32) (m_forms : Nat → Int32) (m_sizes : Nat → Int32) (m_items : Nat → Int32) (m_sightWho : Nat → Int32) (m_sightWhere : Nat → Int32) (x1 : Int32) : Option (Int32 × Int32 × Int32 × (Nat → Int32) × (Nat → Int32)) := p_X8_read_b0 m_latest m_sights m_forms m_sizes m_items m_sightWho m_sightWhere x1
-- X8_forget
def p_X8_forget_b0 (m_sights : Int32)  : Option (Int32 × Int32) :=
  nm (m_sights : Int32) fun x4 =>
  some (x4, 0)
def p_X8_forget (m_sights : Int32)  : Option (Int32 × Int32) := p_X8_forget_b0 m_sights 
-- X8_laysBounds
def p_X8_laysBounds_b44 (m_seats : Int32) (m_people : Int32) (m_loser : Int32) (m_onlyWho : Int32) (m_keptFree : Int32) (m_sights : Int32) (m_keptSeat : Nat → Int32) (m_sightWho : Nat → Int32) (m_sightWhere : Nat → Int32)  : Option (Int32 × Int32 × Int32 × Int32 × (Nat → Int32)) :=
  some (0, m_loser, m_onlyWho, m_keptFree, m_keptSeat)
def p_X8_laysBounds_b95 (K6 : Int32 → Int32 → Int32 → Int32 → Int32 → Int32 → (Nat → Int32) → (Nat → Int32) → (Nat → Int32) → Int32 → Option (Int32 × Int32 × Int32 × Int32 × (Nat → Int32))) (m_seats : Int32) (m_people : Int32) (m_loser : Int32) (m_onlyWho : Int32) (m_keptFree : Int32) (m_sights : Int32) (m_keptSeat : Nat → Int32) (m_sightWho : Nat → Int32) (m_sightWhere : Nat → Int32) (x1 : Int32) : Option (Int32 × Int32 × Int32 × Int32 × (Nat → Int32)) :=
  nm (x1 + 1 : Int32) fun x95 =>
  K6 m_seats m_people m_loser m_onlyWho m_keptFree m_sights m_keptSeat m_sightWho m_sightWhere x95
def p_X8_laysBounds_b88 (K6 : Int32 → Int32 → Int32 → Int32 → Int32 → Int32 → (Nat → Int32) → (Nat → Int32) → (Nat → Int32) → Int32 → Option (Int32 × Int32 × Int32 × Int32 × (Nat → Int32))) (m_seats : Int32) (m_people : Int32) (m_loser : Int32) (m_onlyWho : Int32) (m_keptFree : Int32) (m_sights : Int32) (m_keptSeat : Nat → Int32) (m_sightWho : Nat → Int32) (m_sightWhere : Nat → Int32) (x1 : Int32) (x2 : Int32) (x3 : Int32) : Option (Int32 × Int32 × Int32 × Int32 × (Nat → Int32)) :=
  gd (inB x2 8) <|
  nm (upd m_keptSeat x2.toNatClampNeg x3) fun m_keptSeat_94 =>
  p_X8_laysBounds_b95 K6 m_seats m_people m_loser m_onlyWho m_keptFree m_sights m_keptSeat_94 m_sightWho m_sightWhere x1
def p_X8_laysBounds_b6x (K6 : Int32 → Int32 → Int32 → Int32 → Int32 → Int32 → (Nat → Int32) → (Nat → Int32) → (Nat → Int32) → Int32 → Option (Int32 × Int32 × Int32 × Int32 × (Nat → Int32))) (m_seats : Int32) (m_people : Int32) (m_loser : Int32) (m_onlyWho : Int32) (m_keptFree : Int32) (m_sights : Int32) (m_keptSeat : Nat → Int32) (m_sightWho : Nat → Int32) (m_sightWhere : Nat → Int32) (x1 : Int32) : Option (Int32 × Int32 × Int32 × Int32 × (Nat → Int32)) :=
  if m_sights ≤ x1 then
  (some (1, m_loser, m_onlyWho, m_keptFree, m_keptSeat))
  else
  (gd (inB x1 8) <|
  nm ((m_sightWho x1.toNatClampNeg) : Int32) fun x20 =>
  gd (inB x1 8) <|
  nm ((m_sightWhere x1.toNatClampNeg) : Int32) fun x27 =>
  b1 (p_X8_isSeatNow m_seats x27) fun r30 =>
  if r30 = 0 then
  (p_X8_laysBounds_b44 m_seats m_people m_loser m_onlyWho m_keptFree m_sights m_keptSeat m_sightWho m_sightWhere )
  else
  (if x20 < m_people then
  (if x20 = (-1) then
  (nm ((m_keptFree ||| ((1 : Int32) <<< (x27 &&& 31))) : Int32) fun m_keptFree_60 =>
  p_X8_laysBounds_b95 K6 m_seats m_people m_loser m_onlyWho m_keptFree_60 m_sights m_keptSeat m_sightWho m_sightWhere x1)
  else
  (gd (inB x20 8) <|
  if (m_keptSeat x20.toNatClampNeg) = (-1) then
  (p_X8_laysBounds_b88 K6 m_seats m_people m_loser m_onlyWho m_keptFree m_sights m_keptSeat m_sightWho m_sightWhere x1 x20 x27)
  else
  (gd (inB x20 8) <|
  if (m_keptSeat x20.toNatClampNeg) = x27 then
  (p_X8_laysBounds_b88 K6 m_seats m_people m_loser m_onlyWho m_keptFree m_sights m_keptSeat m_sightWho m_sightWhere x1 x20 x27)
  else
  (some (0, m_loser, m_onlyWho, m_keptFree, m_keptSeat)))))
  else
  (p_X8_laysBounds_b44 m_seats m_people m_loser m_onlyWho m_keptFree m_sights m_keptSeat m_sightWho m_sightWhere )))
def p_X8_laysBounds_b6 : Nat → Int32 → Int32 → Int32 → Int32 → Int32 → Int32 → (Nat → Int32) → (Nat → Int32) → (Nat → Int32) → Int32 → Option (Int32 × Int32 × Int32 × Int32 × (Nat → Int32))
  | 0 => fun _ _ _ _ _ _ _ _ _ _ => none
  | n + 1 => p_X8_laysBounds_b6x (p_X8_laysBounds_b6 n)
def p_X8_laysBounds_b0 (m_seats : Int32) (m_people : Int32) (m_loser : Int32) (m_onlyWho : Int32) (m_keptFree : Int32) (m_sights : Int32) (m_keptSeat : Nat → Int32) (m_sightWho : Nat → Int32) (m_sightWhere : Nat → Int32)  : Option (Int32 × Int32 × Int32 × Int32 × (Nat → Int32)) :=
  b4 (p_X8_noBounds m_loser m_onlyWho m_keptFree m_keptSeat) fun m_loser_1 m_onlyWho_1 m_keptFree_1 m_keptSeat_1 =>
  p_X8_laysBounds_b6 4096 m_seats m_people m_loser_1 m_onlyWho_1 m_keptFree_1 m_sights m_keptSeat_1 m_sightWho m_sightWhere 0
def p_X8_laysBounds (m_seats : Int32) (m_people : Int32) (m_loser : Int32) (m_onlyWho : Int32) (m_keptFree : Int32) (m_sights : Int32) (m_keptSeat : Nat → Int32) (m_sightWho : Nat → Int32) (m_sightWhere : Nat → Int32)  : Option (Int32 × Int32 × Int32 × Int32 × (Nat → Int32)) := p_X8_laysBounds_b0 m_seats m_people m_loser m_onlyWho m_keptFree m_sights m_keptSeat m_sightWho m_sightWhere 
-- X8_seenWith
def p_X8_seenWith_b60x (K60 : Int32 → Int32 → Int32 → Int32 → Int32 → Int32 → Int32 → Int64 → (Nat → Int32) → (Nat → Int32) → (Nat → Int32) → (Nat → Int32) → (Nat → Int32) → (Nat → Int32) → (Nat → Int64) → (Nat → Int64) → Int64 → Int32 → Option (Int64 × Int32 × Int32 × Int32 × Int32 × Int64 × (Nat → Int32) × (Nat → Int64) × (Nat → Int64))) (m_seats : Int32) (m_people : Int32) (m_loser : Int32) (m_onlyWho : Int32) (m_onlyWhere : Int32) (m_keptFree : Int32) (m_sights : Int32) (m_all : Int64) (m_sorts : Nat → Int32) (m_own : Nat → Int32) (m_kinds : Nat → Int32) (m_keptSeat : Nat → Int32) (m_sightWho : Nat → Int32) (m_sightWhere : Nat → Int32) (m_ways : Nat → Int64) (m_next : Nat → Int64) (x4 : Int64) (x6 : Int32) : Option (Int64 × Int32 × Int32 × Int32 × Int32 × Int64 × (Nat → Int32) × (Nat → Int64) × (Nat → Int64)) :=
  b1 (p_X8_whole m_seats) fun r63 =>
  if r63 < x6 then
  (some (x4, m_loser, m_onlyWho, m_onlyWhere, m_keptFree, m_all, m_keptSeat, m_ways, m_next))
  else
  (gd (inB x6 256) <|
  nm ((x4 + (m_ways x6.toNatClampNeg)) : Int64) fun x79 =>
  nm (x6 + 1 : Int32) fun x81 =>
  K60 m_seats m_people m_loser m_onlyWho m_onlyWhere m_keptFree m_sights m_all m_sorts m_own m_kinds m_keptSeat m_sightWho m_sightWhere m_ways m_next x79 x81)
def p_X8_seenWith_b60 : Nat → Int32 → Int32 → Int32 → Int32 → Int32 → Int32 → Int32 → Int64 → (Nat → Int32) → (Nat → Int32) → (Nat → Int32) → (Nat → Int32) → (Nat → Int32) → (Nat → Int32) → (Nat → Int64) → (Nat → Int64) → Int64 → Int32 → Option (Int64 × Int32 × Int32 × Int32 × Int32 × Int64 × (Nat → Int32) × (Nat → Int64) × (Nat → Int64))
  | 0 => fun _ _ _ _ _ _ _ _ _ _ _ _ _ _ _ _ _ _ => none
  | n + 1 => p_X8_seenWith_b60x (p_X8_seenWith_b60 n)
def p_X8_seenWith_b31x (K31 : Int32 → Int32 → Int32 → Int32 → Int32 → Int32 → Int32 → Int64 → (Nat → Int32) → (Nat → Int32) → (Nat → Int32) → (Nat → Int32) → (Nat → Int32) → (Nat → Int32) → (Nat → Int64) → (Nat → Int64) → Int32 → Option (Int64 × Int32 × Int32 × Int32 × Int32 × Int64 × (Nat → Int32) × (Nat → Int64) × (Nat → Int64))) (m_seats : Int32) (m_people : Int32) (m_loser : Int32) (m_onlyWho : Int32) (m_onlyWhere : Int32) (m_keptFree : Int32) (m_sights : Int32) (m_all : Int64) (m_sorts : Nat → Int32) (m_own : Nat → Int32) (m_kinds : Nat → Int32) (m_keptSeat : Nat → Int32) (m_sightWho : Nat → Int32) (m_sightWhere : Nat → Int32) (m_ways : Nat → Int64) (m_next : Nat → Int64) (x4 : Int32) : Option (Int64 × Int32 × Int32 × Int32 × Int32 × Int64 × (Nat → Int32) × (Nat → Int64) × (Nat → Int64)) :=
  if m_people ≤ x4 then
  (p_X8_seenWith_b60 4096 m_seats m_people m_loser m_onlyWho m_onlyWhere m_keptFree m_sights m_all m_sorts m_own m_kinds m_keptSeat m_sightWho m_sightWhere m_ways m_next 0 0)
  else
  (b3 (p_X8_sits m_seats m_loser m_onlyWho m_onlyWhere m_keptFree m_all m_sorts m_own m_kinds m_keptSeat m_ways m_next x4 x4) fun m_all_45 m_ways_45 m_next_45 =>
  nm (x4 + 1 : Int32) fun x48 =>
  K31 m_seats m_people m_loser m_onlyWho m_onlyWhere m_keptFree m_sights m_all_45 m_sorts m_own m_kinds m_keptSeat m_sightWho m_sightWhere m_ways_45 m_next_45 x48)
def p_X8_seenWith_b31 : Nat → Int32 → Int32 → Int32 → Int32 → Int32 → Int32 → Int32 → Int64 → (Nat → Int32) → (Nat → Int32) → (Nat → Int32) → (Nat → Int32) → (Nat → Int32) → (Nat → Int32) → (Nat → Int64) → (Nat → Int64) → Int32 → Option (Int64 × Int32 × Int32 × Int32 × Int32 × Int64 × (Nat → Int32) × (Nat → Int64) × (Nat → Int64))
  | 0 => fun _ _ _ _ _ _ _ _ _ _ _ _ _ _ _ _ _ => none
  | n + 1 => p_X8_seenWith_b31x (p_X8_seenWith_b31 n)
def p_X8_seenWith_b0 (m_seats : Int32) (m_people : Int32) (m_loser : Int32) (m_onlyWho : Int32) (m_onlyWhere : Int32) (m_keptFree : Int32) (m_sights : Int32) (m_all : Int64) (m_sorts : Nat → Int32) (m_own : Nat → Int32) (m_kinds : Nat → Int32) (m_keptSeat : Nat → Int32) (m_sightWho : Nat → Int32) (m_sightWhere : Nat → Int32) (m_ways : Nat → Int64) (m_next : Nat → Int64) (x1 : Int32) (x2 : Int32) (x3 : Int32) : Option (Int64 × Int32 × Int32 × Int32 × Int32 × Int64 × (Nat → Int32) × (Nat → Int64) × (Nat → Int64)) :=
  b5 (p_X8_laysBounds m_seats m_people m_loser m_onlyWho m_keptFree m_sights m_keptSeat m_sightWho m_sightWhere) fun r1 m_loser_1 m_onlyWho_1 m_keptFree_1 m_keptSeat_1 =>
  if r1 = 0 then
  (some (0, m_loser_1, m_onlyWho_1, m_onlyWhere, m_keptFree_1, m_all, m_keptSeat_1, m_ways, m_next))
  else
  (b2 (p_X8_begins m_all m_ways) fun m_all_25 m_ways_25 =>
  p_X8_seenWith_b31 4096 m_seats m_people x1 x2 x3 m_keptFree_1 m_sights m_all_25 m_sorts m_own m_kinds m_keptSeat_1 m_sightWho m_sightWhere m_ways_25 m_next 0)
def p_X8_seenWith (m_seats : Int32) (m_people : Int32) (m_loser : Int32) (m_onlyWho : Int32) (m_onlyWhere : Int32) (m_keptFree : Int32) (m_sights : Int32) (m_all : Int64) (m_sorts : Nat → Int32) (m_own : Nat → Int32) (m_kinds : Nat → Int32) (m_keptSeat : Nat → Int32) (m_sightWho : Nat → Int32) (m_sightWhere : Nat → Int32) (m_ways : Nat → Int64) (m_next : Nat → Int64) (x1 : Int32) (x2 : Int32) (x3 : Int32) : Option (Int64 × Int32 × Int32 × Int32 × Int32 × Int64 × (Nat → Int32) × (Nat → Int64) × (Nat → Int64)) := p_X8_seenWith_b0 m_seats m_people m_loser m_onlyWho m_onlyWhere m_keptFree m_sights m_all m_sorts m_own m_kinds m_keptSeat m_sightWho m_sightWhere m_ways m_next x1 x2 x3
-- X8_losersNow
def p_X8_losersNow_b41 (K4 : Int32 → Int32 → Int32 → Int32 → Int32 → Int32 → Int32 → Int64 → (Nat → Int32) → (Nat → Int32) → (Nat → Int32) → (Nat → Int32) → (Nat → Int32) → (Nat → Int32) → (Nat → Int64) → (Nat → Int64) → Int32 → Int32 → Option (Int32 × Int32 × Int32 × Int32 × Int32 × Int64 × (Nat → Int32) × (Nat → Int64) × (Nat → Int64))) (m_seats : Int32) (m_people : Int32) (m_loser : Int32) (m_onlyWho : Int32) (m_onlyWhere : Int32) (m_keptFree : Int32) (m_sights : Int32) (m_all : Int64) (m_sorts : Nat → Int32) (m_own : Nat → Int32) (m_kinds : Nat → Int32) (m_keptSeat : Nat → Int32) (m_sightWho : Nat → Int32) (m_sightWhere : Nat → Int32) (m_ways : Nat → Int64) (m_next : Nat → Int64) (t0 : Int32) (t1 : Int32) (x2 : Int32) : Option (Int32 × Int32 × Int32 × Int32 × Int32 × Int64 × (Nat → Int32) × (Nat → Int64) × (Nat → Int64)) :=
  nm ((t0 ||| t1) : Int32) fun x42 =>
  nm (x2 + 1 : Int32) fun x43 =>
  K4 m_seats m_people m_loser m_onlyWho m_onlyWhere m_keptFree m_sights m_all m_sorts m_own m_kinds m_keptSeat m_sightWho m_sightWhere m_ways m_next x42 x43
def p_X8_losersNow_b40 (K4 : Int32 → Int32 → Int32 → Int32 → Int32 → Int32 → Int32 → Int64 → (Nat → Int32) → (Nat → Int32) → (Nat → Int32) → (Nat → Int32) → (Nat → Int32) → (Nat → Int32) → (Nat → Int64) → (Nat → Int64) → Int32 → Int32 → Option (Int32 × Int32 × Int32 × Int32 × Int32 × Int64 × (Nat → Int32) × (Nat → Int64) × (Nat → Int64))) (m_seats : Int32) (m_people : Int32) (m_loser : Int32) (m_onlyWho : Int32) (m_onlyWhere : Int32) (m_keptFree : Int32) (m_sights : Int32) (m_all : Int64) (m_sorts : Nat → Int32) (m_own : Nat → Int32) (m_kinds : Nat → Int32) (m_keptSeat : Nat → Int32) (m_sightWho : Nat → Int32) (m_sightWhere : Nat → Int32) (m_ways : Nat → Int64) (m_next : Nat → Int64) (t0 : Int32) (x2 : Int32) : Option (Int32 × Int32 × Int32 × Int32 × Int32 × Int64 × (Nat → Int32) × (Nat → Int64) × (Nat → Int64)) :=
  p_X8_losersNow_b41 K4 m_seats m_people m_loser m_onlyWho m_onlyWhere m_keptFree m_sights m_all m_sorts m_own m_kinds m_keptSeat m_sightWho m_sightWhere m_ways m_next t0 0 x2
def p_X8_losersNow_b4x (K4 : Int32 → Int32 → Int32 → Int32 → Int32 → Int32 → Int32 → Int64 → (Nat → Int32) → (Nat → Int32) → (Nat → Int32) → (Nat → Int32) → (Nat → Int32) → (Nat → Int32) → (Nat → Int64) → (Nat → Int64) → Int32 → Int32 → Option (Int32 × Int32 × Int32 × Int32 × Int32 × Int64 × (Nat → Int32) × (Nat → Int64) × (Nat → Int64))) (m_seats : Int32) (m_people : Int32) (m_loser : Int32) (m_onlyWho : Int32) (m_onlyWhere : Int32) (m_keptFree : Int32) (m_sights : Int32) (m_all : Int64) (m_sorts : Nat → Int32) (m_own : Nat → Int32) (m_kinds : Nat → Int32) (m_keptSeat : Nat → Int32) (m_sightWho : Nat → Int32) (m_sightWhere : Nat → Int32) (m_ways : Nat → Int64) (m_next : Nat → Int64) (x1 : Int32) (x2 : Int32) : Option (Int32 × Int32 × Int32 × Int32 × Int32 × Int64 × (Nat → Int32) × (Nat → Int64) × (Nat → Int64)) :=
  if m_people ≤ x2 then
  (some (x1, m_loser, m_onlyWho, m_onlyWhere, m_keptFree, m_all, m_keptSeat, m_ways, m_next))
  else
  (gd (inB x2 8) <|
  if (m_kinds x2.toNatClampNeg) = 0 then
  (b9 (p_X8_seenWith m_seats m_people m_loser m_onlyWho m_onlyWhere m_keptFree m_sights m_all m_sorts m_own m_kinds m_keptSeat m_sightWho m_sightWhere m_ways m_next x2 (-1) 0) fun r26 m_loser_26 m_onlyWho_26 m_onlyWhere_26 m_keptFree_26 m_all_26 m_keptSeat_26 m_ways_26 m_next_26 =>
  if (lg_cmp r26 0) ≤ 0 then
  (p_X8_losersNow_b40 K4 m_seats m_people m_loser_26 m_onlyWho_26 m_onlyWhere_26 m_keptFree_26 m_sights m_all_26 m_sorts m_own m_kinds m_keptSeat_26 m_sightWho m_sightWhere m_ways_26 m_next_26 x1 x2)
  else
  (p_X8_losersNow_b41 K4 m_seats m_people m_loser_26 m_onlyWho_26 m_onlyWhere_26 m_keptFree_26 m_sights m_all_26 m_sorts m_own m_kinds m_keptSeat_26 m_sightWho m_sightWhere m_ways_26 m_next_26 x1 ((1 : Int32) <<< (x2 &&& 31)) x2))
  else
  (p_X8_losersNow_b40 K4 m_seats m_people m_loser m_onlyWho m_onlyWhere m_keptFree m_sights m_all m_sorts m_own m_kinds m_keptSeat m_sightWho m_sightWhere m_ways m_next x1 x2))
def p_X8_losersNow_b4 : Nat → Int32 → Int32 → Int32 → Int32 → Int32 → Int32 → Int32 → Int64 → (Nat → Int32) → (Nat → Int32) → (Nat → Int32) → (Nat → Int32) → (Nat → Int32) → (Nat → Int32) → (Nat → Int64) → (Nat → Int64) → Int32 → Int32 → Option (Int32 × Int32 × Int32 × Int32 × Int32 × Int64 × (Nat → Int32) × (Nat → Int64) × (Nat → Int64))
  | 0 => fun _ _ _ _ _ _ _ _ _ _ _ _ _ _ _ _ _ _ => none
  | n + 1 => p_X8_losersNow_b4x (p_X8_losersNow_b4 n)
def p_X8_losersNow_b0 (m_seats : Int32) (m_people : Int32) (m_loser : Int32) (m_onlyWho : Int32) (m_onlyWhere : Int32) (m_keptFree : Int32) (m_sights : Int32) (m_all : Int64) (m_sorts : Nat → Int32) (m_own : Nat → Int32) (m_kinds : Nat → Int32) (m_keptSeat : Nat → Int32) (m_sightWho : Nat → Int32) (m_sightWhere : Nat → Int32) (m_ways : Nat → Int64) (m_next : Nat → Int64)  : Option (Int32 × Int32 × Int32 × Int32 × Int32 × Int64 × (Nat → Int32) × (Nat → Int64) × (Nat → Int64)) :=
  p_X8_losersNow_b4 4096 m_seats m_people m_loser m_onlyWho m_onlyWhere m_keptFree m_sights m_all m_sorts m_own m_kinds m_keptSeat m_sightWho m_sightWhere m_ways m_next 0 0
def p_X8_losersNow (m_seats : Int32) (m_people : Int32) (m_loser : Int32) (m_onlyWho : Int32) (m_onlyWhere : Int32) (m_keptFree : Int32) (m_sights : Int32) (m_all : Int64) (m_sorts : Nat → Int32) (m_own : Nat → Int32) (m_kinds : Nat → Int32) (m_keptSeat : Nat → Int32) (m_sightWho : Nat → Int32) (m_sightWhere : Nat → Int32) (m_ways : Nat → Int64) (m_next : Nat → Int64)  : Option (Int32 × Int32 × Int32 × Int32 × Int32 × Int64 × (Nat → Int32) × (Nat → Int64) × (Nat → Int64)) := p_X8_losersNow_b0 m_seats m_people m_loser m_onlyWho m_onlyWhere m_keptFree m_sights m_all m_sorts m_own m_kinds m_keptSeat m_sightWho m_sightWhere m_ways m_next 
-- X8_losers
def p_X8_losers_b0 (m_at : Int32) (m_seats : Int32) (m_rows : Int32) (m_people : Int32) (m_loser : Int32) (m_onlyWho : Int32) (m_onlyWhere : Int32) (m_keptFree : Int32) (m_sights : Int32) (m_all : Int64) (m_bytes : Nat → Int32) (m_typed : Nat → Int32) (m_sorts : Nat → Int32) (m_rowOf : Nat → Int32) (m_own : Nat → Int32) (m_kinds : Nat → Int32) (m_keptSeat : Nat → Int32) (m_sightWho : Nat → Int32) (m_sightWhere : Nat → Int32) (m_ways : Nat → Int64) (m_next : Nat → Int64)  : Option (Int32 × Int32 × Int32 × Int32 × Int32 × Int32 × Int32 × Int32 × Int32 × Int64 × (Nat → Int32) × (Nat → Int32) × (Nat → Int32) × (Nat → Int32) × (Nat → Int32) × (Nat → Int64) × (Nat → Int64)) :=
  b8 (p_X8_find m_at m_seats m_rows m_people m_bytes m_typed m_sorts m_rowOf m_own m_kinds) fun m_at_1 m_seats_1 m_rows_1 m_people_1 m_sorts_1 m_rowOf_1 m_own_1 m_kinds_1 =>
  b9 (p_X8_losersNow m_seats_1 m_people_1 m_loser m_onlyWho m_onlyWhere m_keptFree m_sights m_all m_sorts_1 m_own_1 m_kinds_1 m_keptSeat m_sightWho m_sightWhere m_ways m_next) fun r5 m_loser_5 m_onlyWho_5 m_onlyWhere_5 m_keptFree_5 m_all_5 m_keptSeat_5 m_ways_5 m_next_5 =>
  some (r5, m_at_1, m_seats_1, m_rows_1, m_people_1, m_loser_5, m_onlyWho_5, m_onlyWhere_5, m_keptFree_5, m_all_5, m_sorts_1, m_rowOf_1, m_own_1, m_kinds_1, m_keptSeat_5, m_ways_5, m_next_5)
def p_X8_losers (m_at : Int32) (m_seats : Int32) (m_rows : Int32) (m_people : Int32) (m_loser : Int32) (m_onlyWho : Int32) (m_onlyWhere : Int32) (m_keptFree : Int32) (m_sights : Int32) (m_all : Int64) (m_bytes : Nat → Int32) (m_typed : Nat → Int32) (m_sorts : Nat → Int32) (m_rowOf : Nat → Int32) (m_own : Nat → Int32) (m_kinds : Nat → Int32) (m_keptSeat : Nat → Int32) (m_sightWho : Nat → Int32) (m_sightWhere : Nat → Int32) (m_ways : Nat → Int64) (m_next : Nat → Int64)  : Option (Int32 × Int32 × Int32 × Int32 × Int32 × Int32 × Int32 × Int32 × Int32 × Int64 × (Nat → Int32) × (Nat → Int32) × (Nat → Int32) × (Nat → Int32) × (Nat → Int32) × (Nat → Int64) × (Nat → Int64)) := p_X8_losers_b0 m_at m_seats m_rows m_people m_loser m_onlyWho m_onlyWhere m_keptFree m_sights m_all m_bytes m_typed m_sorts m_rowOf m_own m_kinds m_keptSeat m_sightWho m_sightWhere m_ways m_next 
-- X8_share
def p_X8_share_b24 (m_at : Int32) (m_seats : Int32) (m_rows : Int32) (m_people : Int32) (m_loser : Int32) (m_onlyWho : Int32) (m_onlyWhere : Int32) (m_keptFree : Int32) (m_sights : Int32) (m_all : Int64) (m_bytes : Nat → Int32) (m_typed : Nat → Int32) (m_sorts : Nat → Int32) (m_rowOf : Nat → Int32) (m_own : Nat → Int32) (m_kinds : Nat → Int32) (m_keptSeat : Nat → Int32) (m_sightWho : Nat → Int32) (m_sightWhere : Nat → Int32) (m_ways : Nat → Int64) (m_next : Nat → Int64)  : Option (Int64 × Int32 × Int32 × Int32 × Int32 × Int32 × Int32 × Int32 × Int32 × Int64 × (Nat → Int32) × (Nat → Int32) × (Nat → Int32) × (Nat → Int32) × (Nat → Int32) × (Nat → Int64) × (Nat → Int64)) :=
  b1 (p_X8_no  (-2)) fun r26 =>
  some (r26, m_at, m_seats, m_rows, m_people, m_loser, m_onlyWho, m_onlyWhere, m_keptFree, m_all, m_sorts, m_rowOf, m_own, m_kinds, m_keptSeat, m_ways, m_next)
def p_X8_share_b101 (m_at : Int32) (m_seats : Int32) (m_rows : Int32) (m_people : Int32) (m_loser : Int32) (m_onlyWho : Int32) (m_onlyWhere : Int32) (m_keptFree : Int32) (m_sights : Int32) (m_all : Int64) (m_bytes : Nat → Int32) (m_typed : Nat → Int32) (m_sorts : Nat → Int32) (m_rowOf : Nat → Int32) (m_own : Nat → Int32) (m_kinds : Nat → Int32) (m_keptSeat : Nat → Int32) (m_sightWho : Nat → Int32) (m_sightWhere : Nat → Int32) (m_ways : Nat → Int64) (m_next : Nat → Int64) (t0 : Int64) : Option (Int64 × Int32 × Int32 × Int32 × Int32 × Int32 × Int32 × Int32 × Int32 × Int64 × (Nat → Int32) × (Nat → Int32) × (Nat → Int32) × (Nat → Int32) × (Nat → Int32) × (Nat → Int64) × (Nat → Int64)) :=
  some (t0, m_at, m_seats, m_rows, m_people, m_loser, m_onlyWho, m_onlyWhere, m_keptFree, m_all, m_sorts, m_rowOf, m_own, m_kinds, m_keptSeat, m_ways, m_next)
def p_X8_share_b67 (K35 : Int32 → Int32 → Int32 → Int32 → Int32 → Int32 → Int32 → Int32 → Int32 → Int64 → (Nat → Int32) → (Nat → Int32) → (Nat → Int32) → (Nat → Int32) → (Nat → Int32) → (Nat → Int32) → (Nat → Int32) → (Nat → Int32) → (Nat → Int32) → (Nat → Int64) → (Nat → Int64) → Int32 → Int32 → Int64 → Int32 → Option (Int64 × Int32 × Int32 × Int32 × Int32 × Int32 × Int32 × Int32 × Int32 × Int64 × (Nat → Int32) × (Nat → Int32) × (Nat → Int32) × (Nat → Int32) × (Nat → Int32) × (Nat → Int64) × (Nat → Int64))) (m_at : Int32) (m_seats : Int32) (m_rows : Int32) (m_people : Int32) (m_loser : Int32) (m_onlyWho : Int32) (m_onlyWhere : Int32) (m_keptFree : Int32) (m_sights : Int32) (m_all : Int64) (m_bytes : Nat → Int32) (m_typed : Nat → Int32) (m_sorts : Nat → Int32) (m_rowOf : Nat → Int32) (m_own : Nat → Int32) (m_kinds : Nat → Int32) (m_keptSeat : Nat → Int32) (m_sightWho : Nat → Int32) (m_sightWhere : Nat → Int32) (m_ways : Nat → Int64) (m_next : Nat → Int64) (t0 : Int64) (t1 : Int64) (x1 : Int32) (x2 : Int32) (x5 : Int32) : Option (Int64 × Int32 × Int32 × Int32 × Int32 × Int32 × Int32 × Int32 × Int32 × Int64 × (Nat → Int32) × (Nat → Int32) × (Nat → Int32) × (Nat → Int32) × (Nat → Int32) × (Nat → Int64) × (Nat → Int64)) :=
  nm ((t0 + t1) : Int64) fun x68 =>
  nm (x5 + 1 : Int32) fun x69 =>
  K35 m_at m_seats m_rows m_people m_loser m_onlyWho m_onlyWhere m_keptFree m_sights m_all m_bytes m_typed m_sorts m_rowOf m_own m_kinds m_keptSeat m_sightWho m_sightWhere m_ways m_next x1 x2 x68 x69
def p_X8_share_b35x (K35 : Int32 → Int32 → Int32 → Int32 → Int32 → Int32 → Int32 → Int32 → Int32 → Int64 → (Nat → Int32) → (Nat → Int32) → (Nat → Int32) → (Nat → Int32) → (Nat → Int32) → (Nat → Int32) → (Nat → Int32) → (Nat → Int32) → (Nat → Int32) → (Nat → Int64) → (Nat → Int64) → Int32 → Int32 → Int64 → Int32 → Option (Int64 × Int32 × Int32 × Int32 × Int32 × Int32 × Int32 × Int32 × Int32 × Int64 × (Nat → Int32) × (Nat → Int32) × (Nat → Int32) × (Nat → Int32) × (Nat → Int32) × (Nat → Int64) × (Nat → Int64))) (m_at : Int32) (m_seats : Int32) (m_rows : Int32) (m_people : Int32) (m_loser : Int32) (m_onlyWho : Int32) (m_onlyWhere : Int32) (m_keptFree : Int32) (m_sights : Int32) (m_all : Int64) (m_bytes : Nat → Int32) (m_typed : Nat → Int32) (m_sorts : Nat → Int32) (m_rowOf : Nat → Int32) (m_own : Nat → Int32) (m_kinds : Nat → Int32) (m_keptSeat : Nat → Int32) (m_sightWho : Nat → Int32) (m_sightWhere : Nat → Int32) (m_ways : Nat → Int64) (m_next : Nat → Int64) (x1 : Int32) (x2 : Int32) (x3 : Int64) (x5 : Int32) : Option (Int64 × Int32 × Int32 × Int32 × Int32 × Int32 × Int32 × Int32 × Int32 × Int64 × (Nat → Int32) × (Nat → Int32) × (Nat → Int32) × (Nat → Int32) × (Nat → Int32) × (Nat → Int64) × (Nat → Int64)) :=
  if m_people ≤ x5 then
  (if (lg_cmp x3 0) = 0 then
  (b1 (p_X8_no  (-3)) fun r83 =>
  p_X8_share_b101 m_at m_seats m_rows m_people m_loser m_onlyWho m_onlyWhere m_keptFree m_sights m_all m_bytes m_typed m_sorts m_rowOf m_own m_kinds m_keptSeat m_sightWho m_sightWhere m_ways m_next r83)
  else
  (b9 (p_X8_seenWith m_seats m_people m_loser m_onlyWho m_onlyWhere m_keptFree m_sights m_all m_sorts m_own m_kinds m_keptSeat m_sightWho m_sightWhere m_ways m_next x1 (-1) 0) fun r93 m_loser_93 m_onlyWho_93 m_onlyWhere_93 m_keptFree_93 m_all_93 m_keptSeat_93 m_ways_93 m_next_93 =>
  b1 (p_X8_part  r93 x3 x2) fun r98 =>
  p_X8_share_b101 m_at m_seats m_rows m_people m_loser_93 m_onlyWho_93 m_onlyWhere_93 m_keptFree_93 m_sights m_all_93 m_bytes m_typed m_sorts m_rowOf m_own m_kinds m_keptSeat_93 m_sightWho m_sightWhere m_ways_93 m_next_93 r98))
  else
  (gd (inB x5 8) <|
  if (m_kinds x5.toNatClampNeg) = 0 then
  (b9 (p_X8_seenWith m_seats m_people m_loser m_onlyWho m_onlyWhere m_keptFree m_sights m_all m_sorts m_own m_kinds m_keptSeat m_sightWho m_sightWhere m_ways m_next x5 (-1) 0) fun r60 m_loser_60 m_onlyWho_60 m_onlyWhere_60 m_keptFree_60 m_all_60 m_keptSeat_60 m_ways_60 m_next_60 =>
  p_X8_share_b67 K35 m_at m_seats m_rows m_people m_loser_60 m_onlyWho_60 m_onlyWhere_60 m_keptFree_60 m_sights m_all_60 m_bytes m_typed m_sorts m_rowOf m_own m_kinds m_keptSeat_60 m_sightWho m_sightWhere m_ways_60 m_next_60 x3 r60 x1 x2 x5)
  else
  (p_X8_share_b67 K35 m_at m_seats m_rows m_people m_loser m_onlyWho m_onlyWhere m_keptFree m_sights m_all m_bytes m_typed m_sorts m_rowOf m_own m_kinds m_keptSeat m_sightWho m_sightWhere m_ways m_next x3 0 x1 x2 x5))
def p_X8_share_b35 : Nat → Int32 → Int32 → Int32 → Int32 → Int32 → Int32 → Int32 → Int32 → Int32 → Int64 → (Nat → Int32) → (Nat → Int32) → (Nat → Int32) → (Nat → Int32) → (Nat → Int32) → (Nat → Int32) → (Nat → Int32) → (Nat → Int32) → (Nat → Int32) → (Nat → Int64) → (Nat → Int64) → Int32 → Int32 → Int64 → Int32 → Option (Int64 × Int32 × Int32 × Int32 × Int32 × Int32 × Int32 × Int32 × Int32 × Int64 × (Nat → Int32) × (Nat → Int32) × (Nat → Int32) × (Nat → Int32) × (Nat → Int32) × (Nat → Int64) × (Nat → Int64))
  | 0 => fun _ _ _ _ _ _ _ _ _ _ _ _ _ _ _ _ _ _ _ _ _ _ _ _ _ => none
  | n + 1 => p_X8_share_b35x (p_X8_share_b35 n)
def p_X8_share_b0 (m_at : Int32) (m_seats : Int32) (m_rows : Int32) (m_people : Int32) (m_loser : Int32) (m_onlyWho : Int32) (m_onlyWhere : Int32) (m_keptFree : Int32) (m_sights : Int32) (m_all : Int64) (m_bytes : Nat → Int32) (m_typed : Nat → Int32) (m_sorts : Nat → Int32) (m_rowOf : Nat → Int32) (m_own : Nat → Int32) (m_kinds : Nat → Int32) (m_keptSeat : Nat → Int32) (m_sightWho : Nat → Int32) (m_sightWhere : Nat → Int32) (m_ways : Nat → Int64) (m_next : Nat → Int64) (x1 : Int32) (x2 : Int32) : Option (Int64 × Int32 × Int32 × Int32 × Int32 × Int32 × Int32 × Int32 × Int32 × Int64 × (Nat → Int32) × (Nat → Int32) × (Nat → Int32) × (Nat → Int32) × (Nat → Int32) × (Nat → Int64) × (Nat → Int64)) :=
  b9 (p_X8_isPerson m_at m_seats m_rows m_people m_bytes m_typed m_sorts m_rowOf m_own m_kinds x1) fun r2 m_at_2 m_seats_2 m_rows_2 m_people_2 m_sorts_2 m_rowOf_2 m_own_2 m_kinds_2 =>
  if r2 = 0 then
  (p_X8_share_b24 m_at_2 m_seats_2 m_rows_2 m_people_2 m_loser m_onlyWho m_onlyWhere m_keptFree m_sights m_all m_bytes m_typed m_sorts_2 m_rowOf_2 m_own_2 m_kinds_2 m_keptSeat m_sightWho m_sightWhere m_ways m_next )
  else
  (gd (inB x1 8) <|
  if (m_kinds_2 x1.toNatClampNeg) = 0 then
  (b1 (p_X8_isTwo  x2) fun r18 =>
  if r18 = 0 then
  (p_X8_share_b24 m_at_2 m_seats_2 m_rows_2 m_people_2 m_loser m_onlyWho m_onlyWhere m_keptFree m_sights m_all m_bytes m_typed m_sorts_2 m_rowOf_2 m_own_2 m_kinds_2 m_keptSeat m_sightWho m_sightWhere m_ways m_next )
  else
  (p_X8_share_b35 4096 m_at_2 m_seats_2 m_rows_2 m_people_2 m_loser m_onlyWho m_onlyWhere m_keptFree m_sights m_all m_bytes m_typed m_sorts_2 m_rowOf_2 m_own_2 m_kinds_2 m_keptSeat m_sightWho m_sightWhere m_ways m_next x1 x2 0 0))
  else
  (p_X8_share_b24 m_at_2 m_seats_2 m_rows_2 m_people_2 m_loser m_onlyWho m_onlyWhere m_keptFree m_sights m_all m_bytes m_typed m_sorts_2 m_rowOf_2 m_own_2 m_kinds_2 m_keptSeat m_sightWho m_sightWhere m_ways m_next ))
def p_X8_share (m_at : Int32) (m_seats : Int32) (m_rows : Int32) (m_people : Int32) (m_loser : Int32) (m_onlyWho : Int32) (m_onlyWhere : Int32) (m_keptFree : Int32) (m_sights : Int32) (m_all : Int64) (m_bytes : Nat → Int32) (m_typed : Nat → Int32) (m_sorts : Nat → Int32) (m_rowOf : Nat → Int32) (m_own : Nat → Int32) (m_kinds : Nat → Int32) (m_keptSeat : Nat → Int32) (m_sightWho : Nat → Int32) (m_sightWhere : Nat → Int32) (m_ways : Nat → Int64) (m_next : Nat → Int64) (x1 : Int32) (x2 : Int32) : Option (Int64 × Int32 × Int32 × Int32 × Int32 × Int32 × Int32 × Int32 × Int32 × Int64 × (Nat → Int32) × (Nat → Int32) × (Nat → Int32) × (Nat → Int32) × (Nat → Int32) × (Nat → Int64) × (Nat → Int64)) := p_X8_share_b0 m_at m_seats m_rows m_people m_loser m_onlyWho m_onlyWhere m_keptFree m_sights m_all m_bytes m_typed m_sorts m_rowOf m_own m_kinds m_keptSeat m_sightWho m_sightWhere m_ways m_next x1 x2
-- X8_likeliestNow
def p_X8_likeliestNow_b67 (K7 : Int32 → Int32 → Int32 → Int32 → Int32 → Int32 → Int32 → Int64 → (Nat → Int32) → (Nat → Int32) → (Nat → Int32) → (Nat → Int32) → (Nat → Int32) → (Nat → Int32) → (Nat → Int64) → (Nat → Int64) → Int32 → Int64 → Int32 → Option (Int32 × Int32 × Int32 × Int32 × Int32 × Int64 × (Nat → Int32) × (Nat → Int64) × (Nat → Int64))) (m_seats : Int32) (m_people : Int32) (m_loser : Int32) (m_onlyWho : Int32) (m_onlyWhere : Int32) (m_keptFree : Int32) (m_sights : Int32) (m_all : Int64) (m_sorts : Nat → Int32) (m_own : Nat → Int32) (m_kinds : Nat → Int32) (m_keptSeat : Nat → Int32) (m_sightWho : Nat → Int32) (m_sightWhere : Nat → Int32) (m_ways : Nat → Int64) (m_next : Nat → Int64) (t0 : Int64) (x1 : Int32) (x4 : Int32) : Option (Int32 × Int32 × Int32 × Int32 × Int32 × Int64 × (Nat → Int32) × (Nat → Int64) × (Nat → Int64)) :=
  nm (x4 + 1 : Int32) fun x68 =>
  K7 m_seats m_people m_loser m_onlyWho m_onlyWhere m_keptFree m_sights m_all m_sorts m_own m_kinds m_keptSeat m_sightWho m_sightWhere m_ways m_next x1 t0 x68
def p_X8_likeliestNow_b53 (K7 : Int32 → Int32 → Int32 → Int32 → Int32 → Int32 → Int32 → Int64 → (Nat → Int32) → (Nat → Int32) → (Nat → Int32) → (Nat → Int32) → (Nat → Int32) → (Nat → Int32) → (Nat → Int64) → (Nat → Int64) → Int32 → Int64 → Int32 → Option (Int32 × Int32 × Int32 × Int32 × Int32 × Int64 × (Nat → Int32) × (Nat → Int64) × (Nat → Int64))) (m_seats : Int32) (m_people : Int32) (m_loser : Int32) (m_onlyWho : Int32) (m_onlyWhere : Int32) (m_keptFree : Int32) (m_sights : Int32) (m_all : Int64) (m_sorts : Nat → Int32) (m_own : Nat → Int32) (m_kinds : Nat → Int32) (m_keptSeat : Nat → Int32) (m_sightWho : Nat → Int32) (m_sightWhere : Nat → Int32) (m_ways : Nat → Int64) (m_next : Nat → Int64) (t0 : Int32) (x2 : Int64) (x4 : Int32) (x5 : Int64) : Option (Int32 × Int32 × Int32 × Int32 × Int32 × Int64 × (Nat → Int32) × (Nat → Int64) × (Nat → Int64)) :=
  if (lg_cmp x5 x2) ≤ 0 then
  (p_X8_likeliestNow_b67 K7 m_seats m_people m_loser m_onlyWho m_onlyWhere m_keptFree m_sights m_all m_sorts m_own m_kinds m_keptSeat m_sightWho m_sightWhere m_ways m_next x2 t0 x4)
  else
  (p_X8_likeliestNow_b67 K7 m_seats m_people m_loser m_onlyWho m_onlyWhere m_keptFree m_sights m_all m_sorts m_own m_kinds m_keptSeat m_sightWho m_sightWhere m_ways m_next x5 t0 x4)
def p_X8_likeliestNow_b38 (K7 : Int32 → Int32 → Int32 → Int32 → Int32 → Int32 → Int32 → Int64 → (Nat → Int32) → (Nat → Int32) → (Nat → Int32) → (Nat → Int32) → (Nat → Int32) → (Nat → Int32) → (Nat → Int64) → (Nat → Int64) → Int32 → Int64 → Int32 → Option (Int32 × Int32 × Int32 × Int32 × Int32 × Int64 × (Nat → Int32) × (Nat → Int64) × (Nat → Int64))) (m_seats : Int32) (m_people : Int32) (m_loser : Int32) (m_onlyWho : Int32) (m_onlyWhere : Int32) (m_keptFree : Int32) (m_sights : Int32) (m_all : Int64) (m_sorts : Nat → Int32) (m_own : Nat → Int32) (m_kinds : Nat → Int32) (m_keptSeat : Nat → Int32) (m_sightWho : Nat → Int32) (m_sightWhere : Nat → Int32) (m_ways : Nat → Int64) (m_next : Nat → Int64) (t0 : Int64) (x1 : Int32) (x2 : Int64) (x4 : Int32) : Option (Int32 × Int32 × Int32 × Int32 × Int32 × Int64 × (Nat → Int32) × (Nat → Int64) × (Nat → Int64)) :=
  if (lg_cmp t0 x2) ≤ 0 then
  (p_X8_likeliestNow_b53 K7 m_seats m_people m_loser m_onlyWho m_onlyWhere m_keptFree m_sights m_all m_sorts m_own m_kinds m_keptSeat m_sightWho m_sightWhere m_ways m_next x1 x2 x4 t0)
  else
  (p_X8_likeliestNow_b53 K7 m_seats m_people m_loser m_onlyWho m_onlyWhere m_keptFree m_sights m_all m_sorts m_own m_kinds m_keptSeat m_sightWho m_sightWhere m_ways m_next x4 x2 x4 t0)
def p_X8_likeliestNow_b7x (K7 : Int32 → Int32 → Int32 → Int32 → Int32 → Int32 → Int32 → Int64 → (Nat → Int32) → (Nat → Int32) → (Nat → Int32) → (Nat → Int32) → (Nat → Int32) → (Nat → Int32) → (Nat → Int64) → (Nat → Int64) → Int32 → Int64 → Int32 → Option (Int32 × Int32 × Int32 × Int32 × Int32 × Int64 × (Nat → Int32) × (Nat → Int64) × (Nat → Int64))) (m_seats : Int32) (m_people : Int32) (m_loser : Int32) (m_onlyWho : Int32) (m_onlyWhere : Int32) (m_keptFree : Int32) (m_sights : Int32) (m_all : Int64) (m_sorts : Nat → Int32) (m_own : Nat → Int32) (m_kinds : Nat → Int32) (m_keptSeat : Nat → Int32) (m_sightWho : Nat → Int32) (m_sightWhere : Nat → Int32) (m_ways : Nat → Int64) (m_next : Nat → Int64) (x1 : Int32) (x2 : Int64) (x4 : Int32) : Option (Int32 × Int32 × Int32 × Int32 × Int32 × Int64 × (Nat → Int32) × (Nat → Int64) × (Nat → Int64)) :=
  if m_people ≤ x4 then
  (some (x1, m_loser, m_onlyWho, m_onlyWhere, m_keptFree, m_all, m_keptSeat, m_ways, m_next))
  else
  (gd (inB x4 8) <|
  if (m_kinds x4.toNatClampNeg) = 0 then
  (b9 (p_X8_seenWith m_seats m_people m_loser m_onlyWho m_onlyWhere m_keptFree m_sights m_all m_sorts m_own m_kinds m_keptSeat m_sightWho m_sightWhere m_ways m_next x4 (-1) 0) fun r31 m_loser_31 m_onlyWho_31 m_onlyWhere_31 m_keptFree_31 m_all_31 m_keptSeat_31 m_ways_31 m_next_31 =>
  p_X8_likeliestNow_b38 K7 m_seats m_people m_loser_31 m_onlyWho_31 m_onlyWhere_31 m_keptFree_31 m_sights m_all_31 m_sorts m_own m_kinds m_keptSeat_31 m_sightWho m_sightWhere m_ways_31 m_next_31 r31 x1 x2 x4)
  else
  (p_X8_likeliestNow_b38 K7 m_seats m_people m_loser m_onlyWho m_onlyWhere m_keptFree m_sights m_all m_sorts m_own m_kinds m_keptSeat m_sightWho m_sightWhere m_ways m_next 0 x1 x2 x4))
def p_X8_likeliestNow_b7 : Nat → Int32 → Int32 → Int32 → Int32 → Int32 → Int32 → Int32 → Int64 → (Nat → Int32) → (Nat → Int32) → (Nat → Int32) → (Nat → Int32) → (Nat → Int32) → (Nat → Int32) → (Nat → Int64) → (Nat → Int64) → Int32 → Int64 → Int32 → Option (Int32 × Int32 × Int32 × Int32 × Int32 × Int64 × (Nat → Int32) × (Nat → Int64) × (Nat → Int64))
  | 0 => fun _ _ _ _ _ _ _ _ _ _ _ _ _ _ _ _ _ _ _ => none
  | n + 1 => p_X8_likeliestNow_b7x (p_X8_likeliestNow_b7 n)
def p_X8_likeliestNow_b0 (m_seats : Int32) (m_people : Int32) (m_loser : Int32) (m_onlyWho : Int32) (m_onlyWhere : Int32) (m_keptFree : Int32) (m_sights : Int32) (m_all : Int64) (m_sorts : Nat → Int32) (m_own : Nat → Int32) (m_kinds : Nat → Int32) (m_keptSeat : Nat → Int32) (m_sightWho : Nat → Int32) (m_sightWhere : Nat → Int32) (m_ways : Nat → Int64) (m_next : Nat → Int64)  : Option (Int32 × Int32 × Int32 × Int32 × Int32 × Int64 × (Nat → Int32) × (Nat → Int64) × (Nat → Int64)) :=
  p_X8_likeliestNow_b7 4096 m_seats m_people m_loser m_onlyWho m_onlyWhere m_keptFree m_sights m_all m_sorts m_own m_kinds m_keptSeat m_sightWho m_sightWhere m_ways m_next (-1) 0 0
def p_X8_likeliestNow (m_seats : Int32) (m_people : Int32) (m_loser : Int32) (m_onlyWho : Int32) (m_onlyWhere : Int32) (m_keptFree : Int32) (m_sights : Int32) (m_all : Int64) (m_sorts : Nat → Int32) (m_own : Nat → Int32) (m_kinds : Nat → Int32) (m_keptSeat : Nat → Int32) (m_sightWho : Nat → Int32) (m_sightWhere : Nat → Int32) (m_ways : Nat → Int64) (m_next : Nat → Int64)  : Option (Int32 × Int32 × Int32 × Int32 × Int32 × Int64 × (Nat → Int32) × (Nat → Int64) × (Nat → Int64)) := p_X8_likeliestNow_b0 m_seats m_people m_loser m_onlyWho m_onlyWhere m_keptFree m_sights m_all m_sorts m_own m_kinds m_keptSeat m_sightWho m_sightWhere m_ways m_next 
-- X8_likeliest
def p_X8_likeliest_b0 (m_at : Int32) (m_seats : Int32) (m_rows : Int32) (m_people : Int32) (m_loser : Int32) (m_onlyWho : Int32) (m_onlyWhere : Int32) (m_keptFree : Int32) (m_sights : Int32) (m_all : Int64) (m_bytes : Nat → Int32) (m_typed : Nat → Int32) (m_sorts : Nat → Int32) (m_rowOf : Nat → Int32) (m_own : Nat → Int32) (m_kinds : Nat → Int32) (m_keptSeat : Nat → Int32) (m_sightWho : Nat → Int32) (m_sightWhere : Nat → Int32) (m_ways : Nat → Int64) (m_next : Nat → Int64)  : Option (Int32 × Int32 × Int32 × Int32 × Int32 × Int32 × Int32 × Int32 × Int32 × Int64 × (Nat → Int32) × (Nat → Int32) × (Nat → Int32) × (Nat → Int32) × (Nat → Int32) × (Nat → Int64) × (Nat → Int64)) :=
  b8 (p_X8_find m_at m_seats m_rows m_people m_bytes m_typed m_sorts m_rowOf m_own m_kinds) fun m_at_1 m_seats_1 m_rows_1 m_people_1 m_sorts_1 m_rowOf_1 m_own_1 m_kinds_1 =>
  b9 (p_X8_likeliestNow m_seats_1 m_people_1 m_loser m_onlyWho m_onlyWhere m_keptFree m_sights m_all m_sorts_1 m_own_1 m_kinds_1 m_keptSeat m_sightWho m_sightWhere m_ways m_next) fun r5 m_loser_5 m_onlyWho_5 m_onlyWhere_5 m_keptFree_5 m_all_5 m_keptSeat_5 m_ways_5 m_next_5 =>
  some (r5, m_at_1, m_seats_1, m_rows_1, m_people_1, m_loser_5, m_onlyWho_5, m_onlyWhere_5, m_keptFree_5, m_all_5, m_sorts_1, m_rowOf_1, m_own_1, m_kinds_1, m_keptSeat_5, m_ways_5, m_next_5)
def p_X8_likeliest (m_at : Int32) (m_seats : Int32) (m_rows : Int32) (m_people : Int32) (m_loser : Int32) (m_onlyWho : Int32) (m_onlyWhere : Int32) (m_keptFree : Int32) (m_sights : Int32) (m_all : Int64) (m_bytes : Nat → Int32) (m_typed : Nat → Int32) (m_sorts : Nat → Int32) (m_rowOf : Nat → Int32) (m_own : Nat → Int32) (m_kinds : Nat → Int32) (m_keptSeat : Nat → Int32) (m_sightWho : Nat → Int32) (m_sightWhere : Nat → Int32) (m_ways : Nat → Int64) (m_next : Nat → Int64)  : Option (Int32 × Int32 × Int32 × Int32 × Int32 × Int32 × Int32 × Int32 × Int32 × Int64 × (Nat → Int32) × (Nat → Int32) × (Nat → Int32) × (Nat → Int32) × (Nat → Int32) × (Nat → Int64) × (Nat → Int64)) := p_X8_likeliest_b0 m_at m_seats m_rows m_people m_loser m_onlyWho m_onlyWhere m_keptFree m_sights m_all m_bytes m_typed m_sorts m_rowOf m_own m_kinds m_keptSeat m_sightWho m_sightWhere m_ways m_next 
-- X8_wasSeen
def p_X8_wasSeen_b31 (K4 : Int32 → (Nat → Int32) → Int32 → Int32 → Int32 → Option (Int32)) (m_sights : Int32) (m_sightWho : Nat → Int32) (t0 : Int32) (x1 : Int32) (x3 : Int32) : Option (Int32) :=
  nm (x3 + 1 : Int32) fun x32 =>
  K4 m_sights m_sightWho x1 t0 x32
def p_X8_wasSeen_b26 (K4 : Int32 → (Nat → Int32) → Int32 → Int32 → Int32 → Option (Int32)) (m_sights : Int32) (m_sightWho : Nat → Int32) (x1 : Int32) (x3 : Int32) : Option (Int32) :=
  p_X8_wasSeen_b31 K4 m_sights m_sightWho 1 x1 x3
def p_X8_wasSeen_b4x (K4 : Int32 → (Nat → Int32) → Int32 → Int32 → Int32 → Option (Int32)) (m_sights : Int32) (m_sightWho : Nat → Int32) (x1 : Int32) (x2 : Int32) (x3 : Int32) : Option (Int32) :=
  if m_sights ≤ x3 then
  (gd (isZ x2) <|
  some x2)
  else
  (if x2 = 0 then
  (gd (inB x3 8) <|
  if (m_sightWho x3.toNatClampNeg) = x1 then
  (p_X8_wasSeen_b26 K4 m_sights m_sightWho x1 x3)
  else
  (p_X8_wasSeen_b31 K4 m_sights m_sightWho 0 x1 x3))
  else
  (p_X8_wasSeen_b26 K4 m_sights m_sightWho x1 x3))
def p_X8_wasSeen_b4 : Nat → Int32 → (Nat → Int32) → Int32 → Int32 → Int32 → Option (Int32)
  | 0 => fun _ _ _ _ _ => none
  | n + 1 => p_X8_wasSeen_b4x (p_X8_wasSeen_b4 n)
def p_X8_wasSeen_b0 (m_sights : Int32) (m_sightWho : Nat → Int32) (x1 : Int32) : Option (Int32) :=
  p_X8_wasSeen_b4 4096 m_sights m_sightWho x1 0 0
def p_X8_wasSeen (m_sights : Int32) (m_sightWho : Nat → Int32) (x1 : Int32) : Option (Int32) := p_X8_wasSeen_b0 m_sights m_sightWho x1
-- X8_worstBy
def p_X8_worstBy_b80 (K5 : Int32 → Int32 → Int32 → Int32 → Int32 → Int32 → Int32 → Int64 → (Nat → Int32) → (Nat → Int32) → (Nat → Int32) → (Nat → Int32) → (Nat → Int32) → (Nat → Int32) → (Nat → Int64) → (Nat → Int64) → Int32 → Int32 → Int32 → Int32 → Option (Int32 × Int32 × Int32 × Int32 × Int32 × Int64 × (Nat → Int32) × (Nat → Int64) × (Nat → Int64))) (m_seats : Int32) (m_people : Int32) (m_loser : Int32) (m_onlyWho : Int32) (m_onlyWhere : Int32) (m_keptFree : Int32) (m_sights : Int32) (m_all : Int64) (m_sorts : Nat → Int32) (m_own : Nat → Int32) (m_kinds : Nat → Int32) (m_keptSeat : Nat → Int32) (m_sightWho : Nat → Int32) (m_sightWhere : Nat → Int32) (m_ways : Nat → Int64) (m_next : Nat → Int64) (t0 : Int32) (x1 : Int32) (x2 : Int32) (x4 : Int32) : Option (Int32 × Int32 × Int32 × Int32 × Int32 × Int64 × (Nat → Int32) × (Nat → Int64) × (Nat → Int64)) :=
  nm (x4 + 1 : Int32) fun x81 =>
  K5 m_seats m_people m_loser m_onlyWho m_onlyWhere m_keptFree m_sights m_all m_sorts m_own m_kinds m_keptSeat m_sightWho m_sightWhere m_ways m_next x1 x2 t0 x81
def p_X8_worstBy_b59 (K5 : Int32 → Int32 → Int32 → Int32 → Int32 → Int32 → Int32 → Int64 → (Nat → Int32) → (Nat → Int32) → (Nat → Int32) → (Nat → Int32) → (Nat → Int32) → (Nat → Int32) → (Nat → Int64) → (Nat → Int64) → Int32 → Int32 → Int32 → Int32 → Option (Int32 × Int32 × Int32 × Int32 × Int32 × Int64 × (Nat → Int32) × (Nat → Int64) × (Nat → Int64))) (K20 : Int32 → Int32 → Int32 → Int32 → Int32 → Int32 → Int32 → Int64 → (Nat → Int32) → (Nat → Int32) → (Nat → Int32) → (Nat → Int32) → (Nat → Int32) → (Nat → Int32) → (Nat → Int64) → (Nat → Int64) → Int32 → Int32 → Int32 → Int32 → Int32 → Int32 → Option (Int32 × Int32 × Int32 × Int32 × Int32 × Int64 × (Nat → Int32) × (Nat → Int64) × (Nat → Int64))) (m_seats : Int32) (m_people : Int32) (m_loser : Int32) (m_onlyWho : Int32) (m_onlyWhere : Int32) (m_keptFree : Int32) (m_sights : Int32) (m_all : Int64) (m_sorts : Nat → Int32) (m_own : Nat → Int32) (m_kinds : Nat → Int32) (m_keptSeat : Nat → Int32) (m_sightWho : Nat → Int32) (m_sightWhere : Nat → Int32) (m_ways : Nat → Int64) (m_next : Nat → Int64) (t0 : Int32) (t1 : Int32) (x1 : Int32) (x2 : Int32) (x3 : Int32) (x4 : Int32) (x6 : Int32) : Option (Int32 × Int32 × Int32 × Int32 × Int32 × Int64 × (Nat → Int32) × (Nat → Int64) × (Nat → Int64)) :=
  nm ((t0 + t1) : Int32) fun x60 =>
  nm (x6 + 1 : Int32) fun x62 =>
  K20 m_seats m_people m_loser m_onlyWho m_onlyWhere m_keptFree m_sights m_all m_sorts m_own m_kinds m_keptSeat m_sightWho m_sightWhere m_ways m_next x1 x2 x3 x4 x60 x62
def p_X8_worstBy_b58 (K5 : Int32 → Int32 → Int32 → Int32 → Int32 → Int32 → Int32 → Int64 → (Nat → Int32) → (Nat → Int32) → (Nat → Int32) → (Nat → Int32) → (Nat → Int32) → (Nat → Int32) → (Nat → Int64) → (Nat → Int64) → Int32 → Int32 → Int32 → Int32 → Option (Int32 × Int32 × Int32 × Int32 × Int32 × Int64 × (Nat → Int32) × (Nat → Int64) × (Nat → Int64))) (K20 : Int32 → Int32 → Int32 → Int32 → Int32 → Int32 → Int32 → Int64 → (Nat → Int32) → (Nat → Int32) → (Nat → Int32) → (Nat → Int32) → (Nat → Int32) → (Nat → Int32) → (Nat → Int64) → (Nat → Int64) → Int32 → Int32 → Int32 → Int32 → Int32 → Int32 → Option (Int32 × Int32 × Int32 × Int32 × Int32 × Int64 × (Nat → Int32) × (Nat → Int64) × (Nat → Int64))) (m_seats : Int32) (m_people : Int32) (m_loser : Int32) (m_onlyWho : Int32) (m_onlyWhere : Int32) (m_keptFree : Int32) (m_sights : Int32) (m_all : Int64) (m_sorts : Nat → Int32) (m_own : Nat → Int32) (m_kinds : Nat → Int32) (m_keptSeat : Nat → Int32) (m_sightWho : Nat → Int32) (m_sightWhere : Nat → Int32) (m_ways : Nat → Int64) (m_next : Nat → Int64) (t0 : Int32) (x1 : Int32) (x2 : Int32) (x3 : Int32) (x4 : Int32) (x6 : Int32) : Option (Int32 × Int32 × Int32 × Int32 × Int32 × Int64 × (Nat → Int32) × (Nat → Int64) × (Nat → Int64)) :=
  p_X8_worstBy_b59 K5 K20 m_seats m_people m_loser m_onlyWho m_onlyWhere m_keptFree m_sights m_all m_sorts m_own m_kinds m_keptSeat m_sightWho m_sightWhere m_ways m_next t0 0 x1 x2 x3 x4 x6
def p_X8_worstBy_b20x (K5 : Int32 → Int32 → Int32 → Int32 → Int32 → Int32 → Int32 → Int64 → (Nat → Int32) → (Nat → Int32) → (Nat → Int32) → (Nat → Int32) → (Nat → Int32) → (Nat → Int32) → (Nat → Int64) → (Nat → Int64) → Int32 → Int32 → Int32 → Int32 → Option (Int32 × Int32 × Int32 × Int32 × Int32 × Int64 × (Nat → Int32) × (Nat → Int64) × (Nat → Int64))) (K20 : Int32 → Int32 → Int32 → Int32 → Int32 → Int32 → Int32 → Int64 → (Nat → Int32) → (Nat → Int32) → (Nat → Int32) → (Nat → Int32) → (Nat → Int32) → (Nat → Int32) → (Nat → Int64) → (Nat → Int64) → Int32 → Int32 → Int32 → Int32 → Int32 → Int32 → Option (Int32 × Int32 × Int32 × Int32 × Int32 × Int64 × (Nat → Int32) × (Nat → Int64) × (Nat → Int64))) (m_seats : Int32) (m_people : Int32) (m_loser : Int32) (m_onlyWho : Int32) (m_onlyWhere : Int32) (m_keptFree : Int32) (m_sights : Int32) (m_all : Int64) (m_sorts : Nat → Int32) (m_own : Nat → Int32) (m_kinds : Nat → Int32) (m_keptSeat : Nat → Int32) (m_sightWho : Nat → Int32) (m_sightWhere : Nat → Int32) (m_ways : Nat → Int64) (m_next : Nat → Int64) (x1 : Int32) (x2 : Int32) (x3 : Int32) (x4 : Int32) (x5 : Int32) (x6 : Int32) : Option (Int32 × Int32 × Int32 × Int32 × Int32 × Int64 × (Nat → Int32) × (Nat → Int64) × (Nat → Int64)) :=
  if m_people ≤ x6 then
  (if x5 ≤ x3 then
  (p_X8_worstBy_b80 K5 m_seats m_people m_loser m_onlyWho m_onlyWhere m_keptFree m_sights m_all m_sorts m_own m_kinds m_keptSeat m_sightWho m_sightWhere m_ways m_next x3 x1 x2 x4)
  else
  (p_X8_worstBy_b80 K5 m_seats m_people m_loser m_onlyWho m_onlyWhere m_keptFree m_sights m_all m_sorts m_own m_kinds m_keptSeat m_sightWho m_sightWhere m_ways m_next x5 x1 x2 x4))
  else
  (b1 (p_X8_isIn  x2 x6) fun r34 =>
  if r34 = 0 then
  (p_X8_worstBy_b58 K5 K20 m_seats m_people m_loser m_onlyWho m_onlyWhere m_keptFree m_sights m_all m_sorts m_own m_kinds m_keptSeat m_sightWho m_sightWhere m_ways m_next x5 x1 x2 x3 x4 x6)
  else
  (b9 (p_X8_seenWith m_seats m_people m_loser m_onlyWho m_onlyWhere m_keptFree m_sights m_all m_sorts m_own m_kinds m_keptSeat m_sightWho m_sightWhere m_ways m_next x6 x1 x4) fun r46 m_loser_46 m_onlyWho_46 m_onlyWhere_46 m_keptFree_46 m_all_46 m_keptSeat_46 m_ways_46 m_next_46 =>
  if (lg_cmp r46 0) ≤ 0 then
  (p_X8_worstBy_b58 K5 K20 m_seats m_people m_loser_46 m_onlyWho_46 m_onlyWhere_46 m_keptFree_46 m_sights m_all_46 m_sorts m_own m_kinds m_keptSeat_46 m_sightWho m_sightWhere m_ways_46 m_next_46 x5 x1 x2 x3 x4 x6)
  else
  (p_X8_worstBy_b59 K5 K20 m_seats m_people m_loser_46 m_onlyWho_46 m_onlyWhere_46 m_keptFree_46 m_sights m_all_46 m_sorts m_own m_kinds m_keptSeat_46 m_sightWho m_sightWhere m_ways_46 m_next_46 x5 1 x1 x2 x3 x4 x6)))
def p_X8_worstBy_b20 (K5 : Int32 → Int32 → Int32 → Int32 → Int32 → Int32 → Int32 → Int64 → (Nat → Int32) → (Nat → Int32) → (Nat → Int32) → (Nat → Int32) → (Nat → Int32) → (Nat → Int32) → (Nat → Int64) → (Nat → Int64) → Int32 → Int32 → Int32 → Int32 → Option (Int32 × Int32 × Int32 × Int32 × Int32 × Int64 × (Nat → Int32) × (Nat → Int64) × (Nat → Int64))) : Nat → Int32 → Int32 → Int32 → Int32 → Int32 → Int32 → Int32 → Int64 → (Nat → Int32) → (Nat → Int32) → (Nat → Int32) → (Nat → Int32) → (Nat → Int32) → (Nat → Int32) → (Nat → Int64) → (Nat → Int64) → Int32 → Int32 → Int32 → Int32 → Int32 → Int32 → Option (Int32 × Int32 × Int32 × Int32 × Int32 × Int64 × (Nat → Int32) × (Nat → Int64) × (Nat → Int64))
  | 0 => fun _ _ _ _ _ _ _ _ _ _ _ _ _ _ _ _ _ _ _ _ _ _ => none
  | n + 1 => p_X8_worstBy_b20x K5 (p_X8_worstBy_b20 K5 n)
def p_X8_worstBy_b5x (K5 : Int32 → Int32 → Int32 → Int32 → Int32 → Int32 → Int32 → Int64 → (Nat → Int32) → (Nat → Int32) → (Nat → Int32) → (Nat → Int32) → (Nat → Int32) → (Nat → Int32) → (Nat → Int64) → (Nat → Int64) → Int32 → Int32 → Int32 → Int32 → Option (Int32 × Int32 × Int32 × Int32 × Int32 × Int64 × (Nat → Int32) × (Nat → Int64) × (Nat → Int64))) (m_seats : Int32) (m_people : Int32) (m_loser : Int32) (m_onlyWho : Int32) (m_onlyWhere : Int32) (m_keptFree : Int32) (m_sights : Int32) (m_all : Int64) (m_sorts : Nat → Int32) (m_own : Nat → Int32) (m_kinds : Nat → Int32) (m_keptSeat : Nat → Int32) (m_sightWho : Nat → Int32) (m_sightWhere : Nat → Int32) (m_ways : Nat → Int64) (m_next : Nat → Int64) (x1 : Int32) (x2 : Int32) (x3 : Int32) (x4 : Int32) : Option (Int32 × Int32 × Int32 × Int32 × Int32 × Int64 × (Nat → Int32) × (Nat → Int64) × (Nat → Int64)) :=
  if m_seats ≤ x4 then
  (some (x3, m_loser, m_onlyWho, m_onlyWhere, m_keptFree, m_all, m_keptSeat, m_ways, m_next))
  else
  (p_X8_worstBy_b20 K5 4096 m_seats m_people m_loser m_onlyWho m_onlyWhere m_keptFree m_sights m_all m_sorts m_own m_kinds m_keptSeat m_sightWho m_sightWhere m_ways m_next x1 x2 x3 x4 0 0)
def p_X8_worstBy_b5 : Nat → Int32 → Int32 → Int32 → Int32 → Int32 → Int32 → Int32 → Int64 → (Nat → Int32) → (Nat → Int32) → (Nat → Int32) → (Nat → Int32) → (Nat → Int32) → (Nat → Int32) → (Nat → Int64) → (Nat → Int64) → Int32 → Int32 → Int32 → Int32 → Option (Int32 × Int32 × Int32 × Int32 × Int32 × Int64 × (Nat → Int32) × (Nat → Int64) × (Nat → Int64))
  | 0 => fun _ _ _ _ _ _ _ _ _ _ _ _ _ _ _ _ _ _ _ _ => none
  | n + 1 => p_X8_worstBy_b5x (p_X8_worstBy_b5 n)
def p_X8_worstBy_b0 (m_seats : Int32) (m_people : Int32) (m_loser : Int32) (m_onlyWho : Int32) (m_onlyWhere : Int32) (m_keptFree : Int32) (m_sights : Int32) (m_all : Int64) (m_sorts : Nat → Int32) (m_own : Nat → Int32) (m_kinds : Nat → Int32) (m_keptSeat : Nat → Int32) (m_sightWho : Nat → Int32) (m_sightWhere : Nat → Int32) (m_ways : Nat → Int64) (m_next : Nat → Int64) (x1 : Int32) (x2 : Int32) : Option (Int32 × Int32 × Int32 × Int32 × Int32 × Int64 × (Nat → Int32) × (Nat → Int64) × (Nat → Int64)) :=
  p_X8_worstBy_b5 4096 m_seats m_people m_loser m_onlyWho m_onlyWhere m_keptFree m_sights m_all m_sorts m_own m_kinds m_keptSeat m_sightWho m_sightWhere m_ways m_next x1 x2 0 0
def p_X8_worstBy (m_seats : Int32) (m_people : Int32) (m_loser : Int32) (m_onlyWho : Int32) (m_onlyWhere : Int32) (m_keptFree : Int32) (m_sights : Int32) (m_all : Int64) (m_sorts : Nat → Int32) (m_own : Nat → Int32) (m_kinds : Nat → Int32) (m_keptSeat : Nat → Int32) (m_sightWho : Nat → Int32) (m_sightWhere : Nat → Int32) (m_ways : Nat → Int64) (m_next : Nat → Int64) (x1 : Int32) (x2 : Int32) : Option (Int32 × Int32 × Int32 × Int32 × Int32 × Int64 × (Nat → Int32) × (Nat → Int64) × (Nat → Int64)) := p_X8_worstBy_b0 m_seats m_people m_loser m_onlyWho m_onlyWhere m_keptFree m_sights m_all m_sorts m_own m_kinds m_keptSeat m_sightWho m_sightWhere m_ways m_next x1 x2
-- X8_askNow
def p_X8_askNow_b89 (m_seats : Int32) (m_people : Int32) (m_loser : Int32) (m_onlyWho : Int32) (m_onlyWhere : Int32) (m_keptFree : Int32) (m_sights : Int32) (m_all : Int64) (m_sorts : Nat → Int32) (m_own : Nat → Int32) (m_kinds : Nat → Int32) (m_keptSeat : Nat → Int32) (m_sightWho : Nat → Int32) (m_sightWhere : Nat → Int32) (m_ways : Nat → Int64) (m_next : Nat → Int64) (t0 : Int32) : Option (Int32 × Int32 × Int32 × Int32 × Int32 × Int64 × (Nat → Int32) × (Nat → Int64) × (Nat → Int64)) :=
  some (t0, m_loser, m_onlyWho, m_onlyWhere, m_keptFree, m_all, m_keptSeat, m_ways, m_next)
def p_X8_askNow_b69 (m_seats : Int32) (m_people : Int32) (m_loser : Int32) (m_onlyWho : Int32) (m_onlyWhere : Int32) (m_keptFree : Int32) (m_sights : Int32) (m_all : Int64) (m_sorts : Nat → Int32) (m_own : Nat → Int32) (m_kinds : Nat → Int32) (m_keptSeat : Nat → Int32) (m_sightWho : Nat → Int32) (m_sightWhere : Nat → Int32) (m_ways : Nat → Int64) (m_next : Nat → Int64) (x1 : Int32) (x3 : Int32) (x4 : Int32) : Option (Int32 × Int32 × Int32 × Int32 × Int32 × Int64 × (Nat → Int32) × (Nat → Int64) × (Nat → Int64)) :=
  if x3 = (-1) then
  (p_X8_askNow_b89 m_seats m_people m_loser m_onlyWho m_onlyWhere m_keptFree m_sights m_all m_sorts m_own m_kinds m_keptSeat m_sightWho m_sightWhere m_ways m_next (-3))
  else
  (if x1 = 0 then
  (p_X8_askNow_b89 m_seats m_people m_loser m_onlyWho m_onlyWhere m_keptFree m_sights m_all m_sorts m_own m_kinds m_keptSeat m_sightWho m_sightWhere m_ways m_next x3)
  else
  (p_X8_askNow_b89 m_seats m_people m_loser m_onlyWho m_onlyWhere m_keptFree m_sights m_all m_sorts m_own m_kinds m_keptSeat m_sightWho m_sightWhere m_ways m_next x4))
def p_X8_askNow_b63 (K13 : Int32 → Int32 → Int32 → Int32 → Int32 → Int32 → Int32 → Int64 → (Nat → Int32) → (Nat → Int32) → (Nat → Int32) → (Nat → Int32) → (Nat → Int32) → (Nat → Int32) → (Nat → Int64) → (Nat → Int64) → Int32 → Int32 → Int32 → Int32 → Int32 → Option (Int32 × Int32 × Int32 × Int32 × Int32 × Int64 × (Nat → Int32) × (Nat → Int64) × (Nat → Int64))) (m_seats : Int32) (m_people : Int32) (m_loser : Int32) (m_onlyWho : Int32) (m_onlyWhere : Int32) (m_keptFree : Int32) (m_sights : Int32) (m_all : Int64) (m_sorts : Nat → Int32) (m_own : Nat → Int32) (m_kinds : Nat → Int32) (m_keptSeat : Nat → Int32) (m_sightWho : Nat → Int32) (m_sightWhere : Nat → Int32) (m_ways : Nat → Int64) (m_next : Nat → Int64) (x1 : Int32) (x2 : Int32) (x3 : Int32) (x4 : Int32) (x5 : Int32) : Option (Int32 × Int32 × Int32 × Int32 × Int32 × Int64 × (Nat → Int32) × (Nat → Int64) × (Nat → Int64)) :=
  nm (x5 + 1 : Int32) fun x63 =>
  K13 m_seats m_people m_loser m_onlyWho m_onlyWhere m_keptFree m_sights m_all m_sorts m_own m_kinds m_keptSeat m_sightWho m_sightWhere m_ways m_next x1 x2 x3 x4 x63
def p_X8_askNow_b56 (K13 : Int32 → Int32 → Int32 → Int32 → Int32 → Int32 → Int32 → Int64 → (Nat → Int32) → (Nat → Int32) → (Nat → Int32) → (Nat → Int32) → (Nat → Int32) → (Nat → Int32) → (Nat → Int64) → (Nat → Int64) → Int32 → Int32 → Int32 → Int32 → Int32 → Option (Int32 × Int32 × Int32 × Int32 × Int32 × Int64 × (Nat → Int32) × (Nat → Int64) × (Nat → Int64))) (m_seats : Int32) (m_people : Int32) (m_loser : Int32) (m_onlyWho : Int32) (m_onlyWhere : Int32) (m_keptFree : Int32) (m_sights : Int32) (m_all : Int64) (m_sorts : Nat → Int32) (m_own : Nat → Int32) (m_kinds : Nat → Int32) (m_keptSeat : Nat → Int32) (m_sightWho : Nat → Int32) (m_sightWhere : Nat → Int32) (m_ways : Nat → Int64) (m_next : Nat → Int64) (x1 : Int32) (x2 : Int32) (x5 : Int32) (x6 : Int32) : Option (Int32 × Int32 × Int32 × Int32 × Int32 × Int64 × (Nat → Int32) × (Nat → Int64) × (Nat → Int64)) :=
  p_X8_askNow_b63 K13 m_seats m_people m_loser m_onlyWho m_onlyWhere m_keptFree m_sights m_all m_sorts m_own m_kinds m_keptSeat m_sightWho m_sightWhere m_ways m_next x1 x2 x5 x6 x5
def p_X8_askNow_b13x (K13 : Int32 → Int32 → Int32 → Int32 → Int32 → Int32 → Int32 → Int64 → (Nat → Int32) → (Nat → Int32) → (Nat → Int32) → (Nat → Int32) → (Nat → Int32) → (Nat → Int32) → (Nat → Int64) → (Nat → Int64) → Int32 → Int32 → Int32 → Int32 → Int32 → Option (Int32 × Int32 × Int32 × Int32 × Int32 × Int64 × (Nat → Int32) × (Nat → Int64) × (Nat → Int64))) (m_seats : Int32) (m_people : Int32) (m_loser : Int32) (m_onlyWho : Int32) (m_onlyWhere : Int32) (m_keptFree : Int32) (m_sights : Int32) (m_all : Int64) (m_sorts : Nat → Int32) (m_own : Nat → Int32) (m_kinds : Nat → Int32) (m_keptSeat : Nat → Int32) (m_sightWho : Nat → Int32) (m_sightWhere : Nat → Int32) (m_ways : Nat → Int64) (m_next : Nat → Int64) (x1 : Int32) (x2 : Int32) (x3 : Int32) (x4 : Int32) (x5 : Int32) : Option (Int32 × Int32 × Int32 × Int32 × Int32 × Int64 × (Nat → Int32) × (Nat → Int64) × (Nat → Int64)) :=
  if m_people ≤ x5 then
  (p_X8_askNow_b69 m_seats m_people m_loser m_onlyWho m_onlyWhere m_keptFree m_sights m_all m_sorts m_own m_kinds m_keptSeat m_sightWho m_sightWhere m_ways m_next x1 x3 x4)
  else
  (if x2 = 0 then
  (p_X8_askNow_b69 m_seats m_people m_loser m_onlyWho m_onlyWhere m_keptFree m_sights m_all m_sorts m_own m_kinds m_keptSeat m_sightWho m_sightWhere m_ways m_next x1 x3 x4)
  else
  (b1 (p_X8_wasSeen m_sights m_sightWho x5) fun r29 =>
  if r29 = 0 then
  (b9 (p_X8_worstBy m_seats m_people m_loser m_onlyWho m_onlyWhere m_keptFree m_sights m_all m_sorts m_own m_kinds m_keptSeat m_sightWho m_sightWhere m_ways m_next x5 x2) fun r39 m_loser_39 m_onlyWho_39 m_onlyWhere_39 m_keptFree_39 m_all_39 m_keptSeat_39 m_ways_39 m_next_39 =>
  if x3 = (-1) then
  (p_X8_askNow_b56 K13 m_seats m_people m_loser_39 m_onlyWho_39 m_onlyWhere_39 m_keptFree_39 m_sights m_all_39 m_sorts m_own m_kinds m_keptSeat_39 m_sightWho m_sightWhere m_ways_39 m_next_39 x1 x2 x5 r39)
  else
  (if x4 ≤ r39 then
  (p_X8_askNow_b63 K13 m_seats m_people m_loser_39 m_onlyWho_39 m_onlyWhere_39 m_keptFree_39 m_sights m_all_39 m_sorts m_own m_kinds m_keptSeat_39 m_sightWho m_sightWhere m_ways_39 m_next_39 x1 x2 x3 x4 x5)
  else
  (p_X8_askNow_b56 K13 m_seats m_people m_loser_39 m_onlyWho_39 m_onlyWhere_39 m_keptFree_39 m_sights m_all_39 m_sorts m_own m_kinds m_keptSeat_39 m_sightWho m_sightWhere m_ways_39 m_next_39 x1 x2 x5 r39)))
  else
  (p_X8_askNow_b63 K13 m_seats m_people m_loser m_onlyWho m_onlyWhere m_keptFree m_sights m_all m_sorts m_own m_kinds m_keptSeat m_sightWho m_sightWhere m_ways m_next x1 x2 x3 x4 x5)))
def p_X8_askNow_b13 : Nat → Int32 → Int32 → Int32 → Int32 → Int32 → Int32 → Int32 → Int64 → (Nat → Int32) → (Nat → Int32) → (Nat → Int32) → (Nat → Int32) → (Nat → Int32) → (Nat → Int32) → (Nat → Int64) → (Nat → Int64) → Int32 → Int32 → Int32 → Int32 → Int32 → Option (Int32 × Int32 × Int32 × Int32 × Int32 × Int64 × (Nat → Int32) × (Nat → Int64) × (Nat → Int64))
  | 0 => fun _ _ _ _ _ _ _ _ _ _ _ _ _ _ _ _ _ _ _ _ _ => none
  | n + 1 => p_X8_askNow_b13x (p_X8_askNow_b13 n)
def p_X8_askNow_b0 (m_seats : Int32) (m_people : Int32) (m_loser : Int32) (m_onlyWho : Int32) (m_onlyWhere : Int32) (m_keptFree : Int32) (m_sights : Int32) (m_all : Int64) (m_sorts : Nat → Int32) (m_own : Nat → Int32) (m_kinds : Nat → Int32) (m_keptSeat : Nat → Int32) (m_sightWho : Nat → Int32) (m_sightWhere : Nat → Int32) (m_ways : Nat → Int64) (m_next : Nat → Int64) (x1 : Int32) : Option (Int32 × Int32 × Int32 × Int32 × Int32 × Int64 × (Nat → Int32) × (Nat → Int64) × (Nat → Int64)) :=
  b9 (p_X8_losersNow m_seats m_people m_loser m_onlyWho m_onlyWhere m_keptFree m_sights m_all m_sorts m_own m_kinds m_keptSeat m_sightWho m_sightWhere m_ways m_next) fun r1 m_loser_1 m_onlyWho_1 m_onlyWhere_1 m_keptFree_1 m_all_1 m_keptSeat_1 m_ways_1 m_next_1 =>
  p_X8_askNow_b13 4096 m_seats m_people m_loser_1 m_onlyWho_1 m_onlyWhere_1 m_keptFree_1 m_sights m_all_1 m_sorts m_own m_kinds m_keptSeat_1 m_sightWho m_sightWhere m_ways_1 m_next_1 x1 r1 (-1) 0 0
def p_X8_askNow (m_seats : Int32) (m_people : Int32) (m_loser : Int32) (m_onlyWho : Int32) (m_onlyWhere : Int32) (m_keptFree : Int32) (m_sights : Int32) (m_all : Int64) (m_sorts : Nat → Int32) (m_own : Nat → Int32) (m_kinds : Nat → Int32) (m_keptSeat : Nat → Int32) (m_sightWho : Nat → Int32) (m_sightWhere : Nat → Int32) (m_ways : Nat → Int64) (m_next : Nat → Int64) (x1 : Int32) : Option (Int32 × Int32 × Int32 × Int32 × Int32 × Int64 × (Nat → Int32) × (Nat → Int64) × (Nat → Int64)) := p_X8_askNow_b0 m_seats m_people m_loser m_onlyWho m_onlyWhere m_keptFree m_sights m_all m_sorts m_own m_kinds m_keptSeat m_sightWho m_sightWhere m_ways m_next x1
-- X8_ask
def p_X8_ask_b21 (m_at : Int32) (m_seats : Int32) (m_rows : Int32) (m_people : Int32) (m_loser : Int32) (m_onlyWho : Int32) (m_onlyWhere : Int32) (m_keptFree : Int32) (m_sights : Int32) (m_all : Int64) (m_bytes : Nat → Int32) (m_typed : Nat → Int32) (m_sorts : Nat → Int32) (m_rowOf : Nat → Int32) (m_own : Nat → Int32) (m_kinds : Nat → Int32) (m_keptSeat : Nat → Int32) (m_sightWho : Nat → Int32) (m_sightWhere : Nat → Int32) (m_ways : Nat → Int64) (m_next : Nat → Int64) (t0 : Int32) : Option (Int32 × Int32 × Int32 × Int32 × Int32 × Int32 × Int32 × Int32 × Int32 × Int64 × (Nat → Int32) × (Nat → Int32) × (Nat → Int32) × (Nat → Int32) × (Nat → Int32) × (Nat → Int64) × (Nat → Int64)) :=
  some (t0, m_at, m_seats, m_rows, m_people, m_loser, m_onlyWho, m_onlyWhere, m_keptFree, m_all, m_sorts, m_rowOf, m_own, m_kinds, m_keptSeat, m_ways, m_next)
def p_X8_ask_b0 (m_at : Int32) (m_seats : Int32) (m_rows : Int32) (m_people : Int32) (m_loser : Int32) (m_onlyWho : Int32) (m_onlyWhere : Int32) (m_keptFree : Int32) (m_sights : Int32) (m_all : Int64) (m_bytes : Nat → Int32) (m_typed : Nat → Int32) (m_sorts : Nat → Int32) (m_rowOf : Nat → Int32) (m_own : Nat → Int32) (m_kinds : Nat → Int32) (m_keptSeat : Nat → Int32) (m_sightWho : Nat → Int32) (m_sightWhere : Nat → Int32) (m_ways : Nat → Int64) (m_next : Nat → Int64) (x1 : Int32) : Option (Int32 × Int32 × Int32 × Int32 × Int32 × Int32 × Int32 × Int32 × Int32 × Int64 × (Nat → Int32) × (Nat → Int32) × (Nat → Int32) × (Nat → Int32) × (Nat → Int32) × (Nat → Int64) × (Nat → Int64)) :=
  b8 (p_X8_find m_at m_seats m_rows m_people m_bytes m_typed m_sorts m_rowOf m_own m_kinds) fun m_at_1 m_seats_1 m_rows_1 m_people_1 m_sorts_1 m_rowOf_1 m_own_1 m_kinds_1 =>
  b1 (p_X8_isTwo  x1) fun r5 =>
  if r5 = 0 then
  (p_X8_ask_b21 m_at_1 m_seats_1 m_rows_1 m_people_1 m_loser m_onlyWho m_onlyWhere m_keptFree m_sights m_all m_bytes m_typed m_sorts_1 m_rowOf_1 m_own_1 m_kinds_1 m_keptSeat m_sightWho m_sightWhere m_ways m_next (-2))
  else
  (b9 (p_X8_askNow m_seats_1 m_people_1 m_loser m_onlyWho m_onlyWhere m_keptFree m_sights m_all m_sorts_1 m_own_1 m_kinds_1 m_keptSeat m_sightWho m_sightWhere m_ways m_next x1) fun r13 m_loser_13 m_onlyWho_13 m_onlyWhere_13 m_keptFree_13 m_all_13 m_keptSeat_13 m_ways_13 m_next_13 =>
  p_X8_ask_b21 m_at_1 m_seats_1 m_rows_1 m_people_1 m_loser_13 m_onlyWho_13 m_onlyWhere_13 m_keptFree_13 m_sights m_all_13 m_bytes m_typed m_sorts_1 m_rowOf_1 m_own_1 m_kinds_1 m_keptSeat_13 m_sightWho m_sightWhere m_ways_13 m_next_13 r13)
def p_X8_ask (m_at : Int32) (m_seats : Int32) (m_rows : Int32) (m_people : Int32) (m_loser : Int32) (m_onlyWho : Int32) (m_onlyWhere : Int32) (m_keptFree : Int32) (m_sights : Int32) (m_all : Int64) (m_bytes : Nat → Int32) (m_typed : Nat → Int32) (m_sorts : Nat → Int32) (m_rowOf : Nat → Int32) (m_own : Nat → Int32) (m_kinds : Nat → Int32) (m_keptSeat : Nat → Int32) (m_sightWho : Nat → Int32) (m_sightWhere : Nat → Int32) (m_ways : Nat → Int64) (m_next : Nat → Int64) (x1 : Int32) : Option (Int32 × Int32 × Int32 × Int32 × Int32 × Int32 × Int32 × Int32 × Int32 × Int64 × (Nat → Int32) × (Nat → Int32) × (Nat → Int32) × (Nat → Int32) × (Nat → Int32) × (Nat → Int64) × (Nat → Int64)) := p_X8_ask_b0 m_at m_seats m_rows m_people m_loser m_onlyWho m_onlyWhere m_keptFree m_sights m_all m_bytes m_typed m_sorts m_rowOf m_own m_kinds m_keptSeat m_sightWho m_sightWhere m_ways m_next x1
-- X8_turnedOf
def p_X8_turnedOf_b5x (K5 : Int32 → Int32 → Int64 → Int32 → Option (Int64))  (x1 : Int32) (x2 : Int32) (x3 : Int64) (x5 : Int32) : Option (Int64) :=
  if x5 ≤ x1 then
  (b1 (p_X8_part  x3 2520 x2) fun r35 =>
  some r35)
  else
  (gd (decide (¬ x5.toInt64 = 0)) <|
  nm ((x3 + ((2520 / x5.toInt64) * x1.toInt64)) : Int64) fun x23 =>
  nm (x5 + (-1) : Int32) fun x24 =>
  K5  x1 x2 x23 x24)
def p_X8_turnedOf_b5 : Nat → Int32 → Int32 → Int64 → Int32 → Option (Int64)
  | 0 => fun _ _ _ _ => none
  | n + 1 => p_X8_turnedOf_b5x (p_X8_turnedOf_b5 n)
def p_X8_turnedOf_b0  (x0 : Int32) (x1 : Int32) (x2 : Int32) : Option (Int64) :=
  p_X8_turnedOf_b5 4096  x1 x2 0 x0
def p_X8_turnedOf  (x0 : Int32) (x1 : Int32) (x2 : Int32) : Option (Int64) := p_X8_turnedOf_b0  x0 x1 x2
-- X8_turned
def p_X8_turned_b44  (t0 : Int64) : Option (Int64) :=
  some t0
def p_X8_turned_b39   : Option (Int64) :=
  b1 (p_X8_no  (-2)) fun r41 =>
  p_X8_turned_b44  r41
def p_X8_turned_b0  (x1 : Int32) (x2 : Int32) (x3 : Int32) : Option (Int64) :=
  b1 (p_X8_in  x1.toInt64 1 9) fun r6 =>
  if r6 = 0 then
  (p_X8_turned_b39  )
  else
  (b1 (p_X8_in  x2.toInt64 0 x1.toInt64) fun r17 =>
  if r17 = 0 then
  (p_X8_turned_b39  )
  else
  (b1 (p_X8_isTwo  x3) fun r24 =>
  if r24 = 0 then
  (p_X8_turned_b39  )
  else
  (b1 (p_X8_turnedOf  x1 x2 x3) fun r33 =>
  p_X8_turned_b44  r33)))
def p_X8_turned  (x1 : Int32) (x2 : Int32) (x3 : Int32) : Option (Int64) := p_X8_turned_b0  x1 x2 x3
-- X8_lot
def p_X8_lot_b0 (m_seedNow : Int32) (x1 : Int32) : Option (Int32 × Int32) :=
  nm (((1103515245 * m_seedNow) + 12345) : Int32) fun m_seedNow_13 =>
  gd (decide (¬ x1 = 0)) <|
  some ((((m_seedNow_13.toUInt32 >>> ((16 : Int32).toUInt32 &&& Int32.toUInt32 31)).toInt32) - (((m_seedNow_13.toUInt32 >>> ((16 : Int32).toUInt32 &&& Int32.toUInt32 31)).toInt32) / x1) * x1), m_seedNow_13)
def p_X8_lot (m_seedNow : Int32) (x1 : Int32) : Option (Int32 × Int32) := p_X8_lot_b0 m_seedNow x1
-- X8_findEvening
def p_X8_findEvening_b135 (K12 : Int32 → Int32 → Int32 → (Nat → Int32) → (Nat → Int32) → (Nat → Int32) → (Nat → Int32) → Int32 → Int32 → Int32 → Option (Int32 × Int32 × (Nat → Int32))) (K103 : Int32 → Int32 → Int32 → (Nat → Int32) → (Nat → Int32) → (Nat → Int32) → (Nat → Int32) → Int32 → Int32 → Int32 → Int32 → Int32 → Int32 → Option (Int32 × Int32 × (Nat → Int32))) (m_seats : Int32) (m_people : Int32) (m_seedNow : Int32) (m_sorts : Nat → Int32) (m_own : Nat → Int32) (m_kinds : Nat → Int32) (m_evening : Nat → Int32) (t0 : Int32) (t1 : Int32) (x2 : Int32) (x3 : Int32) (x4 : Int32) (x5 : Int32) (x8 : Int32) : Option (Int32 × Int32 × (Nat → Int32)) :=
  nm ((t0 - t1) : Int32) fun x136 =>
  nm (x8 + 1 : Int32) fun x138 =>
  K103 m_seats m_people m_seedNow m_sorts m_own m_kinds m_evening x2 x3 x4 x5 x136 x138
def p_X8_findEvening_b118 (K12 : Int32 → Int32 → Int32 → (Nat → Int32) → (Nat → Int32) → (Nat → Int32) → (Nat → Int32) → Int32 → Int32 → Int32 → Option (Int32 × Int32 × (Nat → Int32))) (K103 : Int32 → Int32 → Int32 → (Nat → Int32) → (Nat → Int32) → (Nat → Int32) → (Nat → Int32) → Int32 → Int32 → Int32 → Int32 → Int32 → Int32 → Option (Int32 × Int32 × (Nat → Int32))) (m_seats : Int32) (m_people : Int32) (m_seedNow : Int32) (m_sorts : Nat → Int32) (m_own : Nat → Int32) (m_kinds : Nat → Int32) (m_evening : Nat → Int32) (x2 : Int32) (x3 : Int32) (x4 : Int32) (x5 : Int32) (x7 : Int32) (x8 : Int32) : Option (Int32 × Int32 × (Nat → Int32)) :=
  b1 (p_X8_isIn  x5 x8) fun r124 =>
  if r124 = 0 then
  (p_X8_findEvening_b135 K12 K103 m_seats m_people m_seedNow m_sorts m_own m_kinds m_evening x7 0 x2 x3 x4 x5 x8)
  else
  (p_X8_findEvening_b135 K12 K103 m_seats m_people m_seedNow m_sorts m_own m_kinds m_evening x7 1 x2 x3 x4 x5 x8)
def p_X8_findEvening_b178 (K12 : Int32 → Int32 → Int32 → (Nat → Int32) → (Nat → Int32) → (Nat → Int32) → (Nat → Int32) → Int32 → Int32 → Int32 → Option (Int32 × Int32 × (Nat → Int32))) (m_seats : Int32) (m_people : Int32) (m_seedNow : Int32) (m_sorts : Nat → Int32) (m_own : Nat → Int32) (m_kinds : Nat → Int32) (m_evening : Nat → Int32) (t0 : Int32) (t1 : Int32) (x2 : Int32) (x4 : Int32) : Option (Int32 × Int32 × (Nat → Int32)) :=
  nm ((t0 + t1) : Int32) fun x179 =>
  nm (x4 + 1 : Int32) fun x180 =>
  K12 m_seats m_people m_seedNow m_sorts m_own m_kinds m_evening x2 x179 x180
def p_X8_findEvening_b103x (K12 : Int32 → Int32 → Int32 → (Nat → Int32) → (Nat → Int32) → (Nat → Int32) → (Nat → Int32) → Int32 → Int32 → Int32 → Option (Int32 × Int32 × (Nat → Int32))) (K103 : Int32 → Int32 → Int32 → (Nat → Int32) → (Nat → Int32) → (Nat → Int32) → (Nat → Int32) → Int32 → Int32 → Int32 → Int32 → Int32 → Int32 → Option (Int32 × Int32 × (Nat → Int32))) (m_seats : Int32) (m_people : Int32) (m_seedNow : Int32) (m_sorts : Nat → Int32) (m_own : Nat → Int32) (m_kinds : Nat → Int32) (m_evening : Nat → Int32) (x2 : Int32) (x3 : Int32) (x4 : Int32) (x5 : Int32) (x7 : Int32) (x8 : Int32) : Option (Int32 × Int32 × (Nat → Int32)) :=
  b1 (p_X8_isIn  x5 x8) fun r107 =>
  if r107 = 0 then
  (p_X8_findEvening_b118 K12 K103 m_seats m_people m_seedNow m_sorts m_own m_kinds m_evening x2 x3 x4 x5 x7 x8)
  else
  (if x7 ≤ 0 then
  (gd (inB x4 8) <|
  nm (upd m_evening x4.toNatClampNeg x8) fun m_evening_152 =>
  nm ((x2 ||| ((1 : Int32) <<< (x8 &&& 31))) : Int32) fun x159 =>
  gd (inB x4 8) <|
  if x8 = (m_own x4.toNatClampNeg) then
  (p_X8_findEvening_b178 K12 m_seats m_people m_seedNow m_sorts m_own m_kinds m_evening_152 x3 0 x159 x4)
  else
  (p_X8_findEvening_b178 K12 m_seats m_people m_seedNow m_sorts m_own m_kinds m_evening_152 x3 1 x159 x4))
  else
  (p_X8_findEvening_b118 K12 K103 m_seats m_people m_seedNow m_sorts m_own m_kinds m_evening x2 x3 x4 x5 x7 x8))
def p_X8_findEvening_b103 (K12 : Int32 → Int32 → Int32 → (Nat → Int32) → (Nat → Int32) → (Nat → Int32) → (Nat → Int32) → Int32 → Int32 → Int32 → Option (Int32 × Int32 × (Nat → Int32))) : Nat → Int32 → Int32 → Int32 → (Nat → Int32) → (Nat → Int32) → (Nat → Int32) → (Nat → Int32) → Int32 → Int32 → Int32 → Int32 → Int32 → Int32 → Option (Int32 × Int32 × (Nat → Int32))
  | 0 => fun _ _ _ _ _ _ _ _ _ _ _ _ _ => none
  | n + 1 => p_X8_findEvening_b103x K12 (p_X8_findEvening_b103 K12 n)
def p_X8_findEvening_b98 (K12 : Int32 → Int32 → Int32 → (Nat → Int32) → (Nat → Int32) → (Nat → Int32) → (Nat → Int32) → Int32 → Int32 → Int32 → Option (Int32 × Int32 × (Nat → Int32))) (m_seats : Int32) (m_people : Int32) (m_seedNow : Int32) (m_sorts : Nat → Int32) (m_own : Nat → Int32) (m_kinds : Nat → Int32) (m_evening : Nat → Int32) (t0 : Int32) (x2 : Int32) (x3 : Int32) (x4 : Int32) (x5 : Int32) : Option (Int32 × Int32 × (Nat → Int32)) :=
  p_X8_findEvening_b103 K12 4096 m_seats m_people m_seedNow m_sorts m_own m_kinds m_evening x2 x3 x4 x5 t0 0
def p_X8_findEvening_b78 (K12 : Int32 → Int32 → Int32 → (Nat → Int32) → (Nat → Int32) → (Nat → Int32) → (Nat → Int32) → Int32 → Int32 → Int32 → Option (Int32 × Int32 × (Nat → Int32))) (m_seats : Int32) (m_people : Int32) (m_seedNow : Int32) (m_sorts : Nat → Int32) (m_own : Nat → Int32) (m_kinds : Nat → Int32) (m_evening : Nat → Int32) (t0 : Int32) (x2 : Int32) (x3 : Int32) (x4 : Int32) (x5 : Int32) : Option (Int32 × Int32 × (Nat → Int32)) :=
  if t0 = 0 then
  (p_X8_findEvening_b98 K12 m_seats m_people m_seedNow m_sorts m_own m_kinds m_evening 0 x2 x3 x4 x5)
  else
  (b1 (p_X8_ones  x5) fun r88 =>
  b2 (p_X8_lot m_seedNow r88) fun r91 m_seedNow_91 =>
  p_X8_findEvening_b98 K12 m_seats m_people m_seedNow_91 m_sorts m_own m_kinds m_evening r91 x2 x3 x4 x5)
def p_X8_findEvening_b73 (K12 : Int32 → Int32 → Int32 → (Nat → Int32) → (Nat → Int32) → (Nat → Int32) → (Nat → Int32) → Int32 → Int32 → Int32 → Option (Int32 × Int32 × (Nat → Int32))) (m_seats : Int32) (m_people : Int32) (m_seedNow : Int32) (m_sorts : Nat → Int32) (m_own : Nat → Int32) (m_kinds : Nat → Int32) (m_evening : Nat → Int32) (x2 : Int32) (x3 : Int32) (x4 : Int32) (x5 : Int32) : Option (Int32 × Int32 × (Nat → Int32)) :=
  p_X8_findEvening_b78 K12 m_seats m_people m_seedNow m_sorts m_own m_kinds m_evening 1 x2 x3 x4 x5
def p_X8_findEvening_b77 (K12 : Int32 → Int32 → Int32 → (Nat → Int32) → (Nat → Int32) → (Nat → Int32) → (Nat → Int32) → Int32 → Int32 → Int32 → Option (Int32 × Int32 × (Nat → Int32))) (m_seats : Int32) (m_people : Int32) (m_seedNow : Int32) (m_sorts : Nat → Int32) (m_own : Nat → Int32) (m_kinds : Nat → Int32) (m_evening : Nat → Int32) (x2 : Int32) (x3 : Int32) (x4 : Int32) (x5 : Int32) : Option (Int32 × Int32 × (Nat → Int32)) :=
  p_X8_findEvening_b78 K12 m_seats m_people m_seedNow m_sorts m_own m_kinds m_evening 0 x2 x3 x4 x5
def p_X8_findEvening_b12x (K12 : Int32 → Int32 → Int32 → (Nat → Int32) → (Nat → Int32) → (Nat → Int32) → (Nat → Int32) → Int32 → Int32 → Int32 → Option (Int32 × Int32 × (Nat → Int32))) (m_seats : Int32) (m_people : Int32) (m_seedNow : Int32) (m_sorts : Nat → Int32) (m_own : Nat → Int32) (m_kinds : Nat → Int32) (m_evening : Nat → Int32) (x2 : Int32) (x3 : Int32) (x4 : Int32) : Option (Int32 × Int32 × (Nat → Int32)) :=
  if m_people ≤ x4 then
  (some (x3, m_seedNow, m_evening))
  else
  (gd (inB x4 8) <|
  b1 (p_X8_choices m_seats m_sorts m_own x4 (m_kinds x4.toNatClampNeg) x2) fun r32 =>
  gd (inB x4 8) <|
  if (m_kinds x4.toNatClampNeg) = 1 then
  (p_X8_findEvening_b73 K12 m_seats m_people m_seedNow m_sorts m_own m_kinds m_evening x2 x3 x4 r32)
  else
  (gd (inB x4 8) <|
  if (m_kinds x4.toNatClampNeg) = 2 then
  (p_X8_findEvening_b77 K12 m_seats m_people m_seedNow m_sorts m_own m_kinds m_evening x2 x3 x4 r32)
  else
  (gd (inB x4 8) <|
  b1 (p_X8_isIn  x2 (m_own x4.toNatClampNeg)) fun r67 =>
  if r67 = 0 then
  (p_X8_findEvening_b77 K12 m_seats m_people m_seedNow m_sorts m_own m_kinds m_evening x2 x3 x4 r32)
  else
  (p_X8_findEvening_b73 K12 m_seats m_people m_seedNow m_sorts m_own m_kinds m_evening x2 x3 x4 r32))))
def p_X8_findEvening_b12 : Nat → Int32 → Int32 → Int32 → (Nat → Int32) → (Nat → Int32) → (Nat → Int32) → (Nat → Int32) → Int32 → Int32 → Int32 → Option (Int32 × Int32 × (Nat → Int32))
  | 0 => fun _ _ _ _ _ _ _ _ _ _ => none
  | n + 1 => p_X8_findEvening_b12x (p_X8_findEvening_b12 n)
def p_X8_findEvening_b0 (m_seats : Int32) (m_people : Int32) (m_seedNow : Int32) (m_sorts : Nat → Int32) (m_own : Nat → Int32) (m_kinds : Nat → Int32) (m_evening : Nat → Int32) (x1 : Int32) : Option (Int32 × Int32 × (Nat → Int32)) :=
  p_X8_findEvening_b12 4096 m_seats m_people x1 m_sorts m_own m_kinds m_evening 0 0 0
def p_X8_findEvening (m_seats : Int32) (m_people : Int32) (m_seedNow : Int32) (m_sorts : Nat → Int32) (m_own : Nat → Int32) (m_kinds : Nat → Int32) (m_evening : Nat → Int32) (x1 : Int32) : Option (Int32 × Int32 × (Nat → Int32)) := p_X8_findEvening_b0 m_seats m_people m_seedNow m_sorts m_own m_kinds m_evening x1
-- X8_eveningOf
def p_X8_eveningOf_b21 (m_seats : Int32) (m_people : Int32) (m_seedNow : Int32) (m_sorts : Nat → Int32) (m_own : Nat → Int32) (m_kinds : Nat → Int32) (m_evening : Nat → Int32) (t0 : Int32) : Option (Int32 × Int32 × (Nat → Int32)) :=
  some (t0, m_seedNow, m_evening)
def p_X8_eveningOf_b0 (m_seats : Int32) (m_people : Int32) (m_seedNow : Int32) (m_sorts : Nat → Int32) (m_own : Nat → Int32) (m_kinds : Nat → Int32) (m_evening : Nat → Int32) (x1 : Int32) (x2 : Int32) : Option (Int32 × Int32 × (Nat → Int32)) :=
  b3 (p_X8_findEvening m_seats m_people m_seedNow m_sorts m_own m_kinds m_evening x1) fun r2 m_seedNow_2 m_evening_2 =>
  if x2 = (-1) then
  (p_X8_eveningOf_b21 m_seats m_people m_seedNow_2 m_sorts m_own m_kinds m_evening_2 r2)
  else
  (gd (inB x2 8) <|
  p_X8_eveningOf_b21 m_seats m_people m_seedNow_2 m_sorts m_own m_kinds m_evening_2 (m_evening_2 x2.toNatClampNeg))
def p_X8_eveningOf (m_seats : Int32) (m_people : Int32) (m_seedNow : Int32) (m_sorts : Nat → Int32) (m_own : Nat → Int32) (m_kinds : Nat → Int32) (m_evening : Nat → Int32) (x1 : Int32) (x2 : Int32) : Option (Int32 × Int32 × (Nat → Int32)) := p_X8_eveningOf_b0 m_seats m_people m_seedNow m_sorts m_own m_kinds m_evening x1 x2
-- X8_evening
def p_X8_evening_b33 (m_at : Int32) (m_seats : Int32) (m_rows : Int32) (m_people : Int32) (m_seedNow : Int32) (m_bytes : Nat → Int32) (m_typed : Nat → Int32) (m_sorts : Nat → Int32) (m_rowOf : Nat → Int32) (m_own : Nat → Int32) (m_kinds : Nat → Int32) (m_evening : Nat → Int32) (t0 : Int32) : Option (Int32 × Int32 × Int32 × Int32 × Int32 × Int32 × (Nat → Int32) × (Nat → Int32) × (Nat → Int32) × (Nat → Int32) × (Nat → Int32)) :=
  some (t0, m_at, m_seats, m_rows, m_people, m_seedNow, m_sorts, m_rowOf, m_own, m_kinds, m_evening)
def p_X8_evening_b0 (m_at : Int32) (m_seats : Int32) (m_rows : Int32) (m_people : Int32) (m_seedNow : Int32) (m_bytes : Nat → Int32) (m_typed : Nat → Int32) (m_sorts : Nat → Int32) (m_rowOf : Nat → Int32) (m_own : Nat → Int32) (m_kinds : Nat → Int32) (m_evening : Nat → Int32) (x1 : Int32) (x2 : Int32) : Option (Int32 × Int32 × Int32 × Int32 × Int32 × Int32 × (Nat → Int32) × (Nat → Int32) × (Nat → Int32) × (Nat → Int32) × (Nat → Int32)) :=
  b8 (p_X8_find m_at m_seats m_rows m_people m_bytes m_typed m_sorts m_rowOf m_own m_kinds) fun m_at_1 m_seats_1 m_rows_1 m_people_1 m_sorts_1 m_rowOf_1 m_own_1 m_kinds_1 =>
  b1 (p_X8_in  x2.toInt64 (-1) ((m_people_1 - 1).toInt64)) fun r16 =>
  if r16 = 0 then
  (p_X8_evening_b33 m_at_1 m_seats_1 m_rows_1 m_people_1 m_seedNow m_bytes m_typed m_sorts_1 m_rowOf_1 m_own_1 m_kinds_1 m_evening (-2))
  else
  (b3 (p_X8_eveningOf m_seats_1 m_people_1 m_seedNow m_sorts_1 m_own_1 m_kinds_1 m_evening x1 x2) fun r25 m_seedNow_25 m_evening_25 =>
  p_X8_evening_b33 m_at_1 m_seats_1 m_rows_1 m_people_1 m_seedNow_25 m_bytes m_typed m_sorts_1 m_rowOf_1 m_own_1 m_kinds_1 m_evening_25 r25)
def p_X8_evening (m_at : Int32) (m_seats : Int32) (m_rows : Int32) (m_people : Int32) (m_seedNow : Int32) (m_bytes : Nat → Int32) (m_typed : Nat → Int32) (m_sorts : Nat → Int32) (m_rowOf : Nat → Int32) (m_own : Nat → Int32) (m_kinds : Nat → Int32) (m_evening : Nat → Int32) (x1 : Int32) (x2 : Int32) : Option (Int32 × Int32 × Int32 × Int32 × Int32 × Int32 × (Nat → Int32) × (Nat → Int32) × (Nat → Int32) × (Nat → Int32) × (Nat → Int32)) := p_X8_evening_b0 m_at m_seats m_rows m_people m_seedNow m_bytes m_typed m_sorts m_rowOf m_own m_kinds m_evening x1 x2
-- X8_write
def p_X8_write_b65x (K65 : Int32 → Int32 → Int32 → Int32 → Int32 → Int32 → (Nat → Int32) → (Nat → Int32) → (Nat → Int32) → (Nat → Int32) → (Nat → Int32) → (Nat → Int32) → (Nat → Int32) → (Nat → Int32) → (Nat → Int32) → (Nat → Int32) → Int32 → Int32 → Int32 → Option (Int32 × Int32 × Int32 × Int32 × Int32 × Int32 × Int32 × (Nat → Int32) × (Nat → Int32) × (Nat → Int32) × (Nat → Int32) × (Nat → Int32) × (Nat → Int32))) (m_latest : Int32) (m_at : Int32) (m_seats : Int32) (m_rows : Int32) (m_people : Int32) (m_seedNow : Int32) (m_forms : Nat → Int32) (m_sizes : Nat → Int32) (m_items : Nat → Int32) (m_bytes : Nat → Int32) (m_typed : Nat → Int32) (m_sorts : Nat → Int32) (m_rowOf : Nat → Int32) (m_own : Nat → Int32) (m_kinds : Nat → Int32) (m_evening : Nat → Int32) (x2 : Int32) (x3 : Int32) (x4 : Int32) : Option (Int32 × Int32 × Int32 × Int32 × Int32 × Int32 × Int32 × (Nat → Int32) × (Nat → Int32) × (Nat → Int32) × (Nat → Int32) × (Nat → Int32) × (Nat → Int32)) :=
  if x3 ≤ x4 then
  (some (x3, m_latest, m_at, m_seats, m_rows, m_people, m_seedNow, m_items, m_sorts, m_rowOf, m_own, m_kinds, m_evening))
  else
  (gd (inB x2 4) <|
  gd (inB x4 8) <|
  b1 (p_X8_cut  (m_forms x2.toNatClampNeg) (m_evening x4.toNatClampNeg)) fun r95 =>
  gd (inB ((60 * x2) + x4) 240) <|
  nm (upd m_items ((60 * x2) + x4).toNatClampNeg r95) fun m_items_98 =>
  nm (x4 + 1 : Int32) fun x99 =>
  K65 m_latest m_at m_seats m_rows m_people m_seedNow m_forms m_sizes m_items_98 m_bytes m_typed m_sorts m_rowOf m_own m_kinds m_evening x2 x3 x99)
def p_X8_write_b65 : Nat → Int32 → Int32 → Int32 → Int32 → Int32 → Int32 → (Nat → Int32) → (Nat → Int32) → (Nat → Int32) → (Nat → Int32) → (Nat → Int32) → (Nat → Int32) → (Nat → Int32) → (Nat → Int32) → (Nat → Int32) → (Nat → Int32) → Int32 → Int32 → Int32 → Option (Int32 × Int32 × Int32 × Int32 × Int32 × Int32 × Int32 × (Nat → Int32) × (Nat → Int32) × (Nat → Int32) × (Nat → Int32) × (Nat → Int32) × (Nat → Int32))
  | 0 => fun _ _ _ _ _ _ _ _ _ _ _ _ _ _ _ _ _ _ _ => none
  | n + 1 => p_X8_write_b65x (p_X8_write_b65 n)
def p_X8_write_b61 (m_latest : Int32) (m_at : Int32) (m_seats : Int32) (m_rows : Int32) (m_people : Int32) (m_seedNow : Int32) (m_forms : Nat → Int32) (m_sizes : Nat → Int32) (m_items : Nat → Int32) (m_bytes : Nat → Int32) (m_typed : Nat → Int32) (m_sorts : Nat → Int32) (m_rowOf : Nat → Int32) (m_own : Nat → Int32) (m_kinds : Nat → Int32) (m_evening : Nat → Int32) (t0 : Int32) (x2 : Int32) : Option (Int32 × Int32 × Int32 × Int32 × Int32 × Int32 × Int32 × (Nat → Int32) × (Nat → Int32) × (Nat → Int32) × (Nat → Int32) × (Nat → Int32) × (Nat → Int32)) :=
  p_X8_write_b65 4096 m_latest m_at m_seats m_rows m_people m_seedNow m_forms m_sizes m_items m_bytes m_typed m_sorts m_rowOf m_own m_kinds m_evening x2 t0 0
def p_X8_write_b0 (m_latest : Int32) (m_at : Int32) (m_seats : Int32) (m_rows : Int32) (m_people : Int32) (m_seedNow : Int32) (m_forms : Nat → Int32) (m_sizes : Nat → Int32) (m_items : Nat → Int32) (m_bytes : Nat → Int32) (m_typed : Nat → Int32) (m_sorts : Nat → Int32) (m_rowOf : Nat → Int32) (m_own : Nat → Int32) (m_kinds : Nat → Int32) (m_evening : Nat → Int32) (x1 : Int32) (x2 : Int32) : Option (Int32 × Int32 × Int32 × Int32 × Int32 × Int32 × Int32 × (Nat → Int32) × (Nat → Int32) × (Nat → Int32) × (Nat → Int32) × (Nat → Int32) × (Nat → Int32)) :=
  b1 (p_X8_isSheet  x2) fun r1 =>
  if r1 = 0 then
  (some ((-2), m_latest, m_at, m_seats, m_rows, m_people, m_seedNow, m_items, m_sorts, m_rowOf, m_own, m_kinds, m_evening))
  else
  (gd (inB x2 4) <|
  if 0 ≤ (m_forms x2.toNatClampNeg) then
  (b8 (p_X8_find m_at m_seats m_rows m_people m_bytes m_typed m_sorts m_rowOf m_own m_kinds) fun m_at_26 m_seats_26 m_rows_26 m_people_26 m_sorts_26 m_rowOf_26 m_own_26 m_kinds_26 =>
  b3 (p_X8_findEvening m_seats_26 m_people_26 m_seedNow m_sorts_26 m_own_26 m_kinds_26 m_evening x1) fun r31 m_seedNow_31 m_evening_31 =>
  gd (inB x2 4) <|
  if m_people_26 ≤ (m_sizes x2.toNatClampNeg) then
  (p_X8_write_b61 m_latest m_at_26 m_seats_26 m_rows_26 m_people_26 m_seedNow_31 m_forms m_sizes m_items m_bytes m_typed m_sorts_26 m_rowOf_26 m_own_26 m_kinds_26 m_evening_31 m_people_26 x2)
  else
  (gd (inB x2 4) <|
  p_X8_write_b61 m_latest m_at_26 m_seats_26 m_rows_26 m_people_26 m_seedNow_31 m_forms m_sizes m_items m_bytes m_typed m_sorts_26 m_rowOf_26 m_own_26 m_kinds_26 m_evening_31 (m_sizes x2.toNatClampNeg) x2))
  else
  (b2 (p_X8_met m_latest 1) fun r21 m_latest_21 =>
  some (r21, m_latest_21, m_at, m_seats, m_rows, m_people, m_seedNow, m_items, m_sorts, m_rowOf, m_own, m_kinds, m_evening)))
def p_X8_write (m_latest : Int32) (m_at : Int32) (m_seats : Int32) (m_rows : Int32) (m_people : Int32) (m_seedNow : Int32) (m_forms : Nat → Int32) (m_sizes : Nat → Int32) (m_items : Nat → Int32) (m_bytes : Nat → Int32) (m_typed : Nat → Int32) (m_sorts : Nat → Int32) (m_rowOf : Nat → Int32) (m_own : Nat → Int32) (m_kinds : Nat → Int32) (m_evening : Nat → Int32) (x1 : Int32) (x2 : Int32) : Option (Int32 × Int32 × Int32 × Int32 × Int32 × Int32 × Int32 × (Nat → Int32) × (Nat → Int32) × (Nat → Int32) × (Nat → Int32) × (Nat → Int32) × (Nat → Int32)) := p_X8_write_b0 m_latest m_at m_seats m_rows m_people m_seedNow m_forms m_sizes m_items m_bytes m_typed m_sorts m_rowOf m_own m_kinds m_evening x1 x2
-- X8_count
def p_X8_count_b111 (K87 : Int32 → Int32 → Int32 → Int32 → Int32 → Int32 → (Nat → Int32) → (Nat → Int32) → (Nat → Int32) → (Nat → Int32) → (Nat → Int32) → (Nat → Int32) → Int32 → Int32 → Option (Int32 × Int32 × Int32 × Int32 × Int32 × (Nat → Int32) × (Nat → Int32) × (Nat → Int32) × (Nat → Int32))) (m_latest : Int32) (m_at : Int32) (m_seats : Int32) (m_rows : Int32) (m_people : Int32) (m_sights : Int32) (m_bytes : Nat → Int32) (m_typed : Nat → Int32) (m_sorts : Nat → Int32) (m_rowOf : Nat → Int32) (m_own : Nat → Int32) (m_kinds : Nat → Int32) (t0 : Int32) (t1 : Int32) (x3 : Int32) : Option (Int32 × Int32 × Int32 × Int32 × Int32 × (Nat → Int32) × (Nat → Int32) × (Nat → Int32) × (Nat → Int32)) :=
  nm ((t0 + t1) : Int32) fun x112 =>
  nm (x3 + 1 : Int32) fun x113 =>
  K87 m_latest m_at m_seats m_rows m_people m_sights m_bytes m_typed m_sorts m_rowOf m_own m_kinds x112 x113
def p_X8_count_b87x (K87 : Int32 → Int32 → Int32 → Int32 → Int32 → Int32 → (Nat → Int32) → (Nat → Int32) → (Nat → Int32) → (Nat → Int32) → (Nat → Int32) → (Nat → Int32) → Int32 → Int32 → Option (Int32 × Int32 × Int32 × Int32 × Int32 × (Nat → Int32) × (Nat → Int32) × (Nat → Int32) × (Nat → Int32))) (m_latest : Int32) (m_at : Int32) (m_seats : Int32) (m_rows : Int32) (m_people : Int32) (m_sights : Int32) (m_bytes : Nat → Int32) (m_typed : Nat → Int32) (m_sorts : Nat → Int32) (m_rowOf : Nat → Int32) (m_own : Nat → Int32) (m_kinds : Nat → Int32) (x2 : Int32) (x3 : Int32) : Option (Int32 × Int32 × Int32 × Int32 × Int32 × (Nat → Int32) × (Nat → Int32) × (Nat → Int32) × (Nat → Int32)) :=
  if m_people ≤ x3 then
  (some (x2, m_at, m_seats, m_rows, m_people, m_sorts, m_rowOf, m_own, m_kinds))
  else
  (gd (inB x3 8) <|
  if (m_kinds x3.toNatClampNeg) = 1 then
  (p_X8_count_b111 K87 m_latest m_at m_seats m_rows m_people m_sights m_bytes m_typed m_sorts m_rowOf m_own m_kinds x2 1 x3)
  else
  (p_X8_count_b111 K87 m_latest m_at m_seats m_rows m_people m_sights m_bytes m_typed m_sorts m_rowOf m_own m_kinds x2 0 x3))
def p_X8_count_b87 : Nat → Int32 → Int32 → Int32 → Int32 → Int32 → Int32 → (Nat → Int32) → (Nat → Int32) → (Nat → Int32) → (Nat → Int32) → (Nat → Int32) → (Nat → Int32) → Int32 → Int32 → Option (Int32 × Int32 × Int32 × Int32 × Int32 × (Nat → Int32) × (Nat → Int32) × (Nat → Int32) × (Nat → Int32))
  | 0 => fun _ _ _ _ _ _ _ _ _ _ _ _ _ _ => none
  | n + 1 => p_X8_count_b87x (p_X8_count_b87 n)
def p_X8_count_b145 (K123 : Int32 → Int32 → Int32 → Int32 → Int32 → Int32 → (Nat → Int32) → (Nat → Int32) → (Nat → Int32) → (Nat → Int32) → (Nat → Int32) → (Nat → Int32) → Int32 → Int32 → Option (Int32 × Int32 × Int32 × Int32 × Int32 × (Nat → Int32) × (Nat → Int32) × (Nat → Int32) × (Nat → Int32))) (m_latest : Int32) (m_at : Int32) (m_seats : Int32) (m_rows : Int32) (m_people : Int32) (m_sights : Int32) (m_bytes : Nat → Int32) (m_typed : Nat → Int32) (m_sorts : Nat → Int32) (m_rowOf : Nat → Int32) (m_own : Nat → Int32) (m_kinds : Nat → Int32) (t0 : Int32) (t1 : Int32) (x3 : Int32) : Option (Int32 × Int32 × Int32 × Int32 × Int32 × (Nat → Int32) × (Nat → Int32) × (Nat → Int32) × (Nat → Int32)) :=
  nm ((t0 + t1) : Int32) fun x146 =>
  nm (x3 + 1 : Int32) fun x147 =>
  K123 m_latest m_at m_seats m_rows m_people m_sights m_bytes m_typed m_sorts m_rowOf m_own m_kinds x146 x147
def p_X8_count_b123x (K123 : Int32 → Int32 → Int32 → Int32 → Int32 → Int32 → (Nat → Int32) → (Nat → Int32) → (Nat → Int32) → (Nat → Int32) → (Nat → Int32) → (Nat → Int32) → Int32 → Int32 → Option (Int32 × Int32 × Int32 × Int32 × Int32 × (Nat → Int32) × (Nat → Int32) × (Nat → Int32) × (Nat → Int32))) (m_latest : Int32) (m_at : Int32) (m_seats : Int32) (m_rows : Int32) (m_people : Int32) (m_sights : Int32) (m_bytes : Nat → Int32) (m_typed : Nat → Int32) (m_sorts : Nat → Int32) (m_rowOf : Nat → Int32) (m_own : Nat → Int32) (m_kinds : Nat → Int32) (x2 : Int32) (x3 : Int32) : Option (Int32 × Int32 × Int32 × Int32 × Int32 × (Nat → Int32) × (Nat → Int32) × (Nat → Int32) × (Nat → Int32)) :=
  if m_seats ≤ x3 then
  (some (x2, m_at, m_seats, m_rows, m_people, m_sorts, m_rowOf, m_own, m_kinds))
  else
  (b1 (p_X8_ownersOf m_people m_own x3) fun r134 =>
  if r134 = 0 then
  (p_X8_count_b145 K123 m_latest m_at m_seats m_rows m_people m_sights m_bytes m_typed m_sorts m_rowOf m_own m_kinds x2 1 x3)
  else
  (p_X8_count_b145 K123 m_latest m_at m_seats m_rows m_people m_sights m_bytes m_typed m_sorts m_rowOf m_own m_kinds x2 0 x3))
def p_X8_count_b123 : Nat → Int32 → Int32 → Int32 → Int32 → Int32 → Int32 → (Nat → Int32) → (Nat → Int32) → (Nat → Int32) → (Nat → Int32) → (Nat → Int32) → (Nat → Int32) → Int32 → Int32 → Option (Int32 × Int32 × Int32 × Int32 × Int32 × (Nat → Int32) × (Nat → Int32) × (Nat → Int32) × (Nat → Int32))
  | 0 => fun _ _ _ _ _ _ _ _ _ _ _ _ _ _ => none
  | n + 1 => p_X8_count_b123x (p_X8_count_b123 n)
def p_X8_count_b0 (m_latest : Int32) (m_at : Int32) (m_seats : Int32) (m_rows : Int32) (m_people : Int32) (m_sights : Int32) (m_bytes : Nat → Int32) (m_typed : Nat → Int32) (m_sorts : Nat → Int32) (m_rowOf : Nat → Int32) (m_own : Nat → Int32) (m_kinds : Nat → Int32) (x1 : Int32) : Option (Int32 × Int32 × Int32 × Int32 × Int32 × (Nat → Int32) × (Nat → Int32) × (Nat → Int32) × (Nat → Int32)) :=
  b8 (p_X8_find m_at m_seats m_rows m_people m_bytes m_typed m_sorts m_rowOf m_own m_kinds) fun m_at_3 m_seats_3 m_rows_3 m_people_3 m_sorts_3 m_rowOf_3 m_own_3 m_kinds_3 =>
  if x1.toInt = 0 then
  (some (m_seats_3, m_at_3, m_seats_3, m_rows_3, m_people_3, m_sorts_3, m_rowOf_3, m_own_3, m_kinds_3))
  else
  (if x1.toInt = 1 then
  (some (m_rows_3, m_at_3, m_seats_3, m_rows_3, m_people_3, m_sorts_3, m_rowOf_3, m_own_3, m_kinds_3))
  else
  (if x1.toInt = 2 then
  (some (m_people_3, m_at_3, m_seats_3, m_rows_3, m_people_3, m_sorts_3, m_rowOf_3, m_own_3, m_kinds_3))
  else
  (if x1.toInt = 3 then
  (gd (inB (x1 - 3) 2) <|
  some ((m_typed (x1 - 3).toNatClampNeg), m_at_3, m_seats_3, m_rows_3, m_people_3, m_sorts_3, m_rowOf_3, m_own_3, m_kinds_3))
  else
  (if x1.toInt = 4 then
  (gd (inB (x1 - 3) 2) <|
  some ((m_typed (x1 - 3).toNatClampNeg), m_at_3, m_seats_3, m_rows_3, m_people_3, m_sorts_3, m_rowOf_3, m_own_3, m_kinds_3))
  else
  (if x1.toInt = 5 then
  (some (m_sights, m_at_3, m_seats_3, m_rows_3, m_people_3, m_sorts_3, m_rowOf_3, m_own_3, m_kinds_3))
  else
  (if x1.toInt = 6 then
  (p_X8_count_b87 4096 m_latest m_at_3 m_seats_3 m_rows_3 m_people_3 m_sights m_bytes m_typed m_sorts_3 m_rowOf_3 m_own_3 m_kinds_3 0 0)
  else
  (if x1.toInt = 7 then
  (p_X8_count_b123 4096 m_latest m_at_3 m_seats_3 m_rows_3 m_people_3 m_sights m_bytes m_typed m_sorts_3 m_rowOf_3 m_own_3 m_kinds_3 0 0)
  else
  (if x1.toInt = 8 then
  (some (m_latest, m_at_3, m_seats_3, m_rows_3, m_people_3, m_sorts_3, m_rowOf_3, m_own_3, m_kinds_3))
  else
  (some ((-2), m_at_3, m_seats_3, m_rows_3, m_people_3, m_sorts_3, m_rowOf_3, m_own_3, m_kinds_3))))))))))
def p_X8_count (m_latest : Int32) (m_at : Int32) (m_seats : Int32) (m_rows : Int32) (m_people : Int32) (m_sights : Int32) (m_bytes : Nat → Int32) (m_typed : Nat → Int32) (m_sorts : Nat → Int32) (m_rowOf : Nat → Int32) (m_own : Nat → Int32) (m_kinds : Nat → Int32) (x1 : Int32) : Option (Int32 × Int32 × Int32 × Int32 × Int32 × (Nat → Int32) × (Nat → Int32) × (Nat → Int32) × (Nat → Int32)) := p_X8_count_b0 m_latest m_at m_seats m_rows m_people m_sights m_bytes m_typed m_sorts m_rowOf m_own m_kinds x1
-- X8_digest
def p_X8_digest_b390x (K390 : Int32 → Int32 → Int32 → Int32 → Int32 → Int32 → Int32 → Int32 → Int32 → Int32 → Int32 → Int64 → Int64 → (Nat → Int32) → (Nat → Int32) → (Nat → Int32) → (Nat → Int32) → (Nat → Int32) → (Nat → Int32) → (Nat → Int32) → (Nat → Int32) → (Nat → Int32) → (Nat → Int32) → (Nat → Int32) → (Nat → Int32) → (Nat → Int64) → (Nat → Int64) → Int64 → Int32 → Option (Int64 × Int32 × Int32 × Int32 × Int32 × Int32 × Int32 × Int32 × Int32 × Int32 × Int64 × Int64 × (Nat → Int32) × (Nat → Int32) × (Nat → Int32) × (Nat → Int32) × (Nat → Int32) × (Nat → Int32) × (Nat → Int32) × (Nat → Int32) × (Nat → Int64) × (Nat → Int64))) (m_latest : Int32) (m_at : Int32) (m_seats : Int32) (m_rows : Int32) (m_people : Int32) (m_loser : Int32) (m_onlyWho : Int32) (m_onlyWhere : Int32) (m_keptFree : Int32) (m_sights : Int32) (m_seedNow : Int32) (m_all : Int64) (m_bestRight : Int64) (m_bytes : Nat → Int32) (m_typed : Nat → Int32) (m_sorts : Nat → Int32) (m_rowOf : Nat → Int32) (m_own : Nat → Int32) (m_kinds : Nat → Int32) (m_keptSeat : Nat → Int32) (m_order : Nat → Int32) (m_bestOrder : Nat → Int32) (m_sightWho : Nat → Int32) (m_sightWhere : Nat → Int32) (m_evening : Nat → Int32) (m_ways : Nat → Int64) (m_next : Nat → Int64) (x1 : Int64) (x3 : Int32) : Option (Int64 × Int32 × Int32 × Int32 × Int32 × Int32 × Int32 × Int32 × Int32 × Int32 × Int64 × Int64 × (Nat → Int32) × (Nat → Int32) × (Nat → Int32) × (Nat → Int32) × (Nat → Int32) × (Nat → Int32) × (Nat → Int32) × (Nat → Int32) × (Nat → Int64) × (Nat → Int64)) :=
  if 2 ≤ x3 then
  (some (x1, m_at, m_seats, m_rows, m_people, m_loser, m_onlyWho, m_onlyWhere, m_keptFree, m_seedNow, m_all, m_bestRight, m_sorts, m_rowOf, m_own, m_kinds, m_keptSeat, m_order, m_bestOrder, m_evening, m_ways, m_next))
  else
  (b1 (p_X8_turnedOf  5 2 x3) fun r403 =>
  nm (((31 * x1) + r403) : Int64) fun x407 =>
  nm (x3 + 1 : Int32) fun x408 =>
  K390 m_latest m_at m_seats m_rows m_people m_loser m_onlyWho m_onlyWhere m_keptFree m_sights m_seedNow m_all m_bestRight m_bytes m_typed m_sorts m_rowOf m_own m_kinds m_keptSeat m_order m_bestOrder m_sightWho m_sightWhere m_evening m_ways m_next x407 x408)
def p_X8_digest_b390 : Nat → Int32 → Int32 → Int32 → Int32 → Int32 → Int32 → Int32 → Int32 → Int32 → Int32 → Int32 → Int64 → Int64 → (Nat → Int32) → (Nat → Int32) → (Nat → Int32) → (Nat → Int32) → (Nat → Int32) → (Nat → Int32) → (Nat → Int32) → (Nat → Int32) → (Nat → Int32) → (Nat → Int32) → (Nat → Int32) → (Nat → Int32) → (Nat → Int64) → (Nat → Int64) → Int64 → Int32 → Option (Int64 × Int32 × Int32 × Int32 × Int32 × Int32 × Int32 × Int32 × Int32 × Int32 × Int64 × Int64 × (Nat → Int32) × (Nat → Int32) × (Nat → Int32) × (Nat → Int32) × (Nat → Int32) × (Nat → Int32) × (Nat → Int32) × (Nat → Int32) × (Nat → Int64) × (Nat → Int64))
  | 0 => fun _ _ _ _ _ _ _ _ _ _ _ _ _ _ _ _ _ _ _ _ _ _ _ _ _ _ _ _ _ => none
  | n + 1 => p_X8_digest_b390x (p_X8_digest_b390 n)
def p_X8_digest_b300x (K300 : Int32 → Int32 → Int32 → Int32 → Int32 → Int32 → Int32 → Int32 → Int32 → Int32 → Int32 → Int64 → Int64 → (Nat → Int32) → (Nat → Int32) → (Nat → Int32) → (Nat → Int32) → (Nat → Int32) → (Nat → Int32) → (Nat → Int32) → (Nat → Int32) → (Nat → Int32) → (Nat → Int32) → (Nat → Int32) → (Nat → Int32) → (Nat → Int64) → (Nat → Int64) → Int64 → Int32 → Option (Int64 × Int32 × Int32 × Int32 × Int32 × Int32 × Int32 × Int32 × Int32 × Int32 × Int64 × Int64 × (Nat → Int32) × (Nat → Int32) × (Nat → Int32) × (Nat → Int32) × (Nat → Int32) × (Nat → Int32) × (Nat → Int32) × (Nat → Int32) × (Nat → Int64) × (Nat → Int64))) (m_latest : Int32) (m_at : Int32) (m_seats : Int32) (m_rows : Int32) (m_people : Int32) (m_loser : Int32) (m_onlyWho : Int32) (m_onlyWhere : Int32) (m_keptFree : Int32) (m_sights : Int32) (m_seedNow : Int32) (m_all : Int64) (m_bestRight : Int64) (m_bytes : Nat → Int32) (m_typed : Nat → Int32) (m_sorts : Nat → Int32) (m_rowOf : Nat → Int32) (m_own : Nat → Int32) (m_kinds : Nat → Int32) (m_keptSeat : Nat → Int32) (m_order : Nat → Int32) (m_bestOrder : Nat → Int32) (m_sightWho : Nat → Int32) (m_sightWhere : Nat → Int32) (m_evening : Nat → Int32) (m_ways : Nat → Int64) (m_next : Nat → Int64) (x1 : Int64) (x3 : Int32) : Option (Int64 × Int32 × Int32 × Int32 × Int32 × Int32 × Int32 × Int32 × Int32 × Int32 × Int64 × Int64 × (Nat → Int32) × (Nat → Int32) × (Nat → Int32) × (Nat → Int32) × (Nat → Int32) × (Nat → Int32) × (Nat → Int32) × (Nat → Int32) × (Nat → Int64) × (Nat → Int64)) :=
  if 2 ≤ x3 then
  (b9 (p_X8_losersNow m_seats m_people m_loser m_onlyWho m_onlyWhere m_keptFree m_sights m_all m_sorts m_own m_kinds m_keptSeat m_sightWho m_sightWhere m_ways m_next) fun r329 m_loser_329 m_onlyWho_329 m_onlyWhere_329 m_keptFree_329 m_all_329 m_keptSeat_329 m_ways_329 m_next_329 =>
  nm (((31 * x1) + r329.toInt64) : Int64) fun x334 =>
  b9 (p_X8_likeliestNow m_seats m_people m_loser_329 m_onlyWho_329 m_onlyWhere_329 m_keptFree_329 m_sights m_all_329 m_sorts m_own m_kinds m_keptSeat_329 m_sightWho m_sightWhere m_ways_329 m_next_329) fun r341 m_loser_341 m_onlyWho_341 m_onlyWhere_341 m_keptFree_341 m_all_341 m_keptSeat_341 m_ways_341 m_next_341 =>
  nm (((31 * x334) + r341.toInt64) : Int64) fun x346 =>
  b9 (p_X8_askNow m_seats m_people m_loser_341 m_onlyWho_341 m_onlyWhere_341 m_keptFree_341 m_sights m_all_341 m_sorts m_own m_kinds m_keptSeat_341 m_sightWho m_sightWhere m_ways_341 m_next_341 0) fun r354 m_loser_354 m_onlyWho_354 m_onlyWhere_354 m_keptFree_354 m_all_354 m_keptSeat_354 m_ways_354 m_next_354 =>
  nm (((31 * x346) + r354.toInt64) : Int64) fun x359 =>
  b9 (p_X8_askNow m_seats m_people m_loser_354 m_onlyWho_354 m_onlyWhere_354 m_keptFree_354 m_sights m_all_354 m_sorts m_own m_kinds m_keptSeat_354 m_sightWho m_sightWhere m_ways_354 m_next_354 1) fun r367 m_loser_367 m_onlyWho_367 m_onlyWhere_367 m_keptFree_367 m_all_367 m_keptSeat_367 m_ways_367 m_next_367 =>
  nm (((31 * x359) + r367.toInt64) : Int64) fun x372 =>
  b3 (p_X8_eveningOf m_seats m_people m_seedNow m_sorts m_own m_kinds m_evening 7 (-1)) fun r382 m_seedNow_382 m_evening_382 =>
  nm (((31 * x372) + r382.toInt64) : Int64) fun x387 =>
  p_X8_digest_b390 4096 m_latest m_at m_seats m_rows m_people m_loser_367 m_onlyWho_367 m_onlyWhere_367 m_keptFree_367 m_sights m_seedNow_382 m_all_367 m_bestRight m_bytes m_typed m_sorts m_rowOf m_own m_kinds m_keptSeat_367 m_order m_bestOrder m_sightWho m_sightWhere m_evening_382 m_ways_367 m_next_367 x387 0)
  else
  (b11 (p_X8_bestOf m_seats m_people m_loser m_onlyWho m_onlyWhere m_keptFree m_all m_bestRight m_sorts m_own m_kinds m_keptSeat m_order m_bestOrder m_ways m_next x3) fun r312 m_loser_312 m_onlyWho_312 m_keptFree_312 m_all_312 m_bestRight_312 m_keptSeat_312 m_order_312 m_bestOrder_312 m_ways_312 m_next_312 =>
  nm (((31 * x1) + r312) : Int64) fun x316 =>
  nm (x3 + 1 : Int32) fun x317 =>
  K300 m_latest m_at m_seats m_rows m_people m_loser_312 m_onlyWho_312 m_onlyWhere m_keptFree_312 m_sights m_seedNow m_all_312 m_bestRight_312 m_bytes m_typed m_sorts m_rowOf m_own m_kinds m_keptSeat_312 m_order_312 m_bestOrder_312 m_sightWho m_sightWhere m_evening m_ways_312 m_next_312 x316 x317)
def p_X8_digest_b300 : Nat → Int32 → Int32 → Int32 → Int32 → Int32 → Int32 → Int32 → Int32 → Int32 → Int32 → Int32 → Int64 → Int64 → (Nat → Int32) → (Nat → Int32) → (Nat → Int32) → (Nat → Int32) → (Nat → Int32) → (Nat → Int32) → (Nat → Int32) → (Nat → Int32) → (Nat → Int32) → (Nat → Int32) → (Nat → Int32) → (Nat → Int32) → (Nat → Int64) → (Nat → Int64) → Int64 → Int32 → Option (Int64 × Int32 × Int32 × Int32 × Int32 × Int32 × Int32 × Int32 × Int32 × Int32 × Int64 × Int64 × (Nat → Int32) × (Nat → Int32) × (Nat → Int32) × (Nat → Int32) × (Nat → Int32) × (Nat → Int32) × (Nat → Int32) × (Nat → Int32) × (Nat → Int64) × (Nat → Int64))
  | 0 => fun _ _ _ _ _ _ _ _ _ _ _ _ _ _ _ _ _ _ _ _ _ _ _ _ _ _ _ _ _ => none
  | n + 1 => p_X8_digest_b300x (p_X8_digest_b300 n)
def p_X8_digest_b263x (K263 : Int32 → Int32 → Int32 → Int32 → Int32 → Int32 → Int32 → Int32 → Int32 → Int32 → Int32 → Int64 → Int64 → (Nat → Int32) → (Nat → Int32) → (Nat → Int32) → (Nat → Int32) → (Nat → Int32) → (Nat → Int32) → (Nat → Int32) → (Nat → Int32) → (Nat → Int32) → (Nat → Int32) → (Nat → Int32) → (Nat → Int32) → (Nat → Int64) → (Nat → Int64) → Int64 → Int32 → Option (Int64 × Int32 × Int32 × Int32 × Int32 × Int32 × Int32 × Int32 × Int32 × Int32 × Int64 × Int64 × (Nat → Int32) × (Nat → Int32) × (Nat → Int32) × (Nat → Int32) × (Nat → Int32) × (Nat → Int32) × (Nat → Int32) × (Nat → Int32) × (Nat → Int64) × (Nat → Int64))) (m_latest : Int32) (m_at : Int32) (m_seats : Int32) (m_rows : Int32) (m_people : Int32) (m_loser : Int32) (m_onlyWho : Int32) (m_onlyWhere : Int32) (m_keptFree : Int32) (m_sights : Int32) (m_seedNow : Int32) (m_all : Int64) (m_bestRight : Int64) (m_bytes : Nat → Int32) (m_typed : Nat → Int32) (m_sorts : Nat → Int32) (m_rowOf : Nat → Int32) (m_own : Nat → Int32) (m_kinds : Nat → Int32) (m_keptSeat : Nat → Int32) (m_order : Nat → Int32) (m_bestOrder : Nat → Int32) (m_sightWho : Nat → Int32) (m_sightWhere : Nat → Int32) (m_evening : Nat → Int32) (m_ways : Nat → Int64) (m_next : Nat → Int64) (x1 : Int64) (x3 : Int32) : Option (Int64 × Int32 × Int32 × Int32 × Int32 × Int32 × Int32 × Int32 × Int32 × Int32 × Int64 × Int64 × (Nat → Int32) × (Nat → Int32) × (Nat → Int32) × (Nat → Int32) × (Nat → Int32) × (Nat → Int32) × (Nat → Int32) × (Nat → Int32) × (Nat → Int64) × (Nat → Int64)) :=
  if 2 ≤ x3 then
  (p_X8_digest_b300 4096 m_latest m_at m_seats m_rows m_people m_loser m_onlyWho m_onlyWhere m_keptFree m_sights m_seedNow m_all m_bestRight m_bytes m_typed m_sorts m_rowOf m_own m_kinds m_keptSeat m_order m_bestOrder m_sightWho m_sightWhere m_evening m_ways m_next x1 0)
  else
  (b8 (p_X8_takenOf m_seats m_loser m_onlyWho m_onlyWhere m_keptFree m_all m_sorts m_own m_kinds m_keptSeat m_ways m_next m_people (((1 : Int32) <<< (m_people &&& 31)) - 1) x3) fun r287 m_loser_287 m_onlyWho_287 m_keptFree_287 m_all_287 m_keptSeat_287 m_ways_287 m_next_287 =>
  nm (((31 * x1) + r287) : Int64) fun x291 =>
  nm (x3 + 1 : Int32) fun x292 =>
  K263 m_latest m_at m_seats m_rows m_people m_loser_287 m_onlyWho_287 m_onlyWhere m_keptFree_287 m_sights m_seedNow m_all_287 m_bestRight m_bytes m_typed m_sorts m_rowOf m_own m_kinds m_keptSeat_287 m_order m_bestOrder m_sightWho m_sightWhere m_evening m_ways_287 m_next_287 x291 x292)
def p_X8_digest_b263 : Nat → Int32 → Int32 → Int32 → Int32 → Int32 → Int32 → Int32 → Int32 → Int32 → Int32 → Int32 → Int64 → Int64 → (Nat → Int32) → (Nat → Int32) → (Nat → Int32) → (Nat → Int32) → (Nat → Int32) → (Nat → Int32) → (Nat → Int32) → (Nat → Int32) → (Nat → Int32) → (Nat → Int32) → (Nat → Int32) → (Nat → Int32) → (Nat → Int64) → (Nat → Int64) → Int64 → Int32 → Option (Int64 × Int32 × Int32 × Int32 × Int32 × Int32 × Int32 × Int32 × Int32 × Int32 × Int64 × Int64 × (Nat → Int32) × (Nat → Int32) × (Nat → Int32) × (Nat → Int32) × (Nat → Int32) × (Nat → Int32) × (Nat → Int32) × (Nat → Int32) × (Nat → Int64) × (Nat → Int64))
  | 0 => fun _ _ _ _ _ _ _ _ _ _ _ _ _ _ _ _ _ _ _ _ _ _ _ _ _ _ _ _ _ => none
  | n + 1 => p_X8_digest_b263x (p_X8_digest_b263 n)
def p_X8_digest_b238x (K238 : Int32 → Int32 → Int32 → Int32 → Int32 → Int32 → Int32 → Int32 → Int32 → Int32 → Int32 → Int64 → Int64 → (Nat → Int32) → (Nat → Int32) → (Nat → Int32) → (Nat → Int32) → (Nat → Int32) → (Nat → Int32) → (Nat → Int32) → (Nat → Int32) → (Nat → Int32) → (Nat → Int32) → (Nat → Int32) → (Nat → Int32) → (Nat → Int64) → (Nat → Int64) → Int64 → Int32 → Option (Int64 × Int32 × Int32 × Int32 × Int32 × Int32 × Int32 × Int32 × Int32 × Int32 × Int64 × Int64 × (Nat → Int32) × (Nat → Int32) × (Nat → Int32) × (Nat → Int32) × (Nat → Int32) × (Nat → Int32) × (Nat → Int32) × (Nat → Int32) × (Nat → Int64) × (Nat → Int64))) (m_latest : Int32) (m_at : Int32) (m_seats : Int32) (m_rows : Int32) (m_people : Int32) (m_loser : Int32) (m_onlyWho : Int32) (m_onlyWhere : Int32) (m_keptFree : Int32) (m_sights : Int32) (m_seedNow : Int32) (m_all : Int64) (m_bestRight : Int64) (m_bytes : Nat → Int32) (m_typed : Nat → Int32) (m_sorts : Nat → Int32) (m_rowOf : Nat → Int32) (m_own : Nat → Int32) (m_kinds : Nat → Int32) (m_keptSeat : Nat → Int32) (m_order : Nat → Int32) (m_bestOrder : Nat → Int32) (m_sightWho : Nat → Int32) (m_sightWhere : Nat → Int32) (m_evening : Nat → Int32) (m_ways : Nat → Int64) (m_next : Nat → Int64) (x1 : Int64) (x3 : Int32) : Option (Int64 × Int32 × Int32 × Int32 × Int32 × Int32 × Int32 × Int32 × Int32 × Int32 × Int64 × Int64 × (Nat → Int32) × (Nat → Int32) × (Nat → Int32) × (Nat → Int32) × (Nat → Int32) × (Nat → Int32) × (Nat → Int32) × (Nat → Int32) × (Nat → Int64) × (Nat → Int64)) :=
  if 2 ≤ x3 then
  (p_X8_digest_b263 4096 m_latest m_at m_seats m_rows m_people m_loser m_onlyWho m_onlyWhere m_keptFree m_sights m_seedNow m_all m_bestRight m_bytes m_typed m_sorts m_rowOf m_own m_kinds m_keptSeat m_order m_bestOrder m_sightWho m_sightWhere m_evening m_ways m_next x1 0)
  else
  (b8 (p_X8_looksNow m_seats m_people m_loser m_onlyWho m_onlyWhere m_keptFree m_all m_sorts m_own m_kinds m_keptSeat m_ways m_next x3) fun r250 m_loser_250 m_onlyWho_250 m_keptFree_250 m_all_250 m_keptSeat_250 m_ways_250 m_next_250 =>
  nm (((31 * x1) + r250) : Int64) fun x254 =>
  nm (x3 + 1 : Int32) fun x255 =>
  K238 m_latest m_at m_seats m_rows m_people m_loser_250 m_onlyWho_250 m_onlyWhere m_keptFree_250 m_sights m_seedNow m_all_250 m_bestRight m_bytes m_typed m_sorts m_rowOf m_own m_kinds m_keptSeat_250 m_order m_bestOrder m_sightWho m_sightWhere m_evening m_ways_250 m_next_250 x254 x255)
def p_X8_digest_b238 : Nat → Int32 → Int32 → Int32 → Int32 → Int32 → Int32 → Int32 → Int32 → Int32 → Int32 → Int32 → Int64 → Int64 → (Nat → Int32) → (Nat → Int32) → (Nat → Int32) → (Nat → Int32) → (Nat → Int32) → (Nat → Int32) → (Nat → Int32) → (Nat → Int32) → (Nat → Int32) → (Nat → Int32) → (Nat → Int32) → (Nat → Int32) → (Nat → Int64) → (Nat → Int64) → Int64 → Int32 → Option (Int64 × Int32 × Int32 × Int32 × Int32 × Int32 × Int32 × Int32 × Int32 × Int32 × Int64 × Int64 × (Nat → Int32) × (Nat → Int32) × (Nat → Int32) × (Nat → Int32) × (Nat → Int32) × (Nat → Int32) × (Nat → Int32) × (Nat → Int32) × (Nat → Int64) × (Nat → Int64))
  | 0 => fun _ _ _ _ _ _ _ _ _ _ _ _ _ _ _ _ _ _ _ _ _ _ _ _ _ _ _ _ _ => none
  | n + 1 => p_X8_digest_b238x (p_X8_digest_b238 n)
def p_X8_digest_b213x (K213 : Int32 → Int32 → Int32 → Int32 → Int32 → Int32 → Int32 → Int32 → Int32 → Int32 → Int32 → Int64 → Int64 → (Nat → Int32) → (Nat → Int32) → (Nat → Int32) → (Nat → Int32) → (Nat → Int32) → (Nat → Int32) → (Nat → Int32) → (Nat → Int32) → (Nat → Int32) → (Nat → Int32) → (Nat → Int32) → (Nat → Int32) → (Nat → Int64) → (Nat → Int64) → Int64 → Int32 → Option (Int64 × Int32 × Int32 × Int32 × Int32 × Int32 × Int32 × Int32 × Int32 × Int32 × Int64 × Int64 × (Nat → Int32) × (Nat → Int32) × (Nat → Int32) × (Nat → Int32) × (Nat → Int32) × (Nat → Int32) × (Nat → Int32) × (Nat → Int32) × (Nat → Int64) × (Nat → Int64))) (m_latest : Int32) (m_at : Int32) (m_seats : Int32) (m_rows : Int32) (m_people : Int32) (m_loser : Int32) (m_onlyWho : Int32) (m_onlyWhere : Int32) (m_keptFree : Int32) (m_sights : Int32) (m_seedNow : Int32) (m_all : Int64) (m_bestRight : Int64) (m_bytes : Nat → Int32) (m_typed : Nat → Int32) (m_sorts : Nat → Int32) (m_rowOf : Nat → Int32) (m_own : Nat → Int32) (m_kinds : Nat → Int32) (m_keptSeat : Nat → Int32) (m_order : Nat → Int32) (m_bestOrder : Nat → Int32) (m_sightWho : Nat → Int32) (m_sightWhere : Nat → Int32) (m_evening : Nat → Int32) (m_ways : Nat → Int64) (m_next : Nat → Int64) (x1 : Int64) (x3 : Int32) : Option (Int64 × Int32 × Int32 × Int32 × Int32 × Int32 × Int32 × Int32 × Int32 × Int32 × Int64 × Int64 × (Nat → Int32) × (Nat → Int32) × (Nat → Int32) × (Nat → Int32) × (Nat → Int32) × (Nat → Int32) × (Nat → Int32) × (Nat → Int32) × (Nat → Int64) × (Nat → Int64)) :=
  if 2 ≤ x3 then
  (p_X8_digest_b238 4096 m_latest m_at m_seats m_rows m_people m_loser m_onlyWho m_onlyWhere m_keptFree m_sights m_seedNow m_all m_bestRight m_bytes m_typed m_sorts m_rowOf m_own m_kinds m_keptSeat m_order m_bestOrder m_sightWho m_sightWhere m_evening m_ways m_next x1 0)
  else
  (b9 (p_X8_meanOf m_seats m_people m_loser m_onlyWho m_onlyWhere m_keptFree m_all m_sorts m_own m_kinds m_keptSeat m_order m_ways m_next x3) fun r225 m_loser_225 m_onlyWho_225 m_keptFree_225 m_all_225 m_keptSeat_225 m_order_225 m_ways_225 m_next_225 =>
  nm (((31 * x1) + r225) : Int64) fun x229 =>
  nm (x3 + 1 : Int32) fun x230 =>
  K213 m_latest m_at m_seats m_rows m_people m_loser_225 m_onlyWho_225 m_onlyWhere m_keptFree_225 m_sights m_seedNow m_all_225 m_bestRight m_bytes m_typed m_sorts m_rowOf m_own m_kinds m_keptSeat_225 m_order_225 m_bestOrder m_sightWho m_sightWhere m_evening m_ways_225 m_next_225 x229 x230)
def p_X8_digest_b213 : Nat → Int32 → Int32 → Int32 → Int32 → Int32 → Int32 → Int32 → Int32 → Int32 → Int32 → Int32 → Int64 → Int64 → (Nat → Int32) → (Nat → Int32) → (Nat → Int32) → (Nat → Int32) → (Nat → Int32) → (Nat → Int32) → (Nat → Int32) → (Nat → Int32) → (Nat → Int32) → (Nat → Int32) → (Nat → Int32) → (Nat → Int32) → (Nat → Int64) → (Nat → Int64) → Int64 → Int32 → Option (Int64 × Int32 × Int32 × Int32 × Int32 × Int32 × Int32 × Int32 × Int32 × Int32 × Int64 × Int64 × (Nat → Int32) × (Nat → Int32) × (Nat → Int32) × (Nat → Int32) × (Nat → Int32) × (Nat → Int32) × (Nat → Int32) × (Nat → Int32) × (Nat → Int64) × (Nat → Int64))
  | 0 => fun _ _ _ _ _ _ _ _ _ _ _ _ _ _ _ _ _ _ _ _ _ _ _ _ _ _ _ _ _ => none
  | n + 1 => p_X8_digest_b213x (p_X8_digest_b213 n)
def p_X8_digest_b173x (K134 : Int32 → Int32 → Int32 → Int32 → Int32 → Int32 → Int32 → Int32 → Int32 → Int32 → Int32 → Int64 → Int64 → (Nat → Int32) → (Nat → Int32) → (Nat → Int32) → (Nat → Int32) → (Nat → Int32) → (Nat → Int32) → (Nat → Int32) → (Nat → Int32) → (Nat → Int32) → (Nat → Int32) → (Nat → Int32) → (Nat → Int32) → (Nat → Int64) → (Nat → Int64) → Int64 → Int32 → Option (Int64 × Int32 × Int32 × Int32 × Int32 × Int32 × Int32 × Int32 × Int32 × Int32 × Int64 × Int64 × (Nat → Int32) × (Nat → Int32) × (Nat → Int32) × (Nat → Int32) × (Nat → Int32) × (Nat → Int32) × (Nat → Int32) × (Nat → Int32) × (Nat → Int64) × (Nat → Int64))) (K173 : Int32 → Int32 → Int32 → Int32 → Int32 → Int32 → Int32 → Int32 → Int32 → Int32 → Int32 → Int64 → Int64 → (Nat → Int32) → (Nat → Int32) → (Nat → Int32) → (Nat → Int32) → (Nat → Int32) → (Nat → Int32) → (Nat → Int32) → (Nat → Int32) → (Nat → Int32) → (Nat → Int32) → (Nat → Int32) → (Nat → Int32) → (Nat → Int64) → (Nat → Int64) → Int64 → Int32 → Int32 → Option (Int64 × Int32 × Int32 × Int32 × Int32 × Int32 × Int32 × Int32 × Int32 × Int32 × Int64 × Int64 × (Nat → Int32) × (Nat → Int32) × (Nat → Int32) × (Nat → Int32) × (Nat → Int32) × (Nat → Int32) × (Nat → Int32) × (Nat → Int32) × (Nat → Int64) × (Nat → Int64))) (m_latest : Int32) (m_at : Int32) (m_seats : Int32) (m_rows : Int32) (m_people : Int32) (m_loser : Int32) (m_onlyWho : Int32) (m_onlyWhere : Int32) (m_keptFree : Int32) (m_sights : Int32) (m_seedNow : Int32) (m_all : Int64) (m_bestRight : Int64) (m_bytes : Nat → Int32) (m_typed : Nat → Int32) (m_sorts : Nat → Int32) (m_rowOf : Nat → Int32) (m_own : Nat → Int32) (m_kinds : Nat → Int32) (m_keptSeat : Nat → Int32) (m_order : Nat → Int32) (m_bestOrder : Nat → Int32) (m_sightWho : Nat → Int32) (m_sightWhere : Nat → Int32) (m_evening : Nat → Int32) (m_ways : Nat → Int64) (m_next : Nat → Int64) (x1 : Int64) (x3 : Int32) (x4 : Int32) : Option (Int64 × Int32 × Int32 × Int32 × Int32 × Int32 × Int32 × Int32 × Int32 × Int32 × Int64 × Int64 × (Nat → Int32) × (Nat → Int32) × (Nat → Int32) × (Nat → Int32) × (Nat → Int32) × (Nat → Int32) × (Nat → Int32) × (Nat → Int32) × (Nat → Int64) × (Nat → Int64)) :=
  if 2 ≤ x4 then
  (nm (x3 + 1 : Int32) fun x205 =>
  K134 m_latest m_at m_seats m_rows m_people m_loser m_onlyWho m_onlyWhere m_keptFree m_sights m_seedNow m_all m_bestRight m_bytes m_typed m_sorts m_rowOf m_own m_kinds m_keptSeat m_order m_bestOrder m_sightWho m_sightWhere m_evening m_ways m_next x1 x205)
  else
  (gd (inB x3 8) <|
  b8 (p_X8_likelyOf m_seats m_loser m_onlyWho m_onlyWhere m_keptFree m_all m_sorts m_own m_kinds m_keptSeat m_ways m_next x3 (m_own x3.toNatClampNeg) x4) fun r194 m_loser_194 m_onlyWho_194 m_keptFree_194 m_all_194 m_keptSeat_194 m_ways_194 m_next_194 =>
  nm (((31 * x1) + r194) : Int64) fun x198 =>
  nm (x4 + 1 : Int32) fun x199 =>
  K173 m_latest m_at m_seats m_rows m_people m_loser_194 m_onlyWho_194 m_onlyWhere m_keptFree_194 m_sights m_seedNow m_all_194 m_bestRight m_bytes m_typed m_sorts m_rowOf m_own m_kinds m_keptSeat_194 m_order m_bestOrder m_sightWho m_sightWhere m_evening m_ways_194 m_next_194 x198 x3 x199)
def p_X8_digest_b173 (K134 : Int32 → Int32 → Int32 → Int32 → Int32 → Int32 → Int32 → Int32 → Int32 → Int32 → Int32 → Int64 → Int64 → (Nat → Int32) → (Nat → Int32) → (Nat → Int32) → (Nat → Int32) → (Nat → Int32) → (Nat → Int32) → (Nat → Int32) → (Nat → Int32) → (Nat → Int32) → (Nat → Int32) → (Nat → Int32) → (Nat → Int32) → (Nat → Int64) → (Nat → Int64) → Int64 → Int32 → Option (Int64 × Int32 × Int32 × Int32 × Int32 × Int32 × Int32 × Int32 × Int32 × Int32 × Int64 × Int64 × (Nat → Int32) × (Nat → Int32) × (Nat → Int32) × (Nat → Int32) × (Nat → Int32) × (Nat → Int32) × (Nat → Int32) × (Nat → Int32) × (Nat → Int64) × (Nat → Int64))) : Nat → Int32 → Int32 → Int32 → Int32 → Int32 → Int32 → Int32 → Int32 → Int32 → Int32 → Int32 → Int64 → Int64 → (Nat → Int32) → (Nat → Int32) → (Nat → Int32) → (Nat → Int32) → (Nat → Int32) → (Nat → Int32) → (Nat → Int32) → (Nat → Int32) → (Nat → Int32) → (Nat → Int32) → (Nat → Int32) → (Nat → Int32) → (Nat → Int64) → (Nat → Int64) → Int64 → Int32 → Int32 → Option (Int64 × Int32 × Int32 × Int32 × Int32 × Int32 × Int32 × Int32 × Int32 × Int32 × Int64 × Int64 × (Nat → Int32) × (Nat → Int32) × (Nat → Int32) × (Nat → Int32) × (Nat → Int32) × (Nat → Int32) × (Nat → Int32) × (Nat → Int32) × (Nat → Int64) × (Nat → Int64))
  | 0 => fun _ _ _ _ _ _ _ _ _ _ _ _ _ _ _ _ _ _ _ _ _ _ _ _ _ _ _ _ _ _ => none
  | n + 1 => p_X8_digest_b173x K134 (p_X8_digest_b173 K134 n)
def p_X8_digest_b134x (K134 : Int32 → Int32 → Int32 → Int32 → Int32 → Int32 → Int32 → Int32 → Int32 → Int32 → Int32 → Int64 → Int64 → (Nat → Int32) → (Nat → Int32) → (Nat → Int32) → (Nat → Int32) → (Nat → Int32) → (Nat → Int32) → (Nat → Int32) → (Nat → Int32) → (Nat → Int32) → (Nat → Int32) → (Nat → Int32) → (Nat → Int32) → (Nat → Int64) → (Nat → Int64) → Int64 → Int32 → Option (Int64 × Int32 × Int32 × Int32 × Int32 × Int32 × Int32 × Int32 × Int32 × Int32 × Int64 × Int64 × (Nat → Int32) × (Nat → Int32) × (Nat → Int32) × (Nat → Int32) × (Nat → Int32) × (Nat → Int32) × (Nat → Int32) × (Nat → Int32) × (Nat → Int64) × (Nat → Int64))) (m_latest : Int32) (m_at : Int32) (m_seats : Int32) (m_rows : Int32) (m_people : Int32) (m_loser : Int32) (m_onlyWho : Int32) (m_onlyWhere : Int32) (m_keptFree : Int32) (m_sights : Int32) (m_seedNow : Int32) (m_all : Int64) (m_bestRight : Int64) (m_bytes : Nat → Int32) (m_typed : Nat → Int32) (m_sorts : Nat → Int32) (m_rowOf : Nat → Int32) (m_own : Nat → Int32) (m_kinds : Nat → Int32) (m_keptSeat : Nat → Int32) (m_order : Nat → Int32) (m_bestOrder : Nat → Int32) (m_sightWho : Nat → Int32) (m_sightWhere : Nat → Int32) (m_evening : Nat → Int32) (m_ways : Nat → Int64) (m_next : Nat → Int64) (x1 : Int64) (x3 : Int32) : Option (Int64 × Int32 × Int32 × Int32 × Int32 × Int32 × Int32 × Int32 × Int32 × Int32 × Int64 × Int64 × (Nat → Int32) × (Nat → Int32) × (Nat → Int32) × (Nat → Int32) × (Nat → Int32) × (Nat → Int32) × (Nat → Int32) × (Nat → Int32) × (Nat → Int64) × (Nat → Int64)) :=
  if m_people ≤ x3 then
  (p_X8_digest_b213 4096 m_latest m_at m_seats m_rows m_people m_loser m_onlyWho m_onlyWhere m_keptFree m_sights m_seedNow m_all m_bestRight m_bytes m_typed m_sorts m_rowOf m_own m_kinds m_keptSeat m_order m_bestOrder m_sightWho m_sightWhere m_evening m_ways m_next x1 0)
  else
  (gd (inB x3 8) <|
  nm (((31 * x1) + ((m_own x3.toNatClampNeg).toInt64)) : Int64) fun x155 =>
  gd (inB x3 8) <|
  nm (((31 * x155) + ((m_kinds x3.toNatClampNeg).toInt64)) : Int64) fun x169 =>
  p_X8_digest_b173 K134 4096 m_latest m_at m_seats m_rows m_people m_loser m_onlyWho m_onlyWhere m_keptFree m_sights m_seedNow m_all m_bestRight m_bytes m_typed m_sorts m_rowOf m_own m_kinds m_keptSeat m_order m_bestOrder m_sightWho m_sightWhere m_evening m_ways m_next x169 x3 0)
def p_X8_digest_b134 : Nat → Int32 → Int32 → Int32 → Int32 → Int32 → Int32 → Int32 → Int32 → Int32 → Int32 → Int32 → Int64 → Int64 → (Nat → Int32) → (Nat → Int32) → (Nat → Int32) → (Nat → Int32) → (Nat → Int32) → (Nat → Int32) → (Nat → Int32) → (Nat → Int32) → (Nat → Int32) → (Nat → Int32) → (Nat → Int32) → (Nat → Int32) → (Nat → Int64) → (Nat → Int64) → Int64 → Int32 → Option (Int64 × Int32 × Int32 × Int32 × Int32 × Int32 × Int32 × Int32 × Int32 × Int32 × Int64 × Int64 × (Nat → Int32) × (Nat → Int32) × (Nat → Int32) × (Nat → Int32) × (Nat → Int32) × (Nat → Int32) × (Nat → Int32) × (Nat → Int32) × (Nat → Int64) × (Nat → Int64))
  | 0 => fun _ _ _ _ _ _ _ _ _ _ _ _ _ _ _ _ _ _ _ _ _ _ _ _ _ _ _ _ _ => none
  | n + 1 => p_X8_digest_b134x (p_X8_digest_b134 n)
def p_X8_digest_b100x (K59 : Int32 → Int32 → Int32 → Int32 → Int32 → Int32 → Int32 → Int32 → Int32 → Int32 → Int32 → Int64 → Int64 → (Nat → Int32) → (Nat → Int32) → (Nat → Int32) → (Nat → Int32) → (Nat → Int32) → (Nat → Int32) → (Nat → Int32) → (Nat → Int32) → (Nat → Int32) → (Nat → Int32) → (Nat → Int32) → (Nat → Int32) → (Nat → Int64) → (Nat → Int64) → Int64 → Int32 → Option (Int64 × Int32 × Int32 × Int32 × Int32 × Int32 × Int32 × Int32 × Int32 × Int32 × Int64 × Int64 × (Nat → Int32) × (Nat → Int32) × (Nat → Int32) × (Nat → Int32) × (Nat → Int32) × (Nat → Int32) × (Nat → Int32) × (Nat → Int32) × (Nat → Int64) × (Nat → Int64))) (K100 : Int32 → Int32 → Int32 → Int32 → Int32 → Int32 → Int32 → Int32 → Int32 → Int32 → Int32 → Int64 → Int64 → (Nat → Int32) → (Nat → Int32) → (Nat → Int32) → (Nat → Int32) → (Nat → Int32) → (Nat → Int32) → (Nat → Int32) → (Nat → Int32) → (Nat → Int32) → (Nat → Int32) → (Nat → Int32) → (Nat → Int32) → (Nat → Int64) → (Nat → Int64) → Int64 → Int32 → Int32 → Option (Int64 × Int32 × Int32 × Int32 × Int32 × Int32 × Int32 × Int32 × Int32 × Int32 × Int64 × Int64 × (Nat → Int32) × (Nat → Int32) × (Nat → Int32) × (Nat → Int32) × (Nat → Int32) × (Nat → Int32) × (Nat → Int32) × (Nat → Int32) × (Nat → Int64) × (Nat → Int64))) (m_latest : Int32) (m_at : Int32) (m_seats : Int32) (m_rows : Int32) (m_people : Int32) (m_loser : Int32) (m_onlyWho : Int32) (m_onlyWhere : Int32) (m_keptFree : Int32) (m_sights : Int32) (m_seedNow : Int32) (m_all : Int64) (m_bestRight : Int64) (m_bytes : Nat → Int32) (m_typed : Nat → Int32) (m_sorts : Nat → Int32) (m_rowOf : Nat → Int32) (m_own : Nat → Int32) (m_kinds : Nat → Int32) (m_keptSeat : Nat → Int32) (m_order : Nat → Int32) (m_bestOrder : Nat → Int32) (m_sightWho : Nat → Int32) (m_sightWhere : Nat → Int32) (m_evening : Nat → Int32) (m_ways : Nat → Int64) (m_next : Nat → Int64) (x1 : Int64) (x3 : Int32) (x4 : Int32) : Option (Int64 × Int32 × Int32 × Int32 × Int32 × Int32 × Int32 × Int32 × Int32 × Int32 × Int64 × Int64 × (Nat → Int32) × (Nat → Int32) × (Nat → Int32) × (Nat → Int32) × (Nat → Int32) × (Nat → Int32) × (Nat → Int32) × (Nat → Int32) × (Nat → Int64) × (Nat → Int64)) :=
  if 2 ≤ x4 then
  (nm (x3 + 1 : Int32) fun x126 =>
  K59 m_latest m_at m_seats m_rows m_people m_loser m_onlyWho m_onlyWhere m_keptFree m_sights m_seedNow m_all m_bestRight m_bytes m_typed m_sorts m_rowOf m_own m_kinds m_keptSeat m_order m_bestOrder m_sightWho m_sightWhere m_evening m_ways m_next x1 x126)
  else
  (b8 (p_X8_leftOf m_seats m_people m_loser m_onlyWho m_onlyWhere m_keptFree m_all m_sorts m_own m_kinds m_keptSeat m_ways m_next x3 x4) fun r115 m_loser_115 m_onlyWho_115 m_keptFree_115 m_all_115 m_keptSeat_115 m_ways_115 m_next_115 =>
  nm (((31 * x1) + r115) : Int64) fun x119 =>
  nm (x4 + 1 : Int32) fun x120 =>
  K100 m_latest m_at m_seats m_rows m_people m_loser_115 m_onlyWho_115 m_onlyWhere m_keptFree_115 m_sights m_seedNow m_all_115 m_bestRight m_bytes m_typed m_sorts m_rowOf m_own m_kinds m_keptSeat_115 m_order m_bestOrder m_sightWho m_sightWhere m_evening m_ways_115 m_next_115 x119 x3 x120)
def p_X8_digest_b100 (K59 : Int32 → Int32 → Int32 → Int32 → Int32 → Int32 → Int32 → Int32 → Int32 → Int32 → Int32 → Int64 → Int64 → (Nat → Int32) → (Nat → Int32) → (Nat → Int32) → (Nat → Int32) → (Nat → Int32) → (Nat → Int32) → (Nat → Int32) → (Nat → Int32) → (Nat → Int32) → (Nat → Int32) → (Nat → Int32) → (Nat → Int32) → (Nat → Int64) → (Nat → Int64) → Int64 → Int32 → Option (Int64 × Int32 × Int32 × Int32 × Int32 × Int32 × Int32 × Int32 × Int32 × Int32 × Int64 × Int64 × (Nat → Int32) × (Nat → Int32) × (Nat → Int32) × (Nat → Int32) × (Nat → Int32) × (Nat → Int32) × (Nat → Int32) × (Nat → Int32) × (Nat → Int64) × (Nat → Int64))) : Nat → Int32 → Int32 → Int32 → Int32 → Int32 → Int32 → Int32 → Int32 → Int32 → Int32 → Int32 → Int64 → Int64 → (Nat → Int32) → (Nat → Int32) → (Nat → Int32) → (Nat → Int32) → (Nat → Int32) → (Nat → Int32) → (Nat → Int32) → (Nat → Int32) → (Nat → Int32) → (Nat → Int32) → (Nat → Int32) → (Nat → Int32) → (Nat → Int64) → (Nat → Int64) → Int64 → Int32 → Int32 → Option (Int64 × Int32 × Int32 × Int32 × Int32 × Int32 × Int32 × Int32 × Int32 × Int32 × Int64 × Int64 × (Nat → Int32) × (Nat → Int32) × (Nat → Int32) × (Nat → Int32) × (Nat → Int32) × (Nat → Int32) × (Nat → Int32) × (Nat → Int32) × (Nat → Int64) × (Nat → Int64))
  | 0 => fun _ _ _ _ _ _ _ _ _ _ _ _ _ _ _ _ _ _ _ _ _ _ _ _ _ _ _ _ _ _ => none
  | n + 1 => p_X8_digest_b100x K59 (p_X8_digest_b100 K59 n)
def p_X8_digest_b70x (K59 : Int32 → Int32 → Int32 → Int32 → Int32 → Int32 → Int32 → Int32 → Int32 → Int32 → Int32 → Int64 → Int64 → (Nat → Int32) → (Nat → Int32) → (Nat → Int32) → (Nat → Int32) → (Nat → Int32) → (Nat → Int32) → (Nat → Int32) → (Nat → Int32) → (Nat → Int32) → (Nat → Int32) → (Nat → Int32) → (Nat → Int32) → (Nat → Int64) → (Nat → Int64) → Int64 → Int32 → Option (Int64 × Int32 × Int32 × Int32 × Int32 × Int32 × Int32 × Int32 × Int32 × Int32 × Int64 × Int64 × (Nat → Int32) × (Nat → Int32) × (Nat → Int32) × (Nat → Int32) × (Nat → Int32) × (Nat → Int32) × (Nat → Int32) × (Nat → Int32) × (Nat → Int64) × (Nat → Int64))) (K70 : Int32 → Int32 → Int32 → Int32 → Int32 → Int32 → Int32 → Int32 → Int32 → Int32 → Int32 → Int64 → Int64 → (Nat → Int32) → (Nat → Int32) → (Nat → Int32) → (Nat → Int32) → (Nat → Int32) → (Nat → Int32) → (Nat → Int32) → (Nat → Int32) → (Nat → Int32) → (Nat → Int32) → (Nat → Int32) → (Nat → Int32) → (Nat → Int64) → (Nat → Int64) → Int64 → Int32 → Int32 → Option (Int64 × Int32 × Int32 × Int32 × Int32 × Int32 × Int32 × Int32 × Int32 × Int32 × Int64 × Int64 × (Nat → Int32) × (Nat → Int32) × (Nat → Int32) × (Nat → Int32) × (Nat → Int32) × (Nat → Int32) × (Nat → Int32) × (Nat → Int32) × (Nat → Int64) × (Nat → Int64))) (m_latest : Int32) (m_at : Int32) (m_seats : Int32) (m_rows : Int32) (m_people : Int32) (m_loser : Int32) (m_onlyWho : Int32) (m_onlyWhere : Int32) (m_keptFree : Int32) (m_sights : Int32) (m_seedNow : Int32) (m_all : Int64) (m_bestRight : Int64) (m_bytes : Nat → Int32) (m_typed : Nat → Int32) (m_sorts : Nat → Int32) (m_rowOf : Nat → Int32) (m_own : Nat → Int32) (m_kinds : Nat → Int32) (m_keptSeat : Nat → Int32) (m_order : Nat → Int32) (m_bestOrder : Nat → Int32) (m_sightWho : Nat → Int32) (m_sightWhere : Nat → Int32) (m_evening : Nat → Int32) (m_ways : Nat → Int64) (m_next : Nat → Int64) (x1 : Int64) (x3 : Int32) (x4 : Int32) : Option (Int64 × Int32 × Int32 × Int32 × Int32 × Int32 × Int32 × Int32 × Int32 × Int32 × Int64 × Int64 × (Nat → Int32) × (Nat → Int32) × (Nat → Int32) × (Nat → Int32) × (Nat → Int32) × (Nat → Int32) × (Nat → Int32) × (Nat → Int32) × (Nat → Int64) × (Nat → Int64)) :=
  if 3 ≤ x4 then
  (p_X8_digest_b100 K59 4096 m_latest m_at m_seats m_rows m_people m_loser m_onlyWho m_onlyWhere m_keptFree m_sights m_seedNow m_all m_bestRight m_bytes m_typed m_sorts m_rowOf m_own m_kinds m_keptSeat m_order m_bestOrder m_sightWho m_sightWhere m_evening m_ways m_next x1 x3 0)
  else
  (b1 (p_X8_seatOf m_people m_sorts m_rowOf m_own x3 x4) fun r85 =>
  nm (((31 * x1) + r85.toInt64) : Int64) fun x90 =>
  nm (x4 + 1 : Int32) fun x91 =>
  K70 m_latest m_at m_seats m_rows m_people m_loser m_onlyWho m_onlyWhere m_keptFree m_sights m_seedNow m_all m_bestRight m_bytes m_typed m_sorts m_rowOf m_own m_kinds m_keptSeat m_order m_bestOrder m_sightWho m_sightWhere m_evening m_ways m_next x90 x3 x91)
def p_X8_digest_b70 (K59 : Int32 → Int32 → Int32 → Int32 → Int32 → Int32 → Int32 → Int32 → Int32 → Int32 → Int32 → Int64 → Int64 → (Nat → Int32) → (Nat → Int32) → (Nat → Int32) → (Nat → Int32) → (Nat → Int32) → (Nat → Int32) → (Nat → Int32) → (Nat → Int32) → (Nat → Int32) → (Nat → Int32) → (Nat → Int32) → (Nat → Int32) → (Nat → Int64) → (Nat → Int64) → Int64 → Int32 → Option (Int64 × Int32 × Int32 × Int32 × Int32 × Int32 × Int32 × Int32 × Int32 × Int32 × Int64 × Int64 × (Nat → Int32) × (Nat → Int32) × (Nat → Int32) × (Nat → Int32) × (Nat → Int32) × (Nat → Int32) × (Nat → Int32) × (Nat → Int32) × (Nat → Int64) × (Nat → Int64))) : Nat → Int32 → Int32 → Int32 → Int32 → Int32 → Int32 → Int32 → Int32 → Int32 → Int32 → Int32 → Int64 → Int64 → (Nat → Int32) → (Nat → Int32) → (Nat → Int32) → (Nat → Int32) → (Nat → Int32) → (Nat → Int32) → (Nat → Int32) → (Nat → Int32) → (Nat → Int32) → (Nat → Int32) → (Nat → Int32) → (Nat → Int32) → (Nat → Int64) → (Nat → Int64) → Int64 → Int32 → Int32 → Option (Int64 × Int32 × Int32 × Int32 × Int32 × Int32 × Int32 × Int32 × Int32 × Int32 × Int64 × Int64 × (Nat → Int32) × (Nat → Int32) × (Nat → Int32) × (Nat → Int32) × (Nat → Int32) × (Nat → Int32) × (Nat → Int32) × (Nat → Int32) × (Nat → Int64) × (Nat → Int64))
  | 0 => fun _ _ _ _ _ _ _ _ _ _ _ _ _ _ _ _ _ _ _ _ _ _ _ _ _ _ _ _ _ _ => none
  | n + 1 => p_X8_digest_b70x K59 (p_X8_digest_b70 K59 n)
def p_X8_digest_b59x (K59 : Int32 → Int32 → Int32 → Int32 → Int32 → Int32 → Int32 → Int32 → Int32 → Int32 → Int32 → Int64 → Int64 → (Nat → Int32) → (Nat → Int32) → (Nat → Int32) → (Nat → Int32) → (Nat → Int32) → (Nat → Int32) → (Nat → Int32) → (Nat → Int32) → (Nat → Int32) → (Nat → Int32) → (Nat → Int32) → (Nat → Int32) → (Nat → Int64) → (Nat → Int64) → Int64 → Int32 → Option (Int64 × Int32 × Int32 × Int32 × Int32 × Int32 × Int32 × Int32 × Int32 × Int32 × Int64 × Int64 × (Nat → Int32) × (Nat → Int32) × (Nat → Int32) × (Nat → Int32) × (Nat → Int32) × (Nat → Int32) × (Nat → Int32) × (Nat → Int32) × (Nat → Int64) × (Nat → Int64))) (m_latest : Int32) (m_at : Int32) (m_seats : Int32) (m_rows : Int32) (m_people : Int32) (m_loser : Int32) (m_onlyWho : Int32) (m_onlyWhere : Int32) (m_keptFree : Int32) (m_sights : Int32) (m_seedNow : Int32) (m_all : Int64) (m_bestRight : Int64) (m_bytes : Nat → Int32) (m_typed : Nat → Int32) (m_sorts : Nat → Int32) (m_rowOf : Nat → Int32) (m_own : Nat → Int32) (m_kinds : Nat → Int32) (m_keptSeat : Nat → Int32) (m_order : Nat → Int32) (m_bestOrder : Nat → Int32) (m_sightWho : Nat → Int32) (m_sightWhere : Nat → Int32) (m_evening : Nat → Int32) (m_ways : Nat → Int64) (m_next : Nat → Int64) (x1 : Int64) (x3 : Int32) : Option (Int64 × Int32 × Int32 × Int32 × Int32 × Int32 × Int32 × Int32 × Int32 × Int32 × Int64 × Int64 × (Nat → Int32) × (Nat → Int32) × (Nat → Int32) × (Nat → Int32) × (Nat → Int32) × (Nat → Int32) × (Nat → Int32) × (Nat → Int32) × (Nat → Int64) × (Nat → Int64)) :=
  if m_seats ≤ x3 then
  (p_X8_digest_b134 4096 m_latest m_at m_seats m_rows m_people m_loser m_onlyWho m_onlyWhere m_keptFree m_sights m_seedNow m_all m_bestRight m_bytes m_typed m_sorts m_rowOf m_own m_kinds m_keptSeat m_order m_bestOrder m_sightWho m_sightWhere m_evening m_ways m_next x1 0)
  else
  (p_X8_digest_b70 K59 4096 m_latest m_at m_seats m_rows m_people m_loser m_onlyWho m_onlyWhere m_keptFree m_sights m_seedNow m_all m_bestRight m_bytes m_typed m_sorts m_rowOf m_own m_kinds m_keptSeat m_order m_bestOrder m_sightWho m_sightWhere m_evening m_ways m_next x1 x3 0)
def p_X8_digest_b59 : Nat → Int32 → Int32 → Int32 → Int32 → Int32 → Int32 → Int32 → Int32 → Int32 → Int32 → Int32 → Int64 → Int64 → (Nat → Int32) → (Nat → Int32) → (Nat → Int32) → (Nat → Int32) → (Nat → Int32) → (Nat → Int32) → (Nat → Int32) → (Nat → Int32) → (Nat → Int32) → (Nat → Int32) → (Nat → Int32) → (Nat → Int32) → (Nat → Int64) → (Nat → Int64) → Int64 → Int32 → Option (Int64 × Int32 × Int32 × Int32 × Int32 × Int32 × Int32 × Int32 × Int32 × Int32 × Int64 × Int64 × (Nat → Int32) × (Nat → Int32) × (Nat → Int32) × (Nat → Int32) × (Nat → Int32) × (Nat → Int32) × (Nat → Int32) × (Nat → Int32) × (Nat → Int64) × (Nat → Int64))
  | 0 => fun _ _ _ _ _ _ _ _ _ _ _ _ _ _ _ _ _ _ _ _ _ _ _ _ _ _ _ _ _ => none
  | n + 1 => p_X8_digest_b59x (p_X8_digest_b59 n)
def p_X8_digest_b6x (K6 : Int32 → Int32 → Int32 → Int32 → Int32 → Int32 → Int32 → Int32 → Int32 → Int32 → Int32 → Int64 → Int64 → (Nat → Int32) → (Nat → Int32) → (Nat → Int32) → (Nat → Int32) → (Nat → Int32) → (Nat → Int32) → (Nat → Int32) → (Nat → Int32) → (Nat → Int32) → (Nat → Int32) → (Nat → Int32) → (Nat → Int32) → (Nat → Int64) → (Nat → Int64) → Int64 → Int32 → Option (Int64 × Int32 × Int32 × Int32 × Int32 × Int32 × Int32 × Int32 × Int32 × Int32 × Int64 × Int64 × (Nat → Int32) × (Nat → Int32) × (Nat → Int32) × (Nat → Int32) × (Nat → Int32) × (Nat → Int32) × (Nat → Int32) × (Nat → Int32) × (Nat → Int64) × (Nat → Int64))) (m_latest : Int32) (m_at : Int32) (m_seats : Int32) (m_rows : Int32) (m_people : Int32) (m_loser : Int32) (m_onlyWho : Int32) (m_onlyWhere : Int32) (m_keptFree : Int32) (m_sights : Int32) (m_seedNow : Int32) (m_all : Int64) (m_bestRight : Int64) (m_bytes : Nat → Int32) (m_typed : Nat → Int32) (m_sorts : Nat → Int32) (m_rowOf : Nat → Int32) (m_own : Nat → Int32) (m_kinds : Nat → Int32) (m_keptSeat : Nat → Int32) (m_order : Nat → Int32) (m_bestOrder : Nat → Int32) (m_sightWho : Nat → Int32) (m_sightWhere : Nat → Int32) (m_evening : Nat → Int32) (m_ways : Nat → Int64) (m_next : Nat → Int64) (x1 : Int64) (x3 : Int32) : Option (Int64 × Int32 × Int32 × Int32 × Int32 × Int32 × Int32 × Int32 × Int32 × Int32 × Int64 × Int64 × (Nat → Int32) × (Nat → Int32) × (Nat → Int32) × (Nat → Int32) × (Nat → Int32) × (Nat → Int32) × (Nat → Int32) × (Nat → Int32) × (Nat → Int64) × (Nat → Int64)) :=
  if 8 ≤ x3 then
  (b9 (p_X8_faultOf m_at m_seats m_rows m_people m_bytes m_typed m_sorts m_rowOf m_own m_kinds 0) fun r38 m_at_38 m_seats_38 m_rows_38 m_people_38 m_sorts_38 m_rowOf_38 m_own_38 m_kinds_38 =>
  nm (((31 * x1) + r38.toInt64) : Int64) fun x43 =>
  b9 (p_X8_faultOf m_at_38 m_seats_38 m_rows_38 m_people_38 m_bytes m_typed m_sorts_38 m_rowOf_38 m_own_38 m_kinds_38 1) fun r51 m_at_51 m_seats_51 m_rows_51 m_people_51 m_sorts_51 m_rowOf_51 m_own_51 m_kinds_51 =>
  nm (((31 * x43) + r51.toInt64) : Int64) fun x56 =>
  p_X8_digest_b59 4096 m_latest m_at_51 m_seats_51 m_rows_51 m_people_51 m_loser m_onlyWho m_onlyWhere m_keptFree m_sights m_seedNow m_all m_bestRight m_bytes m_typed m_sorts_51 m_rowOf_51 m_own_51 m_kinds_51 m_keptSeat m_order m_bestOrder m_sightWho m_sightWhere m_evening m_ways m_next x56 0)
  else
  (b9 (p_X8_count m_latest m_at m_seats m_rows m_people m_sights m_bytes m_typed m_sorts m_rowOf m_own m_kinds x3) fun r19 m_at_19 m_seats_19 m_rows_19 m_people_19 m_sorts_19 m_rowOf_19 m_own_19 m_kinds_19 =>
  nm (((31 * x1) + r19.toInt64) : Int64) fun x24 =>
  nm (x3 + 1 : Int32) fun x25 =>
  K6 m_latest m_at_19 m_seats_19 m_rows_19 m_people_19 m_loser m_onlyWho m_onlyWhere m_keptFree m_sights m_seedNow m_all m_bestRight m_bytes m_typed m_sorts_19 m_rowOf_19 m_own_19 m_kinds_19 m_keptSeat m_order m_bestOrder m_sightWho m_sightWhere m_evening m_ways m_next x24 x25)
def p_X8_digest_b6 : Nat → Int32 → Int32 → Int32 → Int32 → Int32 → Int32 → Int32 → Int32 → Int32 → Int32 → Int32 → Int64 → Int64 → (Nat → Int32) → (Nat → Int32) → (Nat → Int32) → (Nat → Int32) → (Nat → Int32) → (Nat → Int32) → (Nat → Int32) → (Nat → Int32) → (Nat → Int32) → (Nat → Int32) → (Nat → Int32) → (Nat → Int32) → (Nat → Int64) → (Nat → Int64) → Int64 → Int32 → Option (Int64 × Int32 × Int32 × Int32 × Int32 × Int32 × Int32 × Int32 × Int32 × Int32 × Int64 × Int64 × (Nat → Int32) × (Nat → Int32) × (Nat → Int32) × (Nat → Int32) × (Nat → Int32) × (Nat → Int32) × (Nat → Int32) × (Nat → Int32) × (Nat → Int64) × (Nat → Int64))
  | 0 => fun _ _ _ _ _ _ _ _ _ _ _ _ _ _ _ _ _ _ _ _ _ _ _ _ _ _ _ _ _ => none
  | n + 1 => p_X8_digest_b6x (p_X8_digest_b6 n)
def p_X8_digest_b0 (m_latest : Int32) (m_at : Int32) (m_seats : Int32) (m_rows : Int32) (m_people : Int32) (m_loser : Int32) (m_onlyWho : Int32) (m_onlyWhere : Int32) (m_keptFree : Int32) (m_sights : Int32) (m_seedNow : Int32) (m_all : Int64) (m_bestRight : Int64) (m_bytes : Nat → Int32) (m_typed : Nat → Int32) (m_sorts : Nat → Int32) (m_rowOf : Nat → Int32) (m_own : Nat → Int32) (m_kinds : Nat → Int32) (m_keptSeat : Nat → Int32) (m_order : Nat → Int32) (m_bestOrder : Nat → Int32) (m_sightWho : Nat → Int32) (m_sightWhere : Nat → Int32) (m_evening : Nat → Int32) (m_ways : Nat → Int64) (m_next : Nat → Int64)  : Option (Int64 × Int32 × Int32 × Int32 × Int32 × Int32 × Int32 × Int32 × Int32 × Int32 × Int64 × Int64 × (Nat → Int32) × (Nat → Int32) × (Nat → Int32) × (Nat → Int32) × (Nat → Int32) × (Nat → Int32) × (Nat → Int32) × (Nat → Int32) × (Nat → Int64) × (Nat → Int64)) :=
  p_X8_digest_b6 4096 m_latest m_at m_seats m_rows m_people m_loser m_onlyWho m_onlyWhere m_keptFree m_sights m_seedNow m_all m_bestRight m_bytes m_typed m_sorts m_rowOf m_own m_kinds m_keptSeat m_order m_bestOrder m_sightWho m_sightWhere m_evening m_ways m_next 17 0
def p_X8_digest (m_latest : Int32) (m_at : Int32) (m_seats : Int32) (m_rows : Int32) (m_people : Int32) (m_loser : Int32) (m_onlyWho : Int32) (m_onlyWhere : Int32) (m_keptFree : Int32) (m_sights : Int32) (m_seedNow : Int32) (m_all : Int64) (m_bestRight : Int64) (m_bytes : Nat → Int32) (m_typed : Nat → Int32) (m_sorts : Nat → Int32) (m_rowOf : Nat → Int32) (m_own : Nat → Int32) (m_kinds : Nat → Int32) (m_keptSeat : Nat → Int32) (m_order : Nat → Int32) (m_bestOrder : Nat → Int32) (m_sightWho : Nat → Int32) (m_sightWhere : Nat → Int32) (m_evening : Nat → Int32) (m_ways : Nat → Int64) (m_next : Nat → Int64)  : Option (Int64 × Int32 × Int32 × Int32 × Int32 × Int32 × Int32 × Int32 × Int32 × Int32 × Int64 × Int64 × (Nat → Int32) × (Nat → Int32) × (Nat → Int32) × (Nat → Int32) × (Nat → Int32) × (Nat → Int32) × (Nat → Int32) × (Nat → Int32) × (Nat → Int64) × (Nat → Int64)) := p_X8_digest_b0 m_latest m_at m_seats m_rows m_people m_loser m_onlyWho m_onlyWhere m_keptFree m_sights m_seedNow m_all m_bestRight m_bytes m_typed m_sorts m_rowOf m_own m_kinds m_keptSeat m_order m_bestOrder m_sightWho m_sightWhere m_evening m_ways m_next 
