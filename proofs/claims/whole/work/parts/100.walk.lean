abbrev rm_X0_clear : Room := { frames := 1, cells := 0, slots := 0, locals := 24 }
set_option maxHeartbeats 4000000 in
set_option maxRecDepth 100000 in
theorem t_X0_clear_b0 {p : Program} {l : Launch} {e : Env} {s : State} {m : MethodId} {args : Array Value} {below : List Frame} {meth : Method} {c : Code} {D : va_G} {a : Nat → Nat} {kc : Nat → ClassId} (X : cx 44 p s m args meth c D (tyC kc) a cX0_clear 1 RX0 none) {F : Nat → Int32} {I : Nat → Nat → Int32} {Z : Nat → Nat → Nat → Int32} {Gf : Nat → Int64} {Jf : Nat → Nat → Int64}  :
    ∀ (G : Nat → Int64) (J : Nat → Nat → Int64)  (H : Heap) (locs : List Loc) (ls : Array Slot), p_X0_clear_b0 (G 0) (G 1) (J 0) (J 1) (J 2) (J 3) (J 4)  = some ((Gf 0), (Gf 1), (Jf 0), (Jf 1), (Jf 2), (Jf 3), (Jf 4)) → (∀ k, k ∉ ([0, 1] : List Nat) → Gf k = G k) → (∀ k, k ∉ ([0, 1, 2, 3, 4] : List Nat) → Jf k = J k) → va_P D vwCl (wC a kc F G I J Z) H → va_S (ad a 44 s.heap.size) s.heap H locs → lv_has ls 1 [(0, .ref (a 11))] → W p l e rm_X0_clear s m args below meth c H locs 0 0 (MQ below (Qv D (wC a kc F Gf I Jf Z) (ad a 44 s.heap.size)) args s 0 0 (ad a 44 s.heap.size)) (F0 m 0 ls []) := by
  intro G J  H locs ls hf hfG hfJ hP hS hl
  unfold p_X0_clear_b0 at hf
  refine lv_aload_n X.1 X.2.1 dX0_clear_0 rfl (lv_at hl 0 rfl) ?_
  refine gC_11_0 X q_1_124 dX0_clear_1 hP ?_
  refine lv_lconst (v := 0) X.1 X.2.1 dX0_clear_4 (by decide) ?_
  obtain ⟨C_reach_5, eC_reach_5, hf⟩ := nm_x hf
  refine flC_12 (J := J) (rest := []) X eC_reach_5 q_2_155 (Nat.le_of_ble_eq_true rfl) (Nat.le_of_ble_eq_true rfl) hl.1 (Nat.le_of_ble_eq_true rfl) dX0_clear_5 hP hS (fun H locs hP hS => ?_)
  refine lv_aload_n X.1 X.2.1 dX0_clear_8 rfl (lv_at hl 0 rfl) ?_
  refine gC_11_1 X q_1_126 dX0_clear_9 hP ?_
  refine lv_lconst (v := 0) X.1 X.2.1 dX0_clear_12 (by decide) ?_
  obtain ⟨C_sits_13, eC_sits_13, hf⟩ := nm_x hf
  refine flC_13 (J := (va_up J 0 C_reach_5)) (rest := []) X eC_sits_13 q_2_155 (Nat.le_of_ble_eq_true rfl) (Nat.le_of_ble_eq_true rfl) hl.1 (Nat.le_of_ble_eq_true rfl) dX0_clear_13 hP hS (fun H locs hP hS => ?_)
  refine lv_aload_n X.1 X.2.1 dX0_clear_16 rfl (lv_at hl 0 rfl) ?_
  refine gC_11_2 X q_1_128 dX0_clear_17 hP ?_
  refine lv_lconst (v := 0) X.1 X.2.1 dX0_clear_20 (by decide) ?_
  obtain ⟨C_wrongs_21, eC_wrongs_21, hf⟩ := nm_x hf
  refine flC_14 (J := (va_up (va_up J 0 C_reach_5) 1 C_sits_13)) (rest := []) X eC_wrongs_21 q_2_155 (Nat.le_of_ble_eq_true rfl) (Nat.le_of_ble_eq_true rfl) hl.1 (Nat.le_of_ble_eq_true rfl) dX0_clear_21 hP hS (fun H locs hP hS => ?_)
  refine lv_aload_n X.1 X.2.1 dX0_clear_24 rfl (lv_at hl 0 rfl) ?_
  refine gC_11_3 X q_1_130 dX0_clear_25 hP ?_
  refine lv_lconst (v := 0) X.1 X.2.1 dX0_clear_28 (by decide) ?_
  obtain ⟨C_free_29, eC_free_29, hf⟩ := nm_x hf
  refine flC_15 (J := (va_up (va_up (va_up J 0 C_reach_5) 1 C_sits_13) 2 C_wrongs_21)) (rest := []) X eC_free_29 q_2_155 (Nat.le_of_ble_eq_true rfl) (Nat.le_of_ble_eq_true rfl) hl.1 (Nat.le_of_ble_eq_true rfl) dX0_clear_29 hP hS (fun H locs hP hS => ?_)
  refine lv_aload_n X.1 X.2.1 dX0_clear_32 rfl (lv_at hl 0 rfl) ?_
  refine gC_11_8 X q_1_139 dX0_clear_33 hP ?_
  refine lv_lconst (v := 0) X.1 X.2.1 dX0_clear_36 (by decide) ?_
  obtain ⟨C_wrongIn_37, eC_wrongIn_37, hf⟩ := nm_x hf
  refine flC_16 (J := (va_up (va_up (va_up (va_up J 0 C_reach_5) 1 C_sits_13) 2 C_wrongs_21) 3 C_free_29)) (rest := []) X eC_wrongIn_37 q_2_155 (Nat.le_of_ble_eq_true rfl) (Nat.le_of_ble_eq_true rfl) hl.1 (Nat.le_of_ble_eq_true rfl) dX0_clear_37 hP hS (fun H locs hP hS => ?_)
  refine lv_aload_n X.1 X.2.1 dX0_clear_40 rfl (lv_at hl 0 rfl) ?_
  refine lv_lconst (v := 0) X.1 X.2.1 dX0_clear_41 (by decide) ?_
  refine pC_11_4 X q_1_132 dX0_clear_42 hP hS (fun H locs hP hS => ?_)
  refine lv_aload_n X.1 X.2.1 dX0_clear_45 rfl (lv_at hl 0 rfl) ?_
  refine lv_lconst (v := 0) X.1 X.2.1 dX0_clear_46 (by decide) ?_
  refine pC_11_5 X q_1_134 dX0_clear_47 hP hS (fun H locs hP hS => ?_)
  obtain ⟨e0, hf⟩ := o2 hf
  obtain ⟨e1, hf⟩ := o2 hf
  obtain ⟨e2, hf⟩ := o2 hf
  obtain ⟨e3, hf⟩ := o2 hf
  obtain ⟨e4, hf⟩ := o2 hf
  obtain ⟨e5, hf⟩ := o2 hf
  have e6 := o1 hf
  have EG : Gf = (va_up (va_up G 0 0) 1 0) := frm_eq (frm_up (frm_up hfG (by decide)) (by decide)) (frm_c (e0).symm (frm_c (e1).symm frm_n))
  have EJ : Jf = (va_up (va_up (va_up (va_up (va_up J 0 C_reach_5) 1 C_sits_13) 2 C_wrongs_21) 3 C_free_29) 4 C_wrongIn_37) := frm_eq (frm_up (frm_up (frm_up (frm_up (frm_up hfJ (by decide)) (by decide)) (by decide)) (by decide)) (by decide)) (frm_c (e2).symm (frm_c (e3).symm (frm_c (e4).symm (frm_c (e5).symm (frm_c (e6).symm frm_n)))))
  exact ret_v X hS (by rw [EG, EJ]; exact hP) dX0_clear_50
set_option maxRecDepth 100000 in
theorem c_X0_clear {l : Launch} {D : va_G} {a : Nat → Nat} {kc : Nat → ClassId} (F : Nat → Int32) (G : Nat → Int64) (I : Nat → Nat → Int32) (J : Nat → Nat → Int64) (Z : Nat → Nat → Nat → Int32) (hAp : ∀ i j, i < 44 → j < 44 → a i = a j → i = j)  {o0 : Int64} {o1 : Int64} {o2 : Nat → Int64} {o3 : Nat → Int64} {o4 : Nat → Int64} {o5 : Nat → Int64} {o6 : Nat → Int64} (hf : p_X0_clear (G 0) (G 1) (J 0) (J 1) (J 2) (J 3) (J 4)  = some (o0, o1, o2, o3, o4, o5, o6)) : Ct 44 l yX0_clear cX0_clear 1 none rm_X0_clear D (tyC kc) a (wC a kc F G I J Z) [.ref (a 11)] (Qv D (wC a kc F (va_up (va_up G 0 o0) 1 o1) I (va_up (va_up (va_up (va_up (va_up J 0 o2) 1 o3) 2 o4) 3 o5) 4 o6) Z)) :=
  Ct.of (by decide +kernel) hAp (Nat.le_of_ble_eq_true rfl) (fun p e s m args below meth c ls X hP hl => t_X0_clear_b0 X G J  _ _ _ hf (frm_ul (frm_ul (fun k _ => rfl) (by decide)) (by decide)) (frm_ul (frm_ul (frm_ul (frm_ul (frm_ul (fun k _ => rfl) (by decide)) (by decide)) (by decide)) (by decide)) (by decide)) hP va_S.rf hl)
abbrev rm_X3_allSeats : Room := { frames := 0, cells := 0, slots := 0, locals := 0 }
set_option maxHeartbeats 4000000 in
set_option maxRecDepth 100000 in
theorem t_X3_allSeats_b0 {p : Program} {l : Launch} {e : Env} {s : State} {m : MethodId} {args : Array Value} {below : List Frame} {meth : Method} {c : Code} {D : va_G} {a : Nat → Nat} {kc : Nat → ClassId} (X : cx 44 p s m args meth c D (tyC kc) a cX3_allSeats 1 RX3 (some .int)) {F : Nat → Int32} {G : Nat → Int64} {I : Nat → Nat → Int32} {J : Nat → Nat → Int64} {Z : Nat → Nat → Nat → Int32}  {r : Int32} :
    ∀   (H : Heap) (locs : List Loc) (ls : Array Slot), p_X3_allSeats_b0 (F 0)  = some r → va_P D vwCl (wC a kc F G I J Z) H → va_S (ad a 44 s.heap.size) s.heap H locs → lv_has ls 1 [(0, .ref (a 0))] → W p l e rm_X3_allSeats s m args below meth c H locs 0 0 (MQ below (Qi D (wC a kc F G I J Z) r (ad a 44 s.heap.size)) args s 0 0 (ad a 44 s.heap.size)) (F0 m 0 ls []) := by
  intro   H locs ls hf  hP hS hl
  unfold p_X3_allSeats_b0 at hf
  refine lv_iconst (v := 1) X.1 X.2.1 dX3_allSeats_0 (by decide) ?_
  refine lv_aload_n X.1 X.2.1 dX3_allSeats_1 rfl (lv_at hl 0 rfl) ?_
  refine gC_0_8 (F := F) X (v := (F 0)) rfl q_1_80 dX3_allSeats_2 hP ?_
  refine lv_ishl X.1 X.2.1 dX3_allSeats_5 ?_
  refine lv_iconst (v := 1) X.1 X.2.1 dX3_allSeats_6 (by decide) ?_
  refine lv_isub X.1 X.2.1 dX3_allSeats_7 ?_
  have e0 := o1 hf
  exact ret_i X hS hP e0 dX3_allSeats_8
set_option maxRecDepth 100000 in
theorem c_X3_allSeats {l : Launch} {D : va_G} {a : Nat → Nat} {kc : Nat → ClassId} (F : Nat → Int32) (G : Nat → Int64) (I : Nat → Nat → Int32) (J : Nat → Nat → Int64) (Z : Nat → Nat → Nat → Int32) (hAp : ∀ i j, i < 44 → j < 44 → a i = a j → i = j)  {o0 : Int32} (hf : p_X3_allSeats (F 0)  = some o0) : Ct 44 l yX3_allSeats cX3_allSeats 1 (some .int) rm_X3_allSeats D (tyC kc) a (wC a kc F G I J Z) [.ref (a 0)] (Qi D (wC a kc F G I J Z) o0) :=
  Ct.of (by decide +kernel) hAp (Nat.le_of_ble_eq_true rfl) (fun p e s m args below meth c ls X hP hl => t_X3_allSeats_b0 X   _ _ _ hf  hP va_S.rf hl)
abbrev rm_J6_bitCount_0f7a4 : Room := { frames := 0, cells := 0, slots := 0, locals := 0 }
set_option maxHeartbeats 4000000 in
set_option maxRecDepth 100000 in
theorem t_J6_bitCount_0f7a4_b0 {p : Program} {l : Launch} {e : Env} {s : State} {m : MethodId} {args : Array Value} {below : List Frame} {meth : Method} {c : Code} {D : va_G} {a : Nat → Nat} (X : cx 0 p s m args meth c D [] a cJ6_bitCount_0f7a4 1 RJ6 (some .int))   {r : Int32} :
    ∀  (x0 : Int32) (H : Heap) (locs : List Loc) (ls : Array Slot), p_J6_bitCount_0f7a4_b0  x0 = some r → va_P D vwCl [] H → va_S (ad a 0 s.heap.size) s.heap H locs → lv_has ls 1 [(0, .int x0)] → W p l e rm_J6_bitCount_0f7a4 s m args below meth c H locs 0 0 (MQ below (Qi D [] r (ad a 0 s.heap.size)) args s 0 0 (ad a 0 s.heap.size)) (F0 m 0 ls []) := by
  intro  x0 H locs ls hf  hP hS hl
  unfold p_J6_bitCount_0f7a4_b0 at hf
  refine lv_iload_n X.1 X.2.1 dJ6_bitCount_0f7a4_0 rfl (lv_at hl 0 rfl) ?_
  refine lv_iload_n X.1 X.2.1 dJ6_bitCount_0f7a4_1 rfl (lv_at hl 0 rfl) ?_
  refine lv_iconst (v := 1) X.1 X.2.1 dJ6_bitCount_0f7a4_2 (by decide) ?_
  refine lv_iushr X.1 X.2.1 dJ6_bitCount_0f7a4_3 rfl ?_
  refine lv_ldcw (v := 1431655765) X.1 X.2.1 X.2.2.2.2.1 (X.2.2.2.2.2.1 _ q_2_166) dJ6_bitCount_0f7a4_4 ?_
  refine lv_iand X.1 X.2.1 dJ6_bitCount_0f7a4_7 ?_
  refine lv_isub X.1 X.2.1 dJ6_bitCount_0f7a4_8 ?_
  refine nm_i hf (fun x9 hf => ?_)
  refine lv_istore_n (lv' := [(0, .int x9)]) X.1 X.2.1 dJ6_bitCount_0f7a4_9 rfl hl (by decide) rfl (fun ls hl => ?_)
  refine lv_iload_n X.1 X.2.1 dJ6_bitCount_0f7a4_10 rfl (lv_at hl 0 rfl) ?_
  refine lv_ldcw (v := 858993459) X.1 X.2.1 X.2.2.2.2.1 (X.2.2.2.2.2.1 _ q_2_167) dJ6_bitCount_0f7a4_11 ?_
  refine lv_iand X.1 X.2.1 dJ6_bitCount_0f7a4_14 ?_
  refine lv_iload_n X.1 X.2.1 dJ6_bitCount_0f7a4_15 rfl (lv_at hl 0 rfl) ?_
  refine lv_iconst (v := 2) X.1 X.2.1 dJ6_bitCount_0f7a4_16 (by decide) ?_
  refine lv_iushr X.1 X.2.1 dJ6_bitCount_0f7a4_17 rfl ?_
  refine lv_ldcw (v := 858993459) X.1 X.2.1 X.2.2.2.2.1 (X.2.2.2.2.2.1 _ q_2_167) dJ6_bitCount_0f7a4_18 ?_
  refine lv_iand X.1 X.2.1 dJ6_bitCount_0f7a4_21 ?_
  refine lv_iadd X.1 X.2.1 dJ6_bitCount_0f7a4_22 ?_
  refine nm_i hf (fun x23 hf => ?_)
  refine lv_istore_n (lv' := [(0, .int x23)]) X.1 X.2.1 dJ6_bitCount_0f7a4_23 rfl hl (by decide) rfl (fun ls hl => ?_)
  refine lv_iload_n X.1 X.2.1 dJ6_bitCount_0f7a4_24 rfl (lv_at hl 0 rfl) ?_
  refine lv_iload_n X.1 X.2.1 dJ6_bitCount_0f7a4_25 rfl (lv_at hl 0 rfl) ?_
  refine lv_iconst (v := 4) X.1 X.2.1 dJ6_bitCount_0f7a4_26 (by decide) ?_
  refine lv_iushr X.1 X.2.1 dJ6_bitCount_0f7a4_27 rfl ?_
  refine lv_iadd X.1 X.2.1 dJ6_bitCount_0f7a4_28 ?_
  refine lv_ldcw (v := 252645135) X.1 X.2.1 X.2.2.2.2.1 (X.2.2.2.2.2.1 _ q_2_168) dJ6_bitCount_0f7a4_29 ?_
  refine lv_iand X.1 X.2.1 dJ6_bitCount_0f7a4_32 ?_
  refine nm_i hf (fun x33 hf => ?_)
  refine lv_istore_n (lv' := [(0, .int x33)]) X.1 X.2.1 dJ6_bitCount_0f7a4_33 rfl hl (by decide) rfl (fun ls hl => ?_)
  refine lv_iload_n X.1 X.2.1 dJ6_bitCount_0f7a4_34 rfl (lv_at hl 0 rfl) ?_
  refine lv_iload_n X.1 X.2.1 dJ6_bitCount_0f7a4_35 rfl (lv_at hl 0 rfl) ?_
  refine lv_bipush (v := 8) X.1 X.2.1 dJ6_bitCount_0f7a4_36 (by decide) ?_
  refine lv_iushr X.1 X.2.1 dJ6_bitCount_0f7a4_38 rfl ?_
  refine lv_iadd X.1 X.2.1 dJ6_bitCount_0f7a4_39 ?_
  refine nm_i hf (fun x40 hf => ?_)
  refine lv_istore_n (lv' := [(0, .int x40)]) X.1 X.2.1 dJ6_bitCount_0f7a4_40 rfl hl (by decide) rfl (fun ls hl => ?_)
  refine lv_iload_n X.1 X.2.1 dJ6_bitCount_0f7a4_41 rfl (lv_at hl 0 rfl) ?_
  refine lv_iload_n X.1 X.2.1 dJ6_bitCount_0f7a4_42 rfl (lv_at hl 0 rfl) ?_
  refine lv_bipush (v := 16) X.1 X.2.1 dJ6_bitCount_0f7a4_43 (by decide) ?_
  refine lv_iushr X.1 X.2.1 dJ6_bitCount_0f7a4_45 rfl ?_
  refine lv_iadd X.1 X.2.1 dJ6_bitCount_0f7a4_46 ?_
  refine nm_i hf (fun x47 hf => ?_)
  refine lv_istore_n (lv' := [(0, .int x47)]) X.1 X.2.1 dJ6_bitCount_0f7a4_47 rfl hl (by decide) rfl (fun ls hl => ?_)
  refine lv_iload_n X.1 X.2.1 dJ6_bitCount_0f7a4_48 rfl (lv_at hl 0 rfl) ?_
  refine lv_bipush (v := 63) X.1 X.2.1 dJ6_bitCount_0f7a4_49 (by decide) ?_
  refine lv_iand X.1 X.2.1 dJ6_bitCount_0f7a4_51 ?_
  have e0 := o1 hf
  exact ret_i X hS hP e0 dJ6_bitCount_0f7a4_52
set_option maxRecDepth 100000 in
theorem c_J6_bitCount_0f7a4 {l : Launch} {D : va_G} {a : Nat → Nat}  (x0 : Int32) {o0 : Int32} (hf : p_J6_bitCount_0f7a4  x0 = some o0) : Ct 0 l yJ6_bitCount_0f7a4 cJ6_bitCount_0f7a4 1 (some .int) rm_J6_bitCount_0f7a4 D [] a [] [.int x0] (Qi D [] o0) :=
  Ct.of (by decide +kernel) (fun i j h => absurd h (Nat.not_lt_zero i)) (Nat.le_of_ble_eq_true rfl) (fun p e s m args below meth c ls X hP hl => t_J6_bitCount_0f7a4_b0 X  x0 _ _ _ hf  hP va_S.rf hl)
abbrev rm_X3_has : Room := { frames := 0, cells := 0, slots := 0, locals := 0 }
set_option maxHeartbeats 4000000 in
set_option maxRecDepth 100000 in
theorem t_X3_has_b14 {p : Program} {l : Launch} {e : Env} {s : State} {m : MethodId} {args : Array Value} {below : List Frame} {meth : Method} {c : Code} {D : va_G} {a : Nat → Nat} (X : cx 0 p s m args meth c D [] a cX3_has 2 RX3 (some .boolean))   {r : Int32} :
    ∀  (t0 : Int32) (H : Heap) (locs : List Loc) (ls : Array Slot), p_X3_has_b14  t0 = some r → va_P D vwCl [] H → va_S (ad a 0 s.heap.size) s.heap H locs → lv_has ls 2 [] → W p l e rm_X3_has s m args below meth c H locs 0 0 (MQ below (Qi D [] r (ad a 0 s.heap.size)) args s 0 0 (ad a 0 s.heap.size)) (F0 m 14 ls [.int t0]) := by
  intro  t0 H locs ls hf  hP hS hl
  unfold p_X3_has_b14 at hf
  obtain ⟨h14, hf⟩ := gd_s hf
  have e0 := o1 hf
  exact ret_z X hS hP e0 h14 dX3_has_14
set_option maxHeartbeats 4000000 in
set_option maxRecDepth 100000 in
theorem t_X3_has_b0 {p : Program} {l : Launch} {e : Env} {s : State} {m : MethodId} {args : Array Value} {below : List Frame} {meth : Method} {c : Code} {D : va_G} {a : Nat → Nat} (X : cx 0 p s m args meth c D [] a cX3_has 2 RX3 (some .boolean))   {r : Int32} :
    ∀  (x0 : Int32) (x1 : Int32) (H : Heap) (locs : List Loc) (ls : Array Slot), p_X3_has_b0  x0 x1 = some r → va_P D vwCl [] H → va_S (ad a 0 s.heap.size) s.heap H locs → lv_has ls 2 [(0, .int x0), (1, .int x1)] → W p l e rm_X3_has s m args below meth c H locs 0 0 (MQ below (Qi D [] r (ad a 0 s.heap.size)) args s 0 0 (ad a 0 s.heap.size)) (F0 m 0 ls []) := by
  intro  x0 x1 H locs ls hf  hP hS hl
  unfold p_X3_has_b0 at hf
  refine lv_iload_n X.1 X.2.1 dX3_has_0 rfl (lv_at hl 0 rfl) ?_
  refine lv_iload_n X.1 X.2.1 dX3_has_1 rfl (lv_at hl 1 rfl) ?_
  refine lv_ishr X.1 X.2.1 dX3_has_2 ?_
  refine lv_iconst (v := 1) X.1 X.2.1 dX3_has_3 (by decide) ?_
  refine lv_iand X.1 X.2.1 dX3_has_4 ?_
  refine lv_iconst (v := 1) X.1 X.2.1 dX3_has_5 (by decide) ?_
  refine lv_icmp_ne (tgt := 13) X.1 X.2.1 dX3_has_6 (by decide) (fun c6 => ?_) (fun c6 => ?_)
  · have hf := ie_s hf c6
    refine lv_iconst (v := 0) X.1 X.2.1 dX3_has_13 (by decide) ?_
    exact t_X3_has_b14 X  0 H locs ls hf  hP hS (lv_sub hl [] rfl)
  · have hf := it_s hf c6
    refine lv_iconst (v := 1) X.1 X.2.1 dX3_has_9 (by decide) ?_
    refine lv_goto (tgt := 14) X.1 X.2.1 dX3_has_10 (by decide) ?_
    exact t_X3_has_b14 X  1 H locs ls hf  hP hS (lv_sub hl [] rfl)
set_option maxRecDepth 100000 in
theorem c_X3_has {l : Launch} {D : va_G} {a : Nat → Nat}  (x0 : Int32) (x1 : Int32) {o0 : Int32} (hf : p_X3_has  x0 x1 = some o0) : Ct 0 l yX3_has cX3_has 2 (some .boolean) rm_X3_has D [] a [] [.int x0, .int x1] (Qi D [] o0) :=
  Ct.of (by decide +kernel) (fun i j h => absurd h (Nat.not_lt_zero i)) (Nat.le_of_ble_eq_true rfl) (fun p e s m args below meth c ls X hP hl => t_X3_has_b0 X  x0 x1 _ _ _ hf  hP va_S.rf hl)
abbrev rm_X0_close : Room := { frames := 1, cells := 0, slots := 0, locals := 21 }
set_option maxHeartbeats 4000000 in
set_option maxRecDepth 100000 in
theorem t_X0_close_b69 {p : Program} {l : Launch} {e : Env} {s : State} {m : MethodId} {args : Array Value} {below : List Frame} {meth : Method} {c : Code} {D : va_G} {a : Nat → Nat} {kc : Nat → ClassId} (X : cx 44 p s m args meth c D (tyC kc) a cX0_close 4 RX0 none) {F : Nat → Int32} {G : Nat → Int64} {I : Nat → Nat → Int32} {Z : Nat → Nat → Nat → Int32} {Jf : Nat → Nat → Int64}  {K35 : Int32 → (Nat → Int64) → (Nat → Int64) → (Nat → Int64) → (Nat → Int64) → Int32 → Int32 → Option ((Nat → Int64) × (Nat → Int64))} (kh35 : ∀ (J : Nat → Nat → Int64) (x1 : Int32) (x3 : Int32) (H : Heap) (locs : List Loc) (ls : Array Slot), K35 (F 0) (J 0) (J 2) (J 3) (J 4) x1 x3 = some ((Jf 2), (Jf 3)) → (∀ k, k ∉ ([2, 3] : List Nat) → Jf k = J k) → va_P D vwCl (wC a kc F G I J Z) H → va_S (ad a 44 s.heap.size) s.heap H locs → lv_has ls 4 [(0, .ref (a 11)), (1, .int x1), (3, .int x3)] → W p l e rm_X0_close s m args below meth c H locs 0 0 (MQ below (Qv D (wC a kc F G I Jf Z) (ad a 44 s.heap.size)) args s 0 0 (ad a 44 s.heap.size)) (F0 m 35 ls [])) :
    ∀ (J : Nat → Nat → Int64) (x1 : Int32) (x3 : Int32) (H : Heap) (locs : List Loc) (ls : Array Slot), p_X0_close_b69 K35 (F 0) (J 0) (J 2) (J 3) (J 4) x1 x3 = some ((Jf 2), (Jf 3)) → (∀ k, k ∉ ([2, 3] : List Nat) → Jf k = J k) → va_P D vwCl (wC a kc F G I J Z) H → va_S (ad a 44 s.heap.size) s.heap H locs → lv_has ls 4 [(0, .ref (a 11)), (1, .int x1), (3, .int x3)] → W p l e rm_X0_close s m args below meth c H locs 0 0 (MQ below (Qv D (wC a kc F G I Jf Z) (ad a 44 s.heap.size)) args s 0 0 (ad a 44 s.heap.size)) (F0 m 69 ls []) := by
  intro J x1 x3 H locs ls hf hfJ hP hS hl
  unfold p_X0_close_b69 at hf
  obtain ⟨x69, ex69, hf⟩ := nm_x hf
  refine lv_iinc (v := x69) (lv' := [(3, .int x69), (0, .ref (a 11)), (1, .int x1)]) X.1 X.2.1 dX0_close_69 hl (k := 2) rfl ex69 (by decide) rfl (fun ls hl => ?_)
  refine lv_goto (tgt := 35) X.1 X.2.1 dX0_close_72 (by decide) ?_
  exact kh35 J x1 x69 H locs ls hf hfJ hP hS (lv_sub hl [1, 2, 0] rfl)
set_option maxHeartbeats 4000000 in
set_option maxRecDepth 100000 in
theorem t_X0_close_b35x {p : Program} {l : Launch} {e : Env} {s : State} {m : MethodId} {args : Array Value} {below : List Frame} {meth : Method} {c : Code} {D : va_G} {a : Nat → Nat} {kc : Nat → ClassId} (X : cx 44 p s m args meth c D (tyC kc) a cX0_close 4 RX0 none) {F : Nat → Int32} {G : Nat → Int64} {I : Nat → Nat → Int32} {Z : Nat → Nat → Nat → Int32} {Jf : Nat → Nat → Int64}  {K35 : Int32 → (Nat → Int64) → (Nat → Int64) → (Nat → Int64) → (Nat → Int64) → Int32 → Int32 → Option ((Nat → Int64) × (Nat → Int64))} (kh35 : ∀ (J : Nat → Nat → Int64) (x1 : Int32) (x3 : Int32) (H : Heap) (locs : List Loc) (ls : Array Slot), K35 (F 0) (J 0) (J 2) (J 3) (J 4) x1 x3 = some ((Jf 2), (Jf 3)) → (∀ k, k ∉ ([2, 3] : List Nat) → Jf k = J k) → va_P D vwCl (wC a kc F G I J Z) H → va_S (ad a 44 s.heap.size) s.heap H locs → lv_has ls 4 [(0, .ref (a 11)), (1, .int x1), (3, .int x3)] → W p l e rm_X0_close s m args below meth c H locs 0 0 (MQ below (Qv D (wC a kc F G I Jf Z) (ad a 44 s.heap.size)) args s 0 0 (ad a 44 s.heap.size)) (F0 m 35 ls [])) :
    ∀ (J : Nat → Nat → Int64) (x1 : Int32) (x3 : Int32) (H : Heap) (locs : List Loc) (ls : Array Slot), p_X0_close_b35x K35 (F 0) (J 0) (J 2) (J 3) (J 4) x1 x3 = some ((Jf 2), (Jf 3)) → (∀ k, k ∉ ([2, 3] : List Nat) → Jf k = J k) → va_P D vwCl (wC a kc F G I J Z) H → va_S (ad a 44 s.heap.size) s.heap H locs → lv_has ls 4 [(0, .ref (a 11)), (1, .int x1), (3, .int x3)] → W p l e rm_X0_close s m args below meth c H locs 0 0 (MQ below (Qv D (wC a kc F G I Jf Z) (ad a 44 s.heap.size)) args s 0 0 (ad a 44 s.heap.size)) (F0 m 35 ls []) := by
  intro J x1 x3 H locs ls hf hfJ hP hS hl
  unfold p_X0_close_b35x at hf
  refine lv_iload_n X.1 X.2.1 dX0_close_35 rfl (lv_at hl 2 rfl) ?_
  refine lv_aload_n X.1 X.2.1 dX0_close_36 rfl (lv_at hl 0 rfl) ?_
  refine gC_11_7 X q_1_138 dX0_close_37 hP ?_
  refine gC_0_8 (F := F) X (v := (F 0)) rfl q_1_79 dX0_close_40 hP ?_
  refine lv_icmp_ge (tgt := 75) X.1 X.2.1 dX0_close_43 (by decide) (fun c43 => ?_) (fun c43 => ?_)
  · have hf := it_s hf c43
    obtain ⟨e0, hf⟩ := o2 hf
    have e1 := o1 hf
    have EJ : Jf = J := frm_eq hfJ (frm_c (e0).symm (frm_c (e1).symm frm_n))
    exact ret_v X hS (by rw [EJ]; exact hP) dX0_close_75
  · have hf := ie_s hf c43
    refine lv_iload_n X.1 X.2.1 dX0_close_46 rfl (lv_at hl 1 rfl) ?_
    refine lv_iload_n X.1 X.2.1 dX0_close_47 rfl (lv_at hl 2 rfl) ?_
    obtain ⟨r48, ho, hf⟩ := b1_s hf
    refine call_si (rest := []) X (c_X3_has x1 x3 ho) q_2_177 q_2_178 q_1_2 q_2_179 ok_X3_has rfl ⟨Nat.le_of_ble_eq_true rfl, Nat.le_of_ble_eq_true rfl⟩ rfl rfl hl.1 rfl (Nat.le_of_ble_eq_true rfl) dX0_close_48 hP hS (fun H locs hP hS => ?_)
    refine lv_if_ne (tgt := 69) X.1 X.2.1 dX0_close_51 (by decide) (fun c51 => ?_) (fun c51 => ?_)
    · have hf := ie_s hf c51
      exact t_X0_close_b69 X kh35 J x1 x3 H locs ls hf hfJ hP hS (lv_sub hl [0, 1, 2] rfl)
    · have hf := it_s hf c51
      refine lv_aload_n X.1 X.2.1 dX0_close_54 rfl (lv_at hl 0 rfl) ?_
      refine gC_11_3 X q_1_130 dX0_close_55 hP ?_
      refine lv_iload_n X.1 X.2.1 dX0_close_58 rfl (lv_at hl 2 rfl) ?_
      refine lv_dup2_11 X.1 X.2.1 dX0_close_59 rfl rfl ?_
      obtain ⟨h60, hf⟩ := gd_s hf
      refine lC_15 (J := J) X (f := (J 3)) rfl h60 dX0_close_60 hP ?_
      refine lv_aload_n X.1 X.2.1 dX0_close_61 rfl (lv_at hl 0 rfl) ?_
      refine gC_11_0 X q_1_124 dX0_close_62 hP ?_
      refine lv_iload_n X.1 X.2.1 dX0_close_65 rfl (lv_at hl 1 rfl) ?_
      obtain ⟨h66, hf⟩ := gd_s hf
      refine lC_12 (J := J) X (f := (J 0)) rfl h66 dX0_close_66 hP ?_
      refine lv_ladd X.1 X.2.1 dX0_close_67 ?_
      obtain ⟨h68, hf⟩ := gd_s hf
      obtain ⟨C_free_68, eC_free_68, hf⟩ := nm_x hf
      refine sC_15 (J := J) X h68 eC_free_68 dX0_close_68 hP hS (fun H locs hP hS => ?_)
      exact t_X0_close_b69 X kh35 (va_up J 3 C_free_68) x1 x3 H locs ls hf (frm_up hfJ (by decide)) hP hS (lv_sub hl [0, 1, 2] rfl)
set_option maxRecDepth 100000 in
theorem t_X0_close_b35 {p : Program} {l : Launch} {e : Env} {s : State} {m : MethodId} {args : Array Value} {below : List Frame} {meth : Method} {c : Code} {D : va_G} {a : Nat → Nat} {kc : Nat → ClassId} (X : cx 44 p s m args meth c D (tyC kc) a cX0_close 4 RX0 none) {F : Nat → Int32} {G : Nat → Int64} {I : Nat → Nat → Int32} {Z : Nat → Nat → Nat → Int32} {Jf : Nat → Nat → Int64}  :
    ∀ (n : Nat) (J : Nat → Nat → Int64) (x1 : Int32) (x3 : Int32) (H : Heap) (locs : List Loc) (ls : Array Slot), p_X0_close_b35 n (F 0) (J 0) (J 2) (J 3) (J 4) x1 x3 = some ((Jf 2), (Jf 3)) → (∀ k, k ∉ ([2, 3] : List Nat) → Jf k = J k) → va_P D vwCl (wC a kc F G I J Z) H → va_S (ad a 44 s.heap.size) s.heap H locs → lv_has ls 4 [(0, .ref (a 11)), (1, .int x1), (3, .int x3)] → W p l e rm_X0_close s m args below meth c H locs 0 0 (MQ below (Qv D (wC a kc F G I Jf Z) (ad a 44 s.heap.size)) args s 0 0 (ad a 44 s.heap.size)) (F0 m 35 ls []) := by
  intro n
  induction n with
  | zero => intro J x1 x3 H locs ls hf hfJ hP hS hl; exact (nos hf).elim
  | succ n ih => exact t_X0_close_b35x X ih
set_option maxHeartbeats 4000000 in
set_option maxRecDepth 100000 in
theorem t_X0_close_b2x {p : Program} {l : Launch} {e : Env} {s : State} {m : MethodId} {args : Array Value} {below : List Frame} {meth : Method} {c : Code} {D : va_G} {a : Nat → Nat} {kc : Nat → ClassId} (X : cx 44 p s m args meth c D (tyC kc) a cX0_close 4 RX0 none) {F : Nat → Int32} {G : Nat → Int64} {I : Nat → Nat → Int32} {Z : Nat → Nat → Nat → Int32} {Jf : Nat → Nat → Int64}  {K2 : Int32 → (Nat → Int64) → (Nat → Int64) → (Nat → Int64) → (Nat → Int64) → Int32 → Int32 → Int32 → Option ((Nat → Int64) × (Nat → Int64))} (kh2 : ∀ (J : Nat → Nat → Int64) (x1 : Int32) (x2 : Int32) (x3 : Int32) (H : Heap) (locs : List Loc) (ls : Array Slot), K2 (F 0) (J 0) (J 2) (J 3) (J 4) x1 x2 x3 = some ((Jf 2), (Jf 3)) → (∀ k, k ∉ ([2, 3] : List Nat) → Jf k = J k) → va_P D vwCl (wC a kc F G I J Z) H → va_S (ad a 44 s.heap.size) s.heap H locs → lv_has ls 4 [(0, .ref (a 11)), (1, .int x1), (2, .int x2), (3, .int x3)] → W p l e rm_X0_close s m args below meth c H locs 0 0 (MQ below (Qv D (wC a kc F G I Jf Z) (ad a 44 s.heap.size)) args s 0 0 (ad a 44 s.heap.size)) (F0 m 2 ls [])) :
    ∀ (J : Nat → Nat → Int64) (x1 : Int32) (x2 : Int32) (x3 : Int32) (H : Heap) (locs : List Loc) (ls : Array Slot), p_X0_close_b2x K2 (F 0) (J 0) (J 2) (J 3) (J 4) x1 x2 x3 = some ((Jf 2), (Jf 3)) → (∀ k, k ∉ ([2, 3] : List Nat) → Jf k = J k) → va_P D vwCl (wC a kc F G I J Z) H → va_S (ad a 44 s.heap.size) s.heap H locs → lv_has ls 4 [(0, .ref (a 11)), (1, .int x1), (2, .int x2), (3, .int x3)] → W p l e rm_X0_close s m args below meth c H locs 0 0 (MQ below (Qv D (wC a kc F G I Jf Z) (ad a 44 s.heap.size)) args s 0 0 (ad a 44 s.heap.size)) (F0 m 2 ls []) := by
  intro J x1 x2 x3 H locs ls hf hfJ hP hS hl
  unfold p_X0_close_b2x at hf
  refine lv_iload_n X.1 X.2.1 dX0_close_2 rfl (lv_at hl 3 rfl) ?_
  refine lv_iload_n X.1 X.2.1 dX0_close_3 rfl (lv_at hl 2 rfl) ?_
  refine lv_icmp_gt (tgt := 33) X.1 X.2.1 dX0_close_4 (by decide) (fun c4 => ?_) (fun c4 => ?_)
  · have hf := it_s hf c4
    refine lv_iconst (v := 0) X.1 X.2.1 dX0_close_33 (by decide) ?_
    refine lv_istore_n (lv' := [(3, .int 0), (0, .ref (a 11)), (1, .int x1), (2, .int x2)]) X.1 X.2.1 dX0_close_34 rfl hl (by decide) rfl (fun ls hl => ?_)
    exact t_X0_close_b35 X 4096 J x1 0 H locs ls hf hfJ hP hS (lv_sub hl [1, 2, 0] rfl)
  · have hf := ie_s hf c4
    refine lv_aload_n X.1 X.2.1 dX0_close_7 rfl (lv_at hl 0 rfl) ?_
    refine gC_11_2 X q_1_128 dX0_close_8 hP ?_
    refine lv_iload_n X.1 X.2.1 dX0_close_11 rfl (lv_at hl 3 rfl) ?_
    refine lv_dup2_11 X.1 X.2.1 dX0_close_12 rfl rfl ?_
    obtain ⟨h13, hf⟩ := gd_s hf
    refine lC_14 (J := J) X (f := (J 2)) rfl h13 dX0_close_13 hP ?_
    refine lv_aload_n X.1 X.2.1 dX0_close_14 rfl (lv_at hl 0 rfl) ?_
    refine gC_11_8 X q_1_139 dX0_close_15 hP ?_
    refine lv_iload_n X.1 X.2.1 dX0_close_18 rfl (lv_at hl 1 rfl) ?_
    refine lv_bipush (v := 9) X.1 X.2.1 dX0_close_19 (by decide) ?_
    refine lv_imul X.1 X.2.1 dX0_close_21 ?_
    refine lv_iload_n X.1 X.2.1 dX0_close_22 rfl (lv_at hl 3 rfl) ?_
    refine lv_iadd X.1 X.2.1 dX0_close_23 ?_
    obtain ⟨h24, hf⟩ := gd_s hf
    refine lC_16 (J := J) X (f := (J 4)) rfl h24 dX0_close_24 hP ?_
    refine lv_ladd X.1 X.2.1 dX0_close_25 ?_
    obtain ⟨h26, hf⟩ := gd_s hf
    obtain ⟨C_wrongs_26, eC_wrongs_26, hf⟩ := nm_x hf
    refine sC_14 (J := J) X h26 eC_wrongs_26 dX0_close_26 hP hS (fun H locs hP hS => ?_)
    obtain ⟨x27, ex27, hf⟩ := nm_x hf
    refine lv_iinc (v := x27) (lv' := [(3, .int x27), (0, .ref (a 11)), (1, .int x1), (2, .int x2)]) X.1 X.2.1 dX0_close_27 hl (k := 3) rfl ex27 (by decide) rfl (fun ls hl => ?_)
    refine lv_goto (tgt := 2) X.1 X.2.1 dX0_close_30 (by decide) ?_
    exact kh2 (va_up J 2 C_wrongs_26) x1 x2 x27 H locs ls hf (frm_up hfJ (by decide)) hP hS (lv_sub hl [1, 2, 3, 0] rfl)
set_option maxRecDepth 100000 in
theorem t_X0_close_b2 {p : Program} {l : Launch} {e : Env} {s : State} {m : MethodId} {args : Array Value} {below : List Frame} {meth : Method} {c : Code} {D : va_G} {a : Nat → Nat} {kc : Nat → ClassId} (X : cx 44 p s m args meth c D (tyC kc) a cX0_close 4 RX0 none) {F : Nat → Int32} {G : Nat → Int64} {I : Nat → Nat → Int32} {Z : Nat → Nat → Nat → Int32} {Jf : Nat → Nat → Int64}  :
    ∀ (n : Nat) (J : Nat → Nat → Int64) (x1 : Int32) (x2 : Int32) (x3 : Int32) (H : Heap) (locs : List Loc) (ls : Array Slot), p_X0_close_b2 n (F 0) (J 0) (J 2) (J 3) (J 4) x1 x2 x3 = some ((Jf 2), (Jf 3)) → (∀ k, k ∉ ([2, 3] : List Nat) → Jf k = J k) → va_P D vwCl (wC a kc F G I J Z) H → va_S (ad a 44 s.heap.size) s.heap H locs → lv_has ls 4 [(0, .ref (a 11)), (1, .int x1), (2, .int x2), (3, .int x3)] → W p l e rm_X0_close s m args below meth c H locs 0 0 (MQ below (Qv D (wC a kc F G I Jf Z) (ad a 44 s.heap.size)) args s 0 0 (ad a 44 s.heap.size)) (F0 m 2 ls []) := by
  intro n
  induction n with
  | zero => intro J x1 x2 x3 H locs ls hf hfJ hP hS hl; exact (nos hf).elim
  | succ n ih => exact t_X0_close_b2x X ih
set_option maxHeartbeats 4000000 in
set_option maxRecDepth 100000 in
theorem t_X0_close_b0 {p : Program} {l : Launch} {e : Env} {s : State} {m : MethodId} {args : Array Value} {below : List Frame} {meth : Method} {c : Code} {D : va_G} {a : Nat → Nat} {kc : Nat → ClassId} (X : cx 44 p s m args meth c D (tyC kc) a cX0_close 4 RX0 none) {F : Nat → Int32} {G : Nat → Int64} {I : Nat → Nat → Int32} {Z : Nat → Nat → Nat → Int32} {Jf : Nat → Nat → Int64}  :
    ∀ (J : Nat → Nat → Int64) (x1 : Int32) (x2 : Int32) (H : Heap) (locs : List Loc) (ls : Array Slot), p_X0_close_b0 (F 0) (J 0) (J 2) (J 3) (J 4) x1 x2 = some ((Jf 2), (Jf 3)) → (∀ k, k ∉ ([2, 3] : List Nat) → Jf k = J k) → va_P D vwCl (wC a kc F G I J Z) H → va_S (ad a 44 s.heap.size) s.heap H locs → lv_has ls 4 [(0, .ref (a 11)), (1, .int x1), (2, .int x2)] → W p l e rm_X0_close s m args below meth c H locs 0 0 (MQ below (Qv D (wC a kc F G I Jf Z) (ad a 44 s.heap.size)) args s 0 0 (ad a 44 s.heap.size)) (F0 m 0 ls []) := by
  intro J x1 x2 H locs ls hf hfJ hP hS hl
  unfold p_X0_close_b0 at hf
  refine lv_iconst (v := 0) X.1 X.2.1 dX0_close_0 (by decide) ?_
  refine lv_istore_n (lv' := [(3, .int 0), (0, .ref (a 11)), (1, .int x1), (2, .int x2)]) X.1 X.2.1 dX0_close_1 rfl hl (by decide) rfl (fun ls hl => ?_)
  exact t_X0_close_b2 X 4096 J x1 x2 0 H locs ls hf hfJ hP hS (lv_sub hl [1, 2, 3, 0] rfl)
set_option maxRecDepth 100000 in
theorem c_X0_close {l : Launch} {D : va_G} {a : Nat → Nat} {kc : Nat → ClassId} (F : Nat → Int32) (G : Nat → Int64) (I : Nat → Nat → Int32) (J : Nat → Nat → Int64) (Z : Nat → Nat → Nat → Int32) (hAp : ∀ i j, i < 44 → j < 44 → a i = a j → i = j) (x1 : Int32) (x2 : Int32) {o0 : Nat → Int64} {o1 : Nat → Int64} (hf : p_X0_close (F 0) (J 0) (J 2) (J 3) (J 4) x1 x2 = some (o0, o1)) : Ct 44 l yX0_close cX0_close 4 none rm_X0_close D (tyC kc) a (wC a kc F G I J Z) [.ref (a 11), .int x1, .int x2] (Qv D (wC a kc F G I (va_up (va_up J 2 o0) 3 o1) Z)) :=
  Ct.of (by decide +kernel) hAp (Nat.le_of_ble_eq_true rfl) (fun p e s m args below meth c ls X hP hl => t_X0_close_b0 X J x1 x2 _ _ _ hf (frm_ul (frm_ul (fun k _ => rfl) (by decide)) (by decide)) hP va_S.rf hl)
abbrev rm_X3_nextFree : Room := { frames := 0, cells := 0, slots := 0, locals := 0 }
set_option maxHeartbeats 4000000 in
set_option maxRecDepth 100000 in
theorem t_X3_nextFree_b37 {p : Program} {l : Launch} {e : Env} {s : State} {m : MethodId} {args : Array Value} {below : List Frame} {meth : Method} {c : Code} {D : va_G} {a : Nat → Nat} {kc : Nat → ClassId} (X : cx 44 p s m args meth c D (tyC kc) a cX3_nextFree 6 RX3 (some .int)) {F : Nat → Int32} {G : Nat → Int64} {I : Nat → Nat → Int32} {J : Nat → Nat → Int64} {Z : Nat → Nat → Nat → Int32}  {r : Int32} {K2 : Int32 → Int32 → Int32 → Int32 → Option (Int32)} (kh2 : ∀  (x1 : Int32) (x2 : Int32) (x3 : Int32) (H : Heap) (locs : List Loc) (ls : Array Slot), K2 (F 0) x1 x2 x3 = some r → va_P D vwCl (wC a kc F G I J Z) H → va_S (ad a 44 s.heap.size) s.heap H locs → lv_has ls 6 [(0, .ref (a 0)), (1, .int x1), (2, .int x2), (3, .int x3)] → W p l e rm_X3_nextFree s m args below meth c H locs 0 0 (MQ below (Qi D (wC a kc F G I J Z) r (ad a 44 s.heap.size)) args s 0 0 (ad a 44 s.heap.size)) (F0 m 2 ls [])) :
    ∀  (t0 : Int32) (t1 : Int32) (x1 : Int32) (x2 : Int32) (x3 : Int32) (H : Heap) (locs : List Loc) (ls : Array Slot), p_X3_nextFree_b37 K2 (F 0) t0 t1 x1 x2 x3 = some r → va_P D vwCl (wC a kc F G I J Z) H → va_S (ad a 44 s.heap.size) s.heap H locs → lv_has ls 6 [(0, .ref (a 0)), (1, .int x1), (2, .int x2), (3, .int x3)] → W p l e rm_X3_nextFree s m args below meth c H locs 0 0 (MQ below (Qi D (wC a kc F G I J Z) r (ad a 44 s.heap.size)) args s 0 0 (ad a 44 s.heap.size)) (F0 m 37 ls [.int t1, .int t0]) := by
  intro  t0 t1 x1 x2 x3 H locs ls hf  hP hS hl
  unfold p_X3_nextFree_b37 at hf
  refine lv_ishl X.1 X.2.1 dX3_nextFree_37 ?_
  refine nm_i hf (fun x38 hf => ?_)
  refine lv_istore (lv' := [(5, .int x38), (0, .ref (a 0)), (1, .int x1), (2, .int x2), (3, .int x3)]) X.1 X.2.1 dX3_nextFree_38 hl (by decide) rfl (fun ls hl => ?_)
  refine lv_iload_n X.1 X.2.1 dX3_nextFree_40 rfl (lv_at hl 2 rfl) ?_
  refine lv_iload X.1 X.2.1 dX3_nextFree_41 (lv_at hl 0 rfl) ?_
  refine lv_iand X.1 X.2.1 dX3_nextFree_43 ?_
  refine lv_if_eq (tgt := 50) X.1 X.2.1 dX3_nextFree_44 (by decide) (fun c44 => ?_) (fun c44 => ?_)
  · have hf := it_s hf c44
    obtain ⟨x50, ex50, hf⟩ := nm_x hf
    refine lv_iinc (v := x50) (lv' := [(3, .int x50), (5, .int x38), (0, .ref (a 0)), (1, .int x1), (2, .int x2)]) X.1 X.2.1 dX3_nextFree_50 hl (k := 4) rfl ex50 (by decide) rfl (fun ls hl => ?_)
    refine lv_goto (tgt := 2) X.1 X.2.1 dX3_nextFree_53 (by decide) ?_
    exact kh2  x1 x2 x50 H locs ls hf  hP hS (lv_sub hl [2, 3, 4, 0] rfl)
  · have hf := ie_s hf c44
    refine lv_iload X.1 X.2.1 dX3_nextFree_47 (lv_at hl 0 rfl) ?_
    have e0 := o1 hf
    exact ret_i X hS hP e0 dX3_nextFree_49
set_option maxHeartbeats 4000000 in
set_option maxRecDepth 100000 in
theorem t_X3_nextFree_b2x {p : Program} {l : Launch} {e : Env} {s : State} {m : MethodId} {args : Array Value} {below : List Frame} {meth : Method} {c : Code} {D : va_G} {a : Nat → Nat} {kc : Nat → ClassId} (X : cx 44 p s m args meth c D (tyC kc) a cX3_nextFree 6 RX3 (some .int)) {F : Nat → Int32} {G : Nat → Int64} {I : Nat → Nat → Int32} {J : Nat → Nat → Int64} {Z : Nat → Nat → Nat → Int32}  {r : Int32} {K2 : Int32 → Int32 → Int32 → Int32 → Option (Int32)} (kh2 : ∀  (x1 : Int32) (x2 : Int32) (x3 : Int32) (H : Heap) (locs : List Loc) (ls : Array Slot), K2 (F 0) x1 x2 x3 = some r → va_P D vwCl (wC a kc F G I J Z) H → va_S (ad a 44 s.heap.size) s.heap H locs → lv_has ls 6 [(0, .ref (a 0)), (1, .int x1), (2, .int x2), (3, .int x3)] → W p l e rm_X3_nextFree s m args below meth c H locs 0 0 (MQ below (Qi D (wC a kc F G I J Z) r (ad a 44 s.heap.size)) args s 0 0 (ad a 44 s.heap.size)) (F0 m 2 ls [])) :
    ∀  (x1 : Int32) (x2 : Int32) (x3 : Int32) (H : Heap) (locs : List Loc) (ls : Array Slot), p_X3_nextFree_b2x K2 (F 0) x1 x2 x3 = some r → va_P D vwCl (wC a kc F G I J Z) H → va_S (ad a 44 s.heap.size) s.heap H locs → lv_has ls 6 [(0, .ref (a 0)), (1, .int x1), (2, .int x2), (3, .int x3)] → W p l e rm_X3_nextFree s m args below meth c H locs 0 0 (MQ below (Qi D (wC a kc F G I J Z) r (ad a 44 s.heap.size)) args s 0 0 (ad a 44 s.heap.size)) (F0 m 2 ls []) := by
  intro  x1 x2 x3 H locs ls hf  hP hS hl
  unfold p_X3_nextFree_b2x at hf
  refine lv_iload_n X.1 X.2.1 dX3_nextFree_2 rfl (lv_at hl 3 rfl) ?_
  refine lv_aload_n X.1 X.2.1 dX3_nextFree_3 rfl (lv_at hl 0 rfl) ?_
  refine gC_0_8 (F := F) X (v := (F 0)) rfl q_1_80 dX3_nextFree_4 hP ?_
  refine lv_icmp_ge (tgt := 56) X.1 X.2.1 dX3_nextFree_7 (by decide) (fun c7 => ?_) (fun c7 => ?_)
  · have hf := it_s hf c7
    refine lv_iconst (v := 0) X.1 X.2.1 dX3_nextFree_56 (by decide) ?_
    have e0 := o1 hf
    exact ret_i X hS hP e0 dX3_nextFree_57
  · have hf := ie_s hf c7
    refine lv_iload_n X.1 X.2.1 dX3_nextFree_10 rfl (lv_at hl 2 rfl) ?_
    refine lv_iload_n X.1 X.2.1 dX3_nextFree_11 rfl (lv_at hl 3 rfl) ?_
    refine lv_iadd X.1 X.2.1 dX3_nextFree_12 ?_
    refine nm_i hf (fun x13 hf => ?_)
    refine lv_istore (lv' := [(4, .int x13), (0, .ref (a 0)), (1, .int x1), (2, .int x2), (3, .int x3)]) X.1 X.2.1 dX3_nextFree_13 hl (by decide) rfl (fun ls hl => ?_)
    refine lv_iconst (v := 1) X.1 X.2.1 dX3_nextFree_15 (by decide) ?_
    refine lv_iload X.1 X.2.1 dX3_nextFree_16 (lv_at hl 0 rfl) ?_
    refine lv_aload_n X.1 X.2.1 dX3_nextFree_18 rfl (lv_at hl 1 rfl) ?_
    refine gC_0_8 (F := F) X (v := (F 0)) rfl q_1_80 dX3_nextFree_19 hP ?_
    refine lv_icmp_lt (tgt := 35) X.1 X.2.1 dX3_nextFree_22 (by decide) (fun c22 => ?_) (fun c22 => ?_)
    · have hf := it_s hf c22
      refine lv_iload X.1 X.2.1 dX3_nextFree_35 (lv_at hl 0 rfl) ?_
      exact t_X3_nextFree_b37 X kh2  1 x13 x1 x2 x3 H locs ls hf  hP hS (lv_sub hl [1, 2, 3, 4] rfl)
    · have hf := ie_s hf c22
      refine lv_iload X.1 X.2.1 dX3_nextFree_25 (lv_at hl 0 rfl) ?_
      refine lv_aload_n X.1 X.2.1 dX3_nextFree_27 rfl (lv_at hl 1 rfl) ?_
      refine gC_0_8 (F := F) X (v := (F 0)) rfl q_1_80 dX3_nextFree_28 hP ?_
      refine lv_isub X.1 X.2.1 dX3_nextFree_31 ?_
      refine lv_goto (tgt := 37) X.1 X.2.1 dX3_nextFree_32 (by decide) ?_
      exact t_X3_nextFree_b37 X kh2  1 (x13 - (F 0)) x1 x2 x3 H locs ls hf  hP hS (lv_sub hl [1, 2, 3, 4] rfl)
set_option maxRecDepth 100000 in
theorem t_X3_nextFree_b2 {p : Program} {l : Launch} {e : Env} {s : State} {m : MethodId} {args : Array Value} {below : List Frame} {meth : Method} {c : Code} {D : va_G} {a : Nat → Nat} {kc : Nat → ClassId} (X : cx 44 p s m args meth c D (tyC kc) a cX3_nextFree 6 RX3 (some .int)) {F : Nat → Int32} {G : Nat → Int64} {I : Nat → Nat → Int32} {J : Nat → Nat → Int64} {Z : Nat → Nat → Nat → Int32}  {r : Int32} :
    ∀ (n : Nat)  (x1 : Int32) (x2 : Int32) (x3 : Int32) (H : Heap) (locs : List Loc) (ls : Array Slot), p_X3_nextFree_b2 n (F 0) x1 x2 x3 = some r → va_P D vwCl (wC a kc F G I J Z) H → va_S (ad a 44 s.heap.size) s.heap H locs → lv_has ls 6 [(0, .ref (a 0)), (1, .int x1), (2, .int x2), (3, .int x3)] → W p l e rm_X3_nextFree s m args below meth c H locs 0 0 (MQ below (Qi D (wC a kc F G I J Z) r (ad a 44 s.heap.size)) args s 0 0 (ad a 44 s.heap.size)) (F0 m 2 ls []) := by
  intro n
  induction n with
  | zero => intro  x1 x2 x3 H locs ls hf  hP hS hl; exact (nos hf).elim
  | succ n ih => exact t_X3_nextFree_b2x X ih
set_option maxHeartbeats 4000000 in
set_option maxRecDepth 100000 in
theorem t_X3_nextFree_b0 {p : Program} {l : Launch} {e : Env} {s : State} {m : MethodId} {args : Array Value} {below : List Frame} {meth : Method} {c : Code} {D : va_G} {a : Nat → Nat} {kc : Nat → ClassId} (X : cx 44 p s m args meth c D (tyC kc) a cX3_nextFree 6 RX3 (some .int)) {F : Nat → Int32} {G : Nat → Int64} {I : Nat → Nat → Int32} {J : Nat → Nat → Int64} {Z : Nat → Nat → Nat → Int32}  {r : Int32} :
    ∀  (x1 : Int32) (x2 : Int32) (H : Heap) (locs : List Loc) (ls : Array Slot), p_X3_nextFree_b0 (F 0) x1 x2 = some r → va_P D vwCl (wC a kc F G I J Z) H → va_S (ad a 44 s.heap.size) s.heap H locs → lv_has ls 6 [(0, .ref (a 0)), (1, .int x1), (2, .int x2)] → W p l e rm_X3_nextFree s m args below meth c H locs 0 0 (MQ below (Qi D (wC a kc F G I J Z) r (ad a 44 s.heap.size)) args s 0 0 (ad a 44 s.heap.size)) (F0 m 0 ls []) := by
  intro  x1 x2 H locs ls hf  hP hS hl
  unfold p_X3_nextFree_b0 at hf
  refine lv_iconst (v := 1) X.1 X.2.1 dX3_nextFree_0 (by decide) ?_
  refine lv_istore_n (lv' := [(3, .int 1), (0, .ref (a 0)), (1, .int x1), (2, .int x2)]) X.1 X.2.1 dX3_nextFree_1 rfl hl (by decide) rfl (fun ls hl => ?_)
  exact t_X3_nextFree_b2 X 4096  x1 x2 1 H locs ls hf  hP hS (lv_sub hl [1, 2, 3, 0] rfl)
set_option maxRecDepth 100000 in
theorem c_X3_nextFree {l : Launch} {D : va_G} {a : Nat → Nat} {kc : Nat → ClassId} (F : Nat → Int32) (G : Nat → Int64) (I : Nat → Nat → Int32) (J : Nat → Nat → Int64) (Z : Nat → Nat → Nat → Int32) (hAp : ∀ i j, i < 44 → j < 44 → a i = a j → i = j) (x1 : Int32) (x2 : Int32) {o0 : Int32} (hf : p_X3_nextFree (F 0) x1 x2 = some o0) : Ct 44 l yX3_nextFree cX3_nextFree 6 (some .int) rm_X3_nextFree D (tyC kc) a (wC a kc F G I J Z) [.ref (a 0), .int x1, .int x2] (Qi D (wC a kc F G I J Z) o0) :=
  Ct.of (by decide +kernel) hAp (Nat.le_of_ble_eq_true rfl) (fun p e s m args below meth c ls X hP hl => t_X3_nextFree_b0 X  x1 x2 _ _ _ hf  hP va_S.rf hl)
abbrev rm_X3_choices : Room := { frames := 1, cells := 0, slots := 0, locals := 25 }
set_option maxHeartbeats 4000000 in
set_option maxRecDepth 100000 in
theorem t_X3_choices_b79 {p : Program} {l : Launch} {e : Env} {s : State} {m : MethodId} {args : Array Value} {below : List Frame} {meth : Method} {c : Code} {D : va_G} {a : Nat → Nat} {kc : Nat → ClassId} (X : cx 44 p s m args meth c D (tyC kc) a cX3_choices 6 RX3 (some .int)) {F : Nat → Int32} {G : Nat → Int64} {I : Nat → Nat → Int32} {J : Nat → Nat → Int64} {Z : Nat → Nat → Nat → Int32}  {r : Int32} :
    ∀  (t0 : Int32) (H : Heap) (locs : List Loc) (ls : Array Slot), p_X3_choices_b79 (F 0) (I 2) (I 4) t0 = some r → va_P D vwCl (wC a kc F G I J Z) H → va_S (ad a 44 s.heap.size) s.heap H locs → lv_has ls 6 [(0, .ref (a 0))] → W p l e rm_X3_choices s m args below meth c H locs 0 0 (MQ below (Qi D (wC a kc F G I J Z) r (ad a 44 s.heap.size)) args s 0 0 (ad a 44 s.heap.size)) (F0 m 79 ls [.int t0]) := by
  intro  t0 H locs ls hf  hP hS hl
  unfold p_X3_choices_b79 at hf
  have e0 := o1 hf
  exact ret_i X hS hP e0 dX3_choices_79
set_option maxHeartbeats 4000000 in
set_option maxRecDepth 100000 in
theorem t_X3_choices_b65 {p : Program} {l : Launch} {e : Env} {s : State} {m : MethodId} {args : Array Value} {below : List Frame} {meth : Method} {c : Code} {D : va_G} {a : Nat → Nat} {kc : Nat → ClassId} (X : cx 44 p s m args meth c D (tyC kc) a cX3_choices 6 RX3 (some .int)) {F : Nat → Int32} {G : Nat → Int64} {I : Nat → Nat → Int32} {J : Nat → Nat → Int64} {Z : Nat → Nat → Nat → Int32}  {r : Int32} :
    ∀  (t0 : Int32) (x4 : Int32) (H : Heap) (locs : List Loc) (ls : Array Slot), p_X3_choices_b65 (F 0) (I 2) (I 4) t0 x4 = some r → va_P D vwCl (wC a kc F G I J Z) H → va_S (ad a 44 s.heap.size) s.heap H locs → lv_has ls 6 [(0, .ref (a 0)), (4, .int x4)] → W p l e rm_X3_choices s m args below meth c H locs 0 0 (MQ below (Qi D (wC a kc F G I J Z) r (ad a 44 s.heap.size)) args s 0 0 (ad a 44 s.heap.size)) (F0 m 65 ls [.int t0]) := by
  intro  t0 x4 H locs ls hf  hP hS hl
  unfold p_X3_choices_b65 at hf
  refine lv_istore (lv' := [(5, .int t0), (0, .ref (a 0)), (4, .int x4)]) X.1 X.2.1 dX3_choices_65 hl (by decide) rfl (fun ls hl => ?_)
  refine lv_iload X.1 X.2.1 dX3_choices_67 (lv_at hl 0 rfl) ?_
  refine lv_if_eq (tgt := 77) X.1 X.2.1 dX3_choices_69 (by decide) (fun c69 => ?_) (fun c69 => ?_)
  · have hf := it_s hf c69
    refine lv_iload X.1 X.2.1 dX3_choices_77 (lv_at hl 2 rfl) ?_
    exact t_X3_choices_b79 X  x4 H locs ls hf  hP hS (lv_sub hl [1] rfl)
  · have hf := ie_s hf c69
    refine lv_iload X.1 X.2.1 dX3_choices_72 (lv_at hl 0 rfl) ?_
    refine lv_goto (tgt := 79) X.1 X.2.1 dX3_choices_74 (by decide) ?_
    exact t_X3_choices_b79 X  t0 H locs ls hf  hP hS (lv_sub hl [1] rfl)
set_option maxHeartbeats 4000000 in
set_option maxRecDepth 100000 in
theorem t_X3_choices_b28 {p : Program} {l : Launch} {e : Env} {s : State} {m : MethodId} {args : Array Value} {below : List Frame} {meth : Method} {c : Code} {D : va_G} {a : Nat → Nat} {kc : Nat → ClassId} (X : cx 44 p s m args meth c D (tyC kc) a cX3_choices 6 RX3 (some .int)) {F : Nat → Int32} {G : Nat → Int64} {I : Nat → Nat → Int32} {J : Nat → Nat → Int64} {Z : Nat → Nat → Nat → Int32}  {r : Int32} :
    ∀  (x2 : Int32) (x3 : Int32) (x4 : Int32) (H : Heap) (locs : List Loc) (ls : Array Slot), p_X3_choices_b28 (F 0) (I 2) (I 4) x2 x3 x4 = some r → va_P D vwCl (wC a kc F G I J Z) H → va_S (ad a 44 s.heap.size) s.heap H locs → lv_has ls 6 [(0, .ref (a 0)), (2, .int x2), (3, .int x3), (4, .int x4)] → W p l e rm_X3_choices s m args below meth c H locs 0 0 (MQ below (Qi D (wC a kc F G I J Z) r (ad a 44 s.heap.size)) args s 0 0 (ad a 44 s.heap.size)) (F0 m 28 ls []) := by
  intro  x2 x3 x4 H locs ls hf  hP hS hl
  unfold p_X3_choices_b28 at hf
  refine lv_iload_n X.1 X.2.1 dX3_choices_28 rfl (lv_at hl 2 rfl) ?_
  refine lv_iconst (v := 2) X.1 X.2.1 dX3_choices_29 (by decide) ?_
  refine lv_icmp_ne (tgt := 41) X.1 X.2.1 dX3_choices_30 (by decide) (fun c30 => ?_) (fun c30 => ?_)
  · have hf := ie_s hf c30
    refine lv_iload_n X.1 X.2.1 dX3_choices_41 rfl (lv_at hl 2 rfl) ?_
    refine lv_iconst (v := 3) X.1 X.2.1 dX3_choices_42 (by decide) ?_
    refine lv_icmp_ne (tgt := 63) X.1 X.2.1 dX3_choices_43 (by decide) (fun c43 => ?_) (fun c43 => ?_)
    · have hf := ie_s hf c43
      refine lv_iload X.1 X.2.1 dX3_choices_63 (lv_at hl 3 rfl) ?_
      exact t_X3_choices_b65 X  x4 x4 H locs ls hf  hP hS (lv_sub hl [0, 3] rfl)
    · have hf := it_s hf c43
      refine lv_iload X.1 X.2.1 dX3_choices_46 (lv_at hl 3 rfl) ?_
      refine lv_aload_n X.1 X.2.1 dX3_choices_48 rfl (lv_at hl 0 rfl) ?_
      refine gC_0_5 X q_1_64 dX3_choices_49 hP ?_
      refine lv_aload_n X.1 X.2.1 dX3_choices_52 rfl (lv_at hl 0 rfl) ?_
      refine gC_0_3 X q_1_60 dX3_choices_53 hP ?_
      refine lv_iload_n X.1 X.2.1 dX3_choices_56 rfl (lv_at hl 1 rfl) ?_
      obtain ⟨h57, hf⟩ := gd_s hf
      refine lC_6 (I := I) X (f := (I 2)) rfl h57 dX3_choices_57 hP ?_
      obtain ⟨h58, hf⟩ := gd_s hf
      refine lC_8 (I := I) X (f := (I 4)) rfl h58 dX3_choices_58 hP ?_
      refine lv_iand X.1 X.2.1 dX3_choices_59 ?_
      refine lv_goto (tgt := 65) X.1 X.2.1 dX3_choices_60 (by decide) ?_
      exact t_X3_choices_b65 X  (x4 &&& ((I 4) ((I 2) x2.toNatClampNeg).toNatClampNeg)) x4 H locs ls hf  hP hS (lv_sub hl [0, 3] rfl)
  · have hf := it_s hf c30
    refine lv_aload_n X.1 X.2.1 dX3_choices_33 rfl (lv_at hl 0 rfl) ?_
    refine lv_iload X.1 X.2.1 dX3_choices_34 (lv_at hl 3 rfl) ?_
    refine lv_iload_n X.1 X.2.1 dX3_choices_36 rfl (lv_at hl 1 rfl) ?_
    obtain ⟨r37, ho, hf⟩ := b1_s hf
    refine call_vi (rest := []) X (c_X3_nextFree F G I J Z X.2.2.2.2.2.2.2.1 x4 x2 ho) q_2_186 q_2_188 qs_yX3_nextFree q_1_2 q_2_189 ok_X3_nextFree rfl 0 rfl rfl ⟨Nat.le_of_ble_eq_true rfl, Nat.le_of_ble_eq_true rfl⟩ rfl rfl hl.1 rfl (Nat.le_of_ble_eq_true rfl) dX3_choices_37 hP hS (fun H locs hP hS => ?_)
    have e0 := o1 hf
    exact ret_i X hS hP e0 dX3_choices_40
set_option maxHeartbeats 4000000 in
set_option maxRecDepth 100000 in
theorem t_X3_choices_b0 {p : Program} {l : Launch} {e : Env} {s : State} {m : MethodId} {args : Array Value} {below : List Frame} {meth : Method} {c : Code} {D : va_G} {a : Nat → Nat} {kc : Nat → ClassId} (X : cx 44 p s m args meth c D (tyC kc) a cX3_choices 6 RX3 (some .int)) {F : Nat → Int32} {G : Nat → Int64} {I : Nat → Nat → Int32} {J : Nat → Nat → Int64} {Z : Nat → Nat → Nat → Int32}  {r : Int32} :
    ∀  (x1 : Int32) (x2 : Int32) (x3 : Int32) (H : Heap) (locs : List Loc) (ls : Array Slot), p_X3_choices_b0 (F 0) (I 2) (I 4) x1 x2 x3 = some r → va_P D vwCl (wC a kc F G I J Z) H → va_S (ad a 44 s.heap.size) s.heap H locs → lv_has ls 6 [(0, .ref (a 0)), (1, .int x1), (2, .int x2), (3, .int x3)] → W p l e rm_X3_choices s m args below meth c H locs 0 0 (MQ below (Qi D (wC a kc F G I J Z) r (ad a 44 s.heap.size)) args s 0 0 (ad a 44 s.heap.size)) (F0 m 0 ls []) := by
  intro  x1 x2 x3 H locs ls hf  hP hS hl
  unfold p_X3_choices_b0 at hf
  refine lv_aload_n X.1 X.2.1 dX3_choices_0 rfl (lv_at hl 0 rfl) ?_
  obtain ⟨r1, ho, hf⟩ := b1_s hf
  refine call_vi (rest := []) X (c_X3_allSeats F G I J Z X.2.2.2.2.2.2.2.1  ho) q_2_184 q_2_160 q_2_161 q_1_2 q_2_162 ok_X3_allSeats rfl 0 rfl rfl ⟨Nat.le_of_ble_eq_true rfl, Nat.le_of_ble_eq_true rfl⟩ rfl rfl hl.1 rfl (Nat.le_of_ble_eq_true rfl) dX3_choices_1 hP hS (fun H locs hP hS => ?_)
  refine lv_iload_n X.1 X.2.1 dX3_choices_4 rfl (lv_at hl 1 rfl) ?_
  refine lv_iconst (v := (-1)) X.1 X.2.1 dX3_choices_5 (by decide) ?_
  refine lv_ixor X.1 X.2.1 dX3_choices_6 ?_
  refine lv_iand X.1 X.2.1 dX3_choices_7 ?_
  refine nm_i hf (fun x8 hf => ?_)
  refine lv_istore (lv' := [(4, .int x8), (0, .ref (a 0)), (1, .int x1), (2, .int x2), (3, .int x3)]) X.1 X.2.1 dX3_choices_8 hl (by decide) rfl (fun ls hl => ?_)
  refine lv_iload_n X.1 X.2.1 dX3_choices_10 rfl (lv_at hl 4 rfl) ?_
  refine lv_iconst (v := 1) X.1 X.2.1 dX3_choices_11 (by decide) ?_
  refine lv_icmp_eq (tgt := 28) X.1 X.2.1 dX3_choices_12 (by decide) (fun c12 => ?_) (fun c12 => ?_)
  · have hf := it_s hf c12
    exact t_X3_choices_b28 X  x2 x3 x8 H locs ls hf  hP hS (lv_sub hl [1, 3, 4, 0] rfl)
  · have hf := ie_s hf c12
    refine lv_iload X.1 X.2.1 dX3_choices_15 (lv_at hl 0 rfl) ?_
    refine lv_iload_n X.1 X.2.1 dX3_choices_17 rfl (lv_at hl 3 rfl) ?_
    obtain ⟨r18, ho, hf⟩ := b1_s hf
    refine call_si (rest := []) X (c_X3_has x8 x2 ho) q_2_185 q_2_178 q_1_2 q_2_179 ok_X3_has rfl ⟨Nat.le_of_ble_eq_true rfl, Nat.le_of_ble_eq_true rfl⟩ rfl rfl hl.1 rfl (Nat.le_of_ble_eq_true rfl) dX3_choices_18 hP hS (fun H locs hP hS => ?_)
    refine lv_if_eq (tgt := 28) X.1 X.2.1 dX3_choices_21 (by decide) (fun c21 => ?_) (fun c21 => ?_)
    · have hf := it_s hf c21
      exact t_X3_choices_b28 X  x2 x3 x8 H locs ls hf  hP hS (lv_sub hl [1, 3, 4, 0] rfl)
    · have hf := ie_s hf c21
      refine lv_iconst (v := 1) X.1 X.2.1 dX3_choices_24 (by decide) ?_
      refine lv_iload_n X.1 X.2.1 dX3_choices_25 rfl (lv_at hl 3 rfl) ?_
      refine lv_ishl X.1 X.2.1 dX3_choices_26 ?_
      have e0 := o1 hf
      exact ret_i X hS hP e0 dX3_choices_27
set_option maxRecDepth 100000 in
theorem c_X3_choices {l : Launch} {D : va_G} {a : Nat → Nat} {kc : Nat → ClassId} (F : Nat → Int32) (G : Nat → Int64) (I : Nat → Nat → Int32) (J : Nat → Nat → Int64) (Z : Nat → Nat → Nat → Int32) (hAp : ∀ i j, i < 44 → j < 44 → a i = a j → i = j) (x1 : Int32) (x2 : Int32) (x3 : Int32) {o0 : Int32} (hf : p_X3_choices (F 0) (I 2) (I 4) x1 x2 x3 = some o0) : Ct 44 l yX3_choices cX3_choices 6 (some .int) rm_X3_choices D (tyC kc) a (wC a kc F G I J Z) [.ref (a 0), .int x1, .int x2, .int x3] (Qi D (wC a kc F G I J Z) o0) :=
  Ct.of (by decide +kernel) hAp (Nat.le_of_ble_eq_true rfl) (fun p e s m args below meth c ls X hP hl => t_X3_choices_b0 X  x1 x2 x3 _ _ _ hf  hP va_S.rf hl)
abbrev rm_X3_passedOver : Room := { frames := 0, cells := 0, slots := 0, locals := 0 }
set_option maxHeartbeats 4000000 in
set_option maxRecDepth 100000 in
theorem t_X3_passedOver_b19 {p : Program} {l : Launch} {e : Env} {s : State} {m : MethodId} {args : Array Value} {below : List Frame} {meth : Method} {c : Code} {D : va_G} {a : Nat → Nat} {kc : Nat → ClassId} (X : cx 44 p s m args meth c D (tyC kc) a cX3_passedOver 3 RX3 (some .int)) {F : Nat → Int32} {G : Nat → Int64} {I : Nat → Nat → Int32} {J : Nat → Nat → Int64} {Z : Nat → Nat → Nat → Int32}  {r : Int32} :
    ∀  (t0 : Int32) (H : Heap) (locs : List Loc) (ls : Array Slot), p_X3_passedOver_b19 (F 0) t0 = some r → va_P D vwCl (wC a kc F G I J Z) H → va_S (ad a 44 s.heap.size) s.heap H locs → lv_has ls 3 [(0, .ref (a 0))] → W p l e rm_X3_passedOver s m args below meth c H locs 0 0 (MQ below (Qi D (wC a kc F G I J Z) r (ad a 44 s.heap.size)) args s 0 0 (ad a 44 s.heap.size)) (F0 m 19 ls [.int t0]) := by
  intro  t0 H locs ls hf  hP hS hl
  unfold p_X3_passedOver_b19 at hf
  have e0 := o1 hf
  exact ret_i X hS hP e0 dX3_passedOver_19
set_option maxHeartbeats 4000000 in
set_option maxRecDepth 100000 in
theorem t_X3_passedOver_b0 {p : Program} {l : Launch} {e : Env} {s : State} {m : MethodId} {args : Array Value} {below : List Frame} {meth : Method} {c : Code} {D : va_G} {a : Nat → Nat} {kc : Nat → ClassId} (X : cx 44 p s m args meth c D (tyC kc) a cX3_passedOver 3 RX3 (some .int)) {F : Nat → Int32} {G : Nat → Int64} {I : Nat → Nat → Int32} {J : Nat → Nat → Int64} {Z : Nat → Nat → Nat → Int32}  {r : Int32} :
    ∀  (x1 : Int32) (x2 : Int32) (H : Heap) (locs : List Loc) (ls : Array Slot), p_X3_passedOver_b0 (F 0) x1 x2 = some r → va_P D vwCl (wC a kc F G I J Z) H → va_S (ad a 44 s.heap.size) s.heap H locs → lv_has ls 3 [(0, .ref (a 0)), (1, .int x1), (2, .int x2)] → W p l e rm_X3_passedOver s m args below meth c H locs 0 0 (MQ below (Qi D (wC a kc F G I J Z) r (ad a 44 s.heap.size)) args s 0 0 (ad a 44 s.heap.size)) (F0 m 0 ls []) := by
  intro  x1 x2 H locs ls hf  hP hS hl
  unfold p_X3_passedOver_b0 at hf
  refine lv_iload_n X.1 X.2.1 dX3_passedOver_0 rfl (lv_at hl 2 rfl) ?_
  refine lv_iload_n X.1 X.2.1 dX3_passedOver_1 rfl (lv_at hl 1 rfl) ?_
  refine lv_icmp_lt (tgt := 11) X.1 X.2.1 dX3_passedOver_2 (by decide) (fun c2 => ?_) (fun c2 => ?_)
  · have hf := it_s hf c2
    refine lv_iload_n X.1 X.2.1 dX3_passedOver_11 rfl (lv_at hl 2 rfl) ?_
    refine lv_iload_n X.1 X.2.1 dX3_passedOver_12 rfl (lv_at hl 1 rfl) ?_
    refine lv_isub X.1 X.2.1 dX3_passedOver_13 ?_
    refine lv_aload_n X.1 X.2.1 dX3_passedOver_14 rfl (lv_at hl 0 rfl) ?_
    refine gC_0_8 (F := F) X (v := (F 0)) rfl q_1_80 dX3_passedOver_15 hP ?_
    refine lv_iadd X.1 X.2.1 dX3_passedOver_18 ?_
    exact t_X3_passedOver_b19 X  ((x2 - x1) + (F 0)) H locs ls hf  hP hS (lv_sub hl [0] rfl)
  · have hf := ie_s hf c2
    refine lv_iload_n X.1 X.2.1 dX3_passedOver_5 rfl (lv_at hl 2 rfl) ?_
    refine lv_iload_n X.1 X.2.1 dX3_passedOver_6 rfl (lv_at hl 1 rfl) ?_
    refine lv_isub X.1 X.2.1 dX3_passedOver_7 ?_
    refine lv_goto (tgt := 19) X.1 X.2.1 dX3_passedOver_8 (by decide) ?_
    exact t_X3_passedOver_b19 X  (x2 - x1) H locs ls hf  hP hS (lv_sub hl [0] rfl)
set_option maxRecDepth 100000 in
theorem c_X3_passedOver {l : Launch} {D : va_G} {a : Nat → Nat} {kc : Nat → ClassId} (F : Nat → Int32) (G : Nat → Int64) (I : Nat → Nat → Int32) (J : Nat → Nat → Int64) (Z : Nat → Nat → Nat → Int32) (hAp : ∀ i j, i < 44 → j < 44 → a i = a j → i = j) (x1 : Int32) (x2 : Int32) {o0 : Int32} (hf : p_X3_passedOver (F 0) x1 x2 = some o0) : Ct 44 l yX3_passedOver cX3_passedOver 3 (some .int) rm_X3_passedOver D (tyC kc) a (wC a kc F G I J Z) [.ref (a 0), .int x1, .int x2] (Qi D (wC a kc F G I J Z) o0) :=
  Ct.of (by decide +kernel) hAp (Nat.le_of_ble_eq_true rfl) (fun p e s m args below meth c ls X hP hl => t_X3_passedOver_b0 X  x1 x2 _ _ _ hf  hP va_S.rf hl)
abbrev rm_X0_sitDown : Room := { frames := 1, cells := 0, slots := 0, locals := 22 }
set_option maxHeartbeats 4000000 in
set_option maxRecDepth 100000 in
theorem t_X0_sitDown_b110x {p : Program} {l : Launch} {e : Env} {s : State} {m : MethodId} {args : Array Value} {below : List Frame} {meth : Method} {c : Code} {D : va_G} {a : Nat → Nat} {kc : Nat → ClassId} (X : cx 44 p s m args meth c D (tyC kc) a cX0_sitDown 11 RX0 none) {F : Nat → Int32} {I : Nat → Nat → Int32} {Z : Nat → Nat → Nat → Int32} {Gf : Nat → Int64} {Jf : Nat → Nat → Int64}  {K110 : Int32 → Int64 → (Nat → Int32) → (Nat → Int32) → (Nat → Int64) → (Nat → Int64) → (Nat → Int64) → Int32 → Int32 → Int32 → Int32 → Int32 → Int32 → Option (Int64 × (Nat → Int64) × (Nat → Int64) × (Nat → Int64))} (kh110 : ∀ (G : Nat → Int64) (J : Nat → Nat → Int64) (x1 : Int32) (x2 : Int32) (x4 : Int32) (x6 : Int32) (x9 : Int32) (x10 : Int32) (H : Heap) (locs : List Loc) (ls : Array Slot), K110 (F 0) (G 1) (I 5) (I 6) (J 0) (J 1) (J 4) x1 x2 x4 x6 x9 x10 = some ((Gf 1), (Jf 0), (Jf 1), (Jf 4)) → (∀ k, k ∉ ([1] : List Nat) → Gf k = G k) → (∀ k, k ∉ ([0, 1, 4] : List Nat) → Jf k = J k) → va_P D vwCl (wC a kc F G I J Z) H → va_S (ad a 44 s.heap.size) s.heap H locs → lv_has ls 11 [(0, .ref (a 11)), (1, .int x1), (2, .int x2), (4, .int x4), (6, .int x6), (9, .int x9), (10, .int x10)] → W p l e rm_X0_sitDown s m args below meth c H locs 0 0 (MQ below (Qv D (wC a kc F Gf I Jf Z) (ad a 44 s.heap.size)) args s 0 0 (ad a 44 s.heap.size)) (F0 m 110 ls [])) :
    ∀ (G : Nat → Int64) (J : Nat → Nat → Int64) (x1 : Int32) (x2 : Int32) (x4 : Int32) (x6 : Int32) (x9 : Int32) (x10 : Int32) (H : Heap) (locs : List Loc) (ls : Array Slot), p_X0_sitDown_b110x K110 (F 0) (G 1) (I 5) (I 6) (J 0) (J 1) (J 4) x1 x2 x4 x6 x9 x10 = some ((Gf 1), (Jf 0), (Jf 1), (Jf 4)) → (∀ k, k ∉ ([1] : List Nat) → Gf k = G k) → (∀ k, k ∉ ([0, 1, 4] : List Nat) → Jf k = J k) → va_P D vwCl (wC a kc F G I J Z) H → va_S (ad a 44 s.heap.size) s.heap H locs → lv_has ls 11 [(0, .ref (a 11)), (1, .int x1), (2, .int x2), (4, .int x4), (6, .int x6), (9, .int x9), (10, .int x10)] → W p l e rm_X0_sitDown s m args below meth c H locs 0 0 (MQ below (Qv D (wC a kc F Gf I Jf Z) (ad a 44 s.heap.size)) args s 0 0 (ad a 44 s.heap.size)) (F0 m 110 ls []) := by
  intro G J x1 x2 x4 x6 x9 x10 H locs ls hf hfG hfJ hP hS hl
  unfold p_X0_sitDown_b110x at hf
  refine lv_iload X.1 X.2.1 dX0_sitDown_110 (lv_at hl 6 rfl) ?_
  refine lv_iload_n X.1 X.2.1 dX0_sitDown_112 rfl (lv_at hl 2 rfl) ?_
  refine lv_icmp_gt (tgt := 157) X.1 X.2.1 dX0_sitDown_113 (by decide) (fun c113 => ?_) (fun c113 => ?_)
  · have hf := it_s hf c113
    obtain ⟨e0, hf⟩ := o2 hf
    obtain ⟨e1, hf⟩ := o2 hf
    obtain ⟨e2, hf⟩ := o2 hf
    have e3 := o1 hf
    have EG : Gf = G := frm_eq hfG (frm_c (e0).symm frm_n)
    have EJ : Jf = J := frm_eq hfJ (frm_c (e1).symm (frm_c (e2).symm (frm_c (e3).symm frm_n)))
    exact ret_v X hS (by rw [EG, EJ]; exact hP) dX0_sitDown_157
  · have hf := ie_s hf c113
    refine lv_aload_n X.1 X.2.1 dX0_sitDown_116 rfl (lv_at hl 0 rfl) ?_
    refine gC_11_8 X q_1_139 dX0_sitDown_117 hP ?_
    refine lv_iload X.1 X.2.1 dX0_sitDown_120 (lv_at hl 4 rfl) ?_
    refine lv_bipush (v := 9) X.1 X.2.1 dX0_sitDown_122 (by decide) ?_
    refine lv_imul X.1 X.2.1 dX0_sitDown_124 ?_
    refine lv_iload X.1 X.2.1 dX0_sitDown_125 (lv_at hl 6 rfl) ?_
    refine lv_iadd X.1 X.2.1 dX0_sitDown_127 ?_
    refine lv_iload X.1 X.2.1 dX0_sitDown_128 (lv_at hl 5 rfl) ?_
    refine lv_iadd X.1 X.2.1 dX0_sitDown_130 ?_
    refine lv_dup2_11 X.1 X.2.1 dX0_sitDown_131 rfl rfl ?_
    obtain ⟨h132, hf⟩ := gd_s hf
    refine lC_16 (J := J) X (f := (J 4)) rfl h132 dX0_sitDown_132 hP ?_
    refine lv_aload_n X.1 X.2.1 dX0_sitDown_133 rfl (lv_at hl 0 rfl) ?_
    refine gC_11_8 X q_1_139 dX0_sitDown_134 hP ?_
    refine lv_iload_n X.1 X.2.1 dX0_sitDown_137 rfl (lv_at hl 1 rfl) ?_
    refine lv_bipush (v := 9) X.1 X.2.1 dX0_sitDown_138 (by decide) ?_
    refine lv_imul X.1 X.2.1 dX0_sitDown_140 ?_
    refine lv_iload X.1 X.2.1 dX0_sitDown_141 (lv_at hl 6 rfl) ?_
    refine lv_iadd X.1 X.2.1 dX0_sitDown_143 ?_
    obtain ⟨h144, hf⟩ := gd_s hf
    refine lC_16 (J := J) X (f := (J 4)) rfl h144 dX0_sitDown_144 hP ?_
    refine lv_iload X.1 X.2.1 dX0_sitDown_145 (lv_at hl 3 rfl) ?_
    refine lv_i2l X.1 X.2.1 dX0_sitDown_147 rfl ?_
    obtain ⟨h148, hf⟩ := gd_s hf
    refine lv_ldiv X.1 X.2.1 dX0_sitDown_148 (of_decide_eq_true h148) ?_
    refine lv_ladd X.1 X.2.1 dX0_sitDown_149 ?_
    obtain ⟨h150, hf⟩ := gd_s hf
    obtain ⟨C_wrongIn_150, eC_wrongIn_150, hf⟩ := nm_x hf
    refine sC_16 (J := J) X h150 eC_wrongIn_150 dX0_sitDown_150 hP hS (fun H locs hP hS => ?_)
    obtain ⟨x151, ex151, hf⟩ := nm_x hf
    refine lv_iinc (v := x151) (lv' := [(10, .int x151), (0, .ref (a 11)), (1, .int x1), (2, .int x2), (4, .int x4), (6, .int x6), (9, .int x9)]) X.1 X.2.1 dX0_sitDown_151 hl (k := 6) rfl ex151 (by decide) rfl (fun ls hl => ?_)
    refine lv_goto (tgt := 110) X.1 X.2.1 dX0_sitDown_154 (by decide) ?_
    exact kh110 G (va_up J 4 C_wrongIn_150) x1 x2 x4 x6 x9 x151 H locs ls hf hfG (frm_up hfJ (by decide)) hP hS (lv_sub hl [1, 2, 3, 4, 5, 6, 0] rfl)
set_option maxRecDepth 100000 in
theorem t_X0_sitDown_b110 {p : Program} {l : Launch} {e : Env} {s : State} {m : MethodId} {args : Array Value} {below : List Frame} {meth : Method} {c : Code} {D : va_G} {a : Nat → Nat} {kc : Nat → ClassId} (X : cx 44 p s m args meth c D (tyC kc) a cX0_sitDown 11 RX0 none) {F : Nat → Int32} {I : Nat → Nat → Int32} {Z : Nat → Nat → Nat → Int32} {Gf : Nat → Int64} {Jf : Nat → Nat → Int64}  :
    ∀ (n : Nat) (G : Nat → Int64) (J : Nat → Nat → Int64) (x1 : Int32) (x2 : Int32) (x4 : Int32) (x6 : Int32) (x9 : Int32) (x10 : Int32) (H : Heap) (locs : List Loc) (ls : Array Slot), p_X0_sitDown_b110 n (F 0) (G 1) (I 5) (I 6) (J 0) (J 1) (J 4) x1 x2 x4 x6 x9 x10 = some ((Gf 1), (Jf 0), (Jf 1), (Jf 4)) → (∀ k, k ∉ ([1] : List Nat) → Gf k = G k) → (∀ k, k ∉ ([0, 1, 4] : List Nat) → Jf k = J k) → va_P D vwCl (wC a kc F G I J Z) H → va_S (ad a 44 s.heap.size) s.heap H locs → lv_has ls 11 [(0, .ref (a 11)), (1, .int x1), (2, .int x2), (4, .int x4), (6, .int x6), (9, .int x9), (10, .int x10)] → W p l e rm_X0_sitDown s m args below meth c H locs 0 0 (MQ below (Qv D (wC a kc F Gf I Jf Z) (ad a 44 s.heap.size)) args s 0 0 (ad a 44 s.heap.size)) (F0 m 110 ls []) := by
  intro n
  induction n with
  | zero => intro G J x1 x2 x4 x6 x9 x10 H locs ls hf hfG hfJ hP hS hl; exact (nos hf).elim
  | succ n ih => exact t_X0_sitDown_b110x X ih
set_option maxHeartbeats 4000000 in
set_option maxRecDepth 100000 in
theorem t_X0_sitDown_b105 {p : Program} {l : Launch} {e : Env} {s : State} {m : MethodId} {args : Array Value} {below : List Frame} {meth : Method} {c : Code} {D : va_G} {a : Nat → Nat} {kc : Nat → ClassId} (X : cx 44 p s m args meth c D (tyC kc) a cX0_sitDown 11 RX0 none) {F : Nat → Int32} {I : Nat → Nat → Int32} {Z : Nat → Nat → Nat → Int32} {Gf : Nat → Int64} {Jf : Nat → Nat → Int64}  :
    ∀ (G : Nat → Int64) (J : Nat → Nat → Int64) (t0 : Int32) (x1 : Int32) (x2 : Int32) (x4 : Int32) (x6 : Int32) (H : Heap) (locs : List Loc) (ls : Array Slot), p_X0_sitDown_b105 (F 0) (G 1) (I 5) (I 6) (J 0) (J 1) (J 4) t0 x1 x2 x4 x6 = some ((Gf 1), (Jf 0), (Jf 1), (Jf 4)) → (∀ k, k ∉ ([1] : List Nat) → Gf k = G k) → (∀ k, k ∉ ([0, 1, 4] : List Nat) → Jf k = J k) → va_P D vwCl (wC a kc F G I J Z) H → va_S (ad a 44 s.heap.size) s.heap H locs → lv_has ls 11 [(0, .ref (a 11)), (1, .int x1), (2, .int x2), (4, .int x4), (6, .int x6)] → W p l e rm_X0_sitDown s m args below meth c H locs 0 0 (MQ below (Qv D (wC a kc F Gf I Jf Z) (ad a 44 s.heap.size)) args s 0 0 (ad a 44 s.heap.size)) (F0 m 105 ls [.int t0]) := by
  intro G J t0 x1 x2 x4 x6 H locs ls hf hfG hfJ hP hS hl
  unfold p_X0_sitDown_b105 at hf
  refine lv_istore (lv' := [(9, .int t0), (0, .ref (a 11)), (1, .int x1), (2, .int x2), (4, .int x4), (6, .int x6)]) X.1 X.2.1 dX0_sitDown_105 hl (by decide) rfl (fun ls hl => ?_)
  refine lv_iconst (v := 0) X.1 X.2.1 dX0_sitDown_107 (by decide) ?_
  refine lv_istore (lv' := [(10, .int 0), (9, .int t0), (0, .ref (a 11)), (1, .int x1), (2, .int x2), (4, .int x4), (6, .int x6)]) X.1 X.2.1 dX0_sitDown_108 hl (by decide) rfl (fun ls hl => ?_)
  exact t_X0_sitDown_b110 X 4096 G J x1 x2 x4 x6 t0 0 H locs ls hf hfG hfJ hP hS (lv_sub hl [2, 3, 4, 5, 6, 1, 0] rfl)
set_option maxHeartbeats 4000000 in
set_option maxRecDepth 100000 in
theorem t_X0_sitDown_b94 {p : Program} {l : Launch} {e : Env} {s : State} {m : MethodId} {args : Array Value} {below : List Frame} {meth : Method} {c : Code} {D : va_G} {a : Nat → Nat} {kc : Nat → ClassId} (X : cx 44 p s m args meth c D (tyC kc) a cX0_sitDown 11 RX0 none) {F : Nat → Int32} {I : Nat → Nat → Int32} {Z : Nat → Nat → Nat → Int32} {Gf : Nat → Int64} {Jf : Nat → Nat → Int64}  :
    ∀ (G : Nat → Int64) (J : Nat → Nat → Int64) (x1 : Int32) (x2 : Int32) (x3 : Int32) (x4 : Int32) (x5 : Int32) (x6 : Int32) (H : Heap) (locs : List Loc) (ls : Array Slot), p_X0_sitDown_b94 (F 0) (G 1) (I 5) (I 6) (J 0) (J 1) (J 4) x1 x2 x3 x4 x5 x6 = some ((Gf 1), (Jf 0), (Jf 1), (Jf 4)) → (∀ k, k ∉ ([1] : List Nat) → Gf k = G k) → (∀ k, k ∉ ([0, 1, 4] : List Nat) → Jf k = J k) → va_P D vwCl (wC a kc F G I J Z) H → va_S (ad a 44 s.heap.size) s.heap H locs → lv_has ls 11 [(0, .ref (a 11)), (1, .int x1), (2, .int x2), (3, .int x3), (4, .int x4), (5, .int x5), (6, .int x6)] → W p l e rm_X0_sitDown s m args below meth c H locs 0 0 (MQ below (Qv D (wC a kc F Gf I Jf Z) (ad a 44 s.heap.size)) args s 0 0 (ad a 44 s.heap.size)) (F0 m 94 ls []) := by
  intro G J x1 x2 x3 x4 x5 x6 H locs ls hf hfG hfJ hP hS hl
  unfold p_X0_sitDown_b94 at hf
  refine lv_iload_n X.1 X.2.1 dX0_sitDown_94 rfl (lv_at hl 3 rfl) ?_
  refine lv_iload X.1 X.2.1 dX0_sitDown_95 (lv_at hl 5 rfl) ?_
  refine lv_icmp_ne (tgt := 104) X.1 X.2.1 dX0_sitDown_97 (by decide) (fun c97 => ?_) (fun c97 => ?_)
  · have hf := ie_s hf c97
    refine lv_iconst (v := 1) X.1 X.2.1 dX0_sitDown_104 (by decide) ?_
    exact t_X0_sitDown_b105 X G J 1 x1 x2 x4 x6 H locs ls hf hfG hfJ hP hS (lv_sub hl [0, 1, 2, 4, 6] rfl)
  · have hf := it_s hf c97
    refine lv_iconst (v := 0) X.1 X.2.1 dX0_sitDown_100 (by decide) ?_
    refine lv_goto (tgt := 105) X.1 X.2.1 dX0_sitDown_101 (by decide) ?_
    exact t_X0_sitDown_b105 X G J 0 x1 x2 x4 x6 H locs ls hf hfG hfJ hP hS (lv_sub hl [0, 1, 2, 4, 6] rfl)
set_option maxHeartbeats 4000000 in
set_option maxRecDepth 100000 in
theorem t_X0_sitDown_b0 {p : Program} {l : Launch} {e : Env} {s : State} {m : MethodId} {args : Array Value} {below : List Frame} {meth : Method} {c : Code} {D : va_G} {a : Nat → Nat} {kc : Nat → ClassId} (X : cx 44 p s m args meth c D (tyC kc) a cX0_sitDown 11 RX0 none) {F : Nat → Int32} {I : Nat → Nat → Int32} {Z : Nat → Nat → Nat → Int32} {Gf : Nat → Int64} {Jf : Nat → Nat → Int64}  :
    ∀ (G : Nat → Int64) (J : Nat → Nat → Int64) (x1 : Int32) (x2 : Int32) (x3 : Int32) (x4 : Int32) (H : Heap) (locs : List Loc) (ls : Array Slot), p_X0_sitDown_b0 (F 0) (G 1) (I 5) (I 6) (J 0) (J 1) (J 4) x1 x2 x3 x4 = some ((Gf 1), (Jf 0), (Jf 1), (Jf 4)) → (∀ k, k ∉ ([1] : List Nat) → Gf k = G k) → (∀ k, k ∉ ([0, 1, 4] : List Nat) → Jf k = J k) → va_P D vwCl (wC a kc F G I J Z) H → va_S (ad a 44 s.heap.size) s.heap H locs → lv_has ls 11 [(0, .ref (a 11)), (1, .int x1), (2, .int x2), (3, .int x3), (4, .int x4)] → W p l e rm_X0_sitDown s m args below meth c H locs 0 0 (MQ below (Qv D (wC a kc F Gf I Jf Z) (ad a 44 s.heap.size)) args s 0 0 (ad a 44 s.heap.size)) (F0 m 0 ls []) := by
  intro G J x1 x2 x3 x4 H locs ls hf hfG hfJ hP hS hl
  unfold p_X0_sitDown_b0 at hf
  refine lv_aload_n X.1 X.2.1 dX0_sitDown_0 rfl (lv_at hl 0 rfl) ?_
  refine gC_11_7 X q_1_138 dX0_sitDown_1 hP ?_
  refine gC_0_6 X q_1_68 dX0_sitDown_4 hP ?_
  refine lv_iload_n X.1 X.2.1 dX0_sitDown_7 rfl (lv_at hl 2 rfl) ?_
  obtain ⟨h8, hf⟩ := gd_s hf
  refine lC_9 (I := I) X (f := (I 5)) rfl h8 dX0_sitDown_8 hP ?_
  refine nm_i hf (fun x9 hf => ?_)
  refine lv_istore (lv' := [(5, .int x9), (0, .ref (a 11)), (1, .int x1), (2, .int x2), (3, .int x3), (4, .int x4)]) X.1 X.2.1 dX0_sitDown_9 hl (by decide) rfl (fun ls hl => ?_)
  refine lv_iload_n X.1 X.2.1 dX0_sitDown_11 rfl (lv_at hl 2 rfl) ?_
  refine lv_iconst (v := 1) X.1 X.2.1 dX0_sitDown_12 (by decide) ?_
  refine lv_iload_n X.1 X.2.1 dX0_sitDown_13 rfl (lv_at hl 4 rfl) ?_
  refine lv_ishl X.1 X.2.1 dX0_sitDown_14 ?_
  refine lv_ior X.1 X.2.1 dX0_sitDown_15 ?_
  refine nm_i hf (fun x16 hf => ?_)
  refine lv_istore (lv' := [(6, .int x16), (5, .int x9), (0, .ref (a 11)), (1, .int x1), (2, .int x2), (3, .int x3), (4, .int x4)]) X.1 X.2.1 dX0_sitDown_16 hl (by decide) rfl (fun ls hl => ?_)
  refine lv_aload_n X.1 X.2.1 dX0_sitDown_18 rfl (lv_at hl 2 rfl) ?_
  refine gC_11_0 X q_1_124 dX0_sitDown_19 hP ?_
  refine lv_iload_n X.1 X.2.1 dX0_sitDown_22 rfl (lv_at hl 3 rfl) ?_
  obtain ⟨h23, hf⟩ := gd_s hf
  refine lC_12 (J := J) X (f := (J 0)) rfl h23 dX0_sitDown_23 hP ?_
  refine lv_iload X.1 X.2.1 dX0_sitDown_24 (lv_at hl 6 rfl) ?_
  refine lv_i2l X.1 X.2.1 dX0_sitDown_26 rfl ?_
  obtain ⟨h27, hf⟩ := gd_s hf
  refine lv_ldiv X.1 X.2.1 dX0_sitDown_27 (of_decide_eq_true h27) ?_
  refine nm_l hf (fun x28 hf => ?_)
  refine lv_lstore (lv' := [(7, .long x28), (6, .int x16), (5, .int x9), (0, .ref (a 11)), (1, .int x1), (2, .int x2), (3, .int x3), (4, .int x4)]) X.1 X.2.1 dX0_sitDown_28 hl (by decide) rfl (fun ls hl => ?_)
  refine lv_aload_n X.1 X.2.1 dX0_sitDown_30 rfl (lv_at hl 3 rfl) ?_
  refine gC_11_0 X q_1_124 dX0_sitDown_31 hP ?_
  refine lv_iload X.1 X.2.1 dX0_sitDown_34 (lv_at hl 1 rfl) ?_
  refine lv_dup2_11 X.1 X.2.1 dX0_sitDown_36 rfl rfl ?_
  obtain ⟨h37, hf⟩ := gd_s hf
  refine lC_12 (J := J) X (f := (J 0)) rfl h37 dX0_sitDown_37 hP ?_
  refine lv_lload X.1 X.2.1 dX0_sitDown_38 (lv_at hl 0 rfl) ?_
  refine lv_ladd X.1 X.2.1 dX0_sitDown_40 ?_
  obtain ⟨h41, hf⟩ := gd_s hf
  obtain ⟨C_reach_41, eC_reach_41, hf⟩ := nm_x hf
  refine sC_12 (J := J) X h41 eC_reach_41 dX0_sitDown_41 hP hS (fun H locs hP hS => ?_)
  refine lv_aload_n X.1 X.2.1 dX0_sitDown_42 rfl (lv_at hl 3 rfl) ?_
  refine gC_11_1 X q_1_126 dX0_sitDown_43 hP ?_
  refine lv_iload_n X.1 X.2.1 dX0_sitDown_46 rfl (lv_at hl 5 rfl) ?_
  refine lv_bipush (v := 8) X.1 X.2.1 dX0_sitDown_47 (by decide) ?_
  refine lv_imul X.1 X.2.1 dX0_sitDown_49 ?_
  refine lv_iload_n X.1 X.2.1 dX0_sitDown_50 rfl (lv_at hl 6 rfl) ?_
  refine lv_iadd X.1 X.2.1 dX0_sitDown_51 ?_
  refine lv_dup2_11 X.1 X.2.1 dX0_sitDown_52 rfl rfl ?_
  obtain ⟨h53, hf⟩ := gd_s hf
  refine lC_13 (J := (va_up J 0 C_reach_41)) X (f := (J 1)) rfl h53 dX0_sitDown_53 hP ?_
  refine lv_lload X.1 X.2.1 dX0_sitDown_54 (lv_at hl 0 rfl) ?_
  refine lv_ladd X.1 X.2.1 dX0_sitDown_56 ?_
  obtain ⟨h57, hf⟩ := gd_s hf
  obtain ⟨C_sits_57, eC_sits_57, hf⟩ := nm_x hf
  refine sC_13 (J := (va_up J 0 C_reach_41)) X h57 eC_sits_57 dX0_sitDown_57 hP hS (fun H locs hP hS => ?_)
  refine lv_aload_n X.1 X.2.1 dX0_sitDown_58 rfl (lv_at hl 3 rfl) ?_
  refine gC_11_7 X q_1_138 dX0_sitDown_59 hP ?_
  refine gC_0_7 X q_1_75 dX0_sitDown_62 hP ?_
  refine lv_iload_n X.1 X.2.1 dX0_sitDown_65 rfl (lv_at hl 5 rfl) ?_
  obtain ⟨h66, hf⟩ := gd_s hf
  refine lC_10 (I := I) X (f := (I 6)) rfl h66 dX0_sitDown_66 hP ?_
  refine lv_iconst (v := 2) X.1 X.2.1 dX0_sitDown_67 (by decide) ?_
  refine lv_icmp_ne (tgt := 94) X.1 X.2.1 dX0_sitDown_68 (by decide) (fun c68 => ?_) (fun c68 => ?_)
  · have hf := ie_s hf c68
    exact t_X0_sitDown_b94 X G (va_up (va_up J 0 C_reach_41) 1 C_sits_57) x1 x2 x3 x4 x9 x16 H locs ls hf hfG (frm_up (frm_up hfJ (by decide)) (by decide)) hP hS (lv_sub hl [3, 4, 5, 6, 7, 2, 1] rfl)
  · have hf := it_s hf c68
    refine lv_aload_n X.1 X.2.1 dX0_sitDown_71 rfl (lv_at hl 3 rfl) ?_
    refine lv_dup X.1 X.2.1 dX0_sitDown_72 rfl ?_
    refine gC_11_5 (G := G) X (v := (G 1)) rfl q_1_134 dX0_sitDown_73 hP ?_
    refine lv_lload X.1 X.2.1 dX0_sitDown_76 (lv_at hl 0 rfl) ?_
    refine lv_aload_n X.1 X.2.1 dX0_sitDown_78 rfl (lv_at hl 3 rfl) ?_
    refine gC_11_7 X q_1_138 dX0_sitDown_79 hP ?_
    refine lv_iload X.1 X.2.1 dX0_sitDown_82 (lv_at hl 2 rfl) ?_
    refine lv_iload_n X.1 X.2.1 dX0_sitDown_84 rfl (lv_at hl 6 rfl) ?_
    obtain ⟨r85, ho, hf⟩ := b1_s hf
    refine call_vi (rest := [.long x28, .long (G 1), .ref (a 11)]) X (c_X3_passedOver F G I (va_up (va_up J 0 C_reach_41) 1 C_sits_57) Z X.2.2.2.2.2.2.2.1 x9 x3 ho) q_2_194 q_2_195 q_2_196 q_1_2 q_2_197 ok_X3_passedOver rfl 0 rfl rfl ⟨Nat.le_of_ble_eq_true rfl, Nat.le_of_ble_eq_true rfl⟩ rfl rfl hl.1 rfl (Nat.le_of_ble_eq_true rfl) dX0_sitDown_85 hP hS (fun H locs hP hS => ?_)
    refine lv_i2l X.1 X.2.1 dX0_sitDown_88 rfl ?_
    refine lv_lmul X.1 X.2.1 dX0_sitDown_89 ?_
    refine lv_ladd X.1 X.2.1 dX0_sitDown_90 ?_
    refine nm_l hf (fun C_meanLooks_91 hf => ?_)
    refine pC_11_5 X q_1_134 dX0_sitDown_91 hP hS (fun H locs hP hS => ?_)
    exact t_X0_sitDown_b94 X (va_up G 1 C_meanLooks_91) (va_up (va_up J 0 C_reach_41) 1 C_sits_57) x1 x2 x3 x4 x9 x16 H locs ls hf (frm_up hfG (by decide)) (frm_up (frm_up hfJ (by decide)) (by decide)) hP hS (lv_sub hl [3, 4, 5, 6, 7, 2, 1] rfl)
set_option maxRecDepth 100000 in
theorem c_X0_sitDown {l : Launch} {D : va_G} {a : Nat → Nat} {kc : Nat → ClassId} (F : Nat → Int32) (G : Nat → Int64) (I : Nat → Nat → Int32) (J : Nat → Nat → Int64) (Z : Nat → Nat → Nat → Int32) (hAp : ∀ i j, i < 44 → j < 44 → a i = a j → i = j) (x1 : Int32) (x2 : Int32) (x3 : Int32) (x4 : Int32) {o0 : Int64} {o1 : Nat → Int64} {o2 : Nat → Int64} {o3 : Nat → Int64} (hf : p_X0_sitDown (F 0) (G 1) (I 5) (I 6) (J 0) (J 1) (J 4) x1 x2 x3 x4 = some (o0, o1, o2, o3)) : Ct 44 l yX0_sitDown cX0_sitDown 11 none rm_X0_sitDown D (tyC kc) a (wC a kc F G I J Z) [.ref (a 11), .int x1, .int x2, .int x3, .int x4] (Qv D (wC a kc F (va_up G 1 o0) I (va_up (va_up (va_up J 0 o1) 1 o2) 4 o3) Z)) :=
  Ct.of (by decide +kernel) hAp (Nat.le_of_ble_eq_true rfl) (fun p e s m args below meth c ls X hP hl => t_X0_sitDown_b0 X G J x1 x2 x3 x4 _ _ _ hf (frm_ul (fun k _ => rfl) (by decide)) (frm_ul (frm_ul (frm_ul (fun k _ => rfl) (by decide)) (by decide)) (by decide)) hP va_S.rf hl)
abbrev rm_X0_goOn : Room := { frames := 2, cells := 0, slots := 0, locals := 52 }
set_option maxHeartbeats 4000000 in
set_option maxRecDepth 100000 in
theorem t_X0_goOn_b91 {p : Program} {l : Launch} {e : Env} {s : State} {m : MethodId} {args : Array Value} {below : List Frame} {meth : Method} {c : Code} {D : va_G} {a : Nat → Nat} {kc : Nat → ClassId} (X : cx 44 p s m args meth c D (tyC kc) a cX0_goOn 6 RX0 none) {F : Nat → Int32} {I : Nat → Nat → Int32} {Z : Nat → Nat → Nat → Int32} {Gf : Nat → Int64} {Jf : Nat → Nat → Int64}  {K60 : Int32 → Int32 → Int64 → (Nat → Int32) → (Nat → Int32) → (Nat → Int32) → (Nat → Int32) → (Nat → Int64) → (Nat → Int64) → (Nat → Int64) → (Nat → Int64) → (Nat → Int64) → Int32 → Int32 → Int32 → Int32 → Int32 → Option (Int64 × (Nat → Int64) × (Nat → Int64) × (Nat → Int64) × (Nat → Int64) × (Nat → Int64))} (kh60 : ∀ (G : Nat → Int64) (J : Nat → Nat → Int64) (x1 : Int32) (x2 : Int32) (x3 : Int32) (x4 : Int32) (x5 : Int32) (H : Heap) (locs : List Loc) (ls : Array Slot), K60 (F 0) (F 2) (G 1) (I 2) (I 4) (I 5) (I 6) (J 0) (J 1) (J 2) (J 3) (J 4) x1 x2 x3 x4 x5 = some ((Gf 1), (Jf 0), (Jf 1), (Jf 2), (Jf 3), (Jf 4)) → (∀ k, k ∉ ([1] : List Nat) → Gf k = G k) → (∀ k, k ∉ ([0, 1, 2, 3, 4] : List Nat) → Jf k = J k) → va_P D vwCl (wC a kc F G I J Z) H → va_S (ad a 44 s.heap.size) s.heap H locs → lv_has ls 6 [(0, .ref (a 11)), (1, .int x1), (2, .int x2), (3, .int x3), (4, .int x4), (5, .int x5)] → W p l e rm_X0_goOn s m args below meth c H locs 0 0 (MQ below (Qv D (wC a kc F Gf I Jf Z) (ad a 44 s.heap.size)) args s 0 0 (ad a 44 s.heap.size)) (F0 m 60 ls [])) :
    ∀ (G : Nat → Int64) (J : Nat → Nat → Int64) (x1 : Int32) (x2 : Int32) (x3 : Int32) (x4 : Int32) (x5 : Int32) (H : Heap) (locs : List Loc) (ls : Array Slot), p_X0_goOn_b91 K60 (F 0) (F 2) (G 1) (I 2) (I 4) (I 5) (I 6) (J 0) (J 1) (J 2) (J 3) (J 4) x1 x2 x3 x4 x5 = some ((Gf 1), (Jf 0), (Jf 1), (Jf 2), (Jf 3), (Jf 4)) → (∀ k, k ∉ ([1] : List Nat) → Gf k = G k) → (∀ k, k ∉ ([0, 1, 2, 3, 4] : List Nat) → Jf k = J k) → va_P D vwCl (wC a kc F G I J Z) H → va_S (ad a 44 s.heap.size) s.heap H locs → lv_has ls 6 [(0, .ref (a 11)), (1, .int x1), (2, .int x2), (3, .int x3), (4, .int x4), (5, .int x5)] → W p l e rm_X0_goOn s m args below meth c H locs 0 0 (MQ below (Qv D (wC a kc F Gf I Jf Z) (ad a 44 s.heap.size)) args s 0 0 (ad a 44 s.heap.size)) (F0 m 91 ls []) := by
  intro G J x1 x2 x3 x4 x5 H locs ls hf hfG hfJ hP hS hl
  unfold p_X0_goOn_b91 at hf
  obtain ⟨x91, ex91, hf⟩ := nm_x hf
  refine lv_iinc (v := x91) (lv' := [(5, .int x91), (0, .ref (a 11)), (1, .int x1), (2, .int x2), (3, .int x3), (4, .int x4)]) X.1 X.2.1 dX0_goOn_91 hl (k := 5) rfl ex91 (by decide) rfl (fun ls hl => ?_)
  refine lv_goto (tgt := 60) X.1 X.2.1 dX0_goOn_94 (by decide) ?_
  exact kh60 G J x1 x2 x3 x4 x91 H locs ls hf hfG hfJ hP hS (lv_sub hl [1, 2, 3, 4, 5, 0] rfl)
set_option maxHeartbeats 4000000 in
set_option maxRecDepth 100000 in
theorem t_X0_goOn_b60x {p : Program} {l : Launch} {e : Env} {s : State} {m : MethodId} {args : Array Value} {below : List Frame} {meth : Method} {c : Code} {D : va_G} {a : Nat → Nat} {kc : Nat → ClassId} (X : cx 44 p s m args meth c D (tyC kc) a cX0_goOn 6 RX0 none) {F : Nat → Int32} {I : Nat → Nat → Int32} {Z : Nat → Nat → Nat → Int32} {Gf : Nat → Int64} {Jf : Nat → Nat → Int64}  {K60 : Int32 → Int32 → Int64 → (Nat → Int32) → (Nat → Int32) → (Nat → Int32) → (Nat → Int32) → (Nat → Int64) → (Nat → Int64) → (Nat → Int64) → (Nat → Int64) → (Nat → Int64) → Int32 → Int32 → Int32 → Int32 → Int32 → Option (Int64 × (Nat → Int64) × (Nat → Int64) × (Nat → Int64) × (Nat → Int64) × (Nat → Int64))} (kh60 : ∀ (G : Nat → Int64) (J : Nat → Nat → Int64) (x1 : Int32) (x2 : Int32) (x3 : Int32) (x4 : Int32) (x5 : Int32) (H : Heap) (locs : List Loc) (ls : Array Slot), K60 (F 0) (F 2) (G 1) (I 2) (I 4) (I 5) (I 6) (J 0) (J 1) (J 2) (J 3) (J 4) x1 x2 x3 x4 x5 = some ((Gf 1), (Jf 0), (Jf 1), (Jf 2), (Jf 3), (Jf 4)) → (∀ k, k ∉ ([1] : List Nat) → Gf k = G k) → (∀ k, k ∉ ([0, 1, 2, 3, 4] : List Nat) → Jf k = J k) → va_P D vwCl (wC a kc F G I J Z) H → va_S (ad a 44 s.heap.size) s.heap H locs → lv_has ls 6 [(0, .ref (a 11)), (1, .int x1), (2, .int x2), (3, .int x3), (4, .int x4), (5, .int x5)] → W p l e rm_X0_goOn s m args below meth c H locs 0 0 (MQ below (Qv D (wC a kc F Gf I Jf Z) (ad a 44 s.heap.size)) args s 0 0 (ad a 44 s.heap.size)) (F0 m 60 ls [])) :
    ∀ (G : Nat → Int64) (J : Nat → Nat → Int64) (x1 : Int32) (x2 : Int32) (x3 : Int32) (x4 : Int32) (x5 : Int32) (H : Heap) (locs : List Loc) (ls : Array Slot), p_X0_goOn_b60x K60 (F 0) (F 2) (G 1) (I 2) (I 4) (I 5) (I 6) (J 0) (J 1) (J 2) (J 3) (J 4) x1 x2 x3 x4 x5 = some ((Gf 1), (Jf 0), (Jf 1), (Jf 2), (Jf 3), (Jf 4)) → (∀ k, k ∉ ([1] : List Nat) → Gf k = G k) → (∀ k, k ∉ ([0, 1, 2, 3, 4] : List Nat) → Jf k = J k) → va_P D vwCl (wC a kc F G I J Z) H → va_S (ad a 44 s.heap.size) s.heap H locs → lv_has ls 6 [(0, .ref (a 11)), (1, .int x1), (2, .int x2), (3, .int x3), (4, .int x4), (5, .int x5)] → W p l e rm_X0_goOn s m args below meth c H locs 0 0 (MQ below (Qv D (wC a kc F Gf I Jf Z) (ad a 44 s.heap.size)) args s 0 0 (ad a 44 s.heap.size)) (F0 m 60 ls []) := by
  intro G J x1 x2 x3 x4 x5 H locs ls hf hfG hfJ hP hS hl
  unfold p_X0_goOn_b60x at hf
  refine lv_iload X.1 X.2.1 dX0_goOn_60 (lv_at hl 5 rfl) ?_
  refine lv_aload_n X.1 X.2.1 dX0_goOn_62 rfl (lv_at hl 0 rfl) ?_
  refine gC_11_7 X q_1_138 dX0_goOn_63 hP ?_
  refine gC_0_8 (F := F) X (v := (F 0)) rfl q_1_79 dX0_goOn_66 hP ?_
  refine lv_icmp_ge (tgt := 97) X.1 X.2.1 dX0_goOn_69 (by decide) (fun c69 => ?_) (fun c69 => ?_)
  · have hf := it_s hf c69
    obtain ⟨e0, hf⟩ := o2 hf
    obtain ⟨e1, hf⟩ := o2 hf
    obtain ⟨e2, hf⟩ := o2 hf
    obtain ⟨e3, hf⟩ := o2 hf
    obtain ⟨e4, hf⟩ := o2 hf
    have e5 := o1 hf
    have EG : Gf = G := frm_eq hfG (frm_c (e0).symm frm_n)
    have EJ : Jf = J := frm_eq hfJ (frm_c (e1).symm (frm_c (e2).symm (frm_c (e3).symm (frm_c (e4).symm (frm_c (e5).symm frm_n)))))
    exact ret_v X hS (by rw [EG, EJ]; exact hP) dX0_goOn_97
  · have hf := ie_s hf c69
    refine lv_iload_n X.1 X.2.1 dX0_goOn_72 rfl (lv_at hl 3 rfl) ?_
    refine lv_iload X.1 X.2.1 dX0_goOn_73 (lv_at hl 5 rfl) ?_
    obtain ⟨r75, ho, hf⟩ := b1_s hf
    refine call_si (rest := []) X (c_X3_has x3 x5 ho) q_2_177 q_2_178 q_1_2 q_2_179 ok_X3_has rfl ⟨Nat.le_of_ble_eq_true rfl, Nat.le_of_ble_eq_true rfl⟩ rfl rfl hl.1 rfl (Nat.le_of_ble_eq_true rfl) dX0_goOn_75 hP hS (fun H locs hP hS => ?_)
    refine lv_if_eq (tgt := 91) X.1 X.2.1 dX0_goOn_78 (by decide) (fun c78 => ?_) (fun c78 => ?_)
    · have hf := it_s hf c78
      exact t_X0_goOn_b91 X kh60 G J x1 x2 x3 x4 x5 H locs ls hf hfG hfJ hP hS (lv_sub hl [0, 1, 2, 3, 4, 5] rfl)
    · have hf := ie_s hf c78
      refine lv_aload_n X.1 X.2.1 dX0_goOn_81 rfl (lv_at hl 0 rfl) ?_
      refine lv_iload_n X.1 X.2.1 dX0_goOn_82 rfl (lv_at hl 1 rfl) ?_
      refine lv_iload_n X.1 X.2.1 dX0_goOn_83 rfl (lv_at hl 2 rfl) ?_
      refine lv_iload X.1 X.2.1 dX0_goOn_84 (lv_at hl 5 rfl) ?_
      refine lv_iload X.1 X.2.1 dX0_goOn_86 (lv_at hl 4 rfl) ?_
      obtain ⟨C_meanLooks_88, C_reach_88, C_sits_88, C_wrongIn_88, ho, hf⟩ := b4_s hf
      refine call_vv (rest := []) X (c_X0_sitDown F G I J Z X.2.2.2.2.2.2.2.1 x1 x2 x5 x4 ho) q_2_190 q_2_192 qs_yX0_sitDown q_1_4 q_2_193 ok_X0_sitDown rfl 11 rfl rfl ⟨Nat.le_of_ble_eq_true rfl, Nat.le_of_ble_eq_true rfl⟩ rfl rfl hl.1 rfl (Nat.le_of_ble_eq_true rfl) dX0_goOn_88 hP hS (fun H locs hP hS => ?_)
      exact t_X0_goOn_b91 X kh60 (va_up G 1 C_meanLooks_88) (va_up (va_up (va_up J 0 C_reach_88) 1 C_sits_88) 4 C_wrongIn_88) x1 x2 x3 x4 x5 H locs ls hf (frm_up hfG (by decide)) (frm_up (frm_up (frm_up hfJ (by decide)) (by decide)) (by decide)) hP hS (lv_sub hl [0, 1, 2, 3, 4, 5] rfl)
set_option maxRecDepth 100000 in
theorem t_X0_goOn_b60 {p : Program} {l : Launch} {e : Env} {s : State} {m : MethodId} {args : Array Value} {below : List Frame} {meth : Method} {c : Code} {D : va_G} {a : Nat → Nat} {kc : Nat → ClassId} (X : cx 44 p s m args meth c D (tyC kc) a cX0_goOn 6 RX0 none) {F : Nat → Int32} {I : Nat → Nat → Int32} {Z : Nat → Nat → Nat → Int32} {Gf : Nat → Int64} {Jf : Nat → Nat → Int64}  :
    ∀ (n : Nat) (G : Nat → Int64) (J : Nat → Nat → Int64) (x1 : Int32) (x2 : Int32) (x3 : Int32) (x4 : Int32) (x5 : Int32) (H : Heap) (locs : List Loc) (ls : Array Slot), p_X0_goOn_b60 n (F 0) (F 2) (G 1) (I 2) (I 4) (I 5) (I 6) (J 0) (J 1) (J 2) (J 3) (J 4) x1 x2 x3 x4 x5 = some ((Gf 1), (Jf 0), (Jf 1), (Jf 2), (Jf 3), (Jf 4)) → (∀ k, k ∉ ([1] : List Nat) → Gf k = G k) → (∀ k, k ∉ ([0, 1, 2, 3, 4] : List Nat) → Jf k = J k) → va_P D vwCl (wC a kc F G I J Z) H → va_S (ad a 44 s.heap.size) s.heap H locs → lv_has ls 6 [(0, .ref (a 11)), (1, .int x1), (2, .int x2), (3, .int x3), (4, .int x4), (5, .int x5)] → W p l e rm_X0_goOn s m args below meth c H locs 0 0 (MQ below (Qv D (wC a kc F Gf I Jf Z) (ad a 44 s.heap.size)) args s 0 0 (ad a 44 s.heap.size)) (F0 m 60 ls []) := by
  intro n
  induction n with
  | zero => intro G J x1 x2 x3 x4 x5 H locs ls hf hfG hfJ hP hS hl; exact (nos hf).elim
  | succ n ih => exact t_X0_goOn_b60x X ih
set_option maxHeartbeats 4000000 in
set_option maxRecDepth 100000 in
theorem t_X0_goOn_b0 {p : Program} {l : Launch} {e : Env} {s : State} {m : MethodId} {args : Array Value} {below : List Frame} {meth : Method} {c : Code} {D : va_G} {a : Nat → Nat} {kc : Nat → ClassId} (X : cx 44 p s m args meth c D (tyC kc) a cX0_goOn 6 RX0 none) {F : Nat → Int32} {I : Nat → Nat → Int32} {Z : Nat → Nat → Nat → Int32} {Gf : Nat → Int64} {Jf : Nat → Nat → Int64}  :
    ∀ (G : Nat → Int64) (J : Nat → Nat → Int64) (x1 : Int32) (x2 : Int32) (H : Heap) (locs : List Loc) (ls : Array Slot), p_X0_goOn_b0 (F 0) (F 2) (G 1) (I 2) (I 4) (I 5) (I 6) (J 0) (J 1) (J 2) (J 3) (J 4) x1 x2 = some ((Gf 1), (Jf 0), (Jf 1), (Jf 2), (Jf 3), (Jf 4)) → (∀ k, k ∉ ([1] : List Nat) → Gf k = G k) → (∀ k, k ∉ ([0, 1, 2, 3, 4] : List Nat) → Jf k = J k) → va_P D vwCl (wC a kc F G I J Z) H → va_S (ad a 44 s.heap.size) s.heap H locs → lv_has ls 6 [(0, .ref (a 11)), (1, .int x1), (2, .int x2)] → W p l e rm_X0_goOn s m args below meth c H locs 0 0 (MQ below (Qv D (wC a kc F Gf I Jf Z) (ad a 44 s.heap.size)) args s 0 0 (ad a 44 s.heap.size)) (F0 m 0 ls []) := by
  intro G J x1 x2 H locs ls hf hfG hfJ hP hS hl
  unfold p_X0_goOn_b0 at hf
  refine lv_iload_n X.1 X.2.1 dX0_goOn_0 rfl (lv_at hl 2 rfl) ?_
  refine lv_aload_n X.1 X.2.1 dX0_goOn_1 rfl (lv_at hl 0 rfl) ?_
  refine gC_11_7 X q_1_138 dX0_goOn_2 hP ?_
  refine gC_0_10 (F := F) X (v := (F 2)) rfl q_1_90 dX0_goOn_5 hP ?_
  refine lv_icmp_lt (tgt := 18) X.1 X.2.1 dX0_goOn_8 (by decide) (fun c8 => ?_) (fun c8 => ?_)
  · have hf := it_s hf c8
    refine lv_aload_n X.1 X.2.1 dX0_goOn_18 rfl (lv_at hl 0 rfl) ?_
    refine gC_11_7 X q_1_138 dX0_goOn_19 hP ?_
    refine lv_iload_n X.1 X.2.1 dX0_goOn_22 rfl (lv_at hl 1 rfl) ?_
    refine lv_aload_n X.1 X.2.1 dX0_goOn_23 rfl (lv_at hl 0 rfl) ?_
    refine gC_11_7 X q_1_138 dX0_goOn_24 hP ?_
    refine gC_0_6 X q_1_68 dX0_goOn_27 hP ?_
    refine lv_iload_n X.1 X.2.1 dX0_goOn_30 rfl (lv_at hl 2 rfl) ?_
    obtain ⟨h31, hf⟩ := gd_s hf
    refine lC_9 (I := I) X (f := (I 5)) rfl h31 dX0_goOn_31 hP ?_
    refine lv_aload_n X.1 X.2.1 dX0_goOn_32 rfl (lv_at hl 0 rfl) ?_
    refine gC_11_7 X q_1_138 dX0_goOn_33 hP ?_
    refine gC_0_7 X q_1_75 dX0_goOn_36 hP ?_
    refine lv_iload_n X.1 X.2.1 dX0_goOn_39 rfl (lv_at hl 2 rfl) ?_
    obtain ⟨h40, hf⟩ := gd_s hf
    refine lC_10 (I := I) X (f := (I 6)) rfl h40 dX0_goOn_40 hP ?_
    obtain ⟨r41, ho, hf⟩ := b1_s hf
    refine call_vi (rest := []) X (c_X3_choices F G I J Z X.2.2.2.2.2.2.2.1 x1 ((I 5) x2.toNatClampNeg) ((I 6) x2.toNatClampNeg) ho) q_2_180 q_2_181 q_2_182 q_1_2 q_2_183 ok_X3_choices rfl 0 rfl rfl ⟨Nat.le_of_ble_eq_true rfl, Nat.le_of_ble_eq_true rfl⟩ rfl rfl hl.1 rfl (Nat.le_of_ble_eq_true rfl) dX0_goOn_41 hP hS (fun H locs hP hS => ?_)
    refine lv_istore_n (lv' := [(3, .int r41), (0, .ref (a 11)), (1, .int x1), (2, .int x2)]) X.1 X.2.1 dX0_goOn_44 rfl hl (by decide) rfl (fun ls hl => ?_)
    refine lv_iload_n X.1 X.2.1 dX0_goOn_45 rfl (lv_at hl 0 rfl) ?_
    obtain ⟨r46, ho, hf⟩ := b1_s hf
    refine call_si (rest := []) X (c_J6_bitCount_0f7a4 r41 ho) q_2_163 q_2_164 q_1_11 q_2_165 ok_J6_bitCount_0f7a4 rfl ⟨Nat.le_of_ble_eq_true rfl, Nat.le_of_ble_eq_true rfl⟩ rfl rfl hl.1 rfl (Nat.le_of_ble_eq_true rfl) dX0_goOn_46 hP hS (fun H locs hP hS => ?_)
    refine lv_istore (lv' := [(4, .int r46), (3, .int r41), (0, .ref (a 11)), (1, .int x1), (2, .int x2)]) X.1 X.2.1 dX0_goOn_49 hl (by decide) rfl (fun ls hl => ?_)
    refine lv_iload X.1 X.2.1 dX0_goOn_51 (lv_at hl 0 rfl) ?_
    refine lv_if_ne (tgt := 57) X.1 X.2.1 dX0_goOn_53 (by decide) (fun c53 => ?_) (fun c53 => ?_)
    · have hf := ie_s hf c53
      refine lv_iconst (v := 0) X.1 X.2.1 dX0_goOn_57 (by decide) ?_
      refine lv_istore (lv' := [(5, .int 0), (4, .int r46), (3, .int r41), (0, .ref (a 11)), (1, .int x1), (2, .int x2)]) X.1 X.2.1 dX0_goOn_58 hl (by decide) rfl (fun ls hl => ?_)
      exact t_X0_goOn_b60 X 4096 G J x1 x2 r41 r46 0 H locs ls hf hfG hfJ hP hS (lv_sub hl [3, 4, 5, 2, 1, 0] rfl)
    · have hf := it_s hf c53
      obtain ⟨e0, hf⟩ := o2 hf
      obtain ⟨e1, hf⟩ := o2 hf
      obtain ⟨e2, hf⟩ := o2 hf
      obtain ⟨e3, hf⟩ := o2 hf
      obtain ⟨e4, hf⟩ := o2 hf
      have e5 := o1 hf
      have EG : Gf = G := frm_eq hfG (frm_c (e0).symm frm_n)
      have EJ : Jf = J := frm_eq hfJ (frm_c (e1).symm (frm_c (e2).symm (frm_c (e3).symm (frm_c (e4).symm (frm_c (e5).symm frm_n)))))
      exact ret_v X hS (by rw [EG, EJ]; exact hP) dX0_goOn_56
  · have hf := ie_s hf c8
    refine lv_aload_n X.1 X.2.1 dX0_goOn_11 rfl (lv_at hl 0 rfl) ?_
    refine lv_iload_n X.1 X.2.1 dX0_goOn_12 rfl (lv_at hl 1 rfl) ?_
    refine lv_iload_n X.1 X.2.1 dX0_goOn_13 rfl (lv_at hl 2 rfl) ?_
    obtain ⟨C_wrongs_14, C_free_14, ho, hf⟩ := b2_s hf
    refine call_vv (rest := []) X (c_X0_close F G I J Z X.2.2.2.2.2.2.2.1 x1 x2 ho) q_2_173 q_2_175 qs_yX0_close q_1_4 q_2_176 ok_X0_close rfl 11 rfl rfl ⟨Nat.le_of_ble_eq_true rfl, Nat.le_of_ble_eq_true rfl⟩ rfl rfl hl.1 rfl (Nat.le_of_ble_eq_true rfl) dX0_goOn_14 hP hS (fun H locs hP hS => ?_)
    obtain ⟨e0, hf⟩ := o2 hf
    obtain ⟨e1, hf⟩ := o2 hf
    obtain ⟨e2, hf⟩ := o2 hf
    obtain ⟨e3, hf⟩ := o2 hf
    obtain ⟨e4, hf⟩ := o2 hf
    have e5 := o1 hf
    have EG : Gf = G := frm_eq hfG (frm_c (e0).symm frm_n)
    have EJ : Jf = (va_up (va_up J 2 C_wrongs_14) 3 C_free_14) := frm_eq (frm_up (frm_up hfJ (by decide)) (by decide)) (frm_c (e1).symm (frm_c (e2).symm (frm_c (e3).symm (frm_c (e4).symm (frm_c (e5).symm frm_n)))))
    exact ret_v X hS (by rw [EG, EJ]; exact hP) dX0_goOn_17
set_option maxRecDepth 100000 in
theorem c_X0_goOn {l : Launch} {D : va_G} {a : Nat → Nat} {kc : Nat → ClassId} (F : Nat → Int32) (G : Nat → Int64) (I : Nat → Nat → Int32) (J : Nat → Nat → Int64) (Z : Nat → Nat → Nat → Int32) (hAp : ∀ i j, i < 44 → j < 44 → a i = a j → i = j) (x1 : Int32) (x2 : Int32) {o0 : Int64} {o1 : Nat → Int64} {o2 : Nat → Int64} {o3 : Nat → Int64} {o4 : Nat → Int64} {o5 : Nat → Int64} (hf : p_X0_goOn (F 0) (F 2) (G 1) (I 2) (I 4) (I 5) (I 6) (J 0) (J 1) (J 2) (J 3) (J 4) x1 x2 = some (o0, o1, o2, o3, o4, o5)) : Ct 44 l yX0_goOn cX0_goOn 6 none rm_X0_goOn D (tyC kc) a (wC a kc F G I J Z) [.ref (a 11), .int x1, .int x2] (Qv D (wC a kc F (va_up G 1 o0) I (va_up (va_up (va_up (va_up (va_up J 0 o1) 1 o2) 2 o3) 3 o4) 4 o5) Z)) :=
  Ct.of (by decide +kernel) hAp (Nat.le_of_ble_eq_true rfl) (fun p e s m args below meth c ls X hP hl => t_X0_goOn_b0 X G J x1 x2 _ _ _ hf (frm_ul (fun k _ => rfl) (by decide)) (frm_ul (frm_ul (frm_ul (frm_ul (frm_ul (fun k _ => rfl) (by decide)) (by decide)) (by decide)) (by decide)) (by decide)) hP va_S.rf hl)
abbrev rm_X0_refresh : Room := { frames := 3, cells := 0, slots := 0, locals := 77 }
set_option maxHeartbeats 4000000 in
set_option maxRecDepth 100000 in
theorem t_X0_refresh_b73x {p : Program} {l : Launch} {e : Env} {s : State} {m : MethodId} {args : Array Value} {below : List Frame} {meth : Method} {c : Code} {D : va_G} {a : Nat → Nat} {kc : Nat → ClassId} (X : cx 44 p s m args meth c D (tyC kc) a cX0_refresh 3 RX0 none) {I : Nat → Nat → Int32} {Z : Nat → Nat → Nat → Int32} {Ff : Nat → Int32} {Gf : Nat → Int64} {Jf : Nat → Nat → Int64}  {K73 : Int32 → Int32 → Int32 → Int64 → Int64 → (Nat → Int32) → (Nat → Int32) → (Nat → Int32) → (Nat → Int32) → (Nat → Int64) → (Nat → Int64) → (Nat → Int64) → (Nat → Int64) → (Nat → Int64) → Int32 → Option (Int32 × Int64 × Int64 × (Nat → Int64) × (Nat → Int64) × (Nat → Int64) × (Nat → Int64) × (Nat → Int64))} (kh73 : ∀ (F : Nat → Int32) (G : Nat → Int64) (J : Nat → Nat → Int64) (x2 : Int32) (H : Heap) (locs : List Loc) (ls : Array Slot), K73 (F 0) (F 2) (F 3) (G 0) (G 1) (I 2) (I 4) (I 5) (I 6) (J 0) (J 1) (J 2) (J 3) (J 4) x2 = some ((Ff 3), (Gf 0), (Gf 1), (Jf 0), (Jf 1), (Jf 2), (Jf 3), (Jf 4)) → (∀ k, k ∉ ([3] : List Nat) → Ff k = F k) → (∀ k, k ∉ ([0, 1] : List Nat) → Gf k = G k) → (∀ k, k ∉ ([0, 1, 2, 3, 4] : List Nat) → Jf k = J k) → va_P D vwCl (wC a kc F G I J Z) H → va_S (ad a 44 s.heap.size) s.heap H locs → lv_has ls 3 [(0, .ref (a 11)), (2, .int x2)] → W p l e rm_X0_refresh s m args below meth c H locs 0 0 (MQ below (Qv D (wC a kc Ff Gf I Jf Z) (ad a 44 s.heap.size)) args s 0 0 (ad a 44 s.heap.size)) (F0 m 73 ls [])) :
    ∀ (F : Nat → Int32) (G : Nat → Int64) (J : Nat → Nat → Int64) (x2 : Int32) (H : Heap) (locs : List Loc) (ls : Array Slot), p_X0_refresh_b73x K73 (F 0) (F 2) (F 3) (G 0) (G 1) (I 2) (I 4) (I 5) (I 6) (J 0) (J 1) (J 2) (J 3) (J 4) x2 = some ((Ff 3), (Gf 0), (Gf 1), (Jf 0), (Jf 1), (Jf 2), (Jf 3), (Jf 4)) → (∀ k, k ∉ ([3] : List Nat) → Ff k = F k) → (∀ k, k ∉ ([0, 1] : List Nat) → Gf k = G k) → (∀ k, k ∉ ([0, 1, 2, 3, 4] : List Nat) → Jf k = J k) → va_P D vwCl (wC a kc F G I J Z) H → va_S (ad a 44 s.heap.size) s.heap H locs → lv_has ls 3 [(0, .ref (a 11)), (2, .int x2)] → W p l e rm_X0_refresh s m args below meth c H locs 0 0 (MQ below (Qv D (wC a kc Ff Gf I Jf Z) (ad a 44 s.heap.size)) args s 0 0 (ad a 44 s.heap.size)) (F0 m 73 ls []) := by
  intro F G J x2 H locs ls hf hfF hfG hfJ hP hS hl
  unfold p_X0_refresh_b73x at hf
  refine lv_iload_n X.1 X.2.1 dX0_refresh_73 rfl (lv_at hl 1 rfl) ?_
  refine lv_aload_n X.1 X.2.1 dX0_refresh_74 rfl (lv_at hl 0 rfl) ?_
  refine gC_11_7 X q_1_138 dX0_refresh_75 hP ?_
  refine gC_0_10 (F := F) X (v := (F 2)) rfl q_1_90 dX0_refresh_78 hP ?_
  refine lv_icmp_gt (tgt := 108) X.1 X.2.1 dX0_refresh_81 (by decide) (fun c81 => ?_) (fun c81 => ?_)
  · have hf := it_s hf c81
    refine lv_aload_n X.1 X.2.1 dX0_refresh_108 rfl (lv_at hl 0 rfl) ?_
    refine lv_iconst (v := 1) X.1 X.2.1 dX0_refresh_109 (by decide) ?_
    refine pC_11_6 X (by decide) q_1_136 dX0_refresh_110 hP hS (fun H locs hP hS => ?_)
    obtain ⟨e0, hf⟩ := o2 hf
    obtain ⟨e1, hf⟩ := o2 hf
    obtain ⟨e2, hf⟩ := o2 hf
    obtain ⟨e3, hf⟩ := o2 hf
    obtain ⟨e4, hf⟩ := o2 hf
    obtain ⟨e5, hf⟩ := o2 hf
    obtain ⟨e6, hf⟩ := o2 hf
    have e7 := o1 hf
    have EF : Ff = (va_up F 3 1) := frm_eq (frm_up hfF (by decide)) (frm_c (e0).symm frm_n)
    have EG : Gf = G := frm_eq hfG (frm_c (e1).symm (frm_c (e2).symm frm_n))
    have EJ : Jf = J := frm_eq hfJ (frm_c (e3).symm (frm_c (e4).symm (frm_c (e5).symm (frm_c (e6).symm (frm_c (e7).symm frm_n)))))
    exact ret_v X hS (by rw [EF, EG, EJ]; exact hP) dX0_refresh_113
  · have hf := ie_s hf c81
    refine lv_aload_n X.1 X.2.1 dX0_refresh_84 rfl (lv_at hl 0 rfl) ?_
    refine lv_dup X.1 X.2.1 dX0_refresh_85 rfl ?_
    refine gC_11_4 (G := G) X (v := (G 0)) rfl q_1_132 dX0_refresh_86 hP ?_
    refine lv_iload_n X.1 X.2.1 dX0_refresh_89 rfl (lv_at hl 1 rfl) ?_
    refine lv_i2l X.1 X.2.1 dX0_refresh_90 rfl ?_
    refine lv_aload_n X.1 X.2.1 dX0_refresh_91 rfl (lv_at hl 0 rfl) ?_
    refine gC_11_2 X q_1_128 dX0_refresh_92 hP ?_
    refine lv_iload_n X.1 X.2.1 dX0_refresh_95 rfl (lv_at hl 1 rfl) ?_
    obtain ⟨h96, hf⟩ := gd_s hf
    refine lC_14 (J := J) X (f := (J 2)) rfl h96 dX0_refresh_96 hP ?_
    refine lv_lmul X.1 X.2.1 dX0_refresh_97 ?_
    refine lv_ladd X.1 X.2.1 dX0_refresh_98 ?_
    refine nm_l hf (fun C_meanWrong_99 hf => ?_)
    refine pC_11_4 X q_1_132 dX0_refresh_99 hP hS (fun H locs hP hS => ?_)
    obtain ⟨x102, ex102, hf⟩ := nm_x hf
    refine lv_iinc (v := x102) (lv' := [(2, .int x102), (0, .ref (a 11))]) X.1 X.2.1 dX0_refresh_102 hl (k := 1) rfl ex102 (by decide) rfl (fun ls hl => ?_)
    refine lv_goto (tgt := 73) X.1 X.2.1 dX0_refresh_105 (by decide) ?_
    exact kh73 F (va_up G 0 C_meanWrong_99) J x102 H locs ls hf hfF (frm_up hfG (by decide)) hfJ hP hS (lv_sub hl [1, 0] rfl)
set_option maxRecDepth 100000 in
theorem t_X0_refresh_b73 {p : Program} {l : Launch} {e : Env} {s : State} {m : MethodId} {args : Array Value} {below : List Frame} {meth : Method} {c : Code} {D : va_G} {a : Nat → Nat} {kc : Nat → ClassId} (X : cx 44 p s m args meth c D (tyC kc) a cX0_refresh 3 RX0 none) {I : Nat → Nat → Int32} {Z : Nat → Nat → Nat → Int32} {Ff : Nat → Int32} {Gf : Nat → Int64} {Jf : Nat → Nat → Int64}  :
    ∀ (n : Nat) (F : Nat → Int32) (G : Nat → Int64) (J : Nat → Nat → Int64) (x2 : Int32) (H : Heap) (locs : List Loc) (ls : Array Slot), p_X0_refresh_b73 n (F 0) (F 2) (F 3) (G 0) (G 1) (I 2) (I 4) (I 5) (I 6) (J 0) (J 1) (J 2) (J 3) (J 4) x2 = some ((Ff 3), (Gf 0), (Gf 1), (Jf 0), (Jf 1), (Jf 2), (Jf 3), (Jf 4)) → (∀ k, k ∉ ([3] : List Nat) → Ff k = F k) → (∀ k, k ∉ ([0, 1] : List Nat) → Gf k = G k) → (∀ k, k ∉ ([0, 1, 2, 3, 4] : List Nat) → Jf k = J k) → va_P D vwCl (wC a kc F G I J Z) H → va_S (ad a 44 s.heap.size) s.heap H locs → lv_has ls 3 [(0, .ref (a 11)), (2, .int x2)] → W p l e rm_X0_refresh s m args below meth c H locs 0 0 (MQ below (Qv D (wC a kc Ff Gf I Jf Z) (ad a 44 s.heap.size)) args s 0 0 (ad a 44 s.heap.size)) (F0 m 73 ls []) := by
  intro n
  induction n with
  | zero => intro F G J x2 H locs ls hf hfF hfG hfJ hP hS hl; exact (nos hf).elim
  | succ n ih => exact t_X0_refresh_b73x X ih
set_option maxHeartbeats 4000000 in
set_option maxRecDepth 100000 in
theorem t_X0_refresh_b65 {p : Program} {l : Launch} {e : Env} {s : State} {m : MethodId} {args : Array Value} {below : List Frame} {meth : Method} {c : Code} {D : va_G} {a : Nat → Nat} {kc : Nat → ClassId} (X : cx 44 p s m args meth c D (tyC kc) a cX0_refresh 3 RX0 none) {I : Nat → Nat → Int32} {Z : Nat → Nat → Nat → Int32} {Ff : Nat → Int32} {Gf : Nat → Int64} {Jf : Nat → Nat → Int64}  {K40 : Int32 → Int32 → Int32 → Int64 → Int64 → (Nat → Int32) → (Nat → Int32) → (Nat → Int32) → (Nat → Int32) → (Nat → Int64) → (Nat → Int64) → (Nat → Int64) → (Nat → Int64) → (Nat → Int64) → Int32 → Int32 → Option (Int32 × Int64 × Int64 × (Nat → Int64) × (Nat → Int64) × (Nat → Int64) × (Nat → Int64) × (Nat → Int64))} (kh40 : ∀ (F : Nat → Int32) (G : Nat → Int64) (J : Nat → Nat → Int64) (x1 : Int32) (x2 : Int32) (H : Heap) (locs : List Loc) (ls : Array Slot), K40 (F 0) (F 2) (F 3) (G 0) (G 1) (I 2) (I 4) (I 5) (I 6) (J 0) (J 1) (J 2) (J 3) (J 4) x1 x2 = some ((Ff 3), (Gf 0), (Gf 1), (Jf 0), (Jf 1), (Jf 2), (Jf 3), (Jf 4)) → (∀ k, k ∉ ([3] : List Nat) → Ff k = F k) → (∀ k, k ∉ ([0, 1] : List Nat) → Gf k = G k) → (∀ k, k ∉ ([0, 1, 2, 3, 4] : List Nat) → Jf k = J k) → va_P D vwCl (wC a kc F G I J Z) H → va_S (ad a 44 s.heap.size) s.heap H locs → lv_has ls 3 [(0, .ref (a 11)), (1, .int x1), (2, .int x2)] → W p l e rm_X0_refresh s m args below meth c H locs 0 0 (MQ below (Qv D (wC a kc Ff Gf I Jf Z) (ad a 44 s.heap.size)) args s 0 0 (ad a 44 s.heap.size)) (F0 m 40 ls [])) :
    ∀ (F : Nat → Int32) (G : Nat → Int64) (J : Nat → Nat → Int64) (x1 : Int32) (x2 : Int32) (H : Heap) (locs : List Loc) (ls : Array Slot), p_X0_refresh_b65 K40 (F 0) (F 2) (F 3) (G 0) (G 1) (I 2) (I 4) (I 5) (I 6) (J 0) (J 1) (J 2) (J 3) (J 4) x1 x2 = some ((Ff 3), (Gf 0), (Gf 1), (Jf 0), (Jf 1), (Jf 2), (Jf 3), (Jf 4)) → (∀ k, k ∉ ([3] : List Nat) → Ff k = F k) → (∀ k, k ∉ ([0, 1] : List Nat) → Gf k = G k) → (∀ k, k ∉ ([0, 1, 2, 3, 4] : List Nat) → Jf k = J k) → va_P D vwCl (wC a kc F G I J Z) H → va_S (ad a 44 s.heap.size) s.heap H locs → lv_has ls 3 [(0, .ref (a 11)), (1, .int x1), (2, .int x2)] → W p l e rm_X0_refresh s m args below meth c H locs 0 0 (MQ below (Qv D (wC a kc Ff Gf I Jf Z) (ad a 44 s.heap.size)) args s 0 0 (ad a 44 s.heap.size)) (F0 m 65 ls []) := by
  intro F G J x1 x2 H locs ls hf hfF hfG hfJ hP hS hl
  unfold p_X0_refresh_b65 at hf
  obtain ⟨x65, ex65, hf⟩ := nm_x hf
  refine lv_iinc (v := x65) (lv' := [(2, .int x65), (0, .ref (a 11)), (1, .int x1)]) X.1 X.2.1 dX0_refresh_65 hl (k := 2) rfl ex65 (by decide) rfl (fun ls hl => ?_)
  refine lv_goto (tgt := 40) X.1 X.2.1 dX0_refresh_68 (by decide) ?_
  exact kh40 F G J x1 x65 H locs ls hf hfF hfG hfJ hP hS (lv_sub hl [1, 2, 0] rfl)
set_option maxHeartbeats 4000000 in
set_option maxRecDepth 100000 in
theorem t_X0_refresh_b40x {p : Program} {l : Launch} {e : Env} {s : State} {m : MethodId} {args : Array Value} {below : List Frame} {meth : Method} {c : Code} {D : va_G} {a : Nat → Nat} {kc : Nat → ClassId} (X : cx 44 p s m args meth c D (tyC kc) a cX0_refresh 3 RX0 none) {I : Nat → Nat → Int32} {Z : Nat → Nat → Nat → Int32} {Ff : Nat → Int32} {Gf : Nat → Int64} {Jf : Nat → Nat → Int64}  {K40 : Int32 → Int32 → Int32 → Int64 → Int64 → (Nat → Int32) → (Nat → Int32) → (Nat → Int32) → (Nat → Int32) → (Nat → Int64) → (Nat → Int64) → (Nat → Int64) → (Nat → Int64) → (Nat → Int64) → Int32 → Int32 → Option (Int32 × Int64 × Int64 × (Nat → Int64) × (Nat → Int64) × (Nat → Int64) × (Nat → Int64) × (Nat → Int64))} (kh40 : ∀ (F : Nat → Int32) (G : Nat → Int64) (J : Nat → Nat → Int64) (x1 : Int32) (x2 : Int32) (H : Heap) (locs : List Loc) (ls : Array Slot), K40 (F 0) (F 2) (F 3) (G 0) (G 1) (I 2) (I 4) (I 5) (I 6) (J 0) (J 1) (J 2) (J 3) (J 4) x1 x2 = some ((Ff 3), (Gf 0), (Gf 1), (Jf 0), (Jf 1), (Jf 2), (Jf 3), (Jf 4)) → (∀ k, k ∉ ([3] : List Nat) → Ff k = F k) → (∀ k, k ∉ ([0, 1] : List Nat) → Gf k = G k) → (∀ k, k ∉ ([0, 1, 2, 3, 4] : List Nat) → Jf k = J k) → va_P D vwCl (wC a kc F G I J Z) H → va_S (ad a 44 s.heap.size) s.heap H locs → lv_has ls 3 [(0, .ref (a 11)), (1, .int x1), (2, .int x2)] → W p l e rm_X0_refresh s m args below meth c H locs 0 0 (MQ below (Qv D (wC a kc Ff Gf I Jf Z) (ad a 44 s.heap.size)) args s 0 0 (ad a 44 s.heap.size)) (F0 m 40 ls [])) :
    ∀ (F : Nat → Int32) (G : Nat → Int64) (J : Nat → Nat → Int64) (x1 : Int32) (x2 : Int32) (H : Heap) (locs : List Loc) (ls : Array Slot), p_X0_refresh_b40x K40 (F 0) (F 2) (F 3) (G 0) (G 1) (I 2) (I 4) (I 5) (I 6) (J 0) (J 1) (J 2) (J 3) (J 4) x1 x2 = some ((Ff 3), (Gf 0), (Gf 1), (Jf 0), (Jf 1), (Jf 2), (Jf 3), (Jf 4)) → (∀ k, k ∉ ([3] : List Nat) → Ff k = F k) → (∀ k, k ∉ ([0, 1] : List Nat) → Gf k = G k) → (∀ k, k ∉ ([0, 1, 2, 3, 4] : List Nat) → Jf k = J k) → va_P D vwCl (wC a kc F G I J Z) H → va_S (ad a 44 s.heap.size) s.heap H locs → lv_has ls 3 [(0, .ref (a 11)), (1, .int x1), (2, .int x2)] → W p l e rm_X0_refresh s m args below meth c H locs 0 0 (MQ below (Qv D (wC a kc Ff Gf I Jf Z) (ad a 44 s.heap.size)) args s 0 0 (ad a 44 s.heap.size)) (F0 m 40 ls []) := by
  intro F G J x1 x2 H locs ls hf hfF hfG hfJ hP hS hl
  unfold p_X0_refresh_b40x at hf
  refine lv_iload_n X.1 X.2.1 dX0_refresh_40 rfl (lv_at hl 2 rfl) ?_
  refine lv_iload_n X.1 X.2.1 dX0_refresh_41 rfl (lv_at hl 1 rfl) ?_
  refine lv_icmp_gt (tgt := 71) X.1 X.2.1 dX0_refresh_42 (by decide) (fun c42 => ?_) (fun c42 => ?_)
  · have hf := it_s hf c42
    refine lv_iconst (v := 1) X.1 X.2.1 dX0_refresh_71 (by decide) ?_
    refine lv_istore_n (lv' := [(2, .int 1), (0, .ref (a 11)), (1, .int x1)]) X.1 X.2.1 dX0_refresh_72 rfl hl (by decide) rfl (fun ls hl => ?_)
    exact t_X0_refresh_b73 X 4096 F G J 1 H locs ls hf hfF hfG hfJ hP hS (lv_sub hl [1, 0] rfl)
  · have hf := ie_s hf c42
    refine lv_aload_n X.1 X.2.1 dX0_refresh_45 rfl (lv_at hl 0 rfl) ?_
    refine gC_11_0 X q_1_124 dX0_refresh_46 hP ?_
    refine lv_iload_n X.1 X.2.1 dX0_refresh_49 rfl (lv_at hl 2 rfl) ?_
    obtain ⟨h50, hf⟩ := gd_s hf
    refine lC_12 (J := J) X (f := (J 0)) rfl h50 dX0_refresh_50 hP ?_
    refine lv_lconst (v := 0) X.1 X.2.1 dX0_refresh_51 (by decide) ?_
    refine W.lcmp X.1 X.2.1 dX0_refresh_52 ?_
    refine lv_if_eq (tgt := 65) X.1 X.2.1 dX0_refresh_53 (by decide) (fun c53 => ?_) (fun c53 => ?_)
    · have hf := it_s hf c53
      exact t_X0_refresh_b65 X kh40 F G J x1 x2 H locs ls hf hfF hfG hfJ hP hS (lv_sub hl [0, 1, 2] rfl)
    · have hf := ie_s hf c53
      refine lv_aload_n X.1 X.2.1 dX0_refresh_56 rfl (lv_at hl 0 rfl) ?_
      refine lv_iload_n X.1 X.2.1 dX0_refresh_57 rfl (lv_at hl 2 rfl) ?_
      refine lv_iload_n X.1 X.2.1 dX0_refresh_58 rfl (lv_at hl 2 rfl) ?_
      obtain ⟨r59, ho, hf⟩ := b1_s hf
      refine call_si (rest := [.int x2, .ref (a 11)]) X (c_J6_bitCount_0f7a4 x2 ho) q_2_163 q_2_164 q_1_11 q_2_165 ok_J6_bitCount_0f7a4 rfl ⟨Nat.le_of_ble_eq_true rfl, Nat.le_of_ble_eq_true rfl⟩ rfl rfl hl.1 rfl (Nat.le_of_ble_eq_true rfl) dX0_refresh_59 hP hS (fun H locs hP hS => ?_)
      obtain ⟨C_meanLooks_62, C_reach_62, C_sits_62, C_wrongs_62, C_free_62, C_wrongIn_62, ho, hf⟩ := b6_s hf
      refine call_vv (rest := []) X (c_X0_goOn F G I J Z X.2.2.2.2.2.2.2.1 x2 r59 ho) q_2_169 q_2_171 qs_yX0_goOn q_1_4 q_2_172 ok_X0_goOn rfl 11 rfl rfl ⟨Nat.le_of_ble_eq_true rfl, Nat.le_of_ble_eq_true rfl⟩ rfl rfl hl.1 rfl (Nat.le_of_ble_eq_true rfl) dX0_refresh_62 hP hS (fun H locs hP hS => ?_)
      exact t_X0_refresh_b65 X kh40 F (va_up G 1 C_meanLooks_62) (va_up (va_up (va_up (va_up (va_up J 0 C_reach_62) 1 C_sits_62) 2 C_wrongs_62) 3 C_free_62) 4 C_wrongIn_62) x1 x2 H locs ls hf hfF (frm_up hfG (by decide)) (frm_up (frm_up (frm_up (frm_up (frm_up hfJ (by decide)) (by decide)) (by decide)) (by decide)) (by decide)) hP hS (lv_sub hl [0, 1, 2] rfl)
set_option maxRecDepth 100000 in
theorem t_X0_refresh_b40 {p : Program} {l : Launch} {e : Env} {s : State} {m : MethodId} {args : Array Value} {below : List Frame} {meth : Method} {c : Code} {D : va_G} {a : Nat → Nat} {kc : Nat → ClassId} (X : cx 44 p s m args meth c D (tyC kc) a cX0_refresh 3 RX0 none) {I : Nat → Nat → Int32} {Z : Nat → Nat → Nat → Int32} {Ff : Nat → Int32} {Gf : Nat → Int64} {Jf : Nat → Nat → Int64}  :
    ∀ (n : Nat) (F : Nat → Int32) (G : Nat → Int64) (J : Nat → Nat → Int64) (x1 : Int32) (x2 : Int32) (H : Heap) (locs : List Loc) (ls : Array Slot), p_X0_refresh_b40 n (F 0) (F 2) (F 3) (G 0) (G 1) (I 2) (I 4) (I 5) (I 6) (J 0) (J 1) (J 2) (J 3) (J 4) x1 x2 = some ((Ff 3), (Gf 0), (Gf 1), (Jf 0), (Jf 1), (Jf 2), (Jf 3), (Jf 4)) → (∀ k, k ∉ ([3] : List Nat) → Ff k = F k) → (∀ k, k ∉ ([0, 1] : List Nat) → Gf k = G k) → (∀ k, k ∉ ([0, 1, 2, 3, 4] : List Nat) → Jf k = J k) → va_P D vwCl (wC a kc F G I J Z) H → va_S (ad a 44 s.heap.size) s.heap H locs → lv_has ls 3 [(0, .ref (a 11)), (1, .int x1), (2, .int x2)] → W p l e rm_X0_refresh s m args below meth c H locs 0 0 (MQ below (Qv D (wC a kc Ff Gf I Jf Z) (ad a 44 s.heap.size)) args s 0 0 (ad a 44 s.heap.size)) (F0 m 40 ls []) := by
  intro n
  induction n with
  | zero => intro F G J x1 x2 H locs ls hf hfF hfG hfJ hP hS hl; exact (nos hf).elim
  | succ n ih => exact t_X0_refresh_b40x X ih
set_option maxHeartbeats 4000000 in
set_option maxRecDepth 100000 in
theorem t_X0_refresh_b0 {p : Program} {l : Launch} {e : Env} {s : State} {m : MethodId} {args : Array Value} {below : List Frame} {meth : Method} {c : Code} {D : va_G} {a : Nat → Nat} {kc : Nat → ClassId} (X : cx 44 p s m args meth c D (tyC kc) a cX0_refresh 3 RX0 none) {I : Nat → Nat → Int32} {Z : Nat → Nat → Nat → Int32} {Ff : Nat → Int32} {Gf : Nat → Int64} {Jf : Nat → Nat → Int64}  :
    ∀ (F : Nat → Int32) (G : Nat → Int64) (J : Nat → Nat → Int64)  (H : Heap) (locs : List Loc) (ls : Array Slot), p_X0_refresh_b0 (F 0) (F 2) (F 3) (G 0) (G 1) (I 2) (I 4) (I 5) (I 6) (J 0) (J 1) (J 2) (J 3) (J 4)  = some ((Ff 3), (Gf 0), (Gf 1), (Jf 0), (Jf 1), (Jf 2), (Jf 3), (Jf 4)) → (∀ k, k ∉ ([3] : List Nat) → Ff k = F k) → (∀ k, k ∉ ([0, 1] : List Nat) → Gf k = G k) → (∀ k, k ∉ ([0, 1, 2, 3, 4] : List Nat) → Jf k = J k) → va_P D vwCl (wC a kc F G I J Z) H → va_S (ad a 44 s.heap.size) s.heap H locs → lv_has ls 3 [(0, .ref (a 11))] → W p l e rm_X0_refresh s m args below meth c H locs 0 0 (MQ below (Qv D (wC a kc Ff Gf I Jf Z) (ad a 44 s.heap.size)) args s 0 0 (ad a 44 s.heap.size)) (F0 m 0 ls []) := by
  intro F G J  H locs ls hf hfF hfG hfJ hP hS hl
  unfold p_X0_refresh_b0 at hf
  refine lv_aload_n X.1 X.2.1 dX0_refresh_0 rfl (lv_at hl 0 rfl) ?_
  refine gC_11_6 (F := F) X (v := (F 3)) rfl q_1_136 dX0_refresh_1 hP ?_
  refine lv_if_eq (tgt := 8) X.1 X.2.1 dX0_refresh_4 (by decide) (fun c4 => ?_) (fun c4 => ?_)
  · have hf := it_s hf c4
    refine lv_aload_n X.1 X.2.1 dX0_refresh_8 rfl (lv_at hl 0 rfl) ?_
    obtain ⟨C_meanWrong_9, C_meanLooks_9, C_reach_9, C_sits_9, C_wrongs_9, C_free_9, C_wrongIn_9, ho, hf⟩ := b7_s hf
    refine call_vv (rest := []) X (c_X0_clear F G I J Z X.2.2.2.2.2.2.2.1  ho) q_2_151 q_2_153 qs_yX0_clear q_1_4 q_2_154 ok_X0_clear rfl 11 rfl rfl ⟨Nat.le_of_ble_eq_true rfl, Nat.le_of_ble_eq_true rfl⟩ rfl rfl hl.1 rfl (Nat.le_of_ble_eq_true rfl) dX0_refresh_9 hP hS (fun H locs hP hS => ?_)
    refine lv_aload_n X.1 X.2.1 dX0_refresh_12 rfl (lv_at hl 0 rfl) ?_
    refine gC_11_0 X q_1_124 dX0_refresh_13 hP ?_
    refine lv_iconst (v := 0) X.1 X.2.1 dX0_refresh_16 (by decide) ?_
    refine lv_ldc2 (v := 182891520000) X.1 X.2.1 X.2.2.2.2.1 (X.2.2.2.2.2.1 _ q_2_158) dX0_refresh_17 ?_
    obtain ⟨h20, hf⟩ := gd_s hf
    obtain ⟨C_reach_20, eC_reach_20, hf⟩ := nm_x hf
    refine sC_12 (J := (va_up (va_up (va_up (va_up (va_up J 0 C_reach_9) 1 C_sits_9) 2 C_wrongs_9) 3 C_free_9) 4 C_wrongIn_9)) X h20 eC_reach_20 dX0_refresh_20 hP hS (fun H locs hP hS => ?_)
    refine lv_aload_n X.1 X.2.1 dX0_refresh_21 rfl (lv_at hl 0 rfl) ?_
    refine gC_11_8 X q_1_139 dX0_refresh_22 hP ?_
    refine lv_iconst (v := 0) X.1 X.2.1 dX0_refresh_25 (by decide) ?_
    refine lv_ldc2 (v := 182891520000) X.1 X.2.1 X.2.2.2.2.1 (X.2.2.2.2.2.1 _ q_2_158) dX0_refresh_26 ?_
    obtain ⟨h29, hf⟩ := gd_s hf
    obtain ⟨C_wrongIn_29, eC_wrongIn_29, hf⟩ := nm_x hf
    refine sC_16 (J := (va_up (va_up (va_up (va_up (va_up (va_up J 0 C_reach_9) 1 C_sits_9) 2 C_wrongs_9) 3 C_free_9) 4 C_wrongIn_9) 0 C_reach_20)) X h29 eC_wrongIn_29 dX0_refresh_29 hP hS (fun H locs hP hS => ?_)
    refine lv_aload_n X.1 X.2.1 dX0_refresh_30 rfl (lv_at hl 0 rfl) ?_
    refine gC_11_7 X q_1_138 dX0_refresh_31 hP ?_
    obtain ⟨r34, ho, hf⟩ := b1_s hf
    refine call_vi (rest := []) X (c_X3_allSeats F (va_up (va_up G 0 C_meanWrong_9) 1 C_meanLooks_9) I (va_up (va_up (va_up (va_up (va_up (va_up (va_up J 0 C_reach_9) 1 C_sits_9) 2 C_wrongs_9) 3 C_free_9) 4 C_wrongIn_9) 0 C_reach_20) 4 C_wrongIn_29) Z X.2.2.2.2.2.2.2.1  ho) q_2_159 q_2_160 q_2_161 q_1_2 q_2_162 ok_X3_allSeats rfl 0 rfl rfl ⟨Nat.le_of_ble_eq_true rfl, Nat.le_of_ble_eq_true rfl⟩ rfl rfl hl.1 rfl (Nat.le_of_ble_eq_true rfl) dX0_refresh_34 hP hS (fun H locs hP hS => ?_)
    refine lv_istore_n (lv' := [(1, .int r34), (0, .ref (a 11))]) X.1 X.2.1 dX0_refresh_37 rfl hl (by decide) rfl (fun ls hl => ?_)
    refine lv_iconst (v := 0) X.1 X.2.1 dX0_refresh_38 (by decide) ?_
    refine lv_istore_n (lv' := [(2, .int 0), (1, .int r34), (0, .ref (a 11))]) X.1 X.2.1 dX0_refresh_39 rfl hl (by decide) rfl (fun ls hl => ?_)
    exact t_X0_refresh_b40 X 4096 F (va_up (va_up G 0 C_meanWrong_9) 1 C_meanLooks_9) (va_up (va_up (va_up (va_up (va_up (va_up (va_up J 0 C_reach_9) 1 C_sits_9) 2 C_wrongs_9) 3 C_free_9) 4 C_wrongIn_9) 0 C_reach_20) 4 C_wrongIn_29) r34 0 H locs ls hf hfF (frm_up (frm_up hfG (by decide)) (by decide)) (frm_up (frm_up (frm_up (frm_up (frm_up (frm_up (frm_up hfJ (by decide)) (by decide)) (by decide)) (by decide)) (by decide)) (by decide)) (by decide)) hP hS (lv_sub hl [2, 1, 0] rfl)
  · have hf := ie_s hf c4
    obtain ⟨e0, hf⟩ := o2 hf
    obtain ⟨e1, hf⟩ := o2 hf
    obtain ⟨e2, hf⟩ := o2 hf
    obtain ⟨e3, hf⟩ := o2 hf
    obtain ⟨e4, hf⟩ := o2 hf
    obtain ⟨e5, hf⟩ := o2 hf
    obtain ⟨e6, hf⟩ := o2 hf
    have e7 := o1 hf
    have EF : Ff = F := frm_eq hfF (frm_c (e0).symm frm_n)
    have EG : Gf = G := frm_eq hfG (frm_c (e1).symm (frm_c (e2).symm frm_n))
    have EJ : Jf = J := frm_eq hfJ (frm_c (e3).symm (frm_c (e4).symm (frm_c (e5).symm (frm_c (e6).symm (frm_c (e7).symm frm_n)))))
    exact ret_v X hS (by rw [EF, EG, EJ]; exact hP) dX0_refresh_7
set_option maxRecDepth 100000 in
theorem c_X0_refresh {l : Launch} {D : va_G} {a : Nat → Nat} {kc : Nat → ClassId} (F : Nat → Int32) (G : Nat → Int64) (I : Nat → Nat → Int32) (J : Nat → Nat → Int64) (Z : Nat → Nat → Nat → Int32) (hAp : ∀ i j, i < 44 → j < 44 → a i = a j → i = j)  {o0 : Int32} {o1 : Int64} {o2 : Int64} {o3 : Nat → Int64} {o4 : Nat → Int64} {o5 : Nat → Int64} {o6 : Nat → Int64} {o7 : Nat → Int64} (hf : p_X0_refresh (F 0) (F 2) (F 3) (G 0) (G 1) (I 2) (I 4) (I 5) (I 6) (J 0) (J 1) (J 2) (J 3) (J 4)  = some (o0, o1, o2, o3, o4, o5, o6, o7)) : Ct 44 l yX0_refresh cX0_refresh 3 none rm_X0_refresh D (tyC kc) a (wC a kc F G I J Z) [.ref (a 11)] (Qv D (wC a kc (va_up F 3 o0) (va_up (va_up G 0 o1) 1 o2) I (va_up (va_up (va_up (va_up (va_up J 0 o3) 1 o4) 2 o5) 3 o6) 4 o7) Z)) :=
  Ct.of (by decide +kernel) hAp (Nat.le_of_ble_eq_true rfl) (fun p e s m args below meth c ls X hP hl => t_X0_refresh_b0 X F G J  _ _ _ hf (frm_ul (fun k _ => rfl) (by decide)) (frm_ul (frm_ul (fun k _ => rfl) (by decide)) (by decide)) (frm_ul (frm_ul (frm_ul (frm_ul (frm_ul (fun k _ => rfl) (by decide)) (by decide)) (by decide)) (by decide)) (by decide)) hP va_S.rf hl)
abbrev rm_X1_keep : Room := { frames := 1, cells := 0, slots := 0, locals := 60 }
set_option maxHeartbeats 4000000 in
set_option maxRecDepth 100000 in
theorem t_X1_keep_b29 {p : Program} {l : Launch} {e : Env} {s : State} {m : MethodId} {args : Array Value} {below : List Frame} {meth : Method} {c : Code} {D : va_G} {a : Nat → Nat} {kc : Nat → ClassId} (X : cx 44 p s m args meth c D (tyC kc) a cX1_keep 3 RX1 none) {F : Nat → Int32} {J : Nat → Nat → Int64} {Z : Nat → Nat → Nat → Int32} {Gf : Nat → Int64} {If : Nat → Nat → Int32}  :
    ∀ (G : Nat → Int64) (I : Nat → Nat → Int32)  (H : Heap) (locs : List Loc) (ls : Array Slot), p_X1_keep_b29 (G 2) (I 7) (I 8)  = some ((Gf 2), (If 7)) → (∀ k, k ∉ ([2] : List Nat) → Gf k = G k) → (∀ k, k ∉ ([7] : List Nat) → If k = I k) → va_P D vwCl (wC a kc F G I J Z) H → va_S (ad a 44 s.heap.size) s.heap H locs → lv_has ls 3 [(0, .ref (a 17))] → W p l e rm_X1_keep s m args below meth c H locs 0 0 (MQ below (Qv D (wC a kc F Gf If J Z) (ad a 44 s.heap.size)) args s 0 0 (ad a 44 s.heap.size)) (F0 m 29 ls []) := by
  intro G I  H locs ls hf hfG hfI hP hS hl
  unfold p_X1_keep_b29 at hf
  obtain ⟨e0, hf⟩ := o2 hf
  have e1 := o1 hf
  have EG : Gf = G := frm_eq hfG (frm_c (e0).symm frm_n)
  have EI : If = I := frm_eq hfI (frm_c (e1).symm frm_n)
  exact ret_v X hS (by rw [EG, EI]; exact hP) dX1_keep_29
set_option maxHeartbeats 4000000 in
set_option maxRecDepth 100000 in
theorem t_X1_keep_b0 {p : Program} {l : Launch} {e : Env} {s : State} {m : MethodId} {args : Array Value} {below : List Frame} {meth : Method} {c : Code} {D : va_G} {a : Nat → Nat} {kc : Nat → ClassId} (X : cx 44 p s m args meth c D (tyC kc) a cX1_keep 3 RX1 none) {F : Nat → Int32} {J : Nat → Nat → Int64} {Z : Nat → Nat → Nat → Int32} {Gf : Nat → Int64} {If : Nat → Nat → Int32}  :
    ∀ (G : Nat → Int64) (I : Nat → Nat → Int32) (x1 : Int64) (H : Heap) (locs : List Loc) (ls : Array Slot), p_X1_keep_b0 (G 2) (I 7) (I 8) x1 = some ((Gf 2), (If 7)) → (∀ k, k ∉ ([2] : List Nat) → Gf k = G k) → (∀ k, k ∉ ([7] : List Nat) → If k = I k) → va_P D vwCl (wC a kc F G I J Z) H → va_S (ad a 44 s.heap.size) s.heap H locs → lv_has ls 3 [(0, .ref (a 17)), (1, .long x1)] → W p l e rm_X1_keep s m args below meth c H locs 0 0 (MQ below (Qv D (wC a kc F Gf If J Z) (ad a 44 s.heap.size)) args s 0 0 (ad a 44 s.heap.size)) (F0 m 0 ls []) := by
  intro G I x1 H locs ls hf hfG hfI hP hS hl
  unfold p_X1_keep_b0 at hf
  refine lv_lload_n X.1 X.2.1 dX1_keep_0 rfl (lv_at hl 1 rfl) ?_
  refine lv_aload_n X.1 X.2.1 dX1_keep_1 rfl (lv_at hl 0 rfl) ?_
  refine gC_17_1 (G := G) X (v := (G 2)) rfl q_1_168 dX1_keep_2 hP ?_
  refine W.lcmp X.1 X.2.1 dX1_keep_5 ?_
  refine lv_if_ge (tgt := 29) X.1 X.2.1 dX1_keep_6 (by decide) (fun c6 => ?_) (fun c6 => ?_)
  · have hf := it_s hf c6
    exact t_X1_keep_b29 X G I  H locs ls hf hfG hfI hP hS (lv_sub hl [0] rfl)
  · have hf := ie_s hf c6
    refine lv_aload_n X.1 X.2.1 dX1_keep_9 rfl (lv_at hl 0 rfl) ?_
    refine lv_lload_n X.1 X.2.1 dX1_keep_10 rfl (lv_at hl 1 rfl) ?_
    refine pC_17_1 X q_1_168 dX1_keep_11 hP hS (fun H locs hP hS => ?_)
    refine lv_aload_n X.1 X.2.1 dX1_keep_14 rfl (lv_at hl 0 rfl) ?_
    refine gC_17_4 X q_1_173 dX1_keep_15 hP ?_
    refine lv_iconst (v := 0) X.1 X.2.1 dX1_keep_18 (by decide) ?_
    refine lv_aload_n X.1 X.2.1 dX1_keep_19 rfl (lv_at hl 0 rfl) ?_
    refine gC_17_0 X q_1_166 dX1_keep_20 hP ?_
    refine lv_iconst (v := 0) X.1 X.2.1 dX1_keep_23 (by decide) ?_
    refine lv_bipush (v := 6) X.1 X.2.1 dX1_keep_24 (by decide) ?_
    obtain ⟨h26, hf⟩ := gd_s hf
    obtain ⟨D_best_26, eD_best_26, hf⟩ := nm_x hf
    refine cpC_19_18 (I := I) X h26 eD_best_26 q_3_39 hl.1 (Nat.le_of_ble_eq_true rfl) (Nat.le_of_ble_eq_true rfl) dX1_keep_26 hP hS (fun H locs hP hS => ?_)
    exact t_X1_keep_b29 X (va_up G 2 x1) (va_up I 7 D_best_26)  H locs ls hf (frm_up hfG (by decide)) (frm_up hfI (by decide)) hP hS (lv_sub hl [0] rfl)
set_option maxRecDepth 100000 in
theorem c_X1_keep {l : Launch} {D : va_G} {a : Nat → Nat} {kc : Nat → ClassId} (F : Nat → Int32) (G : Nat → Int64) (I : Nat → Nat → Int32) (J : Nat → Nat → Int64) (Z : Nat → Nat → Nat → Int32) (hAp : ∀ i j, i < 44 → j < 44 → a i = a j → i = j) (x1 : Int64) {o0 : Int64} {o1 : Nat → Int32} (hf : p_X1_keep (G 2) (I 7) (I 8) x1 = some (o0, o1)) : Ct 44 l yX1_keep cX1_keep 3 none rm_X1_keep D (tyC kc) a (wC a kc F G I J Z) [.ref (a 17), .long x1] (Qv D (wC a kc F (va_up G 2 o0) (va_up I 7 o1) J Z)) :=
  Ct.of (by decide +kernel) hAp (Nat.le_of_ble_eq_true rfl) (fun p e s m args below meth c ls X hP hl => t_X1_keep_b0 X G I x1 _ _ _ hf (frm_ul (fun k _ => rfl) (by decide)) (frm_ul (fun k _ => rfl) (by decide)) hP va_S.rf hl)
abbrev rm_X1_wrongAmong : Room := { frames := 0, cells := 0, slots := 0, locals := 0 }
set_option maxHeartbeats 4000000 in
set_option maxRecDepth 100000 in
theorem t_X1_wrongAmong_b38 {p : Program} {l : Launch} {e : Env} {s : State} {m : MethodId} {args : Array Value} {below : List Frame} {meth : Method} {c : Code} {D : va_G} {a : Nat → Nat} {kc : Nat → ClassId} (X : cx 44 p s m args meth c D (tyC kc) a cX1_wrongAmong 6 RX1 (some .long)) {F : Nat → Int32} {G : Nat → Int64} {I : Nat → Nat → Int32} {J : Nat → Nat → Int64} {Z : Nat → Nat → Nat → Int32}  {r : Int64} :
    ∀  (x4 : Int64) (H : Heap) (locs : List Loc) (ls : Array Slot), p_X1_wrongAmong_b38 (I 5) (I 6) (J 6) x4 = some r → va_P D vwCl (wC a kc F G I J Z) H → va_S (ad a 44 s.heap.size) s.heap H locs → lv_has ls 6 [(0, .ref (a 17)), (4, .long x4)] → W p l e rm_X1_wrongAmong s m args below meth c H locs 0 0 (MQ below (Ql D (wC a kc F G I J Z) r (ad a 44 s.heap.size)) args s 0 0 (ad a 44 s.heap.size)) (F0 m 38 ls []) := by
  intro  x4 H locs ls hf  hP hS hl
  unfold p_X1_wrongAmong_b38 at hf
  refine lv_lload X.1 X.2.1 dX1_wrongAmong_38 (lv_at hl 1 rfl) ?_
  have e0 := o1 hf
  exact ret_l X hS hP e0 dX1_wrongAmong_40
set_option maxHeartbeats 4000000 in
set_option maxRecDepth 100000 in
theorem t_X1_wrongAmong_b0 {p : Program} {l : Launch} {e : Env} {s : State} {m : MethodId} {args : Array Value} {below : List Frame} {meth : Method} {c : Code} {D : va_G} {a : Nat → Nat} {kc : Nat → ClassId} (X : cx 44 p s m args meth c D (tyC kc) a cX1_wrongAmong 6 RX1 (some .long)) {F : Nat → Int32} {G : Nat → Int64} {I : Nat → Nat → Int32} {J : Nat → Nat → Int64} {Z : Nat → Nat → Nat → Int32}  {r : Int64} :
    ∀  (x1 : Int32) (x2 : Int32) (x3 : Int32) (H : Heap) (locs : List Loc) (ls : Array Slot), p_X1_wrongAmong_b0 (I 5) (I 6) (J 6) x1 x2 x3 = some r → va_P D vwCl (wC a kc F G I J Z) H → va_S (ad a 44 s.heap.size) s.heap H locs → lv_has ls 6 [(0, .ref (a 17)), (1, .int x1), (2, .int x2), (3, .int x3)] → W p l e rm_X1_wrongAmong s m args below meth c H locs 0 0 (MQ below (Ql D (wC a kc F G I J Z) r (ad a 44 s.heap.size)) args s 0 0 (ad a 44 s.heap.size)) (F0 m 0 ls []) := by
  intro  x1 x2 x3 H locs ls hf  hP hS hl
  unfold p_X1_wrongAmong_b0 at hf
  refine lv_aload_n X.1 X.2.1 dX1_wrongAmong_0 rfl (lv_at hl 0 rfl) ?_
  refine gC_17_6 X q_1_175 dX1_wrongAmong_1 hP ?_
  refine lv_iload_n X.1 X.2.1 dX1_wrongAmong_4 rfl (lv_at hl 2 rfl) ?_
  refine lv_bipush (v := 8) X.1 X.2.1 dX1_wrongAmong_5 (by decide) ?_
  refine lv_imul X.1 X.2.1 dX1_wrongAmong_7 ?_
  refine lv_aload_n X.1 X.2.1 dX1_wrongAmong_8 rfl (lv_at hl 0 rfl) ?_
  refine gC_17_3 X q_1_172 dX1_wrongAmong_9 hP ?_
  refine gC_0_6 X q_1_70 dX1_wrongAmong_12 hP ?_
  refine lv_iload_n X.1 X.2.1 dX1_wrongAmong_15 rfl (lv_at hl 3 rfl) ?_
  obtain ⟨h16, hf⟩ := gd_s hf
  refine lC_9 (I := I) X (f := (I 5)) rfl h16 dX1_wrongAmong_16 hP ?_
  refine lv_iadd X.1 X.2.1 dX1_wrongAmong_17 ?_
  obtain ⟨h18, hf⟩ := gd_s hf
  refine lC_21 (J := J) X (f := (J 6)) rfl h18 dX1_wrongAmong_18 hP ?_
  refine nm_l hf (fun x19 hf => ?_)
  refine lv_lstore (lv' := [(4, .long x19), (0, .ref (a 17)), (1, .int x1), (2, .int x2), (3, .int x3)]) X.1 X.2.1 dX1_wrongAmong_19 hl (by decide) rfl (fun ls hl => ?_)
  refine lv_aload_n X.1 X.2.1 dX1_wrongAmong_21 rfl (lv_at hl 1 rfl) ?_
  refine gC_17_3 X q_1_172 dX1_wrongAmong_22 hP ?_
  refine gC_0_7 X q_1_74 dX1_wrongAmong_25 hP ?_
  refine lv_iload_n X.1 X.2.1 dX1_wrongAmong_28 rfl (lv_at hl 4 rfl) ?_
  obtain ⟨h29, hf⟩ := gd_s hf
  refine lC_10 (I := I) X (f := (I 6)) rfl h29 dX1_wrongAmong_29 hP ?_
  refine lv_iconst (v := 1) X.1 X.2.1 dX1_wrongAmong_30 (by decide) ?_
  refine lv_icmp_ne (tgt := 38) X.1 X.2.1 dX1_wrongAmong_31 (by decide) (fun c31 => ?_) (fun c31 => ?_)
  · have hf := ie_s hf c31
    exact t_X1_wrongAmong_b38 X  x19 H locs ls hf  hP hS (lv_sub hl [1, 0] rfl)
  · have hf := it_s hf c31
    refine lv_iload_n X.1 X.2.1 dX1_wrongAmong_34 rfl (lv_at hl 2 rfl) ?_
    refine lv_if_gt (tgt := 41) X.1 X.2.1 dX1_wrongAmong_35 (by decide) (fun c35 => ?_) (fun c35 => ?_)
    · have hf := it_s hf c35
      refine lv_ldc2 (v := 182891520000) X.1 X.2.1 X.2.2.2.2.1 (X.2.2.2.2.2.1 _ q_3_30) dX1_wrongAmong_41 ?_
      refine lv_ldc2 (v := 182891520000) X.1 X.2.1 X.2.2.2.2.1 (X.2.2.2.2.2.1 _ q_3_30) dX1_wrongAmong_44 ?_
      refine lv_lload X.1 X.2.1 dX1_wrongAmong_47 (lv_at hl 0 rfl) ?_
      refine lv_lsub X.1 X.2.1 dX1_wrongAmong_49 ?_
      refine lv_iload_n X.1 X.2.1 dX1_wrongAmong_50 rfl (lv_at hl 2 rfl) ?_
      refine lv_i2l X.1 X.2.1 dX1_wrongAmong_51 rfl ?_
      obtain ⟨h52, hf⟩ := gd_s hf
      refine lv_ldiv X.1 X.2.1 dX1_wrongAmong_52 (of_decide_eq_true h52) ?_
      refine lv_lsub X.1 X.2.1 dX1_wrongAmong_53 ?_
      have e0 := o1 hf
      exact ret_l X hS hP e0 dX1_wrongAmong_54
    · have hf := ie_s hf c35
      exact t_X1_wrongAmong_b38 X  x19 H locs ls hf  hP hS (lv_sub hl [1, 0] rfl)
set_option maxRecDepth 100000 in
theorem c_X1_wrongAmong {l : Launch} {D : va_G} {a : Nat → Nat} {kc : Nat → ClassId} (F : Nat → Int32) (G : Nat → Int64) (I : Nat → Nat → Int32) (J : Nat → Nat → Int64) (Z : Nat → Nat → Nat → Int32) (hAp : ∀ i j, i < 44 → j < 44 → a i = a j → i = j) (x1 : Int32) (x2 : Int32) (x3 : Int32) {o0 : Int64} (hf : p_X1_wrongAmong (I 5) (I 6) (J 6) x1 x2 x3 = some o0) : Ct 44 l yX1_wrongAmong cX1_wrongAmong 6 (some .long) rm_X1_wrongAmong D (tyC kc) a (wC a kc F G I J Z) [.ref (a 17), .int x1, .int x2, .int x3] (Ql D (wC a kc F G I J Z) o0) :=
  Ct.of (by decide +kernel) hAp (Nat.le_of_ble_eq_true rfl) (fun p e s m args below meth c ls X hP hl => t_X1_wrongAmong_b0 X  x1 x2 x3 _ _ _ hf  hP va_S.rf hl)
abbrev rm_X1_leastToCome : Room := { frames := 1, cells := 0, slots := 0, locals := 25 }
set_option maxHeartbeats 4000000 in
set_option maxRecDepth 100000 in
theorem t_X1_leastToCome_b57 {p : Program} {l : Launch} {e : Env} {s : State} {m : MethodId} {args : Array Value} {below : List Frame} {meth : Method} {c : Code} {D : va_G} {a : Nat → Nat} {kc : Nat → ClassId} (X : cx 44 p s m args meth c D (tyC kc) a cX1_leastToCome 7 RX1 (some .long)) {F : Nat → Int32} {G : Nat → Int64} {I : Nat → Nat → Int32} {J : Nat → Nat → Int64} {Z : Nat → Nat → Nat → Int32}  {r : Int64} {K24 : Int32 → Int32 → (Nat → Int32) → (Nat → Int32) → (Nat → Int64) → Int32 → Int32 → Int64 → Int32 → Int32 → Option (Int64)} (kh24 : ∀  (x1 : Int32) (x2 : Int32) (x3 : Int64) (x5 : Int32) (x6 : Int32) (H : Heap) (locs : List Loc) (ls : Array Slot), K24 (F 0) (F 2) (I 5) (I 6) (J 6) x1 x2 x3 x5 x6 = some r → va_P D vwCl (wC a kc F G I J Z) H → va_S (ad a 44 s.heap.size) s.heap H locs → lv_has ls 7 [(0, .ref (a 17)), (1, .int x1), (2, .int x2), (3, .long x3), (5, .int x5), (6, .int x6)] → W p l e rm_X1_leastToCome s m args below meth c H locs 0 0 (MQ below (Ql D (wC a kc F G I J Z) r (ad a 44 s.heap.size)) args s 0 0 (ad a 44 s.heap.size)) (F0 m 24 ls [])) :
    ∀  (x1 : Int32) (x2 : Int32) (x3 : Int64) (x5 : Int32) (x6 : Int32) (H : Heap) (locs : List Loc) (ls : Array Slot), p_X1_leastToCome_b57 K24 (F 0) (F 2) (I 5) (I 6) (J 6) x1 x2 x3 x5 x6 = some r → va_P D vwCl (wC a kc F G I J Z) H → va_S (ad a 44 s.heap.size) s.heap H locs → lv_has ls 7 [(0, .ref (a 17)), (1, .int x1), (2, .int x2), (3, .long x3), (5, .int x5), (6, .int x6)] → W p l e rm_X1_leastToCome s m args below meth c H locs 0 0 (MQ below (Ql D (wC a kc F G I J Z) r (ad a 44 s.heap.size)) args s 0 0 (ad a 44 s.heap.size)) (F0 m 57 ls []) := by
  intro  x1 x2 x3 x5 x6 H locs ls hf  hP hS hl
  unfold p_X1_leastToCome_b57 at hf
  obtain ⟨x57, ex57, hf⟩ := nm_x hf
  refine lv_iinc (v := x57) (lv' := [(6, .int x57), (0, .ref (a 17)), (1, .int x1), (2, .int x2), (3, .long x3), (5, .int x5)]) X.1 X.2.1 dX1_leastToCome_57 hl (k := 5) rfl ex57 (by decide) rfl (fun ls hl => ?_)
  refine lv_goto (tgt := 24) X.1 X.2.1 dX1_leastToCome_60 (by decide) ?_
  exact kh24  x1 x2 x3 x5 x57 H locs ls hf  hP hS (lv_sub hl [1, 2, 3, 4, 5, 0] rfl)
set_option maxHeartbeats 4000000 in
set_option maxRecDepth 100000 in
theorem t_X1_leastToCome_b24x {p : Program} {l : Launch} {e : Env} {s : State} {m : MethodId} {args : Array Value} {below : List Frame} {meth : Method} {c : Code} {D : va_G} {a : Nat → Nat} {kc : Nat → ClassId} (X : cx 44 p s m args meth c D (tyC kc) a cX1_leastToCome 7 RX1 (some .long)) {F : Nat → Int32} {G : Nat → Int64} {I : Nat → Nat → Int32} {J : Nat → Nat → Int64} {Z : Nat → Nat → Nat → Int32}  {r : Int64} {K24 : Int32 → Int32 → (Nat → Int32) → (Nat → Int32) → (Nat → Int64) → Int32 → Int32 → Int64 → Int32 → Int32 → Option (Int64)} (kh24 : ∀  (x1 : Int32) (x2 : Int32) (x3 : Int64) (x5 : Int32) (x6 : Int32) (H : Heap) (locs : List Loc) (ls : Array Slot), K24 (F 0) (F 2) (I 5) (I 6) (J 6) x1 x2 x3 x5 x6 = some r → va_P D vwCl (wC a kc F G I J Z) H → va_S (ad a 44 s.heap.size) s.heap H locs → lv_has ls 7 [(0, .ref (a 17)), (1, .int x1), (2, .int x2), (3, .long x3), (5, .int x5), (6, .int x6)] → W p l e rm_X1_leastToCome s m args below meth c H locs 0 0 (MQ below (Ql D (wC a kc F G I J Z) r (ad a 44 s.heap.size)) args s 0 0 (ad a 44 s.heap.size)) (F0 m 24 ls [])) :
    ∀  (x1 : Int32) (x2 : Int32) (x3 : Int64) (x5 : Int32) (x6 : Int32) (H : Heap) (locs : List Loc) (ls : Array Slot), p_X1_leastToCome_b24x K24 (F 0) (F 2) (I 5) (I 6) (J 6) x1 x2 x3 x5 x6 = some r → va_P D vwCl (wC a kc F G I J Z) H → va_S (ad a 44 s.heap.size) s.heap H locs → lv_has ls 7 [(0, .ref (a 17)), (1, .int x1), (2, .int x2), (3, .long x3), (5, .int x5), (6, .int x6)] → W p l e rm_X1_leastToCome s m args below meth c H locs 0 0 (MQ below (Ql D (wC a kc F G I J Z) r (ad a 44 s.heap.size)) args s 0 0 (ad a 44 s.heap.size)) (F0 m 24 ls []) := by
  intro  x1 x2 x3 x5 x6 H locs ls hf  hP hS hl
  unfold p_X1_leastToCome_b24x at hf
  refine lv_iload X.1 X.2.1 dX1_leastToCome_24 (lv_at hl 5 rfl) ?_
  refine lv_aload_n X.1 X.2.1 dX1_leastToCome_26 rfl (lv_at hl 0 rfl) ?_
  refine gC_17_3 X q_1_172 dX1_leastToCome_27 hP ?_
  refine gC_0_10 (F := F) X (v := (F 2)) rfl q_1_87 dX1_leastToCome_30 hP ?_
  refine lv_icmp_ge (tgt := 63) X.1 X.2.1 dX1_leastToCome_33 (by decide) (fun c33 => ?_) (fun c33 => ?_)
  · have hf := it_s hf c33
    refine lv_lload_n X.1 X.2.1 dX1_leastToCome_63 rfl (lv_at hl 3 rfl) ?_
    have e0 := o1 hf
    exact ret_l X hS hP e0 dX1_leastToCome_64
  · have hf := ie_s hf c33
    refine lv_iload_n X.1 X.2.1 dX1_leastToCome_36 rfl (lv_at hl 2 rfl) ?_
    refine lv_iload X.1 X.2.1 dX1_leastToCome_37 (lv_at hl 5 rfl) ?_
    obtain ⟨r39, ho, hf⟩ := b1_s hf
    refine call_si (rest := []) X (c_X3_has x2 x6 ho) q_3_46 q_2_178 q_1_2 q_2_179 ok_X3_has rfl ⟨Nat.le_of_ble_eq_true rfl, Nat.le_of_ble_eq_true rfl⟩ rfl rfl hl.1 rfl (Nat.le_of_ble_eq_true rfl) dX1_leastToCome_39 hP hS (fun H locs hP hS => ?_)
    refine lv_if_ne (tgt := 57) X.1 X.2.1 dX1_leastToCome_42 (by decide) (fun c42 => ?_) (fun c42 => ?_)
    · have hf := ie_s hf c42
      exact t_X1_leastToCome_b57 X kh24  x1 x2 x3 x5 x6 H locs ls hf  hP hS (lv_sub hl [0, 1, 2, 3, 4, 5] rfl)
    · have hf := it_s hf c42
      refine lv_lload_n X.1 X.2.1 dX1_leastToCome_45 rfl (lv_at hl 3 rfl) ?_
      refine lv_aload_n X.1 X.2.1 dX1_leastToCome_46 rfl (lv_at hl 0 rfl) ?_
      refine lv_iload X.1 X.2.1 dX1_leastToCome_47 (lv_at hl 4 rfl) ?_
      refine lv_iload_n X.1 X.2.1 dX1_leastToCome_49 rfl (lv_at hl 1 rfl) ?_
      refine lv_iload X.1 X.2.1 dX1_leastToCome_50 (lv_at hl 5 rfl) ?_
      obtain ⟨r52, ho, hf⟩ := b1_s hf
      refine call_vl (rest := [.long x3]) X (c_X1_wrongAmong F G I J Z X.2.2.2.2.2.2.2.1 x5 x1 x6 ho) q_3_47 q_3_49 qs_yX1_wrongAmong q_1_5 q_3_50 ok_X1_wrongAmong rfl 17 rfl rfl ⟨Nat.le_of_ble_eq_true rfl, Nat.le_of_ble_eq_true rfl⟩ rfl rfl hl.1 rfl (Nat.le_of_ble_eq_true rfl) dX1_leastToCome_52 hP hS (fun H locs hP hS => ?_)
      refine lv_ladd X.1 X.2.1 dX1_leastToCome_55 ?_
      refine nm_l hf (fun x56 hf => ?_)
      refine lv_lstore_n (lv' := [(3, .long x56), (0, .ref (a 17)), (1, .int x1), (2, .int x2), (5, .int x5), (6, .int x6)]) X.1 X.2.1 dX1_leastToCome_56 rfl hl (by decide) rfl (fun ls hl => ?_)
      exact t_X1_leastToCome_b57 X kh24  x1 x2 x56 x5 x6 H locs ls hf  hP hS (lv_sub hl [1, 2, 3, 0, 4, 5] rfl)
set_option maxRecDepth 100000 in
theorem t_X1_leastToCome_b24 {p : Program} {l : Launch} {e : Env} {s : State} {m : MethodId} {args : Array Value} {below : List Frame} {meth : Method} {c : Code} {D : va_G} {a : Nat → Nat} {kc : Nat → ClassId} (X : cx 44 p s m args meth c D (tyC kc) a cX1_leastToCome 7 RX1 (some .long)) {F : Nat → Int32} {G : Nat → Int64} {I : Nat → Nat → Int32} {J : Nat → Nat → Int64} {Z : Nat → Nat → Nat → Int32}  {r : Int64} :
    ∀ (n : Nat)  (x1 : Int32) (x2 : Int32) (x3 : Int64) (x5 : Int32) (x6 : Int32) (H : Heap) (locs : List Loc) (ls : Array Slot), p_X1_leastToCome_b24 n (F 0) (F 2) (I 5) (I 6) (J 6) x1 x2 x3 x5 x6 = some r → va_P D vwCl (wC a kc F G I J Z) H → va_S (ad a 44 s.heap.size) s.heap H locs → lv_has ls 7 [(0, .ref (a 17)), (1, .int x1), (2, .int x2), (3, .long x3), (5, .int x5), (6, .int x6)] → W p l e rm_X1_leastToCome s m args below meth c H locs 0 0 (MQ below (Ql D (wC a kc F G I J Z) r (ad a 44 s.heap.size)) args s 0 0 (ad a 44 s.heap.size)) (F0 m 24 ls []) := by
  intro n
  induction n with
  | zero => intro  x1 x2 x3 x5 x6 H locs ls hf  hP hS hl; exact (nos hf).elim
  | succ n ih => exact t_X1_leastToCome_b24x X ih
set_option maxHeartbeats 4000000 in
set_option maxRecDepth 100000 in
theorem t_X1_leastToCome_b0 {p : Program} {l : Launch} {e : Env} {s : State} {m : MethodId} {args : Array Value} {below : List Frame} {meth : Method} {c : Code} {D : va_G} {a : Nat → Nat} {kc : Nat → ClassId} (X : cx 44 p s m args meth c D (tyC kc) a cX1_leastToCome 7 RX1 (some .long)) {F : Nat → Int32} {G : Nat → Int64} {I : Nat → Nat → Int32} {J : Nat → Nat → Int64} {Z : Nat → Nat → Nat → Int32}  {r : Int64} :
    ∀  (x1 : Int32) (x2 : Int32) (H : Heap) (locs : List Loc) (ls : Array Slot), p_X1_leastToCome_b0 (F 0) (F 2) (I 5) (I 6) (J 6) x1 x2 = some r → va_P D vwCl (wC a kc F G I J Z) H → va_S (ad a 44 s.heap.size) s.heap H locs → lv_has ls 7 [(0, .ref (a 17)), (1, .int x1), (2, .int x2)] → W p l e rm_X1_leastToCome s m args below meth c H locs 0 0 (MQ below (Ql D (wC a kc F G I J Z) r (ad a 44 s.heap.size)) args s 0 0 (ad a 44 s.heap.size)) (F0 m 0 ls []) := by
  intro  x1 x2 H locs ls hf  hP hS hl
  unfold p_X1_leastToCome_b0 at hf
  refine lv_lconst (v := 0) X.1 X.2.1 dX1_leastToCome_0 (by decide) ?_
  refine lv_lstore_n (lv' := [(3, .long 0), (0, .ref (a 17)), (1, .int x1), (2, .int x2)]) X.1 X.2.1 dX1_leastToCome_1 rfl hl (by decide) rfl (fun ls hl => ?_)
  refine lv_aload_n X.1 X.2.1 dX1_leastToCome_2 rfl (lv_at hl 1 rfl) ?_
  refine gC_17_3 X q_1_172 dX1_leastToCome_3 hP ?_
  refine gC_0_8 (F := F) X (v := (F 0)) rfl q_1_83 dX1_leastToCome_6 hP ?_
  refine lv_aload_n X.1 X.2.1 dX1_leastToCome_9 rfl (lv_at hl 1 rfl) ?_
  refine gC_17_3 X q_1_172 dX1_leastToCome_10 hP ?_
  refine gC_0_10 (F := F) X (v := (F 2)) rfl q_1_87 dX1_leastToCome_13 hP ?_
  refine lv_isub X.1 X.2.1 dX1_leastToCome_16 ?_
  refine lv_iconst (v := 1) X.1 X.2.1 dX1_leastToCome_17 (by decide) ?_
  refine lv_iadd X.1 X.2.1 dX1_leastToCome_18 ?_
  refine nm_i hf (fun x19 hf => ?_)
  refine lv_istore (lv' := [(5, .int x19), (3, .long 0), (0, .ref (a 17)), (1, .int x1), (2, .int x2)]) X.1 X.2.1 dX1_leastToCome_19 hl (by decide) rfl (fun ls hl => ?_)
  refine lv_iconst (v := 0) X.1 X.2.1 dX1_leastToCome_21 (by decide) ?_
  refine lv_istore (lv' := [(6, .int 0), (5, .int x19), (3, .long 0), (0, .ref (a 17)), (1, .int x1), (2, .int x2)]) X.1 X.2.1 dX1_leastToCome_22 hl (by decide) rfl (fun ls hl => ?_)
  exact t_X1_leastToCome_b24 X 4096  x1 x2 0 x19 0 H locs ls hf  hP hS (lv_sub hl [3, 4, 5, 2, 1, 0] rfl)
set_option maxRecDepth 100000 in
theorem c_X1_leastToCome {l : Launch} {D : va_G} {a : Nat → Nat} {kc : Nat → ClassId} (F : Nat → Int32) (G : Nat → Int64) (I : Nat → Nat → Int32) (J : Nat → Nat → Int64) (Z : Nat → Nat → Nat → Int32) (hAp : ∀ i j, i < 44 → j < 44 → a i = a j → i = j) (x1 : Int32) (x2 : Int32) {o0 : Int64} (hf : p_X1_leastToCome (F 0) (F 2) (I 5) (I 6) (J 6) x1 x2 = some o0) : Ct 44 l yX1_leastToCome cX1_leastToCome 7 (some .long) rm_X1_leastToCome D (tyC kc) a (wC a kc F G I J Z) [.ref (a 17), .int x1, .int x2] (Ql D (wC a kc F G I J Z) o0) :=
  Ct.of (by decide +kernel) hAp (Nat.le_of_ble_eq_true rfl) (fun p e s m args below meth c ls X hP hl => t_X1_leastToCome_b0 X  x1 x2 _ _ _ hf  hP va_S.rf hl)
abbrev rm_X1_onlyLostOutside : Room := { frames := 1, cells := 0, slots := 0, locals := 21 }
set_option maxHeartbeats 4000000 in
set_option maxRecDepth 100000 in
theorem t_X1_onlyLostOutside_b36 {p : Program} {l : Launch} {e : Env} {s : State} {m : MethodId} {args : Array Value} {below : List Frame} {meth : Method} {c : Code} {D : va_G} {a : Nat → Nat} {kc : Nat → ClassId} (X : cx 44 p s m args meth c D (tyC kc) a cX1_onlyLostOutside 3 RX1 (some .boolean)) {F : Nat → Int32} {G : Nat → Int64} {I : Nat → Nat → Int32} {J : Nat → Nat → Int64} {Z : Nat → Nat → Nat → Int32}  {r : Int32} {K2 : Int32 → (Nat → Int32) → Int32 → Int32 → Option (Int32)} (kh2 : ∀  (x1 : Int32) (x2 : Int32) (H : Heap) (locs : List Loc) (ls : Array Slot), K2 (F 2) (I 6) x1 x2 = some r → va_P D vwCl (wC a kc F G I J Z) H → va_S (ad a 44 s.heap.size) s.heap H locs → lv_has ls 3 [(0, .ref (a 17)), (1, .int x1), (2, .int x2)] → W p l e rm_X1_onlyLostOutside s m args below meth c H locs 0 0 (MQ below (Qi D (wC a kc F G I J Z) r (ad a 44 s.heap.size)) args s 0 0 (ad a 44 s.heap.size)) (F0 m 2 ls [])) :
    ∀  (x1 : Int32) (x2 : Int32) (H : Heap) (locs : List Loc) (ls : Array Slot), p_X1_onlyLostOutside_b36 K2 (F 2) (I 6) x1 x2 = some r → va_P D vwCl (wC a kc F G I J Z) H → va_S (ad a 44 s.heap.size) s.heap H locs → lv_has ls 3 [(0, .ref (a 17)), (1, .int x1), (2, .int x2)] → W p l e rm_X1_onlyLostOutside s m args below meth c H locs 0 0 (MQ below (Qi D (wC a kc F G I J Z) r (ad a 44 s.heap.size)) args s 0 0 (ad a 44 s.heap.size)) (F0 m 36 ls []) := by
  intro  x1 x2 H locs ls hf  hP hS hl
  unfold p_X1_onlyLostOutside_b36 at hf
  obtain ⟨x36, ex36, hf⟩ := nm_x hf
  refine lv_iinc (v := x36) (lv' := [(2, .int x36), (0, .ref (a 17)), (1, .int x1)]) X.1 X.2.1 dX1_onlyLostOutside_36 hl (k := 2) rfl ex36 (by decide) rfl (fun ls hl => ?_)
  refine lv_goto (tgt := 2) X.1 X.2.1 dX1_onlyLostOutside_39 (by decide) ?_
  exact kh2  x1 x36 H locs ls hf  hP hS (lv_sub hl [1, 2, 0] rfl)
set_option maxHeartbeats 4000000 in
set_option maxRecDepth 100000 in
theorem t_X1_onlyLostOutside_b2x {p : Program} {l : Launch} {e : Env} {s : State} {m : MethodId} {args : Array Value} {below : List Frame} {meth : Method} {c : Code} {D : va_G} {a : Nat → Nat} {kc : Nat → ClassId} (X : cx 44 p s m args meth c D (tyC kc) a cX1_onlyLostOutside 3 RX1 (some .boolean)) {F : Nat → Int32} {G : Nat → Int64} {I : Nat → Nat → Int32} {J : Nat → Nat → Int64} {Z : Nat → Nat → Nat → Int32}  {r : Int32} {K2 : Int32 → (Nat → Int32) → Int32 → Int32 → Option (Int32)} (kh2 : ∀  (x1 : Int32) (x2 : Int32) (H : Heap) (locs : List Loc) (ls : Array Slot), K2 (F 2) (I 6) x1 x2 = some r → va_P D vwCl (wC a kc F G I J Z) H → va_S (ad a 44 s.heap.size) s.heap H locs → lv_has ls 3 [(0, .ref (a 17)), (1, .int x1), (2, .int x2)] → W p l e rm_X1_onlyLostOutside s m args below meth c H locs 0 0 (MQ below (Qi D (wC a kc F G I J Z) r (ad a 44 s.heap.size)) args s 0 0 (ad a 44 s.heap.size)) (F0 m 2 ls [])) :
    ∀  (x1 : Int32) (x2 : Int32) (H : Heap) (locs : List Loc) (ls : Array Slot), p_X1_onlyLostOutside_b2x K2 (F 2) (I 6) x1 x2 = some r → va_P D vwCl (wC a kc F G I J Z) H → va_S (ad a 44 s.heap.size) s.heap H locs → lv_has ls 3 [(0, .ref (a 17)), (1, .int x1), (2, .int x2)] → W p l e rm_X1_onlyLostOutside s m args below meth c H locs 0 0 (MQ below (Qi D (wC a kc F G I J Z) r (ad a 44 s.heap.size)) args s 0 0 (ad a 44 s.heap.size)) (F0 m 2 ls []) := by
  intro  x1 x2 H locs ls hf  hP hS hl
  unfold p_X1_onlyLostOutside_b2x at hf
  refine lv_iload_n X.1 X.2.1 dX1_onlyLostOutside_2 rfl (lv_at hl 2 rfl) ?_
  refine lv_aload_n X.1 X.2.1 dX1_onlyLostOutside_3 rfl (lv_at hl 0 rfl) ?_
  refine gC_17_3 X q_1_172 dX1_onlyLostOutside_4 hP ?_
  refine gC_0_10 (F := F) X (v := (F 2)) rfl q_1_87 dX1_onlyLostOutside_7 hP ?_
  refine lv_icmp_ge (tgt := 42) X.1 X.2.1 dX1_onlyLostOutside_10 (by decide) (fun c10 => ?_) (fun c10 => ?_)
  · have hf := it_s hf c10
    refine lv_iconst (v := 1) X.1 X.2.1 dX1_onlyLostOutside_42 (by decide) ?_
    have e0 := o1 hf
    exact ret_z X hS hP e0 (by decide) dX1_onlyLostOutside_43
  · have hf := ie_s hf c10
    refine lv_iload_n X.1 X.2.1 dX1_onlyLostOutside_13 rfl (lv_at hl 1 rfl) ?_
    refine lv_iload_n X.1 X.2.1 dX1_onlyLostOutside_14 rfl (lv_at hl 2 rfl) ?_
    obtain ⟨r15, ho, hf⟩ := b1_s hf
    refine call_si (rest := []) X (c_X3_has x1 x2 ho) q_3_46 q_2_178 q_1_2 q_2_179 ok_X3_has rfl ⟨Nat.le_of_ble_eq_true rfl, Nat.le_of_ble_eq_true rfl⟩ rfl rfl hl.1 rfl (Nat.le_of_ble_eq_true rfl) dX1_onlyLostOutside_15 hP hS (fun H locs hP hS => ?_)
    refine lv_if_ne (tgt := 36) X.1 X.2.1 dX1_onlyLostOutside_18 (by decide) (fun c18 => ?_) (fun c18 => ?_)
    · have hf := ie_s hf c18
      exact t_X1_onlyLostOutside_b36 X kh2  x1 x2 H locs ls hf  hP hS (lv_sub hl [0, 1, 2] rfl)
    · have hf := it_s hf c18
      refine lv_aload_n X.1 X.2.1 dX1_onlyLostOutside_21 rfl (lv_at hl 0 rfl) ?_
      refine gC_17_3 X q_1_172 dX1_onlyLostOutside_22 hP ?_
      refine gC_0_7 X q_1_74 dX1_onlyLostOutside_25 hP ?_
      refine lv_iload_n X.1 X.2.1 dX1_onlyLostOutside_28 rfl (lv_at hl 2 rfl) ?_
      obtain ⟨h29, hf⟩ := gd_s hf
      refine lC_10 (I := I) X (f := (I 6)) rfl h29 dX1_onlyLostOutside_29 hP ?_
      refine lv_iconst (v := 1) X.1 X.2.1 dX1_onlyLostOutside_30 (by decide) ?_
      refine lv_icmp_eq (tgt := 36) X.1 X.2.1 dX1_onlyLostOutside_31 (by decide) (fun c31 => ?_) (fun c31 => ?_)
      · have hf := it_s hf c31
        exact t_X1_onlyLostOutside_b36 X kh2  x1 x2 H locs ls hf  hP hS (lv_sub hl [0, 1, 2] rfl)
      · have hf := ie_s hf c31
        refine lv_iconst (v := 0) X.1 X.2.1 dX1_onlyLostOutside_34 (by decide) ?_
        have e0 := o1 hf
        exact ret_z X hS hP e0 (by decide) dX1_onlyLostOutside_35
set_option maxRecDepth 100000 in
theorem t_X1_onlyLostOutside_b2 {p : Program} {l : Launch} {e : Env} {s : State} {m : MethodId} {args : Array Value} {below : List Frame} {meth : Method} {c : Code} {D : va_G} {a : Nat → Nat} {kc : Nat → ClassId} (X : cx 44 p s m args meth c D (tyC kc) a cX1_onlyLostOutside 3 RX1 (some .boolean)) {F : Nat → Int32} {G : Nat → Int64} {I : Nat → Nat → Int32} {J : Nat → Nat → Int64} {Z : Nat → Nat → Nat → Int32}  {r : Int32} :
    ∀ (n : Nat)  (x1 : Int32) (x2 : Int32) (H : Heap) (locs : List Loc) (ls : Array Slot), p_X1_onlyLostOutside_b2 n (F 2) (I 6) x1 x2 = some r → va_P D vwCl (wC a kc F G I J Z) H → va_S (ad a 44 s.heap.size) s.heap H locs → lv_has ls 3 [(0, .ref (a 17)), (1, .int x1), (2, .int x2)] → W p l e rm_X1_onlyLostOutside s m args below meth c H locs 0 0 (MQ below (Qi D (wC a kc F G I J Z) r (ad a 44 s.heap.size)) args s 0 0 (ad a 44 s.heap.size)) (F0 m 2 ls []) := by
  intro n
  induction n with
  | zero => intro  x1 x2 H locs ls hf  hP hS hl; exact (nos hf).elim
  | succ n ih => exact t_X1_onlyLostOutside_b2x X ih
set_option maxHeartbeats 4000000 in
set_option maxRecDepth 100000 in
theorem t_X1_onlyLostOutside_b0 {p : Program} {l : Launch} {e : Env} {s : State} {m : MethodId} {args : Array Value} {below : List Frame} {meth : Method} {c : Code} {D : va_G} {a : Nat → Nat} {kc : Nat → ClassId} (X : cx 44 p s m args meth c D (tyC kc) a cX1_onlyLostOutside 3 RX1 (some .boolean)) {F : Nat → Int32} {G : Nat → Int64} {I : Nat → Nat → Int32} {J : Nat → Nat → Int64} {Z : Nat → Nat → Nat → Int32}  {r : Int32} :
    ∀  (x1 : Int32) (H : Heap) (locs : List Loc) (ls : Array Slot), p_X1_onlyLostOutside_b0 (F 2) (I 6) x1 = some r → va_P D vwCl (wC a kc F G I J Z) H → va_S (ad a 44 s.heap.size) s.heap H locs → lv_has ls 3 [(0, .ref (a 17)), (1, .int x1)] → W p l e rm_X1_onlyLostOutside s m args below meth c H locs 0 0 (MQ below (Qi D (wC a kc F G I J Z) r (ad a 44 s.heap.size)) args s 0 0 (ad a 44 s.heap.size)) (F0 m 0 ls []) := by
  intro  x1 H locs ls hf  hP hS hl
  unfold p_X1_onlyLostOutside_b0 at hf
  refine lv_iconst (v := 0) X.1 X.2.1 dX1_onlyLostOutside_0 (by decide) ?_
  refine lv_istore_n (lv' := [(2, .int 0), (0, .ref (a 17)), (1, .int x1)]) X.1 X.2.1 dX1_onlyLostOutside_1 rfl hl (by decide) rfl (fun ls hl => ?_)
  exact t_X1_onlyLostOutside_b2 X 4096  x1 0 H locs ls hf  hP hS (lv_sub hl [1, 2, 0] rfl)
set_option maxRecDepth 100000 in
theorem c_X1_onlyLostOutside {l : Launch} {D : va_G} {a : Nat → Nat} {kc : Nat → ClassId} (F : Nat → Int32) (G : Nat → Int64) (I : Nat → Nat → Int32) (J : Nat → Nat → Int64) (Z : Nat → Nat → Nat → Int32) (hAp : ∀ i j, i < 44 → j < 44 → a i = a j → i = j) (x1 : Int32) {o0 : Int32} (hf : p_X1_onlyLostOutside (F 2) (I 6) x1 = some o0) : Ct 44 l yX1_onlyLostOutside cX1_onlyLostOutside 3 (some .boolean) rm_X1_onlyLostOutside D (tyC kc) a (wC a kc F G I J Z) [.ref (a 17), .int x1] (Qi D (wC a kc F G I J Z) o0) :=
  Ct.of (by decide +kernel) hAp (Nat.le_of_ble_eq_true rfl) (fun p e s m args below meth c ls X hP hl => t_X1_onlyLostOutside_b0 X  x1 _ _ _ hf  hP va_S.rf hl)
abbrev rm_X1_wrongNext : Room := { frames := 1, cells := 0, slots := 0, locals := 25 }
set_option maxHeartbeats 4000000 in
set_option maxRecDepth 100000 in
theorem t_X1_wrongNext_b0 {p : Program} {l : Launch} {e : Env} {s : State} {m : MethodId} {args : Array Value} {below : List Frame} {meth : Method} {c : Code} {D : va_G} {a : Nat → Nat} {kc : Nat → ClassId} (X : cx 44 p s m args meth c D (tyC kc) a cX1_wrongNext 3 RX1 (some .long)) {F : Nat → Int32} {G : Nat → Int64} {I : Nat → Nat → Int32} {J : Nat → Nat → Int64} {Z : Nat → Nat → Nat → Int32}  {r : Int64} :
    ∀  (x1 : Int32) (x2 : Int32) (H : Heap) (locs : List Loc) (ls : Array Slot), p_X1_wrongNext_b0 (F 0) (I 5) (I 6) (J 6) x1 x2 = some r → va_P D vwCl (wC a kc F G I J Z) H → va_S (ad a 44 s.heap.size) s.heap H locs → lv_has ls 3 [(0, .ref (a 17)), (1, .int x1), (2, .int x2)] → W p l e rm_X1_wrongNext s m args below meth c H locs 0 0 (MQ below (Ql D (wC a kc F G I J Z) r (ad a 44 s.heap.size)) args s 0 0 (ad a 44 s.heap.size)) (F0 m 0 ls []) := by
  intro  x1 x2 H locs ls hf  hP hS hl
  unfold p_X1_wrongNext_b0 at hf
  refine lv_aload_n X.1 X.2.1 dX1_wrongNext_0 rfl (lv_at hl 0 rfl) ?_
  refine lv_aload_n X.1 X.2.1 dX1_wrongNext_1 rfl (lv_at hl 0 rfl) ?_
  refine gC_17_3 X q_1_172 dX1_wrongNext_2 hP ?_
  refine gC_0_8 (F := F) X (v := (F 0)) rfl q_1_83 dX1_wrongNext_5 hP ?_
  refine lv_iload_n X.1 X.2.1 dX1_wrongNext_8 rfl (lv_at hl 1 rfl) ?_
  refine lv_isub X.1 X.2.1 dX1_wrongNext_9 ?_
  refine lv_iload_n X.1 X.2.1 dX1_wrongNext_10 rfl (lv_at hl 1 rfl) ?_
  refine lv_iload_n X.1 X.2.1 dX1_wrongNext_11 rfl (lv_at hl 2 rfl) ?_
  obtain ⟨r12, ho, hf⟩ := b1_s hf
  refine call_vl (rest := []) X (c_X1_wrongAmong F G I J Z X.2.2.2.2.2.2.2.1 ((F 0) - x1) x1 x2 ho) q_3_47 q_3_49 qs_yX1_wrongAmong q_1_5 q_3_50 ok_X1_wrongAmong rfl 17 rfl rfl ⟨Nat.le_of_ble_eq_true rfl, Nat.le_of_ble_eq_true rfl⟩ rfl rfl hl.1 rfl (Nat.le_of_ble_eq_true rfl) dX1_wrongNext_12 hP hS (fun H locs hP hS => ?_)
  have e0 := o1 hf
  exact ret_l X hS hP e0 dX1_wrongNext_15
set_option maxRecDepth 100000 in
theorem c_X1_wrongNext {l : Launch} {D : va_G} {a : Nat → Nat} {kc : Nat → ClassId} (F : Nat → Int32) (G : Nat → Int64) (I : Nat → Nat → Int32) (J : Nat → Nat → Int64) (Z : Nat → Nat → Nat → Int32) (hAp : ∀ i j, i < 44 → j < 44 → a i = a j → i = j) (x1 : Int32) (x2 : Int32) {o0 : Int64} (hf : p_X1_wrongNext (F 0) (I 5) (I 6) (J 6) x1 x2 = some o0) : Ct 44 l yX1_wrongNext cX1_wrongNext 3 (some .long) rm_X1_wrongNext D (tyC kc) a (wC a kc F G I J Z) [.ref (a 17), .int x1, .int x2] (Ql D (wC a kc F G I J Z) o0) :=
  Ct.of (by decide +kernel) hAp (Nat.le_of_ble_eq_true rfl) (fun p e s m args below meth c ls X hP hl => t_X1_wrongNext_b0 X  x1 x2 _ _ _ hf  hP va_S.rf hl)
abbrev rm_X1_letInLost : Room := { frames := 2, cells := 0, slots := 0, locals := 82 }
set_option maxHeartbeats 4000000 in
set_option maxRecDepth 100000 in
theorem t_X1_letInLost_b67 {p : Program} {l : Launch} {e : Env} {s : State} {m : MethodId} {args : Array Value} {below : List Frame} {meth : Method} {c : Code} {D : va_G} {a : Nat → Nat} {kc : Nat → ClassId} (X : cx 44 p s m args meth c D (tyC kc) a cX1_letInLost 9 RX1 none) {F : Nat → Int32} {J : Nat → Nat → Int64} {Z : Nat → Nat → Nat → Int32} {Gf : Nat → Int64} {If : Nat → Nat → Int32}  :
    ∀ (G : Nat → Int64) (I : Nat → Nat → Int32) (x5 : Int64) (H : Heap) (locs : List Loc) (ls : Array Slot), p_X1_letInLost_b67 (F 0) (F 2) (G 2) (I 5) (I 6) (I 7) (I 8) (J 6) x5 = some ((Gf 2), (If 7), (If 8)) → (∀ k, k ∉ ([2] : List Nat) → Gf k = G k) → (∀ k, k ∉ ([7, 8] : List Nat) → If k = I k) → va_P D vwCl (wC a kc F G I J Z) H → va_S (ad a 44 s.heap.size) s.heap H locs → lv_has ls 9 [(0, .ref (a 17)), (5, .long x5)] → W p l e rm_X1_letInLost s m args below meth c H locs 0 0 (MQ below (Qv D (wC a kc F Gf If J Z) (ad a 44 s.heap.size)) args s 0 0 (ad a 44 s.heap.size)) (F0 m 67 ls []) := by
  intro G I x5 H locs ls hf hfG hfI hP hS hl
  unfold p_X1_letInLost_b67 at hf
  refine lv_aload_n X.1 X.2.1 dX1_letInLost_67 rfl (lv_at hl 0 rfl) ?_
  refine lv_lload X.1 X.2.1 dX1_letInLost_68 (lv_at hl 1 rfl) ?_
  obtain ⟨D_least_70, D_best_70, ho, hf⟩ := b2_s hf
  refine call_vv (rest := []) X (c_X1_keep F G I J Z X.2.2.2.2.2.2.2.1 x5 ho) q_3_35 q_3_37 qs_yX1_keep q_1_5 q_3_38 ok_X1_keep rfl 17 rfl rfl ⟨Nat.le_of_ble_eq_true rfl, Nat.le_of_ble_eq_true rfl⟩ rfl rfl hl.1 rfl (Nat.le_of_ble_eq_true rfl) dX1_letInLost_70 hP hS (fun H locs hP hS => ?_)
  obtain ⟨e0, hf⟩ := o2 hf
  obtain ⟨e1, hf⟩ := o2 hf
  have e2 := o1 hf
  have EG : Gf = (va_up G 2 D_least_70) := frm_eq (frm_up hfG (by decide)) (frm_c (e0).symm frm_n)
  have EI : If = (va_up I 7 D_best_70) := frm_eq (frm_up hfI (by decide)) (frm_c (e1).symm (frm_c (e2).symm frm_n))
  exact ret_v X hS (by rw [EG, EI]; exact hP) dX1_letInLost_73
set_option maxHeartbeats 4000000 in
set_option maxRecDepth 100000 in
theorem t_X1_letInLost_b61 {p : Program} {l : Launch} {e : Env} {s : State} {m : MethodId} {args : Array Value} {below : List Frame} {meth : Method} {c : Code} {D : va_G} {a : Nat → Nat} {kc : Nat → ClassId} (X : cx 44 p s m args meth c D (tyC kc) a cX1_letInLost 9 RX1 none) {F : Nat → Int32} {J : Nat → Nat → Int64} {Z : Nat → Nat → Nat → Int32} {Gf : Nat → Int64} {If : Nat → Nat → Int32}  {K9 : Int32 → Int32 → Int64 → (Nat → Int32) → (Nat → Int32) → (Nat → Int32) → (Nat → Int32) → (Nat → Int64) → Int32 → Int32 → Int64 → Int32 → Int32 → Option (Int64 × (Nat → Int32) × (Nat → Int32))} (kh9 : ∀ (G : Nat → Int64) (I : Nat → Nat → Int32) (x1 : Int32) (x2 : Int32) (x5 : Int64) (x7 : Int32) (x8 : Int32) (H : Heap) (locs : List Loc) (ls : Array Slot), K9 (F 0) (F 2) (G 2) (I 5) (I 6) (I 7) (I 8) (J 6) x1 x2 x5 x7 x8 = some ((Gf 2), (If 7), (If 8)) → (∀ k, k ∉ ([2] : List Nat) → Gf k = G k) → (∀ k, k ∉ ([7, 8] : List Nat) → If k = I k) → va_P D vwCl (wC a kc F G I J Z) H → va_S (ad a 44 s.heap.size) s.heap H locs → lv_has ls 9 [(0, .ref (a 17)), (1, .int x1), (2, .int x2), (5, .long x5), (7, .int x7), (8, .int x8)] → W p l e rm_X1_letInLost s m args below meth c H locs 0 0 (MQ below (Qv D (wC a kc F Gf If J Z) (ad a 44 s.heap.size)) args s 0 0 (ad a 44 s.heap.size)) (F0 m 9 ls [])) :
    ∀ (G : Nat → Int64) (I : Nat → Nat → Int32) (x1 : Int32) (x2 : Int32) (x5 : Int64) (x7 : Int32) (x8 : Int32) (H : Heap) (locs : List Loc) (ls : Array Slot), p_X1_letInLost_b61 K9 (F 0) (F 2) (G 2) (I 5) (I 6) (I 7) (I 8) (J 6) x1 x2 x5 x7 x8 = some ((Gf 2), (If 7), (If 8)) → (∀ k, k ∉ ([2] : List Nat) → Gf k = G k) → (∀ k, k ∉ ([7, 8] : List Nat) → If k = I k) → va_P D vwCl (wC a kc F G I J Z) H → va_S (ad a 44 s.heap.size) s.heap H locs → lv_has ls 9 [(0, .ref (a 17)), (1, .int x1), (2, .int x2), (5, .long x5), (7, .int x7), (8, .int x8)] → W p l e rm_X1_letInLost s m args below meth c H locs 0 0 (MQ below (Qv D (wC a kc F Gf If J Z) (ad a 44 s.heap.size)) args s 0 0 (ad a 44 s.heap.size)) (F0 m 61 ls []) := by
  intro G I x1 x2 x5 x7 x8 H locs ls hf hfG hfI hP hS hl
  unfold p_X1_letInLost_b61 at hf
  obtain ⟨x61, ex61, hf⟩ := nm_x hf
  refine lv_iinc (v := x61) (lv' := [(8, .int x61), (0, .ref (a 17)), (1, .int x1), (2, .int x2), (5, .long x5), (7, .int x7)]) X.1 X.2.1 dX1_letInLost_61 hl (k := 5) rfl ex61 (by decide) rfl (fun ls hl => ?_)
  refine lv_goto (tgt := 9) X.1 X.2.1 dX1_letInLost_64 (by decide) ?_
  exact kh9 G I x1 x2 x5 x7 x61 H locs ls hf hfG hfI hP hS (lv_sub hl [1, 2, 3, 4, 5, 0] rfl)
set_option maxHeartbeats 4000000 in
set_option maxRecDepth 100000 in
theorem t_X1_letInLost_b9x {p : Program} {l : Launch} {e : Env} {s : State} {m : MethodId} {args : Array Value} {below : List Frame} {meth : Method} {c : Code} {D : va_G} {a : Nat → Nat} {kc : Nat → ClassId} (X : cx 44 p s m args meth c D (tyC kc) a cX1_letInLost 9 RX1 none) {F : Nat → Int32} {J : Nat → Nat → Int64} {Z : Nat → Nat → Nat → Int32} {Gf : Nat → Int64} {If : Nat → Nat → Int32}  {K9 : Int32 → Int32 → Int64 → (Nat → Int32) → (Nat → Int32) → (Nat → Int32) → (Nat → Int32) → (Nat → Int64) → Int32 → Int32 → Int64 → Int32 → Int32 → Option (Int64 × (Nat → Int32) × (Nat → Int32))} (kh9 : ∀ (G : Nat → Int64) (I : Nat → Nat → Int32) (x1 : Int32) (x2 : Int32) (x5 : Int64) (x7 : Int32) (x8 : Int32) (H : Heap) (locs : List Loc) (ls : Array Slot), K9 (F 0) (F 2) (G 2) (I 5) (I 6) (I 7) (I 8) (J 6) x1 x2 x5 x7 x8 = some ((Gf 2), (If 7), (If 8)) → (∀ k, k ∉ ([2] : List Nat) → Gf k = G k) → (∀ k, k ∉ ([7, 8] : List Nat) → If k = I k) → va_P D vwCl (wC a kc F G I J Z) H → va_S (ad a 44 s.heap.size) s.heap H locs → lv_has ls 9 [(0, .ref (a 17)), (1, .int x1), (2, .int x2), (5, .long x5), (7, .int x7), (8, .int x8)] → W p l e rm_X1_letInLost s m args below meth c H locs 0 0 (MQ below (Qv D (wC a kc F Gf If J Z) (ad a 44 s.heap.size)) args s 0 0 (ad a 44 s.heap.size)) (F0 m 9 ls [])) :
    ∀ (G : Nat → Int64) (I : Nat → Nat → Int32) (x1 : Int32) (x2 : Int32) (x5 : Int64) (x7 : Int32) (x8 : Int32) (H : Heap) (locs : List Loc) (ls : Array Slot), p_X1_letInLost_b9x K9 (F 0) (F 2) (G 2) (I 5) (I 6) (I 7) (I 8) (J 6) x1 x2 x5 x7 x8 = some ((Gf 2), (If 7), (If 8)) → (∀ k, k ∉ ([2] : List Nat) → Gf k = G k) → (∀ k, k ∉ ([7, 8] : List Nat) → If k = I k) → va_P D vwCl (wC a kc F G I J Z) H → va_S (ad a 44 s.heap.size) s.heap H locs → lv_has ls 9 [(0, .ref (a 17)), (1, .int x1), (2, .int x2), (5, .long x5), (7, .int x7), (8, .int x8)] → W p l e rm_X1_letInLost s m args below meth c H locs 0 0 (MQ below (Qv D (wC a kc F Gf If J Z) (ad a 44 s.heap.size)) args s 0 0 (ad a 44 s.heap.size)) (F0 m 9 ls []) := by
  intro G I x1 x2 x5 x7 x8 H locs ls hf hfG hfI hP hS hl
  unfold p_X1_letInLost_b9x at hf
  refine lv_iload X.1 X.2.1 dX1_letInLost_9 (lv_at hl 5 rfl) ?_
  refine lv_aload_n X.1 X.2.1 dX1_letInLost_11 rfl (lv_at hl 0 rfl) ?_
  refine gC_17_3 X q_1_172 dX1_letInLost_12 hP ?_
  refine gC_0_10 (F := F) X (v := (F 2)) rfl q_1_87 dX1_letInLost_15 hP ?_
  refine lv_icmp_ge (tgt := 67) X.1 X.2.1 dX1_letInLost_18 (by decide) (fun c18 => ?_) (fun c18 => ?_)
  · have hf := it_s hf c18
    exact t_X1_letInLost_b67 X G I x5 H locs ls hf hfG hfI hP hS (lv_sub hl [0, 3] rfl)
  · have hf := ie_s hf c18
    refine lv_iload X.1 X.2.1 dX1_letInLost_21 (lv_at hl 4 rfl) ?_
    refine lv_bipush (v := 6) X.1 X.2.1 dX1_letInLost_23 (by decide) ?_
    refine lv_icmp_ge (tgt := 67) X.1 X.2.1 dX1_letInLost_25 (by decide) (fun c25 => ?_) (fun c25 => ?_)
    · have hf := it_s hf c25
      exact t_X1_letInLost_b67 X G I x5 H locs ls hf hfG hfI hP hS (lv_sub hl [0, 3] rfl)
    · have hf := ie_s hf c25
      refine lv_iload_n X.1 X.2.1 dX1_letInLost_28 rfl (lv_at hl 2 rfl) ?_
      refine lv_iload X.1 X.2.1 dX1_letInLost_29 (lv_at hl 5 rfl) ?_
      obtain ⟨r31, ho, hf⟩ := b1_s hf
      refine call_si (rest := []) X (c_X3_has x2 x8 ho) q_3_46 q_2_178 q_1_2 q_2_179 ok_X3_has rfl ⟨Nat.le_of_ble_eq_true rfl, Nat.le_of_ble_eq_true rfl⟩ rfl rfl hl.1 rfl (Nat.le_of_ble_eq_true rfl) dX1_letInLost_31 hP hS (fun H locs hP hS => ?_)
      refine lv_if_ne (tgt := 61) X.1 X.2.1 dX1_letInLost_34 (by decide) (fun c34 => ?_) (fun c34 => ?_)
      · have hf := ie_s hf c34
        exact t_X1_letInLost_b61 X kh9 G I x1 x2 x5 x7 x8 H locs ls hf hfG hfI hP hS (lv_sub hl [0, 1, 2, 3, 4, 5] rfl)
      · have hf := it_s hf c34
        refine lv_lload X.1 X.2.1 dX1_letInLost_37 (lv_at hl 3 rfl) ?_
        refine lv_aload_n X.1 X.2.1 dX1_letInLost_39 rfl (lv_at hl 0 rfl) ?_
        refine lv_iload_n X.1 X.2.1 dX1_letInLost_40 rfl (lv_at hl 1 rfl) ?_
        refine lv_iload X.1 X.2.1 dX1_letInLost_41 (lv_at hl 5 rfl) ?_
        obtain ⟨r43, ho, hf⟩ := b1_s hf
        refine call_vl (rest := [.long x5]) X (c_X1_wrongNext F G I J Z X.2.2.2.2.2.2.2.1 x1 x8 ho) q_3_59 q_3_61 qs_yX1_wrongNext q_1_5 q_3_62 ok_X1_wrongNext rfl 17 rfl rfl ⟨Nat.le_of_ble_eq_true rfl, Nat.le_of_ble_eq_true rfl⟩ rfl rfl hl.1 rfl (Nat.le_of_ble_eq_true rfl) dX1_letInLost_43 hP hS (fun H locs hP hS => ?_)
        refine lv_ladd X.1 X.2.1 dX1_letInLost_46 ?_
        refine nm_l hf (fun x47 hf => ?_)
        refine lv_lstore (lv' := [(5, .long x47), (0, .ref (a 17)), (1, .int x1), (2, .int x2), (7, .int x7), (8, .int x8)]) X.1 X.2.1 dX1_letInLost_47 hl (by decide) rfl (fun ls hl => ?_)
        refine lv_aload_n X.1 X.2.1 dX1_letInLost_49 rfl (lv_at hl 1 rfl) ?_
        refine gC_17_4 X q_1_173 dX1_letInLost_50 hP ?_
        refine lv_iload X.1 X.2.1 dX1_letInLost_53 (lv_at hl 4 rfl) ?_
        refine lv_iload X.1 X.2.1 dX1_letInLost_55 (lv_at hl 5 rfl) ?_
        obtain ⟨h57, hf⟩ := gd_s hf
        obtain ⟨D_row_57, eD_row_57, hf⟩ := nm_x hf
        refine sC_19 (I := I) X h57 eD_row_57 dX1_letInLost_57 hP hS (fun H locs hP hS => ?_)
        obtain ⟨x58, ex58, hf⟩ := nm_x hf
        refine lv_iinc (v := x58) (lv' := [(7, .int x58), (5, .long x47), (0, .ref (a 17)), (1, .int x1), (2, .int x2), (8, .int x8)]) X.1 X.2.1 dX1_letInLost_58 hl (k := 4) rfl ex58 (by decide) rfl (fun ls hl => ?_)
        exact t_X1_letInLost_b61 X kh9 G (va_up I 8 D_row_57) x1 x2 x47 x58 x8 H locs ls hf hfG (frm_up hfI (by decide)) hP hS (lv_sub hl [2, 3, 4, 1, 0, 5] rfl)
set_option maxRecDepth 100000 in
theorem t_X1_letInLost_b9 {p : Program} {l : Launch} {e : Env} {s : State} {m : MethodId} {args : Array Value} {below : List Frame} {meth : Method} {c : Code} {D : va_G} {a : Nat → Nat} {kc : Nat → ClassId} (X : cx 44 p s m args meth c D (tyC kc) a cX1_letInLost 9 RX1 none) {F : Nat → Int32} {J : Nat → Nat → Int64} {Z : Nat → Nat → Nat → Int32} {Gf : Nat → Int64} {If : Nat → Nat → Int32}  :
    ∀ (n : Nat) (G : Nat → Int64) (I : Nat → Nat → Int32) (x1 : Int32) (x2 : Int32) (x5 : Int64) (x7 : Int32) (x8 : Int32) (H : Heap) (locs : List Loc) (ls : Array Slot), p_X1_letInLost_b9 n (F 0) (F 2) (G 2) (I 5) (I 6) (I 7) (I 8) (J 6) x1 x2 x5 x7 x8 = some ((Gf 2), (If 7), (If 8)) → (∀ k, k ∉ ([2] : List Nat) → Gf k = G k) → (∀ k, k ∉ ([7, 8] : List Nat) → If k = I k) → va_P D vwCl (wC a kc F G I J Z) H → va_S (ad a 44 s.heap.size) s.heap H locs → lv_has ls 9 [(0, .ref (a 17)), (1, .int x1), (2, .int x2), (5, .long x5), (7, .int x7), (8, .int x8)] → W p l e rm_X1_letInLost s m args below meth c H locs 0 0 (MQ below (Qv D (wC a kc F Gf If J Z) (ad a 44 s.heap.size)) args s 0 0 (ad a 44 s.heap.size)) (F0 m 9 ls []) := by
  intro n
  induction n with
  | zero => intro G I x1 x2 x5 x7 x8 H locs ls hf hfG hfI hP hS hl; exact (nos hf).elim
  | succ n ih => exact t_X1_letInLost_b9x X ih
set_option maxHeartbeats 4000000 in
set_option maxRecDepth 100000 in
theorem t_X1_letInLost_b0 {p : Program} {l : Launch} {e : Env} {s : State} {m : MethodId} {args : Array Value} {below : List Frame} {meth : Method} {c : Code} {D : va_G} {a : Nat → Nat} {kc : Nat → ClassId} (X : cx 44 p s m args meth c D (tyC kc) a cX1_letInLost 9 RX1 none) {F : Nat → Int32} {J : Nat → Nat → Int64} {Z : Nat → Nat → Nat → Int32} {Gf : Nat → Int64} {If : Nat → Nat → Int32}  :
    ∀ (G : Nat → Int64) (I : Nat → Nat → Int32) (x1 : Int32) (x2 : Int32) (x3 : Int64) (H : Heap) (locs : List Loc) (ls : Array Slot), p_X1_letInLost_b0 (F 0) (F 2) (G 2) (I 5) (I 6) (I 7) (I 8) (J 6) x1 x2 x3 = some ((Gf 2), (If 7), (If 8)) → (∀ k, k ∉ ([2] : List Nat) → Gf k = G k) → (∀ k, k ∉ ([7, 8] : List Nat) → If k = I k) → va_P D vwCl (wC a kc F G I J Z) H → va_S (ad a 44 s.heap.size) s.heap H locs → lv_has ls 9 [(0, .ref (a 17)), (1, .int x1), (2, .int x2), (3, .long x3)] → W p l e rm_X1_letInLost s m args below meth c H locs 0 0 (MQ below (Qv D (wC a kc F Gf If J Z) (ad a 44 s.heap.size)) args s 0 0 (ad a 44 s.heap.size)) (F0 m 0 ls []) := by
  intro G I x1 x2 x3 H locs ls hf hfG hfI hP hS hl
  unfold p_X1_letInLost_b0 at hf
  refine lv_lload_n X.1 X.2.1 dX1_letInLost_0 rfl (lv_at hl 3 rfl) ?_
  refine lv_lstore (lv' := [(5, .long x3), (0, .ref (a 17)), (1, .int x1), (2, .int x2), (3, .long x3)]) X.1 X.2.1 dX1_letInLost_1 hl (by decide) rfl (fun ls hl => ?_)
  refine lv_iload_n X.1 X.2.1 dX1_letInLost_3 rfl (lv_at hl 2 rfl) ?_
  refine lv_istore (lv' := [(7, .int x1), (5, .long x3), (0, .ref (a 17)), (1, .int x1), (2, .int x2), (3, .long x3)]) X.1 X.2.1 dX1_letInLost_4 hl (by decide) rfl (fun ls hl => ?_)
  refine lv_iconst (v := 0) X.1 X.2.1 dX1_letInLost_6 (by decide) ?_
  refine lv_istore (lv' := [(8, .int 0), (7, .int x1), (5, .long x3), (0, .ref (a 17)), (1, .int x1), (2, .int x2), (3, .long x3)]) X.1 X.2.1 dX1_letInLost_7 hl (by decide) rfl (fun ls hl => ?_)
  exact t_X1_letInLost_b9 X 4096 G I x1 x2 x3 x1 0 H locs ls hf hfG hfI hP hS (lv_sub hl [3, 4, 5, 2, 1, 0] rfl)
set_option maxRecDepth 100000 in
theorem c_X1_letInLost {l : Launch} {D : va_G} {a : Nat → Nat} {kc : Nat → ClassId} (F : Nat → Int32) (G : Nat → Int64) (I : Nat → Nat → Int32) (J : Nat → Nat → Int64) (Z : Nat → Nat → Nat → Int32) (hAp : ∀ i j, i < 44 → j < 44 → a i = a j → i = j) (x1 : Int32) (x2 : Int32) (x3 : Int64) {o0 : Int64} {o1 : Nat → Int32} {o2 : Nat → Int32} (hf : p_X1_letInLost (F 0) (F 2) (G 2) (I 5) (I 6) (I 7) (I 8) (J 6) x1 x2 x3 = some (o0, o1, o2)) : Ct 44 l yX1_letInLost cX1_letInLost 9 none rm_X1_letInLost D (tyC kc) a (wC a kc F G I J Z) [.ref (a 17), .int x1, .int x2, .long x3] (Qv D (wC a kc F (va_up G 2 o0) (va_up (va_up I 7 o1) 8 o2) J Z)) :=
  Ct.of (by decide +kernel) hAp (Nat.le_of_ble_eq_true rfl) (fun p e s m args below meth c ls X hP hl => t_X1_letInLost_b0 X G I x1 x2 x3 _ _ _ hf (frm_ul (fun k _ => rfl) (by decide)) (frm_ul (frm_ul (fun k _ => rfl) (by decide)) (by decide)) hP va_S.rf hl)
abbrev rm_X1_hasTwinOutside : Room := { frames := 1, cells := 0, slots := 0, locals := 21 }
set_option maxHeartbeats 4000000 in
set_option maxRecDepth 100000 in
theorem t_X1_hasTwinOutside_b59 {p : Program} {l : Launch} {e : Env} {s : State} {m : MethodId} {args : Array Value} {below : List Frame} {meth : Method} {c : Code} {D : va_G} {a : Nat → Nat} {kc : Nat → ClassId} (X : cx 44 p s m args meth c D (tyC kc) a cX1_hasTwinOutside 4 RX1 (some .boolean)) {F : Nat → Int32} {G : Nat → Int64} {I : Nat → Nat → Int32} {J : Nat → Nat → Int64} {Z : Nat → Nat → Nat → Int32}  {r : Int32} {K2 : (Nat → Int32) → (Nat → Int32) → Int32 → Int32 → Int32 → Option (Int32)} (kh2 : ∀  (x1 : Int32) (x2 : Int32) (x3 : Int32) (H : Heap) (locs : List Loc) (ls : Array Slot), K2 (I 5) (I 6) x1 x2 x3 = some r → va_P D vwCl (wC a kc F G I J Z) H → va_S (ad a 44 s.heap.size) s.heap H locs → lv_has ls 4 [(0, .ref (a 17)), (1, .int x1), (2, .int x2), (3, .int x3)] → W p l e rm_X1_hasTwinOutside s m args below meth c H locs 0 0 (MQ below (Qi D (wC a kc F G I J Z) r (ad a 44 s.heap.size)) args s 0 0 (ad a 44 s.heap.size)) (F0 m 2 ls [])) :
    ∀  (x1 : Int32) (x2 : Int32) (x3 : Int32) (H : Heap) (locs : List Loc) (ls : Array Slot), p_X1_hasTwinOutside_b59 K2 (I 5) (I 6) x1 x2 x3 = some r → va_P D vwCl (wC a kc F G I J Z) H → va_S (ad a 44 s.heap.size) s.heap H locs → lv_has ls 4 [(0, .ref (a 17)), (1, .int x1), (2, .int x2), (3, .int x3)] → W p l e rm_X1_hasTwinOutside s m args below meth c H locs 0 0 (MQ below (Qi D (wC a kc F G I J Z) r (ad a 44 s.heap.size)) args s 0 0 (ad a 44 s.heap.size)) (F0 m 59 ls []) := by
  intro  x1 x2 x3 H locs ls hf  hP hS hl
  unfold p_X1_hasTwinOutside_b59 at hf
  obtain ⟨x59, ex59, hf⟩ := nm_x hf
  refine lv_iinc (v := x59) (lv' := [(3, .int x59), (0, .ref (a 17)), (1, .int x1), (2, .int x2)]) X.1 X.2.1 dX1_hasTwinOutside_59 hl (k := 3) rfl ex59 (by decide) rfl (fun ls hl => ?_)
  refine lv_goto (tgt := 2) X.1 X.2.1 dX1_hasTwinOutside_62 (by decide) ?_
  exact kh2  x1 x2 x59 H locs ls hf  hP hS (lv_sub hl [1, 2, 3, 0] rfl)
set_option maxHeartbeats 4000000 in
set_option maxRecDepth 100000 in
theorem t_X1_hasTwinOutside_b2x {p : Program} {l : Launch} {e : Env} {s : State} {m : MethodId} {args : Array Value} {below : List Frame} {meth : Method} {c : Code} {D : va_G} {a : Nat → Nat} {kc : Nat → ClassId} (X : cx 44 p s m args meth c D (tyC kc) a cX1_hasTwinOutside 4 RX1 (some .boolean)) {F : Nat → Int32} {G : Nat → Int64} {I : Nat → Nat → Int32} {J : Nat → Nat → Int64} {Z : Nat → Nat → Nat → Int32}  {r : Int32} {K2 : (Nat → Int32) → (Nat → Int32) → Int32 → Int32 → Int32 → Option (Int32)} (kh2 : ∀  (x1 : Int32) (x2 : Int32) (x3 : Int32) (H : Heap) (locs : List Loc) (ls : Array Slot), K2 (I 5) (I 6) x1 x2 x3 = some r → va_P D vwCl (wC a kc F G I J Z) H → va_S (ad a 44 s.heap.size) s.heap H locs → lv_has ls 4 [(0, .ref (a 17)), (1, .int x1), (2, .int x2), (3, .int x3)] → W p l e rm_X1_hasTwinOutside s m args below meth c H locs 0 0 (MQ below (Qi D (wC a kc F G I J Z) r (ad a 44 s.heap.size)) args s 0 0 (ad a 44 s.heap.size)) (F0 m 2 ls [])) :
    ∀  (x1 : Int32) (x2 : Int32) (x3 : Int32) (H : Heap) (locs : List Loc) (ls : Array Slot), p_X1_hasTwinOutside_b2x K2 (I 5) (I 6) x1 x2 x3 = some r → va_P D vwCl (wC a kc F G I J Z) H → va_S (ad a 44 s.heap.size) s.heap H locs → lv_has ls 4 [(0, .ref (a 17)), (1, .int x1), (2, .int x2), (3, .int x3)] → W p l e rm_X1_hasTwinOutside s m args below meth c H locs 0 0 (MQ below (Qi D (wC a kc F G I J Z) r (ad a 44 s.heap.size)) args s 0 0 (ad a 44 s.heap.size)) (F0 m 2 ls []) := by
  intro  x1 x2 x3 H locs ls hf  hP hS hl
  unfold p_X1_hasTwinOutside_b2x at hf
  refine lv_iload_n X.1 X.2.1 dX1_hasTwinOutside_2 rfl (lv_at hl 3 rfl) ?_
  refine lv_iload_n X.1 X.2.1 dX1_hasTwinOutside_3 rfl (lv_at hl 1 rfl) ?_
  refine lv_icmp_ge (tgt := 65) X.1 X.2.1 dX1_hasTwinOutside_4 (by decide) (fun c4 => ?_) (fun c4 => ?_)
  · have hf := it_s hf c4
    refine lv_iconst (v := 0) X.1 X.2.1 dX1_hasTwinOutside_65 (by decide) ?_
    have e0 := o1 hf
    exact ret_z X hS hP e0 (by decide) dX1_hasTwinOutside_66
  · have hf := ie_s hf c4
    refine lv_iload_n X.1 X.2.1 dX1_hasTwinOutside_7 rfl (lv_at hl 2 rfl) ?_
    refine lv_iload_n X.1 X.2.1 dX1_hasTwinOutside_8 rfl (lv_at hl 3 rfl) ?_
    obtain ⟨r9, ho, hf⟩ := b1_s hf
    refine call_si (rest := []) X (c_X3_has x2 x3 ho) q_3_46 q_2_178 q_1_2 q_2_179 ok_X3_has rfl ⟨Nat.le_of_ble_eq_true rfl, Nat.le_of_ble_eq_true rfl⟩ rfl rfl hl.1 rfl (Nat.le_of_ble_eq_true rfl) dX1_hasTwinOutside_9 hP hS (fun H locs hP hS => ?_)
    refine lv_if_ne (tgt := 59) X.1 X.2.1 dX1_hasTwinOutside_12 (by decide) (fun c12 => ?_) (fun c12 => ?_)
    · have hf := ie_s hf c12
      exact t_X1_hasTwinOutside_b59 X kh2  x1 x2 x3 H locs ls hf  hP hS (lv_sub hl [0, 1, 2, 3] rfl)
    · have hf := it_s hf c12
      refine lv_aload_n X.1 X.2.1 dX1_hasTwinOutside_15 rfl (lv_at hl 0 rfl) ?_
      refine gC_17_3 X q_1_172 dX1_hasTwinOutside_16 hP ?_
      refine gC_0_6 X q_1_70 dX1_hasTwinOutside_19 hP ?_
      refine lv_iload_n X.1 X.2.1 dX1_hasTwinOutside_22 rfl (lv_at hl 3 rfl) ?_
      obtain ⟨h23, hf⟩ := gd_s hf
      refine lC_9 (I := I) X (f := (I 5)) rfl h23 dX1_hasTwinOutside_23 hP ?_
      refine lv_aload_n X.1 X.2.1 dX1_hasTwinOutside_24 rfl (lv_at hl 0 rfl) ?_
      refine gC_17_3 X q_1_172 dX1_hasTwinOutside_25 hP ?_
      refine gC_0_6 X q_1_70 dX1_hasTwinOutside_28 hP ?_
      refine lv_iload_n X.1 X.2.1 dX1_hasTwinOutside_31 rfl (lv_at hl 1 rfl) ?_
      obtain ⟨h32, hf⟩ := gd_s hf
      refine lC_9 (I := I) X (f := (I 5)) rfl h32 dX1_hasTwinOutside_32 hP ?_
      refine lv_icmp_ne (tgt := 59) X.1 X.2.1 dX1_hasTwinOutside_33 (by decide) (fun c33 => ?_) (fun c33 => ?_)
      · have hf := ie_s hf c33
        exact t_X1_hasTwinOutside_b59 X kh2  x1 x2 x3 H locs ls hf  hP hS (lv_sub hl [0, 1, 2, 3] rfl)
      · have hf := it_s hf c33
        refine lv_aload_n X.1 X.2.1 dX1_hasTwinOutside_36 rfl (lv_at hl 0 rfl) ?_
        refine gC_17_3 X q_1_172 dX1_hasTwinOutside_37 hP ?_
        refine gC_0_7 X q_1_74 dX1_hasTwinOutside_40 hP ?_
        refine lv_iload_n X.1 X.2.1 dX1_hasTwinOutside_43 rfl (lv_at hl 3 rfl) ?_
        obtain ⟨h44, hf⟩ := gd_s hf
        refine lC_10 (I := I) X (f := (I 6)) rfl h44 dX1_hasTwinOutside_44 hP ?_
        refine lv_aload_n X.1 X.2.1 dX1_hasTwinOutside_45 rfl (lv_at hl 0 rfl) ?_
        refine gC_17_3 X q_1_172 dX1_hasTwinOutside_46 hP ?_
        refine gC_0_7 X q_1_74 dX1_hasTwinOutside_49 hP ?_
        refine lv_iload_n X.1 X.2.1 dX1_hasTwinOutside_52 rfl (lv_at hl 1 rfl) ?_
        obtain ⟨h53, hf⟩ := gd_s hf
        refine lC_10 (I := I) X (f := (I 6)) rfl h53 dX1_hasTwinOutside_53 hP ?_
        refine lv_icmp_ne (tgt := 59) X.1 X.2.1 dX1_hasTwinOutside_54 (by decide) (fun c54 => ?_) (fun c54 => ?_)
        · have hf := ie_s hf c54
          exact t_X1_hasTwinOutside_b59 X kh2  x1 x2 x3 H locs ls hf  hP hS (lv_sub hl [0, 1, 2, 3] rfl)
        · have hf := it_s hf c54
          refine lv_iconst (v := 1) X.1 X.2.1 dX1_hasTwinOutside_57 (by decide) ?_
          have e0 := o1 hf
          exact ret_z X hS hP e0 (by decide) dX1_hasTwinOutside_58
set_option maxRecDepth 100000 in
theorem t_X1_hasTwinOutside_b2 {p : Program} {l : Launch} {e : Env} {s : State} {m : MethodId} {args : Array Value} {below : List Frame} {meth : Method} {c : Code} {D : va_G} {a : Nat → Nat} {kc : Nat → ClassId} (X : cx 44 p s m args meth c D (tyC kc) a cX1_hasTwinOutside 4 RX1 (some .boolean)) {F : Nat → Int32} {G : Nat → Int64} {I : Nat → Nat → Int32} {J : Nat → Nat → Int64} {Z : Nat → Nat → Nat → Int32}  {r : Int32} :
    ∀ (n : Nat)  (x1 : Int32) (x2 : Int32) (x3 : Int32) (H : Heap) (locs : List Loc) (ls : Array Slot), p_X1_hasTwinOutside_b2 n (I 5) (I 6) x1 x2 x3 = some r → va_P D vwCl (wC a kc F G I J Z) H → va_S (ad a 44 s.heap.size) s.heap H locs → lv_has ls 4 [(0, .ref (a 17)), (1, .int x1), (2, .int x2), (3, .int x3)] → W p l e rm_X1_hasTwinOutside s m args below meth c H locs 0 0 (MQ below (Qi D (wC a kc F G I J Z) r (ad a 44 s.heap.size)) args s 0 0 (ad a 44 s.heap.size)) (F0 m 2 ls []) := by
  intro n
  induction n with
  | zero => intro  x1 x2 x3 H locs ls hf  hP hS hl; exact (nos hf).elim
  | succ n ih => exact t_X1_hasTwinOutside_b2x X ih
set_option maxHeartbeats 4000000 in
set_option maxRecDepth 100000 in
theorem t_X1_hasTwinOutside_b0 {p : Program} {l : Launch} {e : Env} {s : State} {m : MethodId} {args : Array Value} {below : List Frame} {meth : Method} {c : Code} {D : va_G} {a : Nat → Nat} {kc : Nat → ClassId} (X : cx 44 p s m args meth c D (tyC kc) a cX1_hasTwinOutside 4 RX1 (some .boolean)) {F : Nat → Int32} {G : Nat → Int64} {I : Nat → Nat → Int32} {J : Nat → Nat → Int64} {Z : Nat → Nat → Nat → Int32}  {r : Int32} :
    ∀  (x1 : Int32) (x2 : Int32) (H : Heap) (locs : List Loc) (ls : Array Slot), p_X1_hasTwinOutside_b0 (I 5) (I 6) x1 x2 = some r → va_P D vwCl (wC a kc F G I J Z) H → va_S (ad a 44 s.heap.size) s.heap H locs → lv_has ls 4 [(0, .ref (a 17)), (1, .int x1), (2, .int x2)] → W p l e rm_X1_hasTwinOutside s m args below meth c H locs 0 0 (MQ below (Qi D (wC a kc F G I J Z) r (ad a 44 s.heap.size)) args s 0 0 (ad a 44 s.heap.size)) (F0 m 0 ls []) := by
  intro  x1 x2 H locs ls hf  hP hS hl
  unfold p_X1_hasTwinOutside_b0 at hf
  refine lv_iconst (v := 0) X.1 X.2.1 dX1_hasTwinOutside_0 (by decide) ?_
  refine lv_istore_n (lv' := [(3, .int 0), (0, .ref (a 17)), (1, .int x1), (2, .int x2)]) X.1 X.2.1 dX1_hasTwinOutside_1 rfl hl (by decide) rfl (fun ls hl => ?_)
  exact t_X1_hasTwinOutside_b2 X 4096  x1 x2 0 H locs ls hf  hP hS (lv_sub hl [1, 2, 3, 0] rfl)
set_option maxRecDepth 100000 in
theorem c_X1_hasTwinOutside {l : Launch} {D : va_G} {a : Nat → Nat} {kc : Nat → ClassId} (F : Nat → Int32) (G : Nat → Int64) (I : Nat → Nat → Int32) (J : Nat → Nat → Int64) (Z : Nat → Nat → Nat → Int32) (hAp : ∀ i j, i < 44 → j < 44 → a i = a j → i = j) (x1 : Int32) (x2 : Int32) {o0 : Int32} (hf : p_X1_hasTwinOutside (I 5) (I 6) x1 x2 = some o0) : Ct 44 l yX1_hasTwinOutside cX1_hasTwinOutside 4 (some .boolean) rm_X1_hasTwinOutside D (tyC kc) a (wC a kc F G I J Z) [.ref (a 17), .int x1, .int x2] (Qi D (wC a kc F G I J Z) o0) :=
  Ct.of (by decide +kernel) hAp (Nat.le_of_ble_eq_true rfl) (fun p e s m args below meth c ls X hP hl => t_X1_hasTwinOutside_b0 X  x1 x2 _ _ _ hf  hP va_S.rf hl)
abbrev rm_X1_nextAsLarge : Room := { frames := 0, cells := 0, slots := 0, locals := 0 }
set_option maxHeartbeats 4000000 in
set_option maxRecDepth 100000 in
theorem t_X1_nextAsLarge_b0 {p : Program} {l : Launch} {e : Env} {s : State} {m : MethodId} {args : Array Value} {below : List Frame} {meth : Method} {c : Code} {D : va_G} {a : Nat → Nat} (X : cx 0 p s m args meth c D [] a cX1_nextAsLarge 3 RX1 (some .int))   {r : Int32} :
    ∀  (x0 : Int32) (H : Heap) (locs : List Loc) (ls : Array Slot), p_X1_nextAsLarge_b0  x0 = some r → va_P D vwCl [] H → va_S (ad a 0 s.heap.size) s.heap H locs → lv_has ls 3 [(0, .int x0)] → W p l e rm_X1_nextAsLarge s m args below meth c H locs 0 0 (MQ below (Qi D [] r (ad a 0 s.heap.size)) args s 0 0 (ad a 0 s.heap.size)) (F0 m 0 ls []) := by
  intro  x0 H locs ls hf  hP hS hl
  unfold p_X1_nextAsLarge_b0 at hf
  refine lv_iload_n X.1 X.2.1 dX1_nextAsLarge_0 rfl (lv_at hl 0 rfl) ?_
  refine lv_iload_n X.1 X.2.1 dX1_nextAsLarge_1 rfl (lv_at hl 0 rfl) ?_
  refine lv_ineg X.1 X.2.1 dX1_nextAsLarge_2 ?_
  refine lv_iand X.1 X.2.1 dX1_nextAsLarge_3 ?_
  refine nm_i hf (fun x4 hf => ?_)
  refine lv_istore_n (lv' := [(1, .int x4), (0, .int x0)]) X.1 X.2.1 dX1_nextAsLarge_4 rfl hl (by decide) rfl (fun ls hl => ?_)
  refine lv_iload_n X.1 X.2.1 dX1_nextAsLarge_5 rfl (lv_at hl 0 rfl) ?_
  refine lv_if_ne (tgt := 13) X.1 X.2.1 dX1_nextAsLarge_6 (by decide) (fun c6 => ?_) (fun c6 => ?_)
  · have hf := ie_s hf c6
    refine lv_iload_n X.1 X.2.1 dX1_nextAsLarge_13 rfl (lv_at hl 1 rfl) ?_
    refine lv_iload_n X.1 X.2.1 dX1_nextAsLarge_14 rfl (lv_at hl 0 rfl) ?_
    refine lv_iadd X.1 X.2.1 dX1_nextAsLarge_15 ?_
    refine nm_i hf (fun x16 hf => ?_)
    refine lv_istore_n (lv' := [(2, .int x16), (1, .int x4), (0, .int x0)]) X.1 X.2.1 dX1_nextAsLarge_16 rfl hl (by decide) rfl (fun ls hl => ?_)
    refine lv_iload_n X.1 X.2.1 dX1_nextAsLarge_17 rfl (lv_at hl 0 rfl) ?_
    refine lv_iload_n X.1 X.2.1 dX1_nextAsLarge_18 rfl (lv_at hl 0 rfl) ?_
    refine lv_iload_n X.1 X.2.1 dX1_nextAsLarge_19 rfl (lv_at hl 2 rfl) ?_
    refine lv_ixor X.1 X.2.1 dX1_nextAsLarge_20 ?_
    refine lv_iload_n X.1 X.2.1 dX1_nextAsLarge_21 rfl (lv_at hl 1 rfl) ?_
    obtain ⟨h22, hf⟩ := gd_s hf
    refine lv_idiv X.1 X.2.1 dX1_nextAsLarge_22 (of_decide_eq_true h22) ?_
    refine lv_iconst (v := 2) X.1 X.2.1 dX1_nextAsLarge_23 (by decide) ?_
    refine lv_ishr X.1 X.2.1 dX1_nextAsLarge_24 ?_
    refine lv_ior X.1 X.2.1 dX1_nextAsLarge_25 ?_
    have e0 := o1 hf
    exact ret_i X hS hP e0 dX1_nextAsLarge_26
  · have hf := it_s hf c6
    refine lv_sipush (v := 256) X.1 X.2.1 dX1_nextAsLarge_9 (by decide) ?_
    have e0 := o1 hf
    exact ret_i X hS hP e0 dX1_nextAsLarge_12
set_option maxRecDepth 100000 in
theorem c_X1_nextAsLarge {l : Launch} {D : va_G} {a : Nat → Nat}  (x0 : Int32) {o0 : Int32} (hf : p_X1_nextAsLarge  x0 = some o0) : Ct 0 l yX1_nextAsLarge cX1_nextAsLarge 3 (some .int) rm_X1_nextAsLarge D [] a [] [.int x0] (Qi D [] o0) :=
  Ct.of (by decide +kernel) (fun i j h => absurd h (Nat.not_lt_zero i)) (Nat.le_of_ble_eq_true rfl) (fun p e s m args below meth c ls X hP hl => t_X1_nextAsLarge_b0 X  x0 _ _ _ hf  hP va_S.rf hl)
