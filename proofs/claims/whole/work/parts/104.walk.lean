abbrev rm_X7_left : Room := { frames := 4, cells := 0, slots := 0, locals := 99 }
set_option maxHeartbeats 4000000 in
set_option maxRecDepth 100000 in
theorem t_X7_left_b15 {p : Program} {l : Launch} {e : Env} {s : State} {m : MethodId} {args : Array Value} {below : List Frame} {meth : Method} {c : Code} {D : va_G} {a : Nat → Nat} {kc : Nat → ClassId} (X : cx 44 p s m args meth c D (tyC kc) a cX7_left 3 RX7 (some .long)) {I : Nat → Nat → Int32} {Z : Nat → Nat → Nat → Int32} {Ff : Nat → Int32} {Gf : Nat → Int64} {Jf : Nat → Nat → Int64} {r : Int64} :
    ∀ (F : Nat → Int32) (G : Nat → Int64) (J : Nat → Nat → Int64)  (H : Heap) (locs : List Loc) (ls : Array Slot), p_X7_left_b15 (F 0) (F 2) (F 3) (G 0) (G 1) (I 2) (I 4) (I 5) (I 6) (J 0) (J 1) (J 2) (J 3) (J 4)  = some (r, (Ff 3), (Gf 0), (Gf 1), (Jf 0), (Jf 1), (Jf 2), (Jf 3), (Jf 4)) → (∀ k, k ∉ ([3] : List Nat) → Ff k = F k) → (∀ k, k ∉ ([0, 1] : List Nat) → Gf k = G k) → (∀ k, k ∉ ([0, 1, 2, 3, 4] : List Nat) → Jf k = J k) → va_P D vwCl (wC a kc F G I J Z) H → va_S (ad a 44 s.heap.size) s.heap H locs → lv_has ls 3 [(0, .ref (a 34))] → W p l e rm_X7_left s m args below meth c H locs 0 0 (MQ below (Ql D (wC a kc Ff Gf I Jf Z) r (ad a 44 s.heap.size)) args s 0 0 (ad a 44 s.heap.size)) (F0 m 15 ls []) := by
  intro F G J  H locs ls hf hfF hfG hfJ hP hS hl
  unfold p_X7_left_b15 at hf
  refine lv_bipush (v := (-2)) X.1 X.2.1 dX7_left_15 (by decide) ?_
  obtain ⟨r17, ho, hf⟩ := b1_s hf
  refine call_sl (rest := []) X (c_X7_asLong (-2) ho) q_2_143 q_2_144 q_1_1 q_2_145 ok_X7_asLong rfl ⟨Nat.le_of_ble_eq_true rfl, Nat.le_of_ble_eq_true rfl⟩ rfl rfl hl.1 rfl (Nat.le_of_ble_eq_true rfl) dX7_left_17 hP hS (fun H locs hP hS => ?_)
  obtain ⟨e0, hf⟩ := o2 hf
  obtain ⟨e1, hf⟩ := o2 hf
  obtain ⟨e2, hf⟩ := o2 hf
  obtain ⟨e3, hf⟩ := o2 hf
  obtain ⟨e4, hf⟩ := o2 hf
  obtain ⟨e5, hf⟩ := o2 hf
  obtain ⟨e6, hf⟩ := o2 hf
  obtain ⟨e7, hf⟩ := o2 hf
  have e8 := o1 hf
  have EF : Ff = F := frm_eq hfF (frm_c (e1).symm frm_n)
  have EG : Gf = G := frm_eq hfG (frm_c (e2).symm (frm_c (e3).symm frm_n))
  have EJ : Jf = J := frm_eq hfJ (frm_c (e4).symm (frm_c (e5).symm (frm_c (e6).symm (frm_c (e7).symm (frm_c (e8).symm frm_n)))))
  exact ret_l X hS (by rw [EF, EG, EJ]; exact hP) e0 dX7_left_20
set_option maxHeartbeats 4000000 in
set_option maxRecDepth 100000 in
theorem t_X7_left_b0 {p : Program} {l : Launch} {e : Env} {s : State} {m : MethodId} {args : Array Value} {below : List Frame} {meth : Method} {c : Code} {D : va_G} {a : Nat → Nat} {kc : Nat → ClassId} (X : cx 44 p s m args meth c D (tyC kc) a cX7_left 3 RX7 (some .long)) {I : Nat → Nat → Int32} {Z : Nat → Nat → Nat → Int32} {Ff : Nat → Int32} {Gf : Nat → Int64} {Jf : Nat → Nat → Int64} {r : Int64} :
    ∀ (F : Nat → Int32) (G : Nat → Int64) (J : Nat → Nat → Int64) (x1 : Int32) (x2 : Int32) (H : Heap) (locs : List Loc) (ls : Array Slot), p_X7_left_b0 (F 0) (F 2) (F 3) (G 0) (G 1) (I 2) (I 4) (I 5) (I 6) (J 0) (J 1) (J 2) (J 3) (J 4) x1 x2 = some (r, (Ff 3), (Gf 0), (Gf 1), (Jf 0), (Jf 1), (Jf 2), (Jf 3), (Jf 4)) → (∀ k, k ∉ ([3] : List Nat) → Ff k = F k) → (∀ k, k ∉ ([0, 1] : List Nat) → Gf k = G k) → (∀ k, k ∉ ([0, 1, 2, 3, 4] : List Nat) → Jf k = J k) → va_P D vwCl (wC a kc F G I J Z) H → va_S (ad a 44 s.heap.size) s.heap H locs → lv_has ls 3 [(0, .ref (a 34)), (1, .int x1), (2, .int x2)] → W p l e rm_X7_left s m args below meth c H locs 0 0 (MQ below (Ql D (wC a kc Ff Gf I Jf Z) r (ad a 44 s.heap.size)) args s 0 0 (ad a 44 s.heap.size)) (F0 m 0 ls []) := by
  intro F G J x1 x2 H locs ls hf hfF hfG hfJ hP hS hl
  unfold p_X7_left_b0 at hf
  refine lv_aload_n X.1 X.2.1 dX7_left_0 rfl (lv_at hl 0 rfl) ?_
  refine lv_iload_n X.1 X.2.1 dX7_left_1 rfl (lv_at hl 1 rfl) ?_
  obtain ⟨r2, ho, hf⟩ := b1_s hf
  refine call_vi (rest := []) X (c_X7_isNoSeat F G I J Z X.2.2.2.2.2.2.2.1 x1 ho) q_2_120 q_2_122 qs_yX7_isNoSeat q_1_1 q_2_123 ok_X7_isNoSeat rfl 34 rfl rfl ⟨Nat.le_of_ble_eq_true rfl, Nat.le_of_ble_eq_true rfl⟩ rfl rfl hl.1 rfl (Nat.le_of_ble_eq_true rfl) dX7_left_2 hP hS (fun H locs hP hS => ?_)
  refine lv_if_ne (tgt := 15) X.1 X.2.1 dX7_left_5 (by decide) (fun c5 => ?_) (fun c5 => ?_)
  · have hf := ie_s hf c5
    exact t_X7_left_b15 X F G J  H locs ls hf hfF hfG hfJ hP hS (lv_sub hl [0] rfl)
  · have hf := it_s hf c5
    refine lv_iload_n X.1 X.2.1 dX7_left_8 rfl (lv_at hl 2 rfl) ?_
    obtain ⟨r9, ho, hf⟩ := b1_s hf
    refine call_si (rest := []) X (c_X7_isNoPart x2 ho) q_2_136 q_2_137 q_1_1 q_2_138 ok_X7_isNoPart rfl ⟨Nat.le_of_ble_eq_true rfl, Nat.le_of_ble_eq_true rfl⟩ rfl rfl hl.1 rfl (Nat.le_of_ble_eq_true rfl) dX7_left_9 hP hS (fun H locs hP hS => ?_)
    refine lv_if_eq (tgt := 21) X.1 X.2.1 dX7_left_12 (by decide) (fun c12 => ?_) (fun c12 => ?_)
    · have hf := it_s hf c12
      refine lv_aload_n X.1 X.2.1 dX7_left_21 rfl (lv_at hl 0 rfl) ?_
      refine gC_34_1 X q_2_65 dX7_left_22 hP ?_
      obtain ⟨C_ready_25, C_meanWrong_25, C_meanLooks_25, C_reach_25, C_sits_25, C_wrongs_25, C_free_25, C_wrongIn_25, ho, hf⟩ := b8_s hf
      refine call_vv (rest := []) X (c_X0_refresh F G I J Z X.2.2.2.2.2.2.2.1  ho) q_2_147 q_2_148 q_2_149 q_1_4 q_2_150 ok_X0_refresh rfl 11 rfl rfl ⟨Nat.le_of_ble_eq_true rfl, Nat.le_of_ble_eq_true rfl⟩ rfl rfl hl.1 rfl (Nat.le_of_ble_eq_true rfl) dX7_left_25 hP hS (fun H locs hP hS => ?_)
      refine lv_aload_n X.1 X.2.1 dX7_left_28 rfl (lv_at hl 0 rfl) ?_
      refine gC_34_1 X q_2_65 dX7_left_29 hP ?_
      refine gC_11_3 X q_1_131 dX7_left_32 hP ?_
      refine lv_iload_n X.1 X.2.1 dX7_left_35 rfl (lv_at hl 1 rfl) ?_
      obtain ⟨h36, hf⟩ := gd_s hf
      refine lC_15 (J := (va_up (va_up (va_up (va_up (va_up J 0 C_reach_25) 1 C_sits_25) 2 C_wrongs_25) 3 C_free_25) 4 C_wrongIn_25)) X (f := C_free_25) rfl h36 dX7_left_36 hP ?_
      refine lv_ldc2 (v := 182891520000) X.1 X.2.1 X.2.2.2.2.1 (X.2.2.2.2.2.1 _ q_2_198) dX7_left_37 ?_
      refine lv_iload_n X.1 X.2.1 dX7_left_40 rfl (lv_at hl 2 rfl) ?_
      obtain ⟨r41, ho, hf⟩ := b1_s hf
      refine call_sl (rest := []) X (c_X7_part (C_free_25 x1.toNatClampNeg) 182891520000 x2 ho) q_2_199 q_2_200 q_1_1 q_2_201 ok_X7_part rfl ⟨Nat.le_of_ble_eq_true rfl, Nat.le_of_ble_eq_true rfl⟩ rfl rfl hl.1 rfl (Nat.le_of_ble_eq_true rfl) dX7_left_41 hP hS (fun H locs hP hS => ?_)
      obtain ⟨e0, hf⟩ := o2 hf
      obtain ⟨e1, hf⟩ := o2 hf
      obtain ⟨e2, hf⟩ := o2 hf
      obtain ⟨e3, hf⟩ := o2 hf
      obtain ⟨e4, hf⟩ := o2 hf
      obtain ⟨e5, hf⟩ := o2 hf
      obtain ⟨e6, hf⟩ := o2 hf
      obtain ⟨e7, hf⟩ := o2 hf
      have e8 := o1 hf
      have EF : Ff = (va_up F 3 C_ready_25) := frm_eq (frm_up hfF (by decide)) (frm_c (e1).symm frm_n)
      have EG : Gf = (va_up (va_up G 0 C_meanWrong_25) 1 C_meanLooks_25) := frm_eq (frm_up (frm_up hfG (by decide)) (by decide)) (frm_c (e2).symm (frm_c (e3).symm frm_n))
      have EJ : Jf = (va_up (va_up (va_up (va_up (va_up J 0 C_reach_25) 1 C_sits_25) 2 C_wrongs_25) 3 C_free_25) 4 C_wrongIn_25) := frm_eq (frm_up (frm_up (frm_up (frm_up (frm_up hfJ (by decide)) (by decide)) (by decide)) (by decide)) (by decide)) (frm_c (e4).symm (frm_c (e5).symm (frm_c (e6).symm (frm_c (e7).symm (frm_c (e8).symm frm_n)))))
      exact ret_l X hS (by rw [EF, EG, EJ]; exact hP) e0 dX7_left_44
    · have hf := ie_s hf c12
      exact t_X7_left_b15 X F G J  H locs ls hf hfF hfG hfJ hP hS (lv_sub hl [0] rfl)
set_option maxRecDepth 100000 in
theorem c_X7_left {l : Launch} {D : va_G} {a : Nat → Nat} {kc : Nat → ClassId} (F : Nat → Int32) (G : Nat → Int64) (I : Nat → Nat → Int32) (J : Nat → Nat → Int64) (Z : Nat → Nat → Nat → Int32) (hAp : ∀ i j, i < 44 → j < 44 → a i = a j → i = j) (x1 : Int32) (x2 : Int32) {o0 : Int64} {o1 : Int32} {o2 : Int64} {o3 : Int64} {o4 : Nat → Int64} {o5 : Nat → Int64} {o6 : Nat → Int64} {o7 : Nat → Int64} {o8 : Nat → Int64} (hf : p_X7_left (F 0) (F 2) (F 3) (G 0) (G 1) (I 2) (I 4) (I 5) (I 6) (J 0) (J 1) (J 2) (J 3) (J 4) x1 x2 = some (o0, o1, o2, o3, o4, o5, o6, o7, o8)) : Ct 44 l yX7_left cX7_left 3 (some .long) rm_X7_left D (tyC kc) a (wC a kc F G I J Z) [.ref (a 34), .int x1, .int x2] (Ql D (wC a kc (va_up F 3 o1) (va_up (va_up G 0 o2) 1 o3) I (va_up (va_up (va_up (va_up (va_up J 0 o4) 1 o5) 2 o6) 3 o7) 4 o8) Z) o0) :=
  Ct.of (by decide +kernel) hAp (Nat.le_of_ble_eq_true rfl) (fun p e s m args below meth c ls X hP hl => t_X7_left_b0 X F G J x1 x2 _ _ _ hf (frm_ul (fun k _ => rfl) (by decide)) (frm_ul (frm_ul (fun k _ => rfl) (by decide)) (by decide)) (frm_ul (frm_ul (frm_ul (frm_ul (frm_ul (fun k _ => rfl) (by decide)) (by decide)) (by decide)) (by decide)) (by decide)) hP va_S.rf hl)
abbrev rm_X7_looks : Room := { frames := 4, cells := 0, slots := 0, locals := 99 }
set_option maxHeartbeats 4000000 in
set_option maxRecDepth 100000 in
theorem t_X7_looks_b0 {p : Program} {l : Launch} {e : Env} {s : State} {m : MethodId} {args : Array Value} {below : List Frame} {meth : Method} {c : Code} {D : va_G} {a : Nat → Nat} {kc : Nat → ClassId} (X : cx 44 p s m args meth c D (tyC kc) a cX7_looks 2 RX7 (some .long)) {I : Nat → Nat → Int32} {Z : Nat → Nat → Nat → Int32} {Ff : Nat → Int32} {Gf : Nat → Int64} {Jf : Nat → Nat → Int64} {r : Int64} :
    ∀ (F : Nat → Int32) (G : Nat → Int64) (J : Nat → Nat → Int64) (x1 : Int32) (H : Heap) (locs : List Loc) (ls : Array Slot), p_X7_looks_b0 (F 0) (F 2) (F 3) (G 0) (G 1) (I 2) (I 4) (I 5) (I 6) (J 0) (J 1) (J 2) (J 3) (J 4) x1 = some (r, (Ff 3), (Gf 0), (Gf 1), (Jf 0), (Jf 1), (Jf 2), (Jf 3), (Jf 4)) → (∀ k, k ∉ ([3] : List Nat) → Ff k = F k) → (∀ k, k ∉ ([0, 1] : List Nat) → Gf k = G k) → (∀ k, k ∉ ([0, 1, 2, 3, 4] : List Nat) → Jf k = J k) → va_P D vwCl (wC a kc F G I J Z) H → va_S (ad a 44 s.heap.size) s.heap H locs → lv_has ls 2 [(0, .ref (a 34)), (1, .int x1)] → W p l e rm_X7_looks s m args below meth c H locs 0 0 (MQ below (Ql D (wC a kc Ff Gf I Jf Z) r (ad a 44 s.heap.size)) args s 0 0 (ad a 44 s.heap.size)) (F0 m 0 ls []) := by
  intro F G J x1 H locs ls hf hfF hfG hfJ hP hS hl
  unfold p_X7_looks_b0 at hf
  refine lv_iload_n X.1 X.2.1 dX7_looks_0 rfl (lv_at hl 1 rfl) ?_
  obtain ⟨r1, ho, hf⟩ := b1_s hf
  refine call_si (rest := []) X (c_X7_isNoPart x1 ho) q_2_136 q_2_137 q_1_1 q_2_138 ok_X7_isNoPart rfl ⟨Nat.le_of_ble_eq_true rfl, Nat.le_of_ble_eq_true rfl⟩ rfl rfl hl.1 rfl (Nat.le_of_ble_eq_true rfl) dX7_looks_1 hP hS (fun H locs hP hS => ?_)
  refine lv_if_eq (tgt := 13) X.1 X.2.1 dX7_looks_4 (by decide) (fun c4 => ?_) (fun c4 => ?_)
  · have hf := it_s hf c4
    refine lv_aload_n X.1 X.2.1 dX7_looks_13 rfl (lv_at hl 0 rfl) ?_
    refine gC_34_1 X q_2_65 dX7_looks_14 hP ?_
    obtain ⟨C_ready_17, C_meanWrong_17, C_meanLooks_17, C_reach_17, C_sits_17, C_wrongs_17, C_free_17, C_wrongIn_17, ho, hf⟩ := b8_s hf
    refine call_vv (rest := []) X (c_X0_refresh F G I J Z X.2.2.2.2.2.2.2.1  ho) q_2_147 q_2_148 q_2_149 q_1_4 q_2_150 ok_X0_refresh rfl 11 rfl rfl ⟨Nat.le_of_ble_eq_true rfl, Nat.le_of_ble_eq_true rfl⟩ rfl rfl hl.1 rfl (Nat.le_of_ble_eq_true rfl) dX7_looks_17 hP hS (fun H locs hP hS => ?_)
    refine lv_aload_n X.1 X.2.1 dX7_looks_20 rfl (lv_at hl 0 rfl) ?_
    refine gC_34_1 X q_2_65 dX7_looks_21 hP ?_
    refine gC_11_5 (G := (va_up (va_up G 0 C_meanWrong_17) 1 C_meanLooks_17)) X (v := C_meanLooks_17) rfl q_1_135 dX7_looks_24 hP ?_
    refine lv_ldc2 (v := 182891520000) X.1 X.2.1 X.2.2.2.2.1 (X.2.2.2.2.2.1 _ q_2_198) dX7_looks_27 ?_
    refine lv_iload_n X.1 X.2.1 dX7_looks_30 rfl (lv_at hl 1 rfl) ?_
    obtain ⟨r31, ho, hf⟩ := b1_s hf
    refine call_sl (rest := []) X (c_X7_part C_meanLooks_17 182891520000 x1 ho) q_2_199 q_2_200 q_1_1 q_2_201 ok_X7_part rfl ⟨Nat.le_of_ble_eq_true rfl, Nat.le_of_ble_eq_true rfl⟩ rfl rfl hl.1 rfl (Nat.le_of_ble_eq_true rfl) dX7_looks_31 hP hS (fun H locs hP hS => ?_)
    obtain ⟨e0, hf⟩ := o2 hf
    obtain ⟨e1, hf⟩ := o2 hf
    obtain ⟨e2, hf⟩ := o2 hf
    obtain ⟨e3, hf⟩ := o2 hf
    obtain ⟨e4, hf⟩ := o2 hf
    obtain ⟨e5, hf⟩ := o2 hf
    obtain ⟨e6, hf⟩ := o2 hf
    obtain ⟨e7, hf⟩ := o2 hf
    have e8 := o1 hf
    have EF : Ff = (va_up F 3 C_ready_17) := frm_eq (frm_up hfF (by decide)) (frm_c (e1).symm frm_n)
    have EG : Gf = (va_up (va_up G 0 C_meanWrong_17) 1 C_meanLooks_17) := frm_eq (frm_up (frm_up hfG (by decide)) (by decide)) (frm_c (e2).symm (frm_c (e3).symm frm_n))
    have EJ : Jf = (va_up (va_up (va_up (va_up (va_up J 0 C_reach_17) 1 C_sits_17) 2 C_wrongs_17) 3 C_free_17) 4 C_wrongIn_17) := frm_eq (frm_up (frm_up (frm_up (frm_up (frm_up hfJ (by decide)) (by decide)) (by decide)) (by decide)) (by decide)) (frm_c (e4).symm (frm_c (e5).symm (frm_c (e6).symm (frm_c (e7).symm (frm_c (e8).symm frm_n)))))
    exact ret_l X hS (by rw [EF, EG, EJ]; exact hP) e0 dX7_looks_34
  · have hf := ie_s hf c4
    refine lv_bipush (v := (-2)) X.1 X.2.1 dX7_looks_7 (by decide) ?_
    obtain ⟨r9, ho, hf⟩ := b1_s hf
    refine call_sl (rest := []) X (c_X7_asLong (-2) ho) q_2_143 q_2_144 q_1_1 q_2_145 ok_X7_asLong rfl ⟨Nat.le_of_ble_eq_true rfl, Nat.le_of_ble_eq_true rfl⟩ rfl rfl hl.1 rfl (Nat.le_of_ble_eq_true rfl) dX7_looks_9 hP hS (fun H locs hP hS => ?_)
    obtain ⟨e0, hf⟩ := o2 hf
    obtain ⟨e1, hf⟩ := o2 hf
    obtain ⟨e2, hf⟩ := o2 hf
    obtain ⟨e3, hf⟩ := o2 hf
    obtain ⟨e4, hf⟩ := o2 hf
    obtain ⟨e5, hf⟩ := o2 hf
    obtain ⟨e6, hf⟩ := o2 hf
    obtain ⟨e7, hf⟩ := o2 hf
    have e8 := o1 hf
    have EF : Ff = F := frm_eq hfF (frm_c (e1).symm frm_n)
    have EG : Gf = G := frm_eq hfG (frm_c (e2).symm (frm_c (e3).symm frm_n))
    have EJ : Jf = J := frm_eq hfJ (frm_c (e4).symm (frm_c (e5).symm (frm_c (e6).symm (frm_c (e7).symm (frm_c (e8).symm frm_n)))))
    exact ret_l X hS (by rw [EF, EG, EJ]; exact hP) e0 dX7_looks_12
set_option maxRecDepth 100000 in
theorem c_X7_looks {l : Launch} {D : va_G} {a : Nat → Nat} {kc : Nat → ClassId} (F : Nat → Int32) (G : Nat → Int64) (I : Nat → Nat → Int32) (J : Nat → Nat → Int64) (Z : Nat → Nat → Nat → Int32) (hAp : ∀ i j, i < 44 → j < 44 → a i = a j → i = j) (x1 : Int32) {o0 : Int64} {o1 : Int32} {o2 : Int64} {o3 : Int64} {o4 : Nat → Int64} {o5 : Nat → Int64} {o6 : Nat → Int64} {o7 : Nat → Int64} {o8 : Nat → Int64} (hf : p_X7_looks (F 0) (F 2) (F 3) (G 0) (G 1) (I 2) (I 4) (I 5) (I 6) (J 0) (J 1) (J 2) (J 3) (J 4) x1 = some (o0, o1, o2, o3, o4, o5, o6, o7, o8)) : Ct 44 l yX7_looks cX7_looks 2 (some .long) rm_X7_looks D (tyC kc) a (wC a kc F G I J Z) [.ref (a 34), .int x1] (Ql D (wC a kc (va_up F 3 o1) (va_up (va_up G 0 o2) 1 o3) I (va_up (va_up (va_up (va_up (va_up J 0 o4) 1 o5) 2 o6) 3 o7) 4 o8) Z) o0) :=
  Ct.of (by decide +kernel) hAp (Nat.le_of_ble_eq_true rfl) (fun p e s m args below meth c ls X hP hl => t_X7_looks_b0 X F G J x1 _ _ _ hf (frm_ul (fun k _ => rfl) (by decide)) (frm_ul (frm_ul (fun k _ => rfl) (by decide)) (by decide)) (frm_ul (frm_ul (frm_ul (frm_ul (frm_ul (fun k _ => rfl) (by decide)) (by decide)) (by decide)) (by decide)) (by decide)) hP va_S.rf hl)
abbrev rm_X7_isNoSheet : Room := { frames := 0, cells := 0, slots := 0, locals := 0 }
set_option maxHeartbeats 4000000 in
set_option maxRecDepth 100000 in
theorem t_X7_isNoSheet_b14 {p : Program} {l : Launch} {e : Env} {s : State} {m : MethodId} {args : Array Value} {below : List Frame} {meth : Method} {c : Code} {D : va_G} {a : Nat → Nat} (X : cx 0 p s m args meth c D [] a cX7_isNoSheet 1 RX7 (some .boolean))   {r : Int32} :
    ∀  (t0 : Int32) (H : Heap) (locs : List Loc) (ls : Array Slot), p_X7_isNoSheet_b14  t0 = some r → va_P D vwCl [] H → va_S (ad a 0 s.heap.size) s.heap H locs → lv_has ls 1 [] → W p l e rm_X7_isNoSheet s m args below meth c H locs 0 0 (MQ below (Qi D [] r (ad a 0 s.heap.size)) args s 0 0 (ad a 0 s.heap.size)) (F0 m 14 ls [.int t0]) := by
  intro  t0 H locs ls hf  hP hS hl
  unfold p_X7_isNoSheet_b14 at hf
  obtain ⟨h14, hf⟩ := gd_s hf
  have e0 := o1 hf
  exact ret_z X hS hP e0 h14 dX7_isNoSheet_14
set_option maxHeartbeats 4000000 in
set_option maxRecDepth 100000 in
theorem t_X7_isNoSheet_b9 {p : Program} {l : Launch} {e : Env} {s : State} {m : MethodId} {args : Array Value} {below : List Frame} {meth : Method} {c : Code} {D : va_G} {a : Nat → Nat} (X : cx 0 p s m args meth c D [] a cX7_isNoSheet 1 RX7 (some .boolean))   {r : Int32} :
    ∀   (H : Heap) (locs : List Loc) (ls : Array Slot), p_X7_isNoSheet_b9   = some r → va_P D vwCl [] H → va_S (ad a 0 s.heap.size) s.heap H locs → lv_has ls 1 [] → W p l e rm_X7_isNoSheet s m args below meth c H locs 0 0 (MQ below (Qi D [] r (ad a 0 s.heap.size)) args s 0 0 (ad a 0 s.heap.size)) (F0 m 9 ls []) := by
  intro   H locs ls hf  hP hS hl
  unfold p_X7_isNoSheet_b9 at hf
  refine lv_iconst (v := 1) X.1 X.2.1 dX7_isNoSheet_9 (by decide) ?_
  refine lv_goto (tgt := 14) X.1 X.2.1 dX7_isNoSheet_10 (by decide) ?_
  exact t_X7_isNoSheet_b14 X  1 H locs ls hf  hP hS (lv_sub hl [] rfl)
set_option maxHeartbeats 4000000 in
set_option maxRecDepth 100000 in
theorem t_X7_isNoSheet_b0 {p : Program} {l : Launch} {e : Env} {s : State} {m : MethodId} {args : Array Value} {below : List Frame} {meth : Method} {c : Code} {D : va_G} {a : Nat → Nat} (X : cx 0 p s m args meth c D [] a cX7_isNoSheet 1 RX7 (some .boolean))   {r : Int32} :
    ∀  (x0 : Int32) (H : Heap) (locs : List Loc) (ls : Array Slot), p_X7_isNoSheet_b0  x0 = some r → va_P D vwCl [] H → va_S (ad a 0 s.heap.size) s.heap H locs → lv_has ls 1 [(0, .int x0)] → W p l e rm_X7_isNoSheet s m args below meth c H locs 0 0 (MQ below (Qi D [] r (ad a 0 s.heap.size)) args s 0 0 (ad a 0 s.heap.size)) (F0 m 0 ls []) := by
  intro  x0 H locs ls hf  hP hS hl
  unfold p_X7_isNoSheet_b0 at hf
  refine lv_iload_n X.1 X.2.1 dX7_isNoSheet_0 rfl (lv_at hl 0 rfl) ?_
  refine lv_if_lt (tgt := 9) X.1 X.2.1 dX7_isNoSheet_1 (by decide) (fun c1 => ?_) (fun c1 => ?_)
  · have hf := it_s hf c1
    exact t_X7_isNoSheet_b9 X   H locs ls hf  hP hS (lv_sub hl [] rfl)
  · have hf := ie_s hf c1
    refine lv_iload_n X.1 X.2.1 dX7_isNoSheet_4 rfl (lv_at hl 0 rfl) ?_
    refine lv_iconst (v := 4) X.1 X.2.1 dX7_isNoSheet_5 (by decide) ?_
    refine lv_icmp_lt (tgt := 13) X.1 X.2.1 dX7_isNoSheet_6 (by decide) (fun c6 => ?_) (fun c6 => ?_)
    · have hf := it_s hf c6
      refine lv_iconst (v := 0) X.1 X.2.1 dX7_isNoSheet_13 (by decide) ?_
      exact t_X7_isNoSheet_b14 X  0 H locs ls hf  hP hS (lv_sub hl [] rfl)
    · have hf := ie_s hf c6
      exact t_X7_isNoSheet_b9 X   H locs ls hf  hP hS (lv_sub hl [] rfl)
set_option maxRecDepth 100000 in
theorem c_X7_isNoSheet {l : Launch} {D : va_G} {a : Nat → Nat}  (x0 : Int32) {o0 : Int32} (hf : p_X7_isNoSheet  x0 = some o0) : Ct 0 l yX7_isNoSheet cX7_isNoSheet 1 (some .boolean) rm_X7_isNoSheet D [] a [] [.int x0] (Qi D [] o0) :=
  Ct.of (by decide +kernel) (fun i j h => absurd h (Nat.not_lt_zero i)) (Nat.le_of_ble_eq_true rfl) (fun p e s m args below meth c ls X hP hl => t_X7_isNoSheet_b0 X  x0 _ _ _ hf  hP va_S.rf hl)
abbrev rm_X7_find : Room := { frames := 0, cells := 0, slots := 0, locals := 0 }
set_option maxHeartbeats 4000000 in
set_option maxRecDepth 100000 in
theorem t_X7_find_b0 {p : Program} {l : Launch} {e : Env} {s : State} {m : MethodId} {args : Array Value} {below : List Frame} {meth : Method} {c : Code} {D : va_G} {a : Nat → Nat} {kc : Nat → ClassId} (X : cx 44 p s m args meth c D (tyC kc) a cX7_find 2 RX7 (some .int)) {G : Nat → Int64} {I : Nat → Nat → Int32} {J : Nat → Nat → Int64} {Z : Nat → Nat → Nat → Int32} {Ff : Nat → Int32} {r : Int32} :
    ∀ (F : Nat → Int32) (x1 : Int32) (H : Heap) (locs : List Loc) (ls : Array Slot), p_X7_find_b0 (F 13) x1 = some (r, (Ff 13)) → (∀ k, k ∉ ([13] : List Nat) → Ff k = F k) → va_P D vwCl (wC a kc F G I J Z) H → va_S (ad a 44 s.heap.size) s.heap H locs → lv_has ls 2 [(0, .ref (a 34)), (1, .int x1)] → W p l e rm_X7_find s m args below meth c H locs 0 0 (MQ below (Qi D (wC a kc Ff G I J Z) r (ad a 44 s.heap.size)) args s 0 0 (ad a 44 s.heap.size)) (F0 m 0 ls []) := by
  intro F x1 H locs ls hf hfF hP hS hl
  unfold p_X7_find_b0 at hf
  refine lv_aload_n X.1 X.2.1 dX7_find_0 rfl (lv_at hl 0 rfl) ?_
  refine lv_iload_n X.1 X.2.1 dX7_find_1 rfl (lv_at hl 1 rfl) ?_
  refine pC_34_7 X q_2_71 dX7_find_2 hP hS (fun H locs hP hS => ?_)
  refine lv_bipush (v := (-10)) X.1 X.2.1 dX7_find_5 (by decide) ?_
  refine lv_iload_n X.1 X.2.1 dX7_find_7 rfl (lv_at hl 1 rfl) ?_
  refine lv_isub X.1 X.2.1 dX7_find_8 ?_
  obtain ⟨e0, hf⟩ := o2 hf
  have e1 := o1 hf
  have EF : Ff = (va_up F 13 x1) := frm_eq (frm_up hfF (by decide)) (frm_c (e1).symm frm_n)
  exact ret_i X hS (by rw [EF]; exact hP) e0 dX7_find_9
set_option maxRecDepth 100000 in
theorem c_X7_find {l : Launch} {D : va_G} {a : Nat → Nat} {kc : Nat → ClassId} (F : Nat → Int32) (G : Nat → Int64) (I : Nat → Nat → Int32) (J : Nat → Nat → Int64) (Z : Nat → Nat → Nat → Int32) (hAp : ∀ i j, i < 44 → j < 44 → a i = a j → i = j) (x1 : Int32) {o0 : Int32} {o1 : Int32} (hf : p_X7_find (F 13) x1 = some (o0, o1)) : Ct 44 l yX7_find cX7_find 2 (some .int) rm_X7_find D (tyC kc) a (wC a kc F G I J Z) [.ref (a 34), .int x1] (Qi D (wC a kc (va_up F 13 o1) G I J Z) o0) :=
  Ct.of (by decide +kernel) hAp (Nat.le_of_ble_eq_true rfl) (fun p e s m args below meth c ls X hP hl => t_X7_find_b0 X F x1 _ _ _ hf (frm_ul (fun k _ => rfl) (by decide)) hP va_S.rf hl)
abbrev rm_X7_refuseSheet : Room := { frames := 1, cells := 0, slots := 0, locals := 21 }
set_option maxHeartbeats 4000000 in
set_option maxRecDepth 100000 in
theorem t_X7_refuseSheet_b11 {p : Program} {l : Launch} {e : Env} {s : State} {m : MethodId} {args : Array Value} {below : List Frame} {meth : Method} {c : Code} {D : va_G} {a : Nat → Nat} {kc : Nat → ClassId} (X : cx 44 p s m args meth c D (tyC kc) a cX7_refuseSheet 3 RX7 (some .int)) {G : Nat → Int64} {I : Nat → Nat → Int32} {J : Nat → Nat → Int64} {Z : Nat → Nat → Nat → Int32} {Ff : Nat → Int32} {r : Int32} :
    ∀ (F : Nat → Int32)  (H : Heap) (locs : List Loc) (ls : Array Slot), p_X7_refuseSheet_b11 (F 13) (I 17)  = some (r, (Ff 13)) → (∀ k, k ∉ ([13] : List Nat) → Ff k = F k) → va_P D vwCl (wC a kc F G I J Z) H → va_S (ad a 44 s.heap.size) s.heap H locs → lv_has ls 3 [(0, .ref (a 34))] → W p l e rm_X7_refuseSheet s m args below meth c H locs 0 0 (MQ below (Qi D (wC a kc Ff G I J Z) r (ad a 44 s.heap.size)) args s 0 0 (ad a 44 s.heap.size)) (F0 m 11 ls []) := by
  intro F  H locs ls hf hfF hP hS hl
  unfold p_X7_refuseSheet_b11 at hf
  refine lv_bipush (v := (-2)) X.1 X.2.1 dX7_refuseSheet_11 (by decide) ?_
  obtain ⟨e0, hf⟩ := o2 hf
  have e1 := o1 hf
  have EF : Ff = F := frm_eq hfF (frm_c (e1).symm frm_n)
  exact ret_i X hS (by rw [EF]; exact hP) e0 dX7_refuseSheet_13
set_option maxHeartbeats 4000000 in
set_option maxRecDepth 100000 in
theorem t_X7_refuseSheet_b36 {p : Program} {l : Launch} {e : Env} {s : State} {m : MethodId} {args : Array Value} {below : List Frame} {meth : Method} {c : Code} {D : va_G} {a : Nat → Nat} {kc : Nat → ClassId} (X : cx 44 p s m args meth c D (tyC kc) a cX7_refuseSheet 3 RX7 (some .int)) {G : Nat → Int64} {I : Nat → Nat → Int32} {J : Nat → Nat → Int64} {Z : Nat → Nat → Nat → Int32} {Ff : Nat → Int32} {r : Int32} :
    ∀ (F : Nat → Int32) (t0 : Int32) (H : Heap) (locs : List Loc) (ls : Array Slot), p_X7_refuseSheet_b36 (F 13) (I 17) t0 = some (r, (Ff 13)) → (∀ k, k ∉ ([13] : List Nat) → Ff k = F k) → va_P D vwCl (wC a kc F G I J Z) H → va_S (ad a 44 s.heap.size) s.heap H locs → lv_has ls 3 [(0, .ref (a 34))] → W p l e rm_X7_refuseSheet s m args below meth c H locs 0 0 (MQ below (Qi D (wC a kc Ff G I J Z) r (ad a 44 s.heap.size)) args s 0 0 (ad a 44 s.heap.size)) (F0 m 36 ls [.int t0]) := by
  intro F t0 H locs ls hf hfF hP hS hl
  unfold p_X7_refuseSheet_b36 at hf
  obtain ⟨e0, hf⟩ := o2 hf
  have e1 := o1 hf
  have EF : Ff = F := frm_eq hfF (frm_c (e1).symm frm_n)
  exact ret_i X hS (by rw [EF]; exact hP) e0 dX7_refuseSheet_36
set_option maxHeartbeats 4000000 in
set_option maxRecDepth 100000 in
theorem t_X7_refuseSheet_b0 {p : Program} {l : Launch} {e : Env} {s : State} {m : MethodId} {args : Array Value} {below : List Frame} {meth : Method} {c : Code} {D : va_G} {a : Nat → Nat} {kc : Nat → ClassId} (X : cx 44 p s m args meth c D (tyC kc) a cX7_refuseSheet 3 RX7 (some .int)) {G : Nat → Int64} {I : Nat → Nat → Int32} {J : Nat → Nat → Int64} {Z : Nat → Nat → Nat → Int32} {Ff : Nat → Int32} {r : Int32} :
    ∀ (F : Nat → Int32) (x1 : Int32) (x2 : Int32) (H : Heap) (locs : List Loc) (ls : Array Slot), p_X7_refuseSheet_b0 (F 13) (I 17) x1 x2 = some (r, (Ff 13)) → (∀ k, k ∉ ([13] : List Nat) → Ff k = F k) → va_P D vwCl (wC a kc F G I J Z) H → va_S (ad a 44 s.heap.size) s.heap H locs → lv_has ls 3 [(0, .ref (a 34)), (1, .int x1), (2, .int x2)] → W p l e rm_X7_refuseSheet s m args below meth c H locs 0 0 (MQ below (Qi D (wC a kc Ff G I J Z) r (ad a 44 s.heap.size)) args s 0 0 (ad a 44 s.heap.size)) (F0 m 0 ls []) := by
  intro F x1 x2 H locs ls hf hfF hP hS hl
  unfold p_X7_refuseSheet_b0 at hf
  refine lv_iload_n X.1 X.2.1 dX7_refuseSheet_0 rfl (lv_at hl 1 rfl) ?_
  obtain ⟨r1, ho, hf⟩ := b1_s hf
  refine call_si (rest := []) X (c_X7_isNoSheet x1 ho) q_2_235 q_2_236 q_1_1 q_2_237 ok_X7_isNoSheet rfl ⟨Nat.le_of_ble_eq_true rfl, Nat.le_of_ble_eq_true rfl⟩ rfl rfl hl.1 rfl (Nat.le_of_ble_eq_true rfl) dX7_refuseSheet_1 hP hS (fun H locs hP hS => ?_)
  refine lv_if_ne (tgt := 11) X.1 X.2.1 dX7_refuseSheet_4 (by decide) (fun c4 => ?_) (fun c4 => ?_)
  · have hf := ie_s hf c4
    exact t_X7_refuseSheet_b11 X F  H locs ls hf hfF hP hS (lv_sub hl [0] rfl)
  · have hf := it_s hf c4
    refine lv_iload_n X.1 X.2.1 dX7_refuseSheet_7 rfl (lv_at hl 2 rfl) ?_
    refine lv_if_ne (tgt := 14) X.1 X.2.1 dX7_refuseSheet_8 (by decide) (fun c8 => ?_) (fun c8 => ?_)
    · have hf := ie_s hf c8
      refine lv_aload_n X.1 X.2.1 dX7_refuseSheet_14 rfl (lv_at hl 0 rfl) ?_
      refine gC_34_6 X q_2_70 dX7_refuseSheet_15 hP ?_
      refine lv_iload_n X.1 X.2.1 dX7_refuseSheet_18 rfl (lv_at hl 1 rfl) ?_
      obtain ⟨h19, hf⟩ := gd_s hf
      refine alC_35 X h19 dX7_refuseSheet_19 hP ?_
      obtain ⟨h20, hf⟩ := gd_s hf
      refine gC_sh_2 (I := I) X (of_decide_eq_true h20) (f := (I 17)) rfl q_2_56 dX7_refuseSheet_20 hP ?_
      refine lv_iconst (v := (-1)) X.1 X.2.1 dX7_refuseSheet_23 (by decide) ?_
      refine lv_icmp_ne (tgt := 35) X.1 X.2.1 dX7_refuseSheet_24 (by decide) (fun c24 => ?_) (fun c24 => ?_)
      · have hf := ie_s hf c24
        refine lv_iconst (v := 0) X.1 X.2.1 dX7_refuseSheet_35 (by decide) ?_
        exact t_X7_refuseSheet_b36 X F 0 H locs ls hf hfF hP hS (lv_sub hl [0] rfl)
      · have hf := it_s hf c24
        refine lv_aload_n X.1 X.2.1 dX7_refuseSheet_27 rfl (lv_at hl 0 rfl) ?_
        refine lv_iconst (v := 1) X.1 X.2.1 dX7_refuseSheet_28 (by decide) ?_
        obtain ⟨r29, T_finding_29, ho, hf⟩ := b2_s hf
        refine call_vi (rest := []) X (c_X7_find F G I J Z X.2.2.2.2.2.2.2.1 1 ho) q_2_238 q_3_0 qs_yX7_find q_1_1 q_3_1 ok_X7_find rfl 34 rfl rfl ⟨Nat.le_of_ble_eq_true rfl, Nat.le_of_ble_eq_true rfl⟩ rfl rfl hl.1 rfl (Nat.le_of_ble_eq_true rfl) dX7_refuseSheet_29 hP hS (fun H locs hP hS => ?_)
        refine lv_goto (tgt := 36) X.1 X.2.1 dX7_refuseSheet_32 (by decide) ?_
        exact t_X7_refuseSheet_b36 X (va_up F 13 T_finding_29) r29 H locs ls hf (frm_up hfF (by decide)) hP hS (lv_sub hl [0] rfl)
    · have hf := it_s hf c8
      exact t_X7_refuseSheet_b11 X F  H locs ls hf hfF hP hS (lv_sub hl [0] rfl)
set_option maxRecDepth 100000 in
theorem c_X7_refuseSheet {l : Launch} {D : va_G} {a : Nat → Nat} {kc : Nat → ClassId} (F : Nat → Int32) (G : Nat → Int64) (I : Nat → Nat → Int32) (J : Nat → Nat → Int64) (Z : Nat → Nat → Nat → Int32) (hAp : ∀ i j, i < 44 → j < 44 → a i = a j → i = j) (x1 : Int32) (x2 : Int32) {o0 : Int32} {o1 : Int32} (hf : p_X7_refuseSheet (F 13) (I 17) x1 x2 = some (o0, o1)) : Ct 44 l yX7_refuseSheet cX7_refuseSheet 3 (some .int) rm_X7_refuseSheet D (tyC kc) a (wC a kc F G I J Z) [.ref (a 34), .int x1, .int x2] (Qi D (wC a kc (va_up F 13 o1) G I J Z) o0) :=
  Ct.of (by decide +kernel) hAp (Nat.le_of_ble_eq_true rfl) (fun p e s m args below meth c ls X hP hl => t_X7_refuseSheet_b0 X F x1 x2 _ _ _ hf (frm_ul (fun k _ => rfl) (by decide)) hP va_S.rf hl)
abbrev rm_X7_refuseSitting : Room := { frames := 2, cells := 0, slots := 0, locals := 43 }
set_option maxHeartbeats 4000000 in
set_option maxRecDepth 100000 in
theorem t_X7_refuseSitting_b38 {p : Program} {l : Launch} {e : Env} {s : State} {m : MethodId} {args : Array Value} {below : List Frame} {meth : Method} {c : Code} {D : va_G} {a : Nat → Nat} {kc : Nat → ClassId} (X : cx 44 p s m args meth c D (tyC kc) a cX7_refuseSitting 4 RX7 (some .int)) {G : Nat → Int64} {I : Nat → Nat → Int32} {J : Nat → Nat → Int64} {Z : Nat → Nat → Nat → Int32} {Ff : Nat → Int32} {r : Int32} :
    ∀ (F : Nat → Int32) (t0 : Int32) (H : Heap) (locs : List Loc) (ls : Array Slot), p_X7_refuseSitting_b38 (F 2) (F 13) (I 17) t0 = some (r, (Ff 13)) → (∀ k, k ∉ ([13] : List Nat) → Ff k = F k) → va_P D vwCl (wC a kc F G I J Z) H → va_S (ad a 44 s.heap.size) s.heap H locs → lv_has ls 4 [(0, .ref (a 34))] → W p l e rm_X7_refuseSitting s m args below meth c H locs 0 0 (MQ below (Qi D (wC a kc Ff G I J Z) r (ad a 44 s.heap.size)) args s 0 0 (ad a 44 s.heap.size)) (F0 m 38 ls [.int t0]) := by
  intro F t0 H locs ls hf hfF hP hS hl
  unfold p_X7_refuseSitting_b38 at hf
  obtain ⟨e0, hf⟩ := o2 hf
  have e1 := o1 hf
  have EF : Ff = F := frm_eq hfF (frm_c (e1).symm frm_n)
  exact ret_i X hS (by rw [EF]; exact hP) e0 dX7_refuseSitting_38
set_option maxHeartbeats 4000000 in
set_option maxRecDepth 100000 in
theorem t_X7_refuseSitting_b0 {p : Program} {l : Launch} {e : Env} {s : State} {m : MethodId} {args : Array Value} {below : List Frame} {meth : Method} {c : Code} {D : va_G} {a : Nat → Nat} {kc : Nat → ClassId} (X : cx 44 p s m args meth c D (tyC kc) a cX7_refuseSitting 4 RX7 (some .int)) {G : Nat → Int64} {I : Nat → Nat → Int32} {J : Nat → Nat → Int64} {Z : Nat → Nat → Nat → Int32} {Ff : Nat → Int32} {r : Int32} :
    ∀ (F : Nat → Int32) (x1 : Int32) (x2 : Int32) (H : Heap) (locs : List Loc) (ls : Array Slot), p_X7_refuseSitting_b0 (F 2) (F 13) (I 17) x1 x2 = some (r, (Ff 13)) → (∀ k, k ∉ ([13] : List Nat) → Ff k = F k) → va_P D vwCl (wC a kc F G I J Z) H → va_S (ad a 44 s.heap.size) s.heap H locs → lv_has ls 4 [(0, .ref (a 34)), (1, .int x1), (2, .int x2)] → W p l e rm_X7_refuseSitting s m args below meth c H locs 0 0 (MQ below (Qi D (wC a kc Ff G I J Z) r (ad a 44 s.heap.size)) args s 0 0 (ad a 44 s.heap.size)) (F0 m 0 ls []) := by
  intro F x1 x2 H locs ls hf hfF hP hS hl
  unfold p_X7_refuseSitting_b0 at hf
  refine lv_aload_n X.1 X.2.1 dX7_refuseSitting_0 rfl (lv_at hl 0 rfl) ?_
  refine lv_iload_n X.1 X.2.1 dX7_refuseSitting_1 rfl (lv_at hl 1 rfl) ?_
  refine lv_iload_n X.1 X.2.1 dX7_refuseSitting_2 rfl (lv_at hl 2 rfl) ?_
  obtain ⟨r3, T_finding_3, ho, hf⟩ := b2_s hf
  refine call_vi (rest := []) X (c_X7_refuseSheet F G I J Z X.2.2.2.2.2.2.2.1 x1 x2 ho) q_2_231 q_2_233 qs_yX7_refuseSheet q_1_1 q_2_234 ok_X7_refuseSheet rfl 34 rfl rfl ⟨Nat.le_of_ble_eq_true rfl, Nat.le_of_ble_eq_true rfl⟩ rfl rfl hl.1 rfl (Nat.le_of_ble_eq_true rfl) dX7_refuseSitting_3 hP hS (fun H locs hP hS => ?_)
  refine lv_istore_n (lv' := [(3, .int r3), (0, .ref (a 34)), (1, .int x1), (2, .int x2)]) X.1 X.2.1 dX7_refuseSitting_6 rfl hl (by decide) rfl (fun ls hl => ?_)
  refine lv_iload_n X.1 X.2.1 dX7_refuseSitting_7 rfl (lv_at hl 0 rfl) ?_
  refine lv_if_eq (tgt := 13) X.1 X.2.1 dX7_refuseSitting_8 (by decide) (fun c8 => ?_) (fun c8 => ?_)
  · have hf := it_s hf c8
    refine lv_aload_n X.1 X.2.1 dX7_refuseSitting_13 rfl (lv_at hl 1 rfl) ?_
    refine gC_34_6 X q_2_70 dX7_refuseSitting_14 hP ?_
    refine lv_iload_n X.1 X.2.1 dX7_refuseSitting_17 rfl (lv_at hl 2 rfl) ?_
    obtain ⟨h18, hf⟩ := gd_s hf
    refine alC_35 X h18 dX7_refuseSitting_18 hP ?_
    obtain ⟨h19, hf⟩ := gd_s hf
    refine gC_sh_2 (I := I) X (of_decide_eq_true h19) (f := (I 17)) rfl q_2_56 dX7_refuseSitting_19 hP ?_
    refine lv_aload_n X.1 X.2.1 dX7_refuseSitting_22 rfl (lv_at hl 1 rfl) ?_
    refine gC_34_0 X q_2_64 dX7_refuseSitting_23 hP ?_
    refine gC_0_10 (F := (va_up F 13 T_finding_3)) X (v := (F 2)) rfl q_1_93 dX7_refuseSitting_26 hP ?_
    refine lv_icmp_ge (tgt := 37) X.1 X.2.1 dX7_refuseSitting_29 (by decide) (fun c29 => ?_) (fun c29 => ?_)
    · have hf := it_s hf c29
      refine lv_iconst (v := 0) X.1 X.2.1 dX7_refuseSitting_37 (by decide) ?_
      exact t_X7_refuseSitting_b38 X (va_up F 13 T_finding_3) 0 H locs ls hf (frm_up hfF (by decide)) hP hS (lv_sub hl [1] rfl)
    · have hf := ie_s hf c29
      refine lv_bipush (v := (-3)) X.1 X.2.1 dX7_refuseSitting_32 (by decide) ?_
      refine lv_goto (tgt := 38) X.1 X.2.1 dX7_refuseSitting_34 (by decide) ?_
      exact t_X7_refuseSitting_b38 X (va_up F 13 T_finding_3) (-3) H locs ls hf (frm_up hfF (by decide)) hP hS (lv_sub hl [1] rfl)
  · have hf := ie_s hf c8
    refine lv_iload_n X.1 X.2.1 dX7_refuseSitting_11 rfl (lv_at hl 0 rfl) ?_
    obtain ⟨e0, hf⟩ := o2 hf
    have e1 := o1 hf
    have EF : Ff = (va_up F 13 T_finding_3) := frm_eq (frm_up hfF (by decide)) (frm_c (e1).symm frm_n)
    exact ret_i X hS (by rw [EF]; exact hP) e0 dX7_refuseSitting_12
set_option maxRecDepth 100000 in
theorem c_X7_refuseSitting {l : Launch} {D : va_G} {a : Nat → Nat} {kc : Nat → ClassId} (F : Nat → Int32) (G : Nat → Int64) (I : Nat → Nat → Int32) (J : Nat → Nat → Int64) (Z : Nat → Nat → Nat → Int32) (hAp : ∀ i j, i < 44 → j < 44 → a i = a j → i = j) (x1 : Int32) (x2 : Int32) {o0 : Int32} {o1 : Int32} (hf : p_X7_refuseSitting (F 2) (F 13) (I 17) x1 x2 = some (o0, o1)) : Ct 44 l yX7_refuseSitting cX7_refuseSitting 4 (some .int) rm_X7_refuseSitting D (tyC kc) a (wC a kc F G I J Z) [.ref (a 34), .int x1, .int x2] (Qi D (wC a kc (va_up F 13 o1) G I J Z) o0) :=
  Ct.of (by decide +kernel) hAp (Nat.le_of_ble_eq_true rfl) (fun p e s m args below meth c ls X hP hl => t_X7_refuseSitting_b0 X F x1 x2 _ _ _ hf (frm_ul (fun k _ => rfl) (by decide)) hP va_S.rf hl)
abbrev rm_X7_judged : Room := { frames := 3, cells := 0, slots := 0, locals := 74 }
set_option maxHeartbeats 4000000 in
set_option maxRecDepth 100000 in
theorem t_X7_judged_b31 {p : Program} {l : Launch} {e : Env} {s : State} {m : MethodId} {args : Array Value} {below : List Frame} {meth : Method} {c : Code} {D : va_G} {a : Nat → Nat} {kc : Nat → ClassId} (X : cx 44 p s m args meth c D (tyC kc) a cX7_judged 3 RX7 (some .int)) {G : Nat → Int64} {I : Nat → Nat → Int32} {J : Nat → Nat → Int64} {Z : Nat → Nat → Nat → Int32} {Ff : Nat → Int32} {r : Int32} :
    ∀ (F : Nat → Int32) (t0 : Int32) (H : Heap) (locs : List Loc) (ls : Array Slot), p_X7_judged_b31 (F 0) (F 2) (F 13) (I 2) (I 4) (I 5) (I 6) (I 17) (Z 1) t0 = some (r, (Ff 13)) → (∀ k, k ∉ ([13] : List Nat) → Ff k = F k) → va_P D vwCl (wC a kc F G I J Z) H → va_S (ad a 44 s.heap.size) s.heap H locs → lv_has ls 3 [(0, .ref (a 34))] → W p l e rm_X7_judged s m args below meth c H locs 0 0 (MQ below (Qi D (wC a kc Ff G I J Z) r (ad a 44 s.heap.size)) args s 0 0 (ad a 44 s.heap.size)) (F0 m 31 ls [.int t0]) := by
  intro F t0 H locs ls hf hfF hP hS hl
  unfold p_X7_judged_b31 at hf
  obtain ⟨e0, hf⟩ := o2 hf
  have e1 := o1 hf
  have EF : Ff = F := frm_eq hfF (frm_c (e1).symm frm_n)
  exact ret_i X hS (by rw [EF]; exact hP) e0 dX7_judged_31
set_option maxHeartbeats 4000000 in
set_option maxRecDepth 100000 in
theorem t_X7_judged_b0 {p : Program} {l : Launch} {e : Env} {s : State} {m : MethodId} {args : Array Value} {below : List Frame} {meth : Method} {c : Code} {D : va_G} {a : Nat → Nat} {kc : Nat → ClassId} (X : cx 44 p s m args meth c D (tyC kc) a cX7_judged 3 RX7 (some .int)) {G : Nat → Int64} {I : Nat → Nat → Int32} {J : Nat → Nat → Int64} {Z : Nat → Nat → Nat → Int32} {Ff : Nat → Int32} {r : Int32} :
    ∀ (F : Nat → Int32) (x1 : Int32) (H : Heap) (locs : List Loc) (ls : Array Slot), p_X7_judged_b0 (F 0) (F 2) (F 13) (I 2) (I 4) (I 5) (I 6) (I 17) (Z 1) x1 = some (r, (Ff 13)) → (∀ k, k ∉ ([13] : List Nat) → Ff k = F k) → va_P D vwCl (wC a kc F G I J Z) H → va_S (ad a 44 s.heap.size) s.heap H locs → lv_has ls 3 [(0, .ref (a 34)), (1, .int x1)] → W p l e rm_X7_judged s m args below meth c H locs 0 0 (MQ below (Qi D (wC a kc Ff G I J Z) r (ad a 44 s.heap.size)) args s 0 0 (ad a 44 s.heap.size)) (F0 m 0 ls []) := by
  intro F x1 H locs ls hf hfF hP hS hl
  unfold p_X7_judged_b0 at hf
  refine lv_aload_n X.1 X.2.1 dX7_judged_0 rfl (lv_at hl 0 rfl) ?_
  refine lv_iload_n X.1 X.2.1 dX7_judged_1 rfl (lv_at hl 1 rfl) ?_
  refine lv_iconst (v := 1) X.1 X.2.1 dX7_judged_2 (by decide) ?_
  obtain ⟨r3, T_finding_3, ho, hf⟩ := b2_s hf
  refine call_vi (rest := []) X (c_X7_refuseSitting F G I J Z X.2.2.2.2.2.2.2.1 x1 1 ho) q_2_227 q_2_229 qs_yX7_refuseSitting q_1_1 q_2_230 ok_X7_refuseSitting rfl 34 rfl rfl ⟨Nat.le_of_ble_eq_true rfl, Nat.le_of_ble_eq_true rfl⟩ rfl rfl hl.1 rfl (Nat.le_of_ble_eq_true rfl) dX7_judged_3 hP hS (fun H locs hP hS => ?_)
  refine lv_istore_n (lv' := [(2, .int r3), (0, .ref (a 34)), (1, .int x1)]) X.1 X.2.1 dX7_judged_6 rfl hl (by decide) rfl (fun ls hl => ?_)
  refine lv_iload_n X.1 X.2.1 dX7_judged_7 rfl (lv_at hl 0 rfl) ?_
  refine lv_if_eq (tgt := 15) X.1 X.2.1 dX7_judged_8 (by decide) (fun c8 => ?_) (fun c8 => ?_)
  · have hf := it_s hf c8
    refine lv_aload_n X.1 X.2.1 dX7_judged_15 rfl (lv_at hl 1 rfl) ?_
    refine gC_34_0 X q_2_64 dX7_judged_16 hP ?_
    refine lv_aload_n X.1 X.2.1 dX7_judged_19 rfl (lv_at hl 1 rfl) ?_
    refine gC_34_6 X q_2_70 dX7_judged_20 hP ?_
    refine lv_iload_n X.1 X.2.1 dX7_judged_23 rfl (lv_at hl 2 rfl) ?_
    obtain ⟨h24, hf⟩ := gd_s hf
    refine alC_35 X h24 dX7_judged_24 hP ?_
    obtain ⟨h25, hf⟩ := gd_s hf
    refine gC_sh_0 X (of_decide_eq_true h25) q_2_52 dX7_judged_25 hP ?_
    obtain ⟨r28, ho, hf⟩ := b1_s hf
    refine call_vi (rest := []) X (c_X3_firstWhoCannot (va_up F 13 T_finding_3) G I J Z X.2.2.2.2.2.2.2.1 x1.toNatClampNeg ho) q_3_2 q_3_3 q_3_4 q_1_2 q_3_5 ok_X3_firstWhoCannot rfl 0 rfl rfl ⟨Nat.le_of_ble_eq_true rfl, Nat.le_of_ble_eq_true rfl⟩ rfl rfl hl.1 rfl (Nat.le_of_ble_eq_true rfl) dX7_judged_28 hP hS (fun H locs hP hS => ?_)
    exact t_X7_judged_b31 X (va_up F 13 T_finding_3) r28 H locs ls hf (frm_up hfF (by decide)) hP hS (lv_sub hl [1] rfl)
  · have hf := ie_s hf c8
    refine lv_iload_n X.1 X.2.1 dX7_judged_11 rfl (lv_at hl 0 rfl) ?_
    refine lv_goto (tgt := 31) X.1 X.2.1 dX7_judged_12 (by decide) ?_
    exact t_X7_judged_b31 X (va_up F 13 T_finding_3) r3 H locs ls hf (frm_up hfF (by decide)) hP hS (lv_sub hl [1] rfl)
set_option maxRecDepth 100000 in
theorem c_X7_judged {l : Launch} {D : va_G} {a : Nat → Nat} {kc : Nat → ClassId} (F : Nat → Int32) (G : Nat → Int64) (I : Nat → Nat → Int32) (J : Nat → Nat → Int64) (Z : Nat → Nat → Nat → Int32) (hAp : ∀ i j, i < 44 → j < 44 → a i = a j → i = j) (x1 : Int32) {o0 : Int32} {o1 : Int32} (hf : p_X7_judged (F 0) (F 2) (F 13) (I 2) (I 4) (I 5) (I 6) (I 17) (Z 1) x1 = some (o0, o1)) : Ct 44 l yX7_judged cX7_judged 3 (some .int) rm_X7_judged D (tyC kc) a (wC a kc F G I J Z) [.ref (a 34), .int x1] (Qi D (wC a kc (va_up F 13 o1) G I J Z) o0) :=
  Ct.of (by decide +kernel) hAp (Nat.le_of_ble_eq_true rfl) (fun p e s m args below meth c ls X hP hl => t_X7_judged_b0 X F x1 _ _ _ hf (frm_ul (fun k _ => rfl) (by decide)) hP va_S.rf hl)
abbrev rm_X7_sitting : Room := { frames := 3, cells := 0, slots := 0, locals := 77 }
set_option maxHeartbeats 4000000 in
set_option maxRecDepth 100000 in
theorem t_X7_sitting_b52 {p : Program} {l : Launch} {e : Env} {s : State} {m : MethodId} {args : Array Value} {below : List Frame} {meth : Method} {c : Code} {D : va_G} {a : Nat → Nat} {kc : Nat → ClassId} (X : cx 44 p s m args meth c D (tyC kc) a cX7_sitting 4 RX7 (some .long)) {G : Nat → Int64} {I : Nat → Nat → Int32} {J : Nat → Nat → Int64} {Z : Nat → Nat → Nat → Int32} {Ff : Nat → Int32} {r : Int64} :
    ∀ (F : Nat → Int32) (t0 : Int64) (H : Heap) (locs : List Loc) (ls : Array Slot), p_X7_sitting_b52 (F 0) (F 2) (F 13) (I 2) (I 4) (I 5) (I 6) (I 17) (Z 1) t0 = some (r, (Ff 13)) → (∀ k, k ∉ ([13] : List Nat) → Ff k = F k) → va_P D vwCl (wC a kc F G I J Z) H → va_S (ad a 44 s.heap.size) s.heap H locs → lv_has ls 4 [(0, .ref (a 34))] → W p l e rm_X7_sitting s m args below meth c H locs 0 0 (MQ below (Ql D (wC a kc Ff G I J Z) r (ad a 44 s.heap.size)) args s 0 0 (ad a 44 s.heap.size)) (F0 m 52 ls [.long t0]) := by
  intro F t0 H locs ls hf hfF hP hS hl
  unfold p_X7_sitting_b52 at hf
  obtain ⟨e0, hf⟩ := o2 hf
  have e1 := o1 hf
  have EF : Ff = F := frm_eq hfF (frm_c (e1).symm frm_n)
  exact ret_l X hS (by rw [EF]; exact hP) e0 dX7_sitting_52
set_option maxHeartbeats 4000000 in
set_option maxRecDepth 100000 in
theorem t_X7_sitting_b14 {p : Program} {l : Launch} {e : Env} {s : State} {m : MethodId} {args : Array Value} {below : List Frame} {meth : Method} {c : Code} {D : va_G} {a : Nat → Nat} {kc : Nat → ClassId} (X : cx 44 p s m args meth c D (tyC kc) a cX7_sitting 4 RX7 (some .long)) {G : Nat → Int64} {I : Nat → Nat → Int32} {J : Nat → Nat → Int64} {Z : Nat → Nat → Nat → Int32} {Ff : Nat → Int32} {r : Int64} :
    ∀ (F : Nat → Int32) (t1 : Int32) (t2 : Int32) (x1 : Int32) (x2 : Int32) (H : Heap) (locs : List Loc) (ls : Array Slot), p_X7_sitting_b14 (F 0) (F 2) (F 13) (I 2) (I 4) (I 5) (I 6) (I 17) (Z 1) t1 t2 x1 x2 = some (r, (Ff 13)) → (∀ k, k ∉ ([13] : List Nat) → Ff k = F k) → va_P D vwCl (wC a kc F G I J Z) H → va_S (ad a 44 s.heap.size) s.heap H locs → lv_has ls 4 [(0, .ref (a 34)), (1, .int x1), (2, .int x2)] → W p l e rm_X7_sitting s m args below meth c H locs 0 0 (MQ below (Ql D (wC a kc Ff G I J Z) r (ad a 44 s.heap.size)) args s 0 0 (ad a 44 s.heap.size)) (F0 m 14 ls [.int t2, .int t1, .ref (a 34)]) := by
  intro F t1 t2 x1 x2 H locs ls hf hfF hP hS hl
  unfold p_X7_sitting_b14 at hf
  obtain ⟨r14, T_finding_14, ho, hf⟩ := b2_s hf
  refine call_vi (rest := []) X (c_X7_refuseSitting F G I J Z X.2.2.2.2.2.2.2.1 t1 t2 ho) q_2_227 q_2_229 qs_yX7_refuseSitting q_1_1 q_2_230 ok_X7_refuseSitting rfl 34 rfl rfl ⟨Nat.le_of_ble_eq_true rfl, Nat.le_of_ble_eq_true rfl⟩ rfl rfl hl.1 rfl (Nat.le_of_ble_eq_true rfl) dX7_sitting_14 hP hS (fun H locs hP hS => ?_)
  refine lv_istore_n (lv' := [(3, .int r14), (0, .ref (a 34)), (1, .int x1), (2, .int x2)]) X.1 X.2.1 dX7_sitting_17 rfl hl (by decide) rfl (fun ls hl => ?_)
  refine lv_iload_n X.1 X.2.1 dX7_sitting_18 rfl (lv_at hl 0 rfl) ?_
  refine lv_if_eq (tgt := 29) X.1 X.2.1 dX7_sitting_19 (by decide) (fun c19 => ?_) (fun c19 => ?_)
  · have hf := it_s hf c19
    refine lv_aload_n X.1 X.2.1 dX7_sitting_29 rfl (lv_at hl 1 rfl) ?_
    refine gC_34_0 X q_2_64 dX7_sitting_30 hP ?_
    refine lv_aload_n X.1 X.2.1 dX7_sitting_33 rfl (lv_at hl 1 rfl) ?_
    refine gC_34_6 X q_2_70 dX7_sitting_34 hP ?_
    refine lv_iload_n X.1 X.2.1 dX7_sitting_37 rfl (lv_at hl 2 rfl) ?_
    obtain ⟨h38, hf⟩ := gd_s hf
    refine alC_35 X h38 dX7_sitting_38 hP ?_
    obtain ⟨h39, hf⟩ := gd_s hf
    refine gC_sh_0 X (of_decide_eq_true h39) q_2_52 dX7_sitting_39 hP ?_
    obtain ⟨r42, ho, hf⟩ := b1_s hf
    refine call_vl (rest := []) X (c_X3_chanceOf (va_up F 13 T_finding_14) G I J Z X.2.2.2.2.2.2.2.1 x1.toNatClampNeg ho) q_3_15 q_3_16 q_3_17 q_1_2 q_3_18 ok_X3_chanceOf rfl 0 rfl rfl ⟨Nat.le_of_ble_eq_true rfl, Nat.le_of_ble_eq_true rfl⟩ rfl rfl hl.1 rfl (Nat.le_of_ble_eq_true rfl) dX7_sitting_42 hP hS (fun H locs hP hS => ?_)
    refine lv_ldc2 (v := 182891520000) X.1 X.2.1 X.2.2.2.2.1 (X.2.2.2.2.2.1 _ q_2_198) dX7_sitting_45 ?_
    refine lv_iload_n X.1 X.2.1 dX7_sitting_48 rfl (lv_at hl 3 rfl) ?_
    obtain ⟨r49, ho, hf⟩ := b1_s hf
    refine call_sl (rest := []) X (c_X7_part r42 182891520000 x2 ho) q_2_199 q_2_200 q_1_1 q_2_201 ok_X7_part rfl ⟨Nat.le_of_ble_eq_true rfl, Nat.le_of_ble_eq_true rfl⟩ rfl rfl hl.1 rfl (Nat.le_of_ble_eq_true rfl) dX7_sitting_49 hP hS (fun H locs hP hS => ?_)
    exact t_X7_sitting_b52 X (va_up F 13 T_finding_14) r49 H locs ls hf (frm_up hfF (by decide)) hP hS (lv_sub hl [1] rfl)
  · have hf := ie_s hf c19
    refine lv_iload_n X.1 X.2.1 dX7_sitting_22 rfl (lv_at hl 0 rfl) ?_
    obtain ⟨r23, ho, hf⟩ := b1_s hf
    refine call_sl (rest := []) X (c_X7_asLong r14 ho) q_2_143 q_2_144 q_1_1 q_2_145 ok_X7_asLong rfl ⟨Nat.le_of_ble_eq_true rfl, Nat.le_of_ble_eq_true rfl⟩ rfl rfl hl.1 rfl (Nat.le_of_ble_eq_true rfl) dX7_sitting_23 hP hS (fun H locs hP hS => ?_)
    refine lv_goto (tgt := 52) X.1 X.2.1 dX7_sitting_26 (by decide) ?_
    exact t_X7_sitting_b52 X (va_up F 13 T_finding_14) r23 H locs ls hf (frm_up hfF (by decide)) hP hS (lv_sub hl [1] rfl)
set_option maxHeartbeats 4000000 in
set_option maxRecDepth 100000 in
theorem t_X7_sitting_b0 {p : Program} {l : Launch} {e : Env} {s : State} {m : MethodId} {args : Array Value} {below : List Frame} {meth : Method} {c : Code} {D : va_G} {a : Nat → Nat} {kc : Nat → ClassId} (X : cx 44 p s m args meth c D (tyC kc) a cX7_sitting 4 RX7 (some .long)) {G : Nat → Int64} {I : Nat → Nat → Int32} {J : Nat → Nat → Int64} {Z : Nat → Nat → Nat → Int32} {Ff : Nat → Int32} {r : Int64} :
    ∀ (F : Nat → Int32) (x1 : Int32) (x2 : Int32) (H : Heap) (locs : List Loc) (ls : Array Slot), p_X7_sitting_b0 (F 0) (F 2) (F 13) (I 2) (I 4) (I 5) (I 6) (I 17) (Z 1) x1 x2 = some (r, (Ff 13)) → (∀ k, k ∉ ([13] : List Nat) → Ff k = F k) → va_P D vwCl (wC a kc F G I J Z) H → va_S (ad a 44 s.heap.size) s.heap H locs → lv_has ls 4 [(0, .ref (a 34)), (1, .int x1), (2, .int x2)] → W p l e rm_X7_sitting s m args below meth c H locs 0 0 (MQ below (Ql D (wC a kc Ff G I J Z) r (ad a 44 s.heap.size)) args s 0 0 (ad a 44 s.heap.size)) (F0 m 0 ls []) := by
  intro F x1 x2 H locs ls hf hfF hP hS hl
  unfold p_X7_sitting_b0 at hf
  refine lv_aload_n X.1 X.2.1 dX7_sitting_0 rfl (lv_at hl 0 rfl) ?_
  refine lv_iload_n X.1 X.2.1 dX7_sitting_1 rfl (lv_at hl 1 rfl) ?_
  refine lv_iload_n X.1 X.2.1 dX7_sitting_2 rfl (lv_at hl 2 rfl) ?_
  obtain ⟨r3, ho, hf⟩ := b1_s hf
  refine call_si (rest := [.int x1, .ref (a 34)]) X (c_X7_isNoPart x2 ho) q_2_136 q_2_137 q_1_1 q_2_138 ok_X7_isNoPart rfl ⟨Nat.le_of_ble_eq_true rfl, Nat.le_of_ble_eq_true rfl⟩ rfl rfl hl.1 rfl (Nat.le_of_ble_eq_true rfl) dX7_sitting_3 hP hS (fun H locs hP hS => ?_)
  refine lv_if_ne (tgt := 13) X.1 X.2.1 dX7_sitting_6 (by decide) (fun c6 => ?_) (fun c6 => ?_)
  · have hf := ie_s hf c6
    refine lv_iconst (v := 0) X.1 X.2.1 dX7_sitting_13 (by decide) ?_
    exact t_X7_sitting_b14 X F x1 0 x1 x2 H locs ls hf hfF hP hS (lv_sub hl [0, 1, 2] rfl)
  · have hf := it_s hf c6
    refine lv_iconst (v := 1) X.1 X.2.1 dX7_sitting_9 (by decide) ?_
    refine lv_goto (tgt := 14) X.1 X.2.1 dX7_sitting_10 (by decide) ?_
    exact t_X7_sitting_b14 X F x1 1 x1 x2 H locs ls hf hfF hP hS (lv_sub hl [0, 1, 2] rfl)
set_option maxRecDepth 100000 in
theorem c_X7_sitting {l : Launch} {D : va_G} {a : Nat → Nat} {kc : Nat → ClassId} (F : Nat → Int32) (G : Nat → Int64) (I : Nat → Nat → Int32) (J : Nat → Nat → Int64) (Z : Nat → Nat → Nat → Int32) (hAp : ∀ i j, i < 44 → j < 44 → a i = a j → i = j) (x1 : Int32) (x2 : Int32) {o0 : Int64} {o1 : Int32} (hf : p_X7_sitting (F 0) (F 2) (F 13) (I 2) (I 4) (I 5) (I 6) (I 17) (Z 1) x1 x2 = some (o0, o1)) : Ct 44 l yX7_sitting cX7_sitting 4 (some .long) rm_X7_sitting D (tyC kc) a (wC a kc F G I J Z) [.ref (a 34), .int x1, .int x2] (Ql D (wC a kc (va_up F 13 o1) G I J Z) o0) :=
  Ct.of (by decide +kernel) hAp (Nat.le_of_ble_eq_true rfl) (fun p e s m args below meth c ls X hP hl => t_X7_sitting_b0 X F x1 x2 _ _ _ hf (frm_ul (fun k _ => rfl) (by decide)) hP va_S.rf hl)
abbrev rm_X7_order : Room := { frames := 14, cells := 0, slots := 0, locals := 400 }
set_option maxHeartbeats 4000000 in
set_option maxRecDepth 100000 in
theorem t_X7_order_b0 {p : Program} {l : Launch} {e : Env} {s : State} {m : MethodId} {args : Array Value} {below : List Frame} {meth : Method} {c : Code} {D : va_G} {a : Nat → Nat} {kc : Nat → ClassId} (X : cx 44 p s m args meth c D (tyC kc) a cX7_order 2 RX7 (some .int)) {Z : Nat → Nat → Nat → Int32} {Ff : Nat → Int32} {Gf : Nat → Int64} {If : Nat → Nat → Int32} {Jf : Nat → Nat → Int64} {r : Int32} :
    ∀ (F : Nat → Int32) (G : Nat → Int64) (I : Nat → Nat → Int32) (J : Nat → Nat → Int64) (x1 : Int32) (H : Heap) (locs : List Loc) (ls : Array Slot), p_X7_order_b0 (F 0) (F 2) (F 4) (G 2) (I 2) (I 4) (I 5) (I 6) (I 7) (I 8) (J 5) (J 6) x1 = some (r, (Ff 4), (Gf 2), (If 7), (If 8), (Jf 5), (Jf 6)) → (∀ k, k ∉ ([4] : List Nat) → Ff k = F k) → (∀ k, k ∉ ([2] : List Nat) → Gf k = G k) → (∀ k, k ∉ ([7, 8] : List Nat) → If k = I k) → (∀ k, k ∉ ([5, 6] : List Nat) → Jf k = J k) → va_P D vwCl (wC a kc F G I J Z) H → va_S (ad a 44 s.heap.size) s.heap H locs → lv_has ls 2 [(0, .ref (a 34)), (1, .int x1)] → W p l e rm_X7_order s m args below meth c H locs 0 0 (MQ below (Qi D (wC a kc Ff Gf If Jf Z) r (ad a 44 s.heap.size)) args s 0 0 (ad a 44 s.heap.size)) (F0 m 0 ls []) := by
  intro F G I J x1 H locs ls hf hfF hfG hfI hfJ hP hS hl
  unfold p_X7_order_b0 at hf
  refine lv_iload_n X.1 X.2.1 dX7_order_0 rfl (lv_at hl 1 rfl) ?_
  refine lv_if_ge (tgt := 7) X.1 X.2.1 dX7_order_1 (by decide) (fun c1 => ?_) (fun c1 => ?_)
  · have hf := it_s hf c1
    refine lv_aload_n X.1 X.2.1 dX7_order_7 rfl (lv_at hl 0 rfl) ?_
    refine gC_34_0 X q_2_64 dX7_order_8 hP ?_
    refine gC_0_10 (F := F) X (v := (F 2)) rfl q_1_93 dX7_order_11 hP ?_
    refine lv_bipush (v := 6) X.1 X.2.1 dX7_order_14 (by decide) ?_
    refine lv_icmp_le (tgt := 22) X.1 X.2.1 dX7_order_16 (by decide) (fun c16 => ?_) (fun c16 => ?_)
    · have hf := it_s hf c16
      refine lv_iload_n X.1 X.2.1 dX7_order_22 rfl (lv_at hl 1 rfl) ?_
      refine lv_aload_n X.1 X.2.1 dX7_order_23 rfl (lv_at hl 0 rfl) ?_
      refine gC_34_0 X q_2_64 dX7_order_24 hP ?_
      refine gC_0_10 (F := F) X (v := (F 2)) rfl q_1_93 dX7_order_27 hP ?_
      refine lv_icmp_lt (tgt := 36) X.1 X.2.1 dX7_order_30 (by decide) (fun c30 => ?_) (fun c30 => ?_)
      · have hf := it_s hf c30
        refine lv_aload_n X.1 X.2.1 dX7_order_36 rfl (lv_at hl 0 rfl) ?_
        refine gC_34_2 X q_2_66 dX7_order_37 hP ?_
        obtain ⟨D_ready_40, D_least_40, D_best_40, D_row_40, D_reach_40, D_takenBehind_40, ho, hf⟩ := b6_s hf
        refine call_vv (rest := []) X (c_X1_refresh F G I J Z X.2.2.2.2.2.2.2.1  ho) q_3_25 q_3_26 q_3_27 q_1_5 q_3_28 ok_X1_refresh rfl 17 rfl rfl ⟨Nat.le_of_ble_eq_true rfl, Nat.le_of_ble_eq_true rfl⟩ rfl rfl hl.1 rfl (Nat.le_of_ble_eq_true rfl) dX7_order_40 hP hS (fun H locs hP hS => ?_)
        refine lv_aload_n X.1 X.2.1 dX7_order_43 rfl (lv_at hl 0 rfl) ?_
        refine gC_34_2 X q_2_66 dX7_order_44 hP ?_
        refine gC_17_0 X q_1_167 dX7_order_47 hP ?_
        refine lv_iload_n X.1 X.2.1 dX7_order_50 rfl (lv_at hl 1 rfl) ?_
        obtain ⟨h51, hf⟩ := gd_s hf
        refine lC_18 (I := (va_up (va_up I 7 D_best_40) 8 D_row_40)) X (f := D_best_40) rfl h51 dX7_order_51 hP ?_
        obtain ⟨e0, hf⟩ := o2 hf
        obtain ⟨e1, hf⟩ := o2 hf
        obtain ⟨e2, hf⟩ := o2 hf
        obtain ⟨e3, hf⟩ := o2 hf
        obtain ⟨e4, hf⟩ := o2 hf
        obtain ⟨e5, hf⟩ := o2 hf
        have e6 := o1 hf
        have EF : Ff = (va_up F 4 D_ready_40) := frm_eq (frm_up hfF (by decide)) (frm_c (e1).symm frm_n)
        have EG : Gf = (va_up G 2 D_least_40) := frm_eq (frm_up hfG (by decide)) (frm_c (e2).symm frm_n)
        have EI : If = (va_up (va_up I 7 D_best_40) 8 D_row_40) := frm_eq (frm_up (frm_up hfI (by decide)) (by decide)) (frm_c (e3).symm (frm_c (e4).symm frm_n))
        have EJ : Jf = (va_up (va_up J 5 D_reach_40) 6 D_takenBehind_40) := frm_eq (frm_up (frm_up hfJ (by decide)) (by decide)) (frm_c (e5).symm (frm_c (e6).symm frm_n))
        exact ret_i X hS (by rw [EF, EG, EI, EJ]; exact hP) e0 dX7_order_52
      · have hf := ie_s hf c30
        refine lv_bipush (v := (-2)) X.1 X.2.1 dX7_order_33 (by decide) ?_
        obtain ⟨e0, hf⟩ := o2 hf
        obtain ⟨e1, hf⟩ := o2 hf
        obtain ⟨e2, hf⟩ := o2 hf
        obtain ⟨e3, hf⟩ := o2 hf
        obtain ⟨e4, hf⟩ := o2 hf
        obtain ⟨e5, hf⟩ := o2 hf
        have e6 := o1 hf
        have EF : Ff = F := frm_eq hfF (frm_c (e1).symm frm_n)
        have EG : Gf = G := frm_eq hfG (frm_c (e2).symm frm_n)
        have EI : If = I := frm_eq hfI (frm_c (e3).symm (frm_c (e4).symm frm_n))
        have EJ : Jf = J := frm_eq hfJ (frm_c (e5).symm (frm_c (e6).symm frm_n))
        exact ret_i X hS (by rw [EF, EG, EI, EJ]; exact hP) e0 dX7_order_35
    · have hf := ie_s hf c16
      refine lv_bipush (v := (-4)) X.1 X.2.1 dX7_order_19 (by decide) ?_
      obtain ⟨e0, hf⟩ := o2 hf
      obtain ⟨e1, hf⟩ := o2 hf
      obtain ⟨e2, hf⟩ := o2 hf
      obtain ⟨e3, hf⟩ := o2 hf
      obtain ⟨e4, hf⟩ := o2 hf
      obtain ⟨e5, hf⟩ := o2 hf
      have e6 := o1 hf
      have EF : Ff = F := frm_eq hfF (frm_c (e1).symm frm_n)
      have EG : Gf = G := frm_eq hfG (frm_c (e2).symm frm_n)
      have EI : If = I := frm_eq hfI (frm_c (e3).symm (frm_c (e4).symm frm_n))
      have EJ : Jf = J := frm_eq hfJ (frm_c (e5).symm (frm_c (e6).symm frm_n))
      exact ret_i X hS (by rw [EF, EG, EI, EJ]; exact hP) e0 dX7_order_21
  · have hf := ie_s hf c1
    refine lv_bipush (v := (-2)) X.1 X.2.1 dX7_order_4 (by decide) ?_
    obtain ⟨e0, hf⟩ := o2 hf
    obtain ⟨e1, hf⟩ := o2 hf
    obtain ⟨e2, hf⟩ := o2 hf
    obtain ⟨e3, hf⟩ := o2 hf
    obtain ⟨e4, hf⟩ := o2 hf
    obtain ⟨e5, hf⟩ := o2 hf
    have e6 := o1 hf
    have EF : Ff = F := frm_eq hfF (frm_c (e1).symm frm_n)
    have EG : Gf = G := frm_eq hfG (frm_c (e2).symm frm_n)
    have EI : If = I := frm_eq hfI (frm_c (e3).symm (frm_c (e4).symm frm_n))
    have EJ : Jf = J := frm_eq hfJ (frm_c (e5).symm (frm_c (e6).symm frm_n))
    exact ret_i X hS (by rw [EF, EG, EI, EJ]; exact hP) e0 dX7_order_6
set_option maxRecDepth 100000 in
theorem c_X7_order {l : Launch} {D : va_G} {a : Nat → Nat} {kc : Nat → ClassId} (F : Nat → Int32) (G : Nat → Int64) (I : Nat → Nat → Int32) (J : Nat → Nat → Int64) (Z : Nat → Nat → Nat → Int32) (hAp : ∀ i j, i < 44 → j < 44 → a i = a j → i = j) (x1 : Int32) {o0 : Int32} {o1 : Int32} {o2 : Int64} {o3 : Nat → Int32} {o4 : Nat → Int32} {o5 : Nat → Int64} {o6 : Nat → Int64} (hf : p_X7_order (F 0) (F 2) (F 4) (G 2) (I 2) (I 4) (I 5) (I 6) (I 7) (I 8) (J 5) (J 6) x1 = some (o0, o1, o2, o3, o4, o5, o6)) : Ct 44 l yX7_order cX7_order 2 (some .int) rm_X7_order D (tyC kc) a (wC a kc F G I J Z) [.ref (a 34), .int x1] (Qi D (wC a kc (va_up F 4 o1) (va_up G 2 o2) (va_up (va_up I 7 o3) 8 o4) (va_up (va_up J 5 o5) 6 o6) Z) o0) :=
  Ct.of (by decide +kernel) hAp (Nat.le_of_ble_eq_true rfl) (fun p e s m args below meth c ls X hP hl => t_X7_order_b0 X F G I J x1 _ _ _ hf (frm_ul (fun k _ => rfl) (by decide)) (frm_ul (fun k _ => rfl) (by decide)) (frm_ul (frm_ul (fun k _ => rfl) (by decide)) (by decide)) (frm_ul (frm_ul (fun k _ => rfl) (by decide)) (by decide)) hP va_S.rf hl)
abbrev rm_X7_best : Room := { frames := 14, cells := 0, slots := 0, locals := 400 }
set_option maxHeartbeats 4000000 in
set_option maxRecDepth 100000 in
theorem t_X7_best_b0 {p : Program} {l : Launch} {e : Env} {s : State} {m : MethodId} {args : Array Value} {below : List Frame} {meth : Method} {c : Code} {D : va_G} {a : Nat → Nat} {kc : Nat → ClassId} (X : cx 44 p s m args meth c D (tyC kc) a cX7_best 2 RX7 (some .long)) {Z : Nat → Nat → Nat → Int32} {Ff : Nat → Int32} {Gf : Nat → Int64} {If : Nat → Nat → Int32} {Jf : Nat → Nat → Int64} {r : Int64} :
    ∀ (F : Nat → Int32) (G : Nat → Int64) (I : Nat → Nat → Int32) (J : Nat → Nat → Int64) (x1 : Int32) (H : Heap) (locs : List Loc) (ls : Array Slot), p_X7_best_b0 (F 0) (F 2) (F 4) (G 2) (I 2) (I 4) (I 5) (I 6) (I 7) (I 8) (J 5) (J 6) x1 = some (r, (Ff 4), (Gf 2), (If 7), (If 8), (Jf 5), (Jf 6)) → (∀ k, k ∉ ([4] : List Nat) → Ff k = F k) → (∀ k, k ∉ ([2] : List Nat) → Gf k = G k) → (∀ k, k ∉ ([7, 8] : List Nat) → If k = I k) → (∀ k, k ∉ ([5, 6] : List Nat) → Jf k = J k) → va_P D vwCl (wC a kc F G I J Z) H → va_S (ad a 44 s.heap.size) s.heap H locs → lv_has ls 2 [(0, .ref (a 34)), (1, .int x1)] → W p l e rm_X7_best s m args below meth c H locs 0 0 (MQ below (Ql D (wC a kc Ff Gf If Jf Z) r (ad a 44 s.heap.size)) args s 0 0 (ad a 44 s.heap.size)) (F0 m 0 ls []) := by
  intro F G I J x1 H locs ls hf hfF hfG hfI hfJ hP hS hl
  unfold p_X7_best_b0 at hf
  refine lv_iload_n X.1 X.2.1 dX7_best_0 rfl (lv_at hl 1 rfl) ?_
  obtain ⟨r1, ho, hf⟩ := b1_s hf
  refine call_si (rest := []) X (c_X7_isNoPart x1 ho) q_2_136 q_2_137 q_1_1 q_2_138 ok_X7_isNoPart rfl ⟨Nat.le_of_ble_eq_true rfl, Nat.le_of_ble_eq_true rfl⟩ rfl rfl hl.1 rfl (Nat.le_of_ble_eq_true rfl) dX7_best_1 hP hS (fun H locs hP hS => ?_)
  refine lv_if_eq (tgt := 13) X.1 X.2.1 dX7_best_4 (by decide) (fun c4 => ?_) (fun c4 => ?_)
  · have hf := it_s hf c4
    refine lv_aload_n X.1 X.2.1 dX7_best_13 rfl (lv_at hl 0 rfl) ?_
    refine gC_34_0 X q_2_64 dX7_best_14 hP ?_
    refine gC_0_10 (F := F) X (v := (F 2)) rfl q_1_93 dX7_best_17 hP ?_
    refine lv_bipush (v := 6) X.1 X.2.1 dX7_best_20 (by decide) ?_
    refine lv_icmp_le (tgt := 31) X.1 X.2.1 dX7_best_22 (by decide) (fun c22 => ?_) (fun c22 => ?_)
    · have hf := it_s hf c22
      refine lv_aload_n X.1 X.2.1 dX7_best_31 rfl (lv_at hl 0 rfl) ?_
      refine gC_34_2 X q_2_66 dX7_best_32 hP ?_
      obtain ⟨D_ready_35, D_least_35, D_best_35, D_row_35, D_reach_35, D_takenBehind_35, ho, hf⟩ := b6_s hf
      refine call_vv (rest := []) X (c_X1_refresh F G I J Z X.2.2.2.2.2.2.2.1  ho) q_3_25 q_3_26 q_3_27 q_1_5 q_3_28 ok_X1_refresh rfl 17 rfl rfl ⟨Nat.le_of_ble_eq_true rfl, Nat.le_of_ble_eq_true rfl⟩ rfl rfl hl.1 rfl (Nat.le_of_ble_eq_true rfl) dX7_best_35 hP hS (fun H locs hP hS => ?_)
      refine lv_aload_n X.1 X.2.1 dX7_best_38 rfl (lv_at hl 0 rfl) ?_
      refine gC_34_2 X q_2_66 dX7_best_39 hP ?_
      refine gC_17_1 (G := (va_up G 2 D_least_35)) X (v := D_least_35) rfl q_1_169 dX7_best_42 hP ?_
      refine lv_ldc2 (v := 182891520000) X.1 X.2.1 X.2.2.2.2.1 (X.2.2.2.2.2.1 _ q_2_198) dX7_best_45 ?_
      refine lv_iload_n X.1 X.2.1 dX7_best_48 rfl (lv_at hl 1 rfl) ?_
      obtain ⟨r49, ho, hf⟩ := b1_s hf
      refine call_sl (rest := []) X (c_X7_part D_least_35 182891520000 x1 ho) q_2_199 q_2_200 q_1_1 q_2_201 ok_X7_part rfl ⟨Nat.le_of_ble_eq_true rfl, Nat.le_of_ble_eq_true rfl⟩ rfl rfl hl.1 rfl (Nat.le_of_ble_eq_true rfl) dX7_best_49 hP hS (fun H locs hP hS => ?_)
      obtain ⟨e0, hf⟩ := o2 hf
      obtain ⟨e1, hf⟩ := o2 hf
      obtain ⟨e2, hf⟩ := o2 hf
      obtain ⟨e3, hf⟩ := o2 hf
      obtain ⟨e4, hf⟩ := o2 hf
      obtain ⟨e5, hf⟩ := o2 hf
      have e6 := o1 hf
      have EF : Ff = (va_up F 4 D_ready_35) := frm_eq (frm_up hfF (by decide)) (frm_c (e1).symm frm_n)
      have EG : Gf = (va_up G 2 D_least_35) := frm_eq (frm_up hfG (by decide)) (frm_c (e2).symm frm_n)
      have EI : If = (va_up (va_up I 7 D_best_35) 8 D_row_35) := frm_eq (frm_up (frm_up hfI (by decide)) (by decide)) (frm_c (e3).symm (frm_c (e4).symm frm_n))
      have EJ : Jf = (va_up (va_up J 5 D_reach_35) 6 D_takenBehind_35) := frm_eq (frm_up (frm_up hfJ (by decide)) (by decide)) (frm_c (e5).symm (frm_c (e6).symm frm_n))
      exact ret_l X hS (by rw [EF, EG, EI, EJ]; exact hP) e0 dX7_best_52
    · have hf := ie_s hf c22
      refine lv_bipush (v := (-4)) X.1 X.2.1 dX7_best_25 (by decide) ?_
      obtain ⟨r27, ho, hf⟩ := b1_s hf
      refine call_sl (rest := []) X (c_X7_asLong (-4) ho) q_2_143 q_2_144 q_1_1 q_2_145 ok_X7_asLong rfl ⟨Nat.le_of_ble_eq_true rfl, Nat.le_of_ble_eq_true rfl⟩ rfl rfl hl.1 rfl (Nat.le_of_ble_eq_true rfl) dX7_best_27 hP hS (fun H locs hP hS => ?_)
      obtain ⟨e0, hf⟩ := o2 hf
      obtain ⟨e1, hf⟩ := o2 hf
      obtain ⟨e2, hf⟩ := o2 hf
      obtain ⟨e3, hf⟩ := o2 hf
      obtain ⟨e4, hf⟩ := o2 hf
      obtain ⟨e5, hf⟩ := o2 hf
      have e6 := o1 hf
      have EF : Ff = F := frm_eq hfF (frm_c (e1).symm frm_n)
      have EG : Gf = G := frm_eq hfG (frm_c (e2).symm frm_n)
      have EI : If = I := frm_eq hfI (frm_c (e3).symm (frm_c (e4).symm frm_n))
      have EJ : Jf = J := frm_eq hfJ (frm_c (e5).symm (frm_c (e6).symm frm_n))
      exact ret_l X hS (by rw [EF, EG, EI, EJ]; exact hP) e0 dX7_best_30
  · have hf := ie_s hf c4
    refine lv_bipush (v := (-2)) X.1 X.2.1 dX7_best_7 (by decide) ?_
    obtain ⟨r9, ho, hf⟩ := b1_s hf
    refine call_sl (rest := []) X (c_X7_asLong (-2) ho) q_2_143 q_2_144 q_1_1 q_2_145 ok_X7_asLong rfl ⟨Nat.le_of_ble_eq_true rfl, Nat.le_of_ble_eq_true rfl⟩ rfl rfl hl.1 rfl (Nat.le_of_ble_eq_true rfl) dX7_best_9 hP hS (fun H locs hP hS => ?_)
    obtain ⟨e0, hf⟩ := o2 hf
    obtain ⟨e1, hf⟩ := o2 hf
    obtain ⟨e2, hf⟩ := o2 hf
    obtain ⟨e3, hf⟩ := o2 hf
    obtain ⟨e4, hf⟩ := o2 hf
    obtain ⟨e5, hf⟩ := o2 hf
    have e6 := o1 hf
    have EF : Ff = F := frm_eq hfF (frm_c (e1).symm frm_n)
    have EG : Gf = G := frm_eq hfG (frm_c (e2).symm frm_n)
    have EI : If = I := frm_eq hfI (frm_c (e3).symm (frm_c (e4).symm frm_n))
    have EJ : Jf = J := frm_eq hfJ (frm_c (e5).symm (frm_c (e6).symm frm_n))
    exact ret_l X hS (by rw [EF, EG, EI, EJ]; exact hP) e0 dX7_best_12
set_option maxRecDepth 100000 in
theorem c_X7_best {l : Launch} {D : va_G} {a : Nat → Nat} {kc : Nat → ClassId} (F : Nat → Int32) (G : Nat → Int64) (I : Nat → Nat → Int32) (J : Nat → Nat → Int64) (Z : Nat → Nat → Nat → Int32) (hAp : ∀ i j, i < 44 → j < 44 → a i = a j → i = j) (x1 : Int32) {o0 : Int64} {o1 : Int32} {o2 : Int64} {o3 : Nat → Int32} {o4 : Nat → Int32} {o5 : Nat → Int64} {o6 : Nat → Int64} (hf : p_X7_best (F 0) (F 2) (F 4) (G 2) (I 2) (I 4) (I 5) (I 6) (I 7) (I 8) (J 5) (J 6) x1 = some (o0, o1, o2, o3, o4, o5, o6)) : Ct 44 l yX7_best cX7_best 2 (some .long) rm_X7_best D (tyC kc) a (wC a kc F G I J Z) [.ref (a 34), .int x1] (Ql D (wC a kc (va_up F 4 o1) (va_up G 2 o2) (va_up (va_up I 7 o3) 8 o4) (va_up (va_up J 5 o5) 6 o6) Z) o0) :=
  Ct.of (by decide +kernel) hAp (Nat.le_of_ble_eq_true rfl) (fun p e s m args below meth c ls X hP hl => t_X7_best_b0 X F G I J x1 _ _ _ hf (frm_ul (fun k _ => rfl) (by decide)) (frm_ul (fun k _ => rfl) (by decide)) (frm_ul (frm_ul (fun k _ => rfl) (by decide)) (by decide)) (frm_ul (frm_ul (fun k _ => rfl) (by decide)) (by decide)) hP va_S.rf hl)
abbrev rm_X7_back : Room := { frames := 3, cells := 0, slots := 0, locals := 76 }
set_option maxHeartbeats 4000000 in
set_option maxRecDepth 100000 in
theorem t_X7_back_b82 {p : Program} {l : Launch} {e : Env} {s : State} {m : MethodId} {args : Array Value} {below : List Frame} {meth : Method} {c : Code} {D : va_G} {a : Nat → Nat} {kc : Nat → ClassId} (X : cx 44 p s m args meth c D (tyC kc) a cX7_back 4 RX7 (some .int)) {G : Nat → Int64} {J : Nat → Nat → Int64} {Z : Nat → Nat → Nat → Int32} {Ff : Nat → Int32} {If : Nat → Nat → Int32} {r : Int32} :
    ∀ (F : Nat → Int32) (I : Nat → Nat → Int32) (t0 : Int32) (H : Heap) (locs : List Loc) (ls : Array Slot), p_X7_back_b82 (F 0) (F 2) (F 10) (F 11) (F 12) (F 13) (I 5) (I 15) (I 17) (Z 1) t0 = some (r, (Ff 10), (Ff 11), (Ff 12), (Ff 13), (If 15)) → (∀ k, k ∉ ([10, 11, 12, 13] : List Nat) → Ff k = F k) → (∀ k, k ∉ ([15] : List Nat) → If k = I k) → va_P D vwCl (wC a kc F G I J Z) H → va_S (ad a 44 s.heap.size) s.heap H locs → lv_has ls 4 [(0, .ref (a 34))] → W p l e rm_X7_back s m args below meth c H locs 0 0 (MQ below (Qi D (wC a kc Ff G If J Z) r (ad a 44 s.heap.size)) args s 0 0 (ad a 44 s.heap.size)) (F0 m 82 ls [.int t0]) := by
  intro F I t0 H locs ls hf hfF hfI hP hS hl
  unfold p_X7_back_b82 at hf
  obtain ⟨e0, hf⟩ := o2 hf
  obtain ⟨e1, hf⟩ := o2 hf
  obtain ⟨e2, hf⟩ := o2 hf
  obtain ⟨e3, hf⟩ := o2 hf
  obtain ⟨e4, hf⟩ := o2 hf
  have e5 := o1 hf
  have EF : Ff = F := frm_eq hfF (frm_c (e1).symm (frm_c (e2).symm (frm_c (e3).symm (frm_c (e4).symm frm_n))))
  have EI : If = I := frm_eq hfI (frm_c (e5).symm frm_n)
  exact ret_i X hS (by rw [EF, EI]; exact hP) e0 dX7_back_82
set_option maxHeartbeats 4000000 in
set_option maxRecDepth 100000 in
theorem t_X7_back_b16 {p : Program} {l : Launch} {e : Env} {s : State} {m : MethodId} {args : Array Value} {below : List Frame} {meth : Method} {c : Code} {D : va_G} {a : Nat → Nat} {kc : Nat → ClassId} (X : cx 44 p s m args meth c D (tyC kc) a cX7_back 4 RX7 (some .int)) {G : Nat → Int64} {J : Nat → Nat → Int64} {Z : Nat → Nat → Nat → Int32} {Ff : Nat → Int32} {If : Nat → Nat → Int32} {r : Int32} :
    ∀ (F : Nat → Int32) (I : Nat → Nat → Int32) (t1 : Int32) (t2 : Int32) (x1 : Int32) (x2 : Int32) (H : Heap) (locs : List Loc) (ls : Array Slot), p_X7_back_b16 (F 0) (F 2) (F 10) (F 11) (F 12) (F 13) (I 5) (I 15) (I 17) (Z 1) t1 t2 x1 x2 = some (r, (Ff 10), (Ff 11), (Ff 12), (Ff 13), (If 15)) → (∀ k, k ∉ ([10, 11, 12, 13] : List Nat) → Ff k = F k) → (∀ k, k ∉ ([15] : List Nat) → If k = I k) → va_P D vwCl (wC a kc F G I J Z) H → va_S (ad a 44 s.heap.size) s.heap H locs → lv_has ls 4 [(0, .ref (a 34)), (1, .int x1), (2, .int x2)] → W p l e rm_X7_back s m args below meth c H locs 0 0 (MQ below (Qi D (wC a kc Ff G If J Z) r (ad a 44 s.heap.size)) args s 0 0 (ad a 44 s.heap.size)) (F0 m 16 ls [.int t2, .int t1, .ref (a 34)]) := by
  intro F I t1 t2 x1 x2 H locs ls hf hfF hfI hP hS hl
  unfold p_X7_back_b16 at hf
  obtain ⟨r16, T_finding_16, ho, hf⟩ := b2_s hf
  refine call_vi (rest := []) X (c_X7_refuseSitting F G I J Z X.2.2.2.2.2.2.2.1 t1 t2 ho) q_2_227 q_2_229 qs_yX7_refuseSitting q_1_1 q_2_230 ok_X7_refuseSitting rfl 34 rfl rfl ⟨Nat.le_of_ble_eq_true rfl, Nat.le_of_ble_eq_true rfl⟩ rfl rfl hl.1 rfl (Nat.le_of_ble_eq_true rfl) dX7_back_16 hP hS (fun H locs hP hS => ?_)
  refine lv_istore_n (lv' := [(3, .int r16), (0, .ref (a 34)), (1, .int x1), (2, .int x2)]) X.1 X.2.1 dX7_back_19 rfl hl (by decide) rfl (fun ls hl => ?_)
  refine lv_iload_n X.1 X.2.1 dX7_back_20 rfl (lv_at hl 0 rfl) ?_
  refine lv_if_eq (tgt := 26) X.1 X.2.1 dX7_back_21 (by decide) (fun c21 => ?_) (fun c21 => ?_)
  · have hf := it_s hf c21
    refine lv_aload_n X.1 X.2.1 dX7_back_26 rfl (lv_at hl 1 rfl) ?_
    refine gC_34_5 X q_2_69 dX7_back_27 hP ?_
    refine lv_aload_n X.1 X.2.1 dX7_back_30 rfl (lv_at hl 1 rfl) ?_
    refine gC_34_6 X q_2_70 dX7_back_31 hP ?_
    refine lv_iload_n X.1 X.2.1 dX7_back_34 rfl (lv_at hl 2 rfl) ?_
    obtain ⟨h35, hf⟩ := gd_s hf
    refine alC_35 X h35 dX7_back_35 hP ?_
    obtain ⟨h36, hf⟩ := gd_s hf
    refine gC_sh_0 X (of_decide_eq_true h36) q_2_52 dX7_back_36 hP ?_
    obtain ⟨r39, R_number_39, R_changes_39, R_longest_39, R_goal_39, ho, hf⟩ := b5_s hf
    refine call_vi (rest := []) X (c_X4_follow (va_up F 13 T_finding_16) G I J Z X.2.2.2.2.2.2.2.1 x1.toNatClampNeg ho) q_3_97 q_3_98 q_3_99 q_1_8 q_3_100 ok_X4_follow rfl 32 rfl rfl ⟨Nat.le_of_ble_eq_true rfl, Nat.le_of_ble_eq_true rfl⟩ rfl rfl hl.1 rfl (Nat.le_of_ble_eq_true rfl) dX7_back_39 hP hS (fun H locs hP hS => ?_)
    refine lv_if_ne (tgt := 48) X.1 X.2.1 dX7_back_42 (by decide) (fun c42 => ?_) (fun c42 => ?_)
    · have hf := ie_s hf c42
      refine lv_iload_n X.1 X.2.1 dX7_back_48 rfl (lv_at hl 3 rfl) ?_
      refine lv_if_ne (tgt := 60) X.1 X.2.1 dX7_back_49 (by decide) (fun c49 => ?_) (fun c49 => ?_)
      · have hf := ie_s hf c49
        refine lv_iload_n X.1 X.2.1 dX7_back_60 rfl (lv_at hl 3 rfl) ?_
        refine lv_iconst (v := 1) X.1 X.2.1 dX7_back_61 (by decide) ?_
        refine lv_icmp_ne (tgt := 75) X.1 X.2.1 dX7_back_62 (by decide) (fun c62 => ?_) (fun c62 => ?_)
        · have hf := ie_s hf c62
          refine lv_aload_n X.1 X.2.1 dX7_back_75 rfl (lv_at hl 1 rfl) ?_
          refine gC_34_5 X q_2_69 dX7_back_76 hP ?_
          obtain ⟨r79, ho, hf⟩ := b1_s hf
          refine call_vi (rest := []) X (c_X4_rounds (va_up (va_up (va_up (va_up F 13 T_finding_16) 10 R_number_39) 11 R_changes_39) 12 R_longest_39) G (va_up I 15 R_goal_39) J Z X.2.2.2.2.2.2.2.1  ho) q_3_114 q_3_115 q_3_116 q_1_8 q_3_117 ok_X4_rounds rfl 32 rfl rfl ⟨Nat.le_of_ble_eq_true rfl, Nat.le_of_ble_eq_true rfl⟩ rfl rfl hl.1 rfl (Nat.le_of_ble_eq_true rfl) dX7_back_79 hP hS (fun H locs hP hS => ?_)
          exact t_X7_back_b82 X (va_up (va_up (va_up (va_up F 13 T_finding_16) 10 R_number_39) 11 R_changes_39) 12 R_longest_39) (va_up I 15 R_goal_39) r79 H locs ls hf (frm_up (frm_up (frm_up (frm_up hfF (by decide)) (by decide)) (by decide)) (by decide)) (frm_up hfI (by decide)) hP hS (lv_sub hl [1] rfl)
        · have hf := it_s hf c62
          refine lv_aload_n X.1 X.2.1 dX7_back_65 rfl (lv_at hl 1 rfl) ?_
          refine gC_34_5 X q_2_69 dX7_back_66 hP ?_
          refine gC_32_1 (F := (va_up (va_up (va_up (va_up F 13 T_finding_16) 10 R_number_39) 11 R_changes_39) 12 R_longest_39)) X (v := R_changes_39) rfl q_2_29 dX7_back_69 hP ?_
          refine lv_goto (tgt := 82) X.1 X.2.1 dX7_back_72 (by decide) ?_
          exact t_X7_back_b82 X (va_up (va_up (va_up (va_up F 13 T_finding_16) 10 R_number_39) 11 R_changes_39) 12 R_longest_39) (va_up I 15 R_goal_39) R_changes_39 H locs ls hf (frm_up (frm_up (frm_up (frm_up hfF (by decide)) (by decide)) (by decide)) (by decide)) (frm_up hfI (by decide)) hP hS (lv_sub hl [1] rfl)
      · have hf := it_s hf c49
        refine lv_aload_n X.1 X.2.1 dX7_back_52 rfl (lv_at hl 1 rfl) ?_
        refine gC_34_5 X q_2_69 dX7_back_53 hP ?_
        refine gC_32_0 (F := (va_up (va_up (va_up (va_up F 13 T_finding_16) 10 R_number_39) 11 R_changes_39) 12 R_longest_39)) X (v := R_number_39) rfl q_2_27 dX7_back_56 hP ?_
        obtain ⟨e0, hf⟩ := o2 hf
        obtain ⟨e1, hf⟩ := o2 hf
        obtain ⟨e2, hf⟩ := o2 hf
        obtain ⟨e3, hf⟩ := o2 hf
        obtain ⟨e4, hf⟩ := o2 hf
        have e5 := o1 hf
        have EF : Ff = (va_up (va_up (va_up (va_up F 13 T_finding_16) 10 R_number_39) 11 R_changes_39) 12 R_longest_39) := frm_eq (frm_up (frm_up (frm_up (frm_up hfF (by decide)) (by decide)) (by decide)) (by decide)) (frm_c (e1).symm (frm_c (e2).symm (frm_c (e3).symm (frm_c (e4).symm frm_n))))
        have EI : If = (va_up I 15 R_goal_39) := frm_eq (frm_up hfI (by decide)) (frm_c (e5).symm frm_n)
        exact ret_i X hS (by rw [EF, EI]; exact hP) e0 dX7_back_59
    · have hf := it_s hf c42
      refine lv_bipush (v := (-3)) X.1 X.2.1 dX7_back_45 (by decide) ?_
      obtain ⟨e0, hf⟩ := o2 hf
      obtain ⟨e1, hf⟩ := o2 hf
      obtain ⟨e2, hf⟩ := o2 hf
      obtain ⟨e3, hf⟩ := o2 hf
      obtain ⟨e4, hf⟩ := o2 hf
      have e5 := o1 hf
      have EF : Ff = (va_up (va_up (va_up (va_up F 13 T_finding_16) 10 R_number_39) 11 R_changes_39) 12 R_longest_39) := frm_eq (frm_up (frm_up (frm_up (frm_up hfF (by decide)) (by decide)) (by decide)) (by decide)) (frm_c (e1).symm (frm_c (e2).symm (frm_c (e3).symm (frm_c (e4).symm frm_n))))
      have EI : If = (va_up I 15 R_goal_39) := frm_eq (frm_up hfI (by decide)) (frm_c (e5).symm frm_n)
      exact ret_i X hS (by rw [EF, EI]; exact hP) e0 dX7_back_47
  · have hf := ie_s hf c21
    refine lv_iload_n X.1 X.2.1 dX7_back_24 rfl (lv_at hl 0 rfl) ?_
    obtain ⟨e0, hf⟩ := o2 hf
    obtain ⟨e1, hf⟩ := o2 hf
    obtain ⟨e2, hf⟩ := o2 hf
    obtain ⟨e3, hf⟩ := o2 hf
    obtain ⟨e4, hf⟩ := o2 hf
    have e5 := o1 hf
    have EF : Ff = (va_up F 13 T_finding_16) := frm_eq (frm_up hfF (by decide)) (frm_c (e1).symm (frm_c (e2).symm (frm_c (e3).symm (frm_c (e4).symm frm_n))))
    have EI : If = I := frm_eq hfI (frm_c (e5).symm frm_n)
    exact ret_i X hS (by rw [EF, EI]; exact hP) e0 dX7_back_25
set_option maxHeartbeats 4000000 in
set_option maxRecDepth 100000 in
theorem t_X7_back_b15 {p : Program} {l : Launch} {e : Env} {s : State} {m : MethodId} {args : Array Value} {below : List Frame} {meth : Method} {c : Code} {D : va_G} {a : Nat → Nat} {kc : Nat → ClassId} (X : cx 44 p s m args meth c D (tyC kc) a cX7_back 4 RX7 (some .int)) {G : Nat → Int64} {J : Nat → Nat → Int64} {Z : Nat → Nat → Nat → Int32} {Ff : Nat → Int32} {If : Nat → Nat → Int32} {r : Int32} :
    ∀ (F : Nat → Int32) (I : Nat → Nat → Int32) (t1 : Int32) (x1 : Int32) (x2 : Int32) (H : Heap) (locs : List Loc) (ls : Array Slot), p_X7_back_b15 (F 0) (F 2) (F 10) (F 11) (F 12) (F 13) (I 5) (I 15) (I 17) (Z 1) t1 x1 x2 = some (r, (Ff 10), (Ff 11), (Ff 12), (Ff 13), (If 15)) → (∀ k, k ∉ ([10, 11, 12, 13] : List Nat) → Ff k = F k) → (∀ k, k ∉ ([15] : List Nat) → If k = I k) → va_P D vwCl (wC a kc F G I J Z) H → va_S (ad a 44 s.heap.size) s.heap H locs → lv_has ls 4 [(0, .ref (a 34)), (1, .int x1), (2, .int x2)] → W p l e rm_X7_back s m args below meth c H locs 0 0 (MQ below (Qi D (wC a kc Ff G If J Z) r (ad a 44 s.heap.size)) args s 0 0 (ad a 44 s.heap.size)) (F0 m 15 ls [.int t1, .ref (a 34)]) := by
  intro F I t1 x1 x2 H locs ls hf hfF hfI hP hS hl
  unfold p_X7_back_b15 at hf
  refine lv_iconst (v := 0) X.1 X.2.1 dX7_back_15 (by decide) ?_
  exact t_X7_back_b16 X F I t1 0 x1 x2 H locs ls hf hfF hfI hP hS (lv_sub hl [0, 1, 2] rfl)
set_option maxHeartbeats 4000000 in
set_option maxRecDepth 100000 in
theorem t_X7_back_b0 {p : Program} {l : Launch} {e : Env} {s : State} {m : MethodId} {args : Array Value} {below : List Frame} {meth : Method} {c : Code} {D : va_G} {a : Nat → Nat} {kc : Nat → ClassId} (X : cx 44 p s m args meth c D (tyC kc) a cX7_back 4 RX7 (some .int)) {G : Nat → Int64} {J : Nat → Nat → Int64} {Z : Nat → Nat → Nat → Int32} {Ff : Nat → Int32} {If : Nat → Nat → Int32} {r : Int32} :
    ∀ (F : Nat → Int32) (I : Nat → Nat → Int32) (x1 : Int32) (x2 : Int32) (H : Heap) (locs : List Loc) (ls : Array Slot), p_X7_back_b0 (F 0) (F 2) (F 10) (F 11) (F 12) (F 13) (I 5) (I 15) (I 17) (Z 1) x1 x2 = some (r, (Ff 10), (Ff 11), (Ff 12), (Ff 13), (If 15)) → (∀ k, k ∉ ([10, 11, 12, 13] : List Nat) → Ff k = F k) → (∀ k, k ∉ ([15] : List Nat) → If k = I k) → va_P D vwCl (wC a kc F G I J Z) H → va_S (ad a 44 s.heap.size) s.heap H locs → lv_has ls 4 [(0, .ref (a 34)), (1, .int x1), (2, .int x2)] → W p l e rm_X7_back s m args below meth c H locs 0 0 (MQ below (Qi D (wC a kc Ff G If J Z) r (ad a 44 s.heap.size)) args s 0 0 (ad a 44 s.heap.size)) (F0 m 0 ls []) := by
  intro F I x1 x2 H locs ls hf hfF hfI hP hS hl
  unfold p_X7_back_b0 at hf
  refine lv_aload_n X.1 X.2.1 dX7_back_0 rfl (lv_at hl 0 rfl) ?_
  refine lv_iload_n X.1 X.2.1 dX7_back_1 rfl (lv_at hl 1 rfl) ?_
  refine lv_iload_n X.1 X.2.1 dX7_back_2 rfl (lv_at hl 2 rfl) ?_
  refine lv_if_lt (tgt := 15) X.1 X.2.1 dX7_back_3 (by decide) (fun c3 => ?_) (fun c3 => ?_)
  · have hf := it_s hf c3
    exact t_X7_back_b15 X F I x1 x1 x2 H locs ls hf hfF hfI hP hS (lv_sub hl [0, 1, 2] rfl)
  · have hf := ie_s hf c3
    refine lv_iload_n X.1 X.2.1 dX7_back_6 rfl (lv_at hl 2 rfl) ?_
    refine lv_iconst (v := 2) X.1 X.2.1 dX7_back_7 (by decide) ?_
    refine lv_icmp_gt (tgt := 15) X.1 X.2.1 dX7_back_8 (by decide) (fun c8 => ?_) (fun c8 => ?_)
    · have hf := it_s hf c8
      exact t_X7_back_b15 X F I x1 x1 x2 H locs ls hf hfF hfI hP hS (lv_sub hl [0, 1, 2] rfl)
    · have hf := ie_s hf c8
      refine lv_iconst (v := 1) X.1 X.2.1 dX7_back_11 (by decide) ?_
      refine lv_goto (tgt := 16) X.1 X.2.1 dX7_back_12 (by decide) ?_
      exact t_X7_back_b16 X F I x1 1 x1 x2 H locs ls hf hfF hfI hP hS (lv_sub hl [0, 1, 2] rfl)
set_option maxRecDepth 100000 in
theorem c_X7_back {l : Launch} {D : va_G} {a : Nat → Nat} {kc : Nat → ClassId} (F : Nat → Int32) (G : Nat → Int64) (I : Nat → Nat → Int32) (J : Nat → Nat → Int64) (Z : Nat → Nat → Nat → Int32) (hAp : ∀ i j, i < 44 → j < 44 → a i = a j → i = j) (x1 : Int32) (x2 : Int32) {o0 : Int32} {o1 : Int32} {o2 : Int32} {o3 : Int32} {o4 : Int32} {o5 : Nat → Int32} (hf : p_X7_back (F 0) (F 2) (F 10) (F 11) (F 12) (F 13) (I 5) (I 15) (I 17) (Z 1) x1 x2 = some (o0, o1, o2, o3, o4, o5)) : Ct 44 l yX7_back cX7_back 4 (some .int) rm_X7_back D (tyC kc) a (wC a kc F G I J Z) [.ref (a 34), .int x1, .int x2] (Qi D (wC a kc (va_up (va_up (va_up (va_up F 10 o1) 11 o2) 12 o3) 13 o4) G (va_up I 15 o5) J Z) o0) :=
  Ct.of (by decide +kernel) hAp (Nat.le_of_ble_eq_true rfl) (fun p e s m args below meth c ls X hP hl => t_X7_back_b0 X F I x1 x2 _ _ _ hf (frm_ul (frm_ul (frm_ul (frm_ul (fun k _ => rfl) (by decide)) (by decide)) (by decide)) (by decide)) (frm_ul (fun k _ => rfl) (by decide)) hP va_S.rf hl)
abbrev rm_X7_seen : Room := { frames := 1, cells := 0, slots := 0, locals := 22 }
set_option maxHeartbeats 4000000 in
set_option maxRecDepth 100000 in
theorem t_X7_seen_b0 {p : Program} {l : Launch} {e : Env} {s : State} {m : MethodId} {args : Array Value} {below : List Frame} {meth : Method} {c : Code} {D : va_G} {a : Nat → Nat} {kc : Nat → ClassId} (X : cx 44 p s m args meth c D (tyC kc) a cX7_seen 3 RX7 (some .int)) {G : Nat → Int64} {J : Nat → Nat → Int64} {Z : Nat → Nat → Nat → Int32} {Ff : Nat → Int32} {If : Nat → Nat → Int32} {r : Int32} :
    ∀ (F : Nat → Int32) (I : Nat → Nat → Int32) (x1 : Int32) (x2 : Int32) (H : Heap) (locs : List Loc) (ls : Array Slot), p_X7_seen_b0 (F 5) (F 7) (I 9) (I 10) x1 x2 = some (r, (Ff 5), (Ff 7), (If 9), (If 10)) → (∀ k, k ∉ ([5, 7] : List Nat) → Ff k = F k) → (∀ k, k ∉ ([9, 10] : List Nat) → If k = I k) → va_P D vwCl (wC a kc F G I J Z) H → va_S (ad a 44 s.heap.size) s.heap H locs → lv_has ls 3 [(0, .ref (a 34)), (1, .int x1), (2, .int x2)] → W p l e rm_X7_seen s m args below meth c H locs 0 0 (MQ below (Qi D (wC a kc Ff G If J Z) r (ad a 44 s.heap.size)) args s 0 0 (ad a 44 s.heap.size)) (F0 m 0 ls []) := by
  intro F I x1 x2 H locs ls hf hfF hfI hP hS hl
  unfold p_X7_seen_b0 at hf
  refine lv_aload_n X.1 X.2.1 dX7_seen_0 rfl (lv_at hl 0 rfl) ?_
  refine gC_34_3 X q_2_67 dX7_seen_1 hP ?_
  refine lv_iload_n X.1 X.2.1 dX7_seen_4 rfl (lv_at hl 1 rfl) ?_
  refine lv_iload_n X.1 X.2.1 dX7_seen_5 rfl (lv_at hl 2 rfl) ?_
  obtain ⟨r6, ho, hf⟩ := b1_s hf
  refine call_vi (rest := []) X (c_X6_mayTell F G I J Z X.2.2.2.2.2.2.2.1 x1 x2 ho) q_3_122 q_3_123 q_3_124 q_1_6 q_3_125 ok_X6_mayTell rfl 22 rfl rfl ⟨Nat.le_of_ble_eq_true rfl, Nat.le_of_ble_eq_true rfl⟩ rfl rfl hl.1 rfl (Nat.le_of_ble_eq_true rfl) dX7_seen_6 hP hS (fun H locs hP hS => ?_)
  refine lv_if_ne (tgt := 15) X.1 X.2.1 dX7_seen_9 (by decide) (fun c9 => ?_) (fun c9 => ?_)
  · have hf := ie_s hf c9
    refine lv_aload_n X.1 X.2.1 dX7_seen_15 rfl (lv_at hl 0 rfl) ?_
    refine gC_34_3 X q_2_67 dX7_seen_16 hP ?_
    refine gC_22_1 (F := F) X (v := (F 5)) rfl q_1_200 dX7_seen_19 hP ?_
    refine lv_bipush (v := 8) X.1 X.2.1 dX7_seen_22 (by decide) ?_
    refine lv_icmp_lt (tgt := 30) X.1 X.2.1 dX7_seen_24 (by decide) (fun c24 => ?_) (fun c24 => ?_)
    · have hf := it_s hf c24
      refine lv_aload_n X.1 X.2.1 dX7_seen_30 rfl (lv_at hl 0 rfl) ?_
      refine gC_34_3 X q_2_67 dX7_seen_31 hP ?_
      refine lv_iload_n X.1 X.2.1 dX7_seen_34 rfl (lv_at hl 1 rfl) ?_
      refine lv_iload_n X.1 X.2.1 dX7_seen_35 rfl (lv_at hl 2 rfl) ?_
      obtain ⟨W_size_36, W_ready_36, W_persons_36, W_places_36, ho, hf⟩ := b4_s hf
      refine call_vv (rest := []) X (c_X6_tell F G I J Z X.2.2.2.2.2.2.2.1 x1 x2 ho) q_3_126 q_3_127 q_3_128 q_1_6 q_3_129 ok_X6_tell rfl 22 rfl rfl ⟨Nat.le_of_ble_eq_true rfl, Nat.le_of_ble_eq_true rfl⟩ rfl rfl hl.1 rfl (Nat.le_of_ble_eq_true rfl) dX7_seen_36 hP hS (fun H locs hP hS => ?_)
      refine lv_aload_n X.1 X.2.1 dX7_seen_39 rfl (lv_at hl 0 rfl) ?_
      refine gC_34_3 X q_2_67 dX7_seen_40 hP ?_
      refine gC_22_1 (F := (va_up (va_up F 5 W_size_36) 7 W_ready_36)) X (v := W_size_36) rfl q_1_200 dX7_seen_43 hP ?_
      obtain ⟨e0, hf⟩ := o2 hf
      obtain ⟨e1, hf⟩ := o2 hf
      obtain ⟨e2, hf⟩ := o2 hf
      obtain ⟨e3, hf⟩ := o2 hf
      have e4 := o1 hf
      have EF : Ff = (va_up (va_up F 5 W_size_36) 7 W_ready_36) := frm_eq (frm_up (frm_up hfF (by decide)) (by decide)) (frm_c (e1).symm (frm_c (e2).symm frm_n))
      have EI : If = (va_up (va_up I 9 W_persons_36) 10 W_places_36) := frm_eq (frm_up (frm_up hfI (by decide)) (by decide)) (frm_c (e3).symm (frm_c (e4).symm frm_n))
      exact ret_i X hS (by rw [EF, EI]; exact hP) e0 dX7_seen_46
    · have hf := ie_s hf c24
      refine lv_bipush (v := (-4)) X.1 X.2.1 dX7_seen_27 (by decide) ?_
      obtain ⟨e0, hf⟩ := o2 hf
      obtain ⟨e1, hf⟩ := o2 hf
      obtain ⟨e2, hf⟩ := o2 hf
      obtain ⟨e3, hf⟩ := o2 hf
      have e4 := o1 hf
      have EF : Ff = F := frm_eq hfF (frm_c (e1).symm (frm_c (e2).symm frm_n))
      have EI : If = I := frm_eq hfI (frm_c (e3).symm (frm_c (e4).symm frm_n))
      exact ret_i X hS (by rw [EF, EI]; exact hP) e0 dX7_seen_29
  · have hf := it_s hf c9
    refine lv_bipush (v := (-2)) X.1 X.2.1 dX7_seen_12 (by decide) ?_
    obtain ⟨e0, hf⟩ := o2 hf
    obtain ⟨e1, hf⟩ := o2 hf
    obtain ⟨e2, hf⟩ := o2 hf
    obtain ⟨e3, hf⟩ := o2 hf
    have e4 := o1 hf
    have EF : Ff = F := frm_eq hfF (frm_c (e1).symm (frm_c (e2).symm frm_n))
    have EI : If = I := frm_eq hfI (frm_c (e3).symm (frm_c (e4).symm frm_n))
    exact ret_i X hS (by rw [EF, EI]; exact hP) e0 dX7_seen_14
set_option maxRecDepth 100000 in
theorem c_X7_seen {l : Launch} {D : va_G} {a : Nat → Nat} {kc : Nat → ClassId} (F : Nat → Int32) (G : Nat → Int64) (I : Nat → Nat → Int32) (J : Nat → Nat → Int64) (Z : Nat → Nat → Nat → Int32) (hAp : ∀ i j, i < 44 → j < 44 → a i = a j → i = j) (x1 : Int32) (x2 : Int32) {o0 : Int32} {o1 : Int32} {o2 : Int32} {o3 : Nat → Int32} {o4 : Nat → Int32} (hf : p_X7_seen (F 5) (F 7) (I 9) (I 10) x1 x2 = some (o0, o1, o2, o3, o4)) : Ct 44 l yX7_seen cX7_seen 3 (some .int) rm_X7_seen D (tyC kc) a (wC a kc F G I J Z) [.ref (a 34), .int x1, .int x2] (Qi D (wC a kc (va_up (va_up F 5 o1) 7 o2) G (va_up (va_up I 9 o3) 10 o4) J Z) o0) :=
  Ct.of (by decide +kernel) hAp (Nat.le_of_ble_eq_true rfl) (fun p e s m args below meth c ls X hP hl => t_X7_seen_b0 X F I x1 x2 _ _ _ hf (frm_ul (frm_ul (fun k _ => rfl) (by decide)) (by decide)) (frm_ul (frm_ul (fun k _ => rfl) (by decide)) (by decide)) hP va_S.rf hl)
abbrev rm_X7_read : Room := { frames := 2, cells := 0, slots := 0, locals := 43 }
set_option maxHeartbeats 4000000 in
set_option maxRecDepth 100000 in
theorem t_X7_read_b106 {p : Program} {l : Launch} {e : Env} {s : State} {m : MethodId} {args : Array Value} {below : List Frame} {meth : Method} {c : Code} {D : va_G} {a : Nat → Nat} {kc : Nat → ClassId} (X : cx 44 p s m args meth c D (tyC kc) a cX7_read 6 RX7 (some .int)) {G : Nat → Int64} {J : Nat → Nat → Int64} {Z : Nat → Nat → Nat → Int32} {Ff : Nat → Int32} {If : Nat → Nat → Int32} {r : Int32} :
    ∀ (F : Nat → Int32) (I : Nat → Nat → Int32) (x4 : Int32) (H : Heap) (locs : List Loc) (ls : Array Slot), p_X7_read_b106 (F 5) (F 7) (F 13) (I 9) (I 10) (I 17) (Z 1) x4 = some (r, (Ff 5), (Ff 7), (Ff 13), (If 9), (If 10)) → (∀ k, k ∉ ([5, 7, 13] : List Nat) → Ff k = F k) → (∀ k, k ∉ ([9, 10] : List Nat) → If k = I k) → va_P D vwCl (wC a kc F G I J Z) H → va_S (ad a 44 s.heap.size) s.heap H locs → lv_has ls 6 [(0, .ref (a 34)), (4, .int x4)] → W p l e rm_X7_read s m args below meth c H locs 0 0 (MQ below (Qi D (wC a kc Ff G If J Z) r (ad a 44 s.heap.size)) args s 0 0 (ad a 44 s.heap.size)) (F0 m 106 ls []) := by
  intro F I x4 H locs ls hf hfF hfI hP hS hl
  unfold p_X7_read_b106 at hf
  refine lv_iload X.1 X.2.1 dX7_read_106 (lv_at hl 1 rfl) ?_
  obtain ⟨e0, hf⟩ := o2 hf
  obtain ⟨e1, hf⟩ := o2 hf
  obtain ⟨e2, hf⟩ := o2 hf
  obtain ⟨e3, hf⟩ := o2 hf
  obtain ⟨e4, hf⟩ := o2 hf
  have e5 := o1 hf
  have EF : Ff = F := frm_eq hfF (frm_c (e1).symm (frm_c (e2).symm (frm_c (e3).symm frm_n)))
  have EI : If = I := frm_eq hfI (frm_c (e4).symm (frm_c (e5).symm frm_n))
  exact ret_i X hS (by rw [EF, EI]; exact hP) e0 dX7_read_108
set_option maxHeartbeats 4000000 in
set_option maxRecDepth 100000 in
theorem t_X7_read_b29x {p : Program} {l : Launch} {e : Env} {s : State} {m : MethodId} {args : Array Value} {below : List Frame} {meth : Method} {c : Code} {D : va_G} {a : Nat → Nat} {kc : Nat → ClassId} (X : cx 44 p s m args meth c D (tyC kc) a cX7_read 6 RX7 (some .int)) {G : Nat → Int64} {J : Nat → Nat → Int64} {Z : Nat → Nat → Nat → Int32} {Ff : Nat → Int32} {If : Nat → Nat → Int32} {r : Int32} {K29 : Int32 → Int32 → Int32 → (Nat → Int32) → (Nat → Int32) → (Nat → Int32) → (Nat → Nat → Int32) → Int32 → Nat → Int32 → Int32 → Option (Int32 × Int32 × Int32 × Int32 × (Nat → Int32) × (Nat → Int32))} (kh29 : ∀ (F : Nat → Int32) (I : Nat → Nat → Int32) (x1 : Int32) (s3 : Nat) (x4 : Int32) (x5 : Int32) (H : Heap) (locs : List Loc) (ls : Array Slot), K29 (F 5) (F 7) (F 13) (I 9) (I 10) (I 17) (Z 1) x1 s3 x4 x5 = some (r, (Ff 5), (Ff 7), (Ff 13), (If 9), (If 10)) → (∀ k, k ∉ ([5, 7, 13] : List Nat) → Ff k = F k) → (∀ k, k ∉ ([9, 10] : List Nat) → If k = I k) → va_P D vwCl (wC a kc F G I J Z) H → va_S (ad a 44 s.heap.size) s.heap H locs → lv_has ls 6 [(0, .ref (a 34)), (1, .int x1), (3, .ref (a (40 + s3))), (4, .int x4), (5, .int x5)] → W p l e rm_X7_read s m args below meth c H locs 0 0 (MQ below (Qi D (wC a kc Ff G If J Z) r (ad a 44 s.heap.size)) args s 0 0 (ad a 44 s.heap.size)) (F0 m 29 ls [])) :
    ∀ (F : Nat → Int32) (I : Nat → Nat → Int32) (x1 : Int32) (s3 : Nat) (x4 : Int32) (x5 : Int32) (H : Heap) (locs : List Loc) (ls : Array Slot), p_X7_read_b29x K29 (F 5) (F 7) (F 13) (I 9) (I 10) (I 17) (Z 1) x1 s3 x4 x5 = some (r, (Ff 5), (Ff 7), (Ff 13), (If 9), (If 10)) → (∀ k, k ∉ ([5, 7, 13] : List Nat) → Ff k = F k) → (∀ k, k ∉ ([9, 10] : List Nat) → If k = I k) → va_P D vwCl (wC a kc F G I J Z) H → va_S (ad a 44 s.heap.size) s.heap H locs → lv_has ls 6 [(0, .ref (a 34)), (1, .int x1), (3, .ref (a (40 + s3))), (4, .int x4), (5, .int x5)] → W p l e rm_X7_read s m args below meth c H locs 0 0 (MQ below (Qi D (wC a kc Ff G If J Z) r (ad a 44 s.heap.size)) args s 0 0 (ad a 44 s.heap.size)) (F0 m 29 ls []) := by
  intro F I x1 s3 x4 x5 H locs ls hf hfF hfI hP hS hl
  unfold p_X7_read_b29x at hf
  refine lv_iload X.1 X.2.1 dX7_read_29 (lv_at hl 4 rfl) ?_
  refine lv_iconst (v := 1) X.1 X.2.1 dX7_read_31 (by decide) ?_
  refine lv_iadd X.1 X.2.1 dX7_read_32 ?_
  refine lv_aload_n X.1 X.2.1 dX7_read_33 rfl (lv_at hl 0 rfl) ?_
  refine gC_34_6 X q_2_70 dX7_read_34 hP ?_
  refine lv_iload_n X.1 X.2.1 dX7_read_37 rfl (lv_at hl 1 rfl) ?_
  obtain ⟨h38, hf⟩ := gd_s hf
  refine alC_35 X h38 dX7_read_38 hP ?_
  obtain ⟨h39, hf⟩ := gd_s hf
  refine gC_sh_2 (I := I) X (of_decide_eq_true h39) (f := (I 17)) rfl q_2_56 dX7_read_39 hP ?_
  refine lv_icmp_ge (tgt := 106) X.1 X.2.1 dX7_read_42 (by decide) (fun c42 => ?_) (fun c42 => ?_)
  · have hf := it_s hf c42
    exact t_X7_read_b106 X F I x4 H locs ls hf hfF hfI hP hS (lv_sub hl [0, 3] rfl)
  · have hf := ie_s hf c42
    refine lv_aload_n X.1 X.2.1 dX7_read_45 rfl (lv_at hl 0 rfl) ?_
    refine gC_34_3 X q_2_67 dX7_read_46 hP ?_
    refine gC_22_1 (F := F) X (v := (F 5)) rfl q_1_200 dX7_read_49 hP ?_
    refine lv_bipush (v := 8) X.1 X.2.1 dX7_read_52 (by decide) ?_
    refine lv_icmp_ge (tgt := 106) X.1 X.2.1 dX7_read_54 (by decide) (fun c54 => ?_) (fun c54 => ?_)
    · have hf := it_s hf c54
      exact t_X7_read_b106 X F I x4 H locs ls hf hfF hfI hP hS (lv_sub hl [0, 3] rfl)
    · have hf := ie_s hf c54
      refine lv_aload_n X.1 X.2.1 dX7_read_57 rfl (lv_at hl 0 rfl) ?_
      refine gC_34_3 X q_2_67 dX7_read_58 hP ?_
      refine lv_aload_n X.1 X.2.1 dX7_read_61 rfl (lv_at hl 2 rfl) ?_
      refine lv_iload X.1 X.2.1 dX7_read_62 (lv_at hl 4 rfl) ?_
      obtain ⟨h64s, hf⟩ := gd_s hf
      obtain ⟨h64, hf⟩ := gd_s hf
      refine ldC_40 (Z := Z) X (of_decide_eq_true h64s) (f := (Z 1)) rfl h64 dX7_read_64 hP ?_
      refine lv_aload_n X.1 X.2.1 dX7_read_65 rfl (lv_at hl 2 rfl) ?_
      refine lv_iload X.1 X.2.1 dX7_read_66 (lv_at hl 4 rfl) ?_
      refine lv_iconst (v := 1) X.1 X.2.1 dX7_read_68 (by decide) ?_
      refine lv_iadd X.1 X.2.1 dX7_read_69 ?_
      obtain ⟨h70s, hf⟩ := gd_s hf
      obtain ⟨h70, hf⟩ := gd_s hf
      refine ldC_40 (Z := Z) X (of_decide_eq_true h70s) (f := (Z 1)) rfl h70 dX7_read_70 hP ?_
      obtain ⟨r71, ho, hf⟩ := b1_s hf
      refine call_vi (rest := []) X (c_X6_mayTell F G I J Z X.2.2.2.2.2.2.2.1 ((Z 1) s3 x5.toNatClampNeg) ((Z 1) s3 (x5 + 1).toNatClampNeg) ho) q_3_122 q_3_123 q_3_124 q_1_6 q_3_125 ok_X6_mayTell rfl 22 rfl rfl ⟨Nat.le_of_ble_eq_true rfl, Nat.le_of_ble_eq_true rfl⟩ rfl rfl hl.1 rfl (Nat.le_of_ble_eq_true rfl) dX7_read_71 hP hS (fun H locs hP hS => ?_)
      refine lv_if_ne (tgt := 80) X.1 X.2.1 dX7_read_74 (by decide) (fun c74 => ?_) (fun c74 => ?_)
      · have hf := ie_s hf c74
        refine lv_aload_n X.1 X.2.1 dX7_read_80 rfl (lv_at hl 0 rfl) ?_
        refine gC_34_3 X q_2_67 dX7_read_81 hP ?_
        refine lv_aload_n X.1 X.2.1 dX7_read_84 rfl (lv_at hl 2 rfl) ?_
        refine lv_iload X.1 X.2.1 dX7_read_85 (lv_at hl 4 rfl) ?_
        obtain ⟨h87s, hf⟩ := gd_s hf
        obtain ⟨h87, hf⟩ := gd_s hf
        refine ldC_40 (Z := Z) X (of_decide_eq_true h87s) (f := (Z 1)) rfl h87 dX7_read_87 hP ?_
        refine lv_aload_n X.1 X.2.1 dX7_read_88 rfl (lv_at hl 2 rfl) ?_
        refine lv_iload X.1 X.2.1 dX7_read_89 (lv_at hl 4 rfl) ?_
        refine lv_iconst (v := 1) X.1 X.2.1 dX7_read_91 (by decide) ?_
        refine lv_iadd X.1 X.2.1 dX7_read_92 ?_
        obtain ⟨h93s, hf⟩ := gd_s hf
        obtain ⟨h93, hf⟩ := gd_s hf
        refine ldC_40 (Z := Z) X (of_decide_eq_true h93s) (f := (Z 1)) rfl h93 dX7_read_93 hP ?_
        obtain ⟨W_size_94, W_ready_94, W_persons_94, W_places_94, ho, hf⟩ := b4_s hf
        refine call_vv (rest := []) X (c_X6_tell F G I J Z X.2.2.2.2.2.2.2.1 ((Z 1) s3 x5.toNatClampNeg) ((Z 1) s3 (x5 + 1).toNatClampNeg) ho) q_3_126 q_3_127 q_3_128 q_1_6 q_3_129 ok_X6_tell rfl 22 rfl rfl ⟨Nat.le_of_ble_eq_true rfl, Nat.le_of_ble_eq_true rfl⟩ rfl rfl hl.1 rfl (Nat.le_of_ble_eq_true rfl) dX7_read_94 hP hS (fun H locs hP hS => ?_)
        obtain ⟨x97, ex97, hf⟩ := nm_x hf
        refine lv_iinc (v := x97) (lv' := [(4, .int x97), (0, .ref (a 34)), (1, .int x1), (3, .ref (a (40 + s3))), (5, .int x5)]) X.1 X.2.1 dX7_read_97 hl (k := 3) rfl ex97 (by decide) rfl (fun ls hl => ?_)
        obtain ⟨x100, ex100, hf⟩ := nm_x hf
        refine lv_iinc (v := x100) (lv' := [(5, .int x100), (4, .int x97), (0, .ref (a 34)), (1, .int x1), (3, .ref (a (40 + s3)))]) X.1 X.2.1 dX7_read_100 hl (k := 4) rfl ex100 (by decide) rfl (fun ls hl => ?_)
        refine lv_goto (tgt := 29) X.1 X.2.1 dX7_read_103 (by decide) ?_
        exact kh29 (va_up (va_up F 5 W_size_94) 7 W_ready_94) (va_up (va_up I 9 W_persons_94) 10 W_places_94) x1 s3 x97 x100 H locs ls hf (frm_up (frm_up hfF (by decide)) (by decide)) (frm_up (frm_up hfI (by decide)) (by decide)) hP hS (lv_sub hl [2, 3, 4, 1, 0] rfl)
      · have hf := it_s hf c74
        refine lv_goto (tgt := 106) X.1 X.2.1 dX7_read_77 (by decide) ?_
        exact t_X7_read_b106 X F I x4 H locs ls hf hfF hfI hP hS (lv_sub hl [0, 3] rfl)
set_option maxRecDepth 100000 in
theorem t_X7_read_b29 {p : Program} {l : Launch} {e : Env} {s : State} {m : MethodId} {args : Array Value} {below : List Frame} {meth : Method} {c : Code} {D : va_G} {a : Nat → Nat} {kc : Nat → ClassId} (X : cx 44 p s m args meth c D (tyC kc) a cX7_read 6 RX7 (some .int)) {G : Nat → Int64} {J : Nat → Nat → Int64} {Z : Nat → Nat → Nat → Int32} {Ff : Nat → Int32} {If : Nat → Nat → Int32} {r : Int32} :
    ∀ (n : Nat) (F : Nat → Int32) (I : Nat → Nat → Int32) (x1 : Int32) (s3 : Nat) (x4 : Int32) (x5 : Int32) (H : Heap) (locs : List Loc) (ls : Array Slot), p_X7_read_b29 n (F 5) (F 7) (F 13) (I 9) (I 10) (I 17) (Z 1) x1 s3 x4 x5 = some (r, (Ff 5), (Ff 7), (Ff 13), (If 9), (If 10)) → (∀ k, k ∉ ([5, 7, 13] : List Nat) → Ff k = F k) → (∀ k, k ∉ ([9, 10] : List Nat) → If k = I k) → va_P D vwCl (wC a kc F G I J Z) H → va_S (ad a 44 s.heap.size) s.heap H locs → lv_has ls 6 [(0, .ref (a 34)), (1, .int x1), (3, .ref (a (40 + s3))), (4, .int x4), (5, .int x5)] → W p l e rm_X7_read s m args below meth c H locs 0 0 (MQ below (Qi D (wC a kc Ff G If J Z) r (ad a 44 s.heap.size)) args s 0 0 (ad a 44 s.heap.size)) (F0 m 29 ls []) := by
  intro n
  induction n with
  | zero => intro F I x1 s3 x4 x5 H locs ls hf hfF hfI hP hS hl; exact (nos hf).elim
  | succ n ih => exact t_X7_read_b29x X ih
set_option maxHeartbeats 4000000 in
set_option maxRecDepth 100000 in
theorem t_X7_read_b0 {p : Program} {l : Launch} {e : Env} {s : State} {m : MethodId} {args : Array Value} {below : List Frame} {meth : Method} {c : Code} {D : va_G} {a : Nat → Nat} {kc : Nat → ClassId} (X : cx 44 p s m args meth c D (tyC kc) a cX7_read 6 RX7 (some .int)) {G : Nat → Int64} {J : Nat → Nat → Int64} {Z : Nat → Nat → Nat → Int32} {Ff : Nat → Int32} {If : Nat → Nat → Int32} {r : Int32} :
    ∀ (F : Nat → Int32) (I : Nat → Nat → Int32) (x1 : Int32) (H : Heap) (locs : List Loc) (ls : Array Slot), p_X7_read_b0 (F 5) (F 7) (F 13) (I 9) (I 10) (I 17) (Z 1) x1 = some (r, (Ff 5), (Ff 7), (Ff 13), (If 9), (If 10)) → (∀ k, k ∉ ([5, 7, 13] : List Nat) → Ff k = F k) → (∀ k, k ∉ ([9, 10] : List Nat) → If k = I k) → va_P D vwCl (wC a kc F G I J Z) H → va_S (ad a 44 s.heap.size) s.heap H locs → lv_has ls 6 [(0, .ref (a 34)), (1, .int x1)] → W p l e rm_X7_read s m args below meth c H locs 0 0 (MQ below (Qi D (wC a kc Ff G If J Z) r (ad a 44 s.heap.size)) args s 0 0 (ad a 44 s.heap.size)) (F0 m 0 ls []) := by
  intro F I x1 H locs ls hf hfF hfI hP hS hl
  unfold p_X7_read_b0 at hf
  refine lv_aload_n X.1 X.2.1 dX7_read_0 rfl (lv_at hl 0 rfl) ?_
  refine lv_iload_n X.1 X.2.1 dX7_read_1 rfl (lv_at hl 1 rfl) ?_
  refine lv_iconst (v := 1) X.1 X.2.1 dX7_read_2 (by decide) ?_
  obtain ⟨r3, T_finding_3, ho, hf⟩ := b2_s hf
  refine call_vi (rest := []) X (c_X7_refuseSheet F G I J Z X.2.2.2.2.2.2.2.1 x1 1 ho) q_2_231 q_2_233 qs_yX7_refuseSheet q_1_1 q_2_234 ok_X7_refuseSheet rfl 34 rfl rfl ⟨Nat.le_of_ble_eq_true rfl, Nat.le_of_ble_eq_true rfl⟩ rfl rfl hl.1 rfl (Nat.le_of_ble_eq_true rfl) dX7_read_3 hP hS (fun H locs hP hS => ?_)
  refine lv_istore_n (lv' := [(2, .int r3), (0, .ref (a 34)), (1, .int x1)]) X.1 X.2.1 dX7_read_6 rfl hl (by decide) rfl (fun ls hl => ?_)
  refine lv_iload_n X.1 X.2.1 dX7_read_7 rfl (lv_at hl 0 rfl) ?_
  refine lv_if_eq (tgt := 13) X.1 X.2.1 dX7_read_8 (by decide) (fun c8 => ?_) (fun c8 => ?_)
  · have hf := it_s hf c8
    refine lv_aload_n X.1 X.2.1 dX7_read_13 rfl (lv_at hl 1 rfl) ?_
    refine gC_34_6 X q_2_70 dX7_read_14 hP ?_
    refine lv_iload_n X.1 X.2.1 dX7_read_17 rfl (lv_at hl 2 rfl) ?_
    obtain ⟨h18, hf⟩ := gd_s hf
    refine alC_35 X h18 dX7_read_18 hP ?_
    obtain ⟨h19, hf⟩ := gd_s hf
    refine gC_sh_0 X (of_decide_eq_true h19) q_2_52 dX7_read_19 hP ?_
    refine lv_astore_n (lv' := [(3, .ref (a (40 + x1.toNatClampNeg))), (2, .int r3), (0, .ref (a 34)), (1, .int x1)]) X.1 X.2.1 dX7_read_22 rfl hl (by decide) rfl (fun ls hl => ?_)
    refine lv_iconst (v := 0) X.1 X.2.1 dX7_read_23 (by decide) ?_
    refine lv_istore (lv' := [(4, .int 0), (3, .ref (a (40 + x1.toNatClampNeg))), (2, .int r3), (0, .ref (a 34)), (1, .int x1)]) X.1 X.2.1 dX7_read_24 hl (by decide) rfl (fun ls hl => ?_)
    refine lv_iconst (v := 0) X.1 X.2.1 dX7_read_26 (by decide) ?_
    refine lv_istore (lv' := [(5, .int 0), (4, .int 0), (3, .ref (a (40 + x1.toNatClampNeg))), (2, .int r3), (0, .ref (a 34)), (1, .int x1)]) X.1 X.2.1 dX7_read_27 hl (by decide) rfl (fun ls hl => ?_)
    exact t_X7_read_b29 X 4096 (va_up F 13 T_finding_3) I x1 x1.toNatClampNeg 0 0 H locs ls hf (frm_up hfF (by decide)) hfI hP hS (lv_sub hl [4, 5, 2, 1, 0] rfl)
  · have hf := ie_s hf c8
    refine lv_iload_n X.1 X.2.1 dX7_read_11 rfl (lv_at hl 0 rfl) ?_
    obtain ⟨e0, hf⟩ := o2 hf
    obtain ⟨e1, hf⟩ := o2 hf
    obtain ⟨e2, hf⟩ := o2 hf
    obtain ⟨e3, hf⟩ := o2 hf
    obtain ⟨e4, hf⟩ := o2 hf
    have e5 := o1 hf
    have EF : Ff = (va_up F 13 T_finding_3) := frm_eq (frm_up hfF (by decide)) (frm_c (e1).symm (frm_c (e2).symm (frm_c (e3).symm frm_n)))
    have EI : If = I := frm_eq hfI (frm_c (e4).symm (frm_c (e5).symm frm_n))
    exact ret_i X hS (by rw [EF, EI]; exact hP) e0 dX7_read_12
set_option maxRecDepth 100000 in
theorem c_X7_read {l : Launch} {D : va_G} {a : Nat → Nat} {kc : Nat → ClassId} (F : Nat → Int32) (G : Nat → Int64) (I : Nat → Nat → Int32) (J : Nat → Nat → Int64) (Z : Nat → Nat → Nat → Int32) (hAp : ∀ i j, i < 44 → j < 44 → a i = a j → i = j) (x1 : Int32) {o0 : Int32} {o1 : Int32} {o2 : Int32} {o3 : Int32} {o4 : Nat → Int32} {o5 : Nat → Int32} (hf : p_X7_read (F 5) (F 7) (F 13) (I 9) (I 10) (I 17) (Z 1) x1 = some (o0, o1, o2, o3, o4, o5)) : Ct 44 l yX7_read cX7_read 6 (some .int) rm_X7_read D (tyC kc) a (wC a kc F G I J Z) [.ref (a 34), .int x1] (Qi D (wC a kc (va_up (va_up (va_up F 5 o1) 7 o2) 13 o3) G (va_up (va_up I 9 o4) 10 o5) J Z) o0) :=
  Ct.of (by decide +kernel) hAp (Nat.le_of_ble_eq_true rfl) (fun p e s m args below meth c ls X hP hl => t_X7_read_b0 X F I x1 _ _ _ hf (frm_ul (frm_ul (frm_ul (fun k _ => rfl) (by decide)) (by decide)) (by decide)) (frm_ul (frm_ul (fun k _ => rfl) (by decide)) (by decide)) hP va_S.rf hl)
abbrev rm_X7_forget : Room := { frames := 1, cells := 0, slots := 0, locals := 20 }
set_option maxHeartbeats 4000000 in
set_option maxRecDepth 100000 in
theorem t_X7_forget_b0 {p : Program} {l : Launch} {e : Env} {s : State} {m : MethodId} {args : Array Value} {below : List Frame} {meth : Method} {c : Code} {D : va_G} {a : Nat → Nat} {kc : Nat → ClassId} (X : cx 44 p s m args meth c D (tyC kc) a cX7_forget 2 RX7 (some .int)) {G : Nat → Int64} {I : Nat → Nat → Int32} {J : Nat → Nat → Int64} {Z : Nat → Nat → Nat → Int32} {Ff : Nat → Int32} {r : Int32} :
    ∀ (F : Nat → Int32)  (H : Heap) (locs : List Loc) (ls : Array Slot), p_X7_forget_b0 (F 5) (F 7)  = some (r, (Ff 5), (Ff 7)) → (∀ k, k ∉ ([5, 7] : List Nat) → Ff k = F k) → va_P D vwCl (wC a kc F G I J Z) H → va_S (ad a 44 s.heap.size) s.heap H locs → lv_has ls 2 [(0, .ref (a 34))] → W p l e rm_X7_forget s m args below meth c H locs 0 0 (MQ below (Qi D (wC a kc Ff G I J Z) r (ad a 44 s.heap.size)) args s 0 0 (ad a 44 s.heap.size)) (F0 m 0 ls []) := by
  intro F  H locs ls hf hfF hP hS hl
  unfold p_X7_forget_b0 at hf
  refine lv_aload_n X.1 X.2.1 dX7_forget_0 rfl (lv_at hl 0 rfl) ?_
  refine gC_34_3 X q_2_67 dX7_forget_1 hP ?_
  refine gC_22_1 (F := F) X (v := (F 5)) rfl q_1_200 dX7_forget_4 hP ?_
  refine nm_i hf (fun x7 hf => ?_)
  refine lv_istore_n (lv' := [(1, .int x7), (0, .ref (a 34))]) X.1 X.2.1 dX7_forget_7 rfl hl (by decide) rfl (fun ls hl => ?_)
  refine lv_aload_n X.1 X.2.1 dX7_forget_8 rfl (lv_at hl 1 rfl) ?_
  refine gC_34_3 X q_2_67 dX7_forget_9 hP ?_
  obtain ⟨W_size_12, W_ready_12, ho, hf⟩ := b2_s hf
  refine call_vv (rest := []) X (c_X6_clear F G I J Z X.2.2.2.2.2.2.2.1  ho) q_3_138 q_3_139 q_3_140 q_1_6 q_3_141 ok_X6_clear rfl 22 rfl rfl ⟨Nat.le_of_ble_eq_true rfl, Nat.le_of_ble_eq_true rfl⟩ rfl rfl hl.1 rfl (Nat.le_of_ble_eq_true rfl) dX7_forget_12 hP hS (fun H locs hP hS => ?_)
  refine lv_iload_n X.1 X.2.1 dX7_forget_15 rfl (lv_at hl 0 rfl) ?_
  obtain ⟨e0, hf⟩ := o2 hf
  obtain ⟨e1, hf⟩ := o2 hf
  have e2 := o1 hf
  have EF : Ff = (va_up (va_up F 5 W_size_12) 7 W_ready_12) := frm_eq (frm_up (frm_up hfF (by decide)) (by decide)) (frm_c (e1).symm (frm_c (e2).symm frm_n))
  exact ret_i X hS (by rw [EF]; exact hP) e0 dX7_forget_16
set_option maxRecDepth 100000 in
theorem c_X7_forget {l : Launch} {D : va_G} {a : Nat → Nat} {kc : Nat → ClassId} (F : Nat → Int32) (G : Nat → Int64) (I : Nat → Nat → Int32) (J : Nat → Nat → Int64) (Z : Nat → Nat → Nat → Int32) (hAp : ∀ i j, i < 44 → j < 44 → a i = a j → i = j)  {o0 : Int32} {o1 : Int32} {o2 : Int32} (hf : p_X7_forget (F 5) (F 7)  = some (o0, o1, o2)) : Ct 44 l yX7_forget cX7_forget 2 (some .int) rm_X7_forget D (tyC kc) a (wC a kc F G I J Z) [.ref (a 34)] (Qi D (wC a kc (va_up (va_up F 5 o1) 7 o2) G I J Z) o0) :=
  Ct.of (by decide +kernel) hAp (Nat.le_of_ble_eq_true rfl) (fun p e s m args below meth c ls X hP hl => t_X7_forget_b0 X F  _ _ _ hf (frm_ul (frm_ul (fun k _ => rfl) (by decide)) (by decide)) hP va_S.rf hl)
abbrev rm_X7_losers : Room := { frames := 5, cells := 0, slots := 0, locals := 117 }
set_option maxHeartbeats 4000000 in
set_option maxRecDepth 100000 in
theorem t_X7_losers_b0 {p : Program} {l : Launch} {e : Env} {s : State} {m : MethodId} {args : Array Value} {below : List Frame} {meth : Method} {c : Code} {D : va_G} {a : Nat → Nat} {kc : Nat → ClassId} (X : cx 44 p s m args meth c D (tyC kc) a cX7_losers 1 RX7 (some .int)) {Z : Nat → Nat → Nat → Int32} {Ff : Nat → Int32} {Gf : Nat → Int64} {If : Nat → Nat → Int32} {Jf : Nat → Nat → Int64} {r : Int32} :
    ∀ (F : Nat → Int32) (G : Nat → Int64) (I : Nat → Nat → Int32) (J : Nat → Nat → Int64)  (H : Heap) (locs : List Loc) (ls : Array Slot), p_X7_losers_b0 (F 0) (F 2) (F 5) (F 6) (F 7) (G 3) (I 2) (I 4) (I 5) (I 6) (I 9) (I 10) (I 11) (I 12) (I 13) (J 7) (J 8)  = some (r, (Ff 6), (Ff 7), (Gf 3), (If 11), (If 12), (If 13), (Jf 7), (Jf 8)) → (∀ k, k ∉ ([6, 7] : List Nat) → Ff k = F k) → (∀ k, k ∉ ([3] : List Nat) → Gf k = G k) → (∀ k, k ∉ ([11, 12, 13] : List Nat) → If k = I k) → (∀ k, k ∉ ([7, 8] : List Nat) → Jf k = J k) → va_P D vwCl (wC a kc F G I J Z) H → va_S (ad a 44 s.heap.size) s.heap H locs → lv_has ls 1 [(0, .ref (a 34))] → W p l e rm_X7_losers s m args below meth c H locs 0 0 (MQ below (Qi D (wC a kc Ff Gf If Jf Z) r (ad a 44 s.heap.size)) args s 0 0 (ad a 44 s.heap.size)) (F0 m 0 ls []) := by
  intro F G I J  H locs ls hf hfF hfG hfI hfJ hP hS hl
  unfold p_X7_losers_b0 at hf
  refine lv_aload_n X.1 X.2.1 dX7_losers_0 rfl (lv_at hl 0 rfl) ?_
  refine gC_34_3 X q_2_67 dX7_losers_1 hP ?_
  obtain ⟨W_suspects_4, W_ready_4, W_total_4, W_allowed_4, W_kinds_4, W_answers_4, W_weights_4, W_reach_4, ho, hf⟩ := b8_s hf
  refine call_vv (rest := []) X (c_X6_refresh F G I J Z X.2.2.2.2.2.2.2.1  ho) q_3_146 q_3_147 q_3_148 q_1_6 q_3_149 ok_X6_refresh rfl 22 rfl rfl ⟨Nat.le_of_ble_eq_true rfl, Nat.le_of_ble_eq_true rfl⟩ rfl rfl hl.1 rfl (Nat.le_of_ble_eq_true rfl) dX7_losers_4 hP hS (fun H locs hP hS => ?_)
  refine lv_aload_n X.1 X.2.1 dX7_losers_7 rfl (lv_at hl 0 rfl) ?_
  refine gC_34_3 X q_2_67 dX7_losers_8 hP ?_
  refine gC_22_2 (F := (va_up (va_up F 6 W_suspects_4) 7 W_ready_4)) X (v := W_suspects_4) rfl q_1_202 dX7_losers_11 hP ?_
  obtain ⟨e0, hf⟩ := o2 hf
  obtain ⟨e1, hf⟩ := o2 hf
  obtain ⟨e2, hf⟩ := o2 hf
  obtain ⟨e3, hf⟩ := o2 hf
  obtain ⟨e4, hf⟩ := o2 hf
  obtain ⟨e5, hf⟩ := o2 hf
  obtain ⟨e6, hf⟩ := o2 hf
  obtain ⟨e7, hf⟩ := o2 hf
  have e8 := o1 hf
  have EF : Ff = (va_up (va_up F 6 W_suspects_4) 7 W_ready_4) := frm_eq (frm_up (frm_up hfF (by decide)) (by decide)) (frm_c (e1).symm (frm_c (e2).symm frm_n))
  have EG : Gf = (va_up G 3 W_total_4) := frm_eq (frm_up hfG (by decide)) (frm_c (e3).symm frm_n)
  have EI : If = (va_up (va_up (va_up I 11 W_allowed_4) 12 W_kinds_4) 13 W_answers_4) := frm_eq (frm_up (frm_up (frm_up hfI (by decide)) (by decide)) (by decide)) (frm_c (e4).symm (frm_c (e5).symm (frm_c (e6).symm frm_n)))
  have EJ : Jf = (va_up (va_up J 7 W_weights_4) 8 W_reach_4) := frm_eq (frm_up (frm_up hfJ (by decide)) (by decide)) (frm_c (e7).symm (frm_c (e8).symm frm_n))
  exact ret_i X hS (by rw [EF, EG, EI, EJ]; exact hP) e0 dX7_losers_14
set_option maxRecDepth 100000 in
theorem c_X7_losers {l : Launch} {D : va_G} {a : Nat → Nat} {kc : Nat → ClassId} (F : Nat → Int32) (G : Nat → Int64) (I : Nat → Nat → Int32) (J : Nat → Nat → Int64) (Z : Nat → Nat → Nat → Int32) (hAp : ∀ i j, i < 44 → j < 44 → a i = a j → i = j)  {o0 : Int32} {o1 : Int32} {o2 : Int32} {o3 : Int64} {o4 : Nat → Int32} {o5 : Nat → Int32} {o6 : Nat → Int32} {o7 : Nat → Int64} {o8 : Nat → Int64} (hf : p_X7_losers (F 0) (F 2) (F 5) (F 6) (F 7) (G 3) (I 2) (I 4) (I 5) (I 6) (I 9) (I 10) (I 11) (I 12) (I 13) (J 7) (J 8)  = some (o0, o1, o2, o3, o4, o5, o6, o7, o8)) : Ct 44 l yX7_losers cX7_losers 1 (some .int) rm_X7_losers D (tyC kc) a (wC a kc F G I J Z) [.ref (a 34)] (Qi D (wC a kc (va_up (va_up F 6 o1) 7 o2) (va_up G 3 o3) (va_up (va_up (va_up I 11 o4) 12 o5) 13 o6) (va_up (va_up J 7 o7) 8 o8) Z) o0) :=
  Ct.of (by decide +kernel) hAp (Nat.le_of_ble_eq_true rfl) (fun p e s m args below meth c ls X hP hl => t_X7_losers_b0 X F G I J  _ _ _ hf (frm_ul (frm_ul (fun k _ => rfl) (by decide)) (by decide)) (frm_ul (fun k _ => rfl) (by decide)) (frm_ul (frm_ul (frm_ul (fun k _ => rfl) (by decide)) (by decide)) (by decide)) (frm_ul (frm_ul (fun k _ => rfl) (by decide)) (by decide)) hP va_S.rf hl)
abbrev rm_X7_share : Room := { frames := 5, cells := 0, slots := 0, locals := 117 }
set_option maxHeartbeats 4000000 in
set_option maxRecDepth 100000 in
theorem t_X7_share_b27 {p : Program} {l : Launch} {e : Env} {s : State} {m : MethodId} {args : Array Value} {below : List Frame} {meth : Method} {c : Code} {D : va_G} {a : Nat → Nat} {kc : Nat → ClassId} (X : cx 44 p s m args meth c D (tyC kc) a cX7_share 3 RX7 (some .long)) {Z : Nat → Nat → Nat → Int32} {Ff : Nat → Int32} {Gf : Nat → Int64} {If : Nat → Nat → Int32} {Jf : Nat → Nat → Int64} {r : Int64} :
    ∀ (F : Nat → Int32) (G : Nat → Int64) (I : Nat → Nat → Int32) (J : Nat → Nat → Int64)  (H : Heap) (locs : List Loc) (ls : Array Slot), p_X7_share_b27 (F 0) (F 2) (F 5) (F 6) (F 7) (G 3) (I 2) (I 4) (I 5) (I 6) (I 9) (I 10) (I 11) (I 12) (I 13) (J 7) (J 8)  = some (r, (Ff 6), (Ff 7), (Gf 3), (If 11), (If 12), (If 13), (Jf 7), (Jf 8)) → (∀ k, k ∉ ([6, 7] : List Nat) → Ff k = F k) → (∀ k, k ∉ ([3] : List Nat) → Gf k = G k) → (∀ k, k ∉ ([11, 12, 13] : List Nat) → If k = I k) → (∀ k, k ∉ ([7, 8] : List Nat) → Jf k = J k) → va_P D vwCl (wC a kc F G I J Z) H → va_S (ad a 44 s.heap.size) s.heap H locs → lv_has ls 3 [(0, .ref (a 34))] → W p l e rm_X7_share s m args below meth c H locs 0 0 (MQ below (Ql D (wC a kc Ff Gf If Jf Z) r (ad a 44 s.heap.size)) args s 0 0 (ad a 44 s.heap.size)) (F0 m 27 ls []) := by
  intro F G I J  H locs ls hf hfF hfG hfI hfJ hP hS hl
  unfold p_X7_share_b27 at hf
  refine lv_bipush (v := (-2)) X.1 X.2.1 dX7_share_27 (by decide) ?_
  obtain ⟨r29, ho, hf⟩ := b1_s hf
  refine call_sl (rest := []) X (c_X7_asLong (-2) ho) q_2_143 q_2_144 q_1_1 q_2_145 ok_X7_asLong rfl ⟨Nat.le_of_ble_eq_true rfl, Nat.le_of_ble_eq_true rfl⟩ rfl rfl hl.1 rfl (Nat.le_of_ble_eq_true rfl) dX7_share_29 hP hS (fun H locs hP hS => ?_)
  obtain ⟨e0, hf⟩ := o2 hf
  obtain ⟨e1, hf⟩ := o2 hf
  obtain ⟨e2, hf⟩ := o2 hf
  obtain ⟨e3, hf⟩ := o2 hf
  obtain ⟨e4, hf⟩ := o2 hf
  obtain ⟨e5, hf⟩ := o2 hf
  obtain ⟨e6, hf⟩ := o2 hf
  obtain ⟨e7, hf⟩ := o2 hf
  have e8 := o1 hf
  have EF : Ff = F := frm_eq hfF (frm_c (e1).symm (frm_c (e2).symm frm_n))
  have EG : Gf = G := frm_eq hfG (frm_c (e3).symm frm_n)
  have EI : If = I := frm_eq hfI (frm_c (e4).symm (frm_c (e5).symm (frm_c (e6).symm frm_n)))
  have EJ : Jf = J := frm_eq hfJ (frm_c (e7).symm (frm_c (e8).symm frm_n))
  exact ret_l X hS (by rw [EF, EG, EI, EJ]; exact hP) e0 dX7_share_32
set_option maxHeartbeats 4000000 in
set_option maxRecDepth 100000 in
theorem t_X7_share_b80 {p : Program} {l : Launch} {e : Env} {s : State} {m : MethodId} {args : Array Value} {below : List Frame} {meth : Method} {c : Code} {D : va_G} {a : Nat → Nat} {kc : Nat → ClassId} (X : cx 44 p s m args meth c D (tyC kc) a cX7_share 3 RX7 (some .long)) {Z : Nat → Nat → Nat → Int32} {Ff : Nat → Int32} {Gf : Nat → Int64} {If : Nat → Nat → Int32} {Jf : Nat → Nat → Int64} {r : Int64} :
    ∀ (F : Nat → Int32) (G : Nat → Int64) (I : Nat → Nat → Int32) (J : Nat → Nat → Int64) (t0 : Int64) (H : Heap) (locs : List Loc) (ls : Array Slot), p_X7_share_b80 (F 0) (F 2) (F 5) (F 6) (F 7) (G 3) (I 2) (I 4) (I 5) (I 6) (I 9) (I 10) (I 11) (I 12) (I 13) (J 7) (J 8) t0 = some (r, (Ff 6), (Ff 7), (Gf 3), (If 11), (If 12), (If 13), (Jf 7), (Jf 8)) → (∀ k, k ∉ ([6, 7] : List Nat) → Ff k = F k) → (∀ k, k ∉ ([3] : List Nat) → Gf k = G k) → (∀ k, k ∉ ([11, 12, 13] : List Nat) → If k = I k) → (∀ k, k ∉ ([7, 8] : List Nat) → Jf k = J k) → va_P D vwCl (wC a kc F G I J Z) H → va_S (ad a 44 s.heap.size) s.heap H locs → lv_has ls 3 [(0, .ref (a 34))] → W p l e rm_X7_share s m args below meth c H locs 0 0 (MQ below (Ql D (wC a kc Ff Gf If Jf Z) r (ad a 44 s.heap.size)) args s 0 0 (ad a 44 s.heap.size)) (F0 m 80 ls [.long t0]) := by
  intro F G I J t0 H locs ls hf hfF hfG hfI hfJ hP hS hl
  unfold p_X7_share_b80 at hf
  obtain ⟨e0, hf⟩ := o2 hf
  obtain ⟨e1, hf⟩ := o2 hf
  obtain ⟨e2, hf⟩ := o2 hf
  obtain ⟨e3, hf⟩ := o2 hf
  obtain ⟨e4, hf⟩ := o2 hf
  obtain ⟨e5, hf⟩ := o2 hf
  obtain ⟨e6, hf⟩ := o2 hf
  obtain ⟨e7, hf⟩ := o2 hf
  have e8 := o1 hf
  have EF : Ff = F := frm_eq hfF (frm_c (e1).symm (frm_c (e2).symm frm_n))
  have EG : Gf = G := frm_eq hfG (frm_c (e3).symm frm_n)
  have EI : If = I := frm_eq hfI (frm_c (e4).symm (frm_c (e5).symm (frm_c (e6).symm frm_n)))
  have EJ : Jf = J := frm_eq hfJ (frm_c (e7).symm (frm_c (e8).symm frm_n))
  exact ret_l X hS (by rw [EF, EG, EI, EJ]; exact hP) e0 dX7_share_80
set_option maxHeartbeats 4000000 in
set_option maxRecDepth 100000 in
theorem t_X7_share_b0 {p : Program} {l : Launch} {e : Env} {s : State} {m : MethodId} {args : Array Value} {below : List Frame} {meth : Method} {c : Code} {D : va_G} {a : Nat → Nat} {kc : Nat → ClassId} (X : cx 44 p s m args meth c D (tyC kc) a cX7_share 3 RX7 (some .long)) {Z : Nat → Nat → Nat → Int32} {Ff : Nat → Int32} {Gf : Nat → Int64} {If : Nat → Nat → Int32} {Jf : Nat → Nat → Int64} {r : Int64} :
    ∀ (F : Nat → Int32) (G : Nat → Int64) (I : Nat → Nat → Int32) (J : Nat → Nat → Int64) (x1 : Int32) (x2 : Int32) (H : Heap) (locs : List Loc) (ls : Array Slot), p_X7_share_b0 (F 0) (F 2) (F 5) (F 6) (F 7) (G 3) (I 2) (I 4) (I 5) (I 6) (I 9) (I 10) (I 11) (I 12) (I 13) (J 7) (J 8) x1 x2 = some (r, (Ff 6), (Ff 7), (Gf 3), (If 11), (If 12), (If 13), (Jf 7), (Jf 8)) → (∀ k, k ∉ ([6, 7] : List Nat) → Ff k = F k) → (∀ k, k ∉ ([3] : List Nat) → Gf k = G k) → (∀ k, k ∉ ([11, 12, 13] : List Nat) → If k = I k) → (∀ k, k ∉ ([7, 8] : List Nat) → Jf k = J k) → va_P D vwCl (wC a kc F G I J Z) H → va_S (ad a 44 s.heap.size) s.heap H locs → lv_has ls 3 [(0, .ref (a 34)), (1, .int x1), (2, .int x2)] → W p l e rm_X7_share s m args below meth c H locs 0 0 (MQ below (Ql D (wC a kc Ff Gf If Jf Z) r (ad a 44 s.heap.size)) args s 0 0 (ad a 44 s.heap.size)) (F0 m 0 ls []) := by
  intro F G I J x1 x2 H locs ls hf hfF hfG hfI hfJ hP hS hl
  unfold p_X7_share_b0 at hf
  refine lv_aload_n X.1 X.2.1 dX7_share_0 rfl (lv_at hl 0 rfl) ?_
  refine lv_iload_n X.1 X.2.1 dX7_share_1 rfl (lv_at hl 1 rfl) ?_
  obtain ⟨r2, ho, hf⟩ := b1_s hf
  refine call_vi (rest := []) X (c_X7_isNobody F G I J Z X.2.2.2.2.2.2.2.1 x1 ho) q_2_132 q_2_134 qs_yX7_isNobody q_1_1 q_2_135 ok_X7_isNobody rfl 34 rfl rfl ⟨Nat.le_of_ble_eq_true rfl, Nat.le_of_ble_eq_true rfl⟩ rfl rfl hl.1 rfl (Nat.le_of_ble_eq_true rfl) dX7_share_2 hP hS (fun H locs hP hS => ?_)
  refine lv_if_ne (tgt := 27) X.1 X.2.1 dX7_share_5 (by decide) (fun c5 => ?_) (fun c5 => ?_)
  · have hf := ie_s hf c5
    exact t_X7_share_b27 X F G I J  H locs ls hf hfF hfG hfI hfJ hP hS (lv_sub hl [0] rfl)
  · have hf := it_s hf c5
    refine lv_iload_n X.1 X.2.1 dX7_share_8 rfl (lv_at hl 2 rfl) ?_
    obtain ⟨r9, ho, hf⟩ := b1_s hf
    refine call_si (rest := []) X (c_X7_isNoPart x2 ho) q_2_136 q_2_137 q_1_1 q_2_138 ok_X7_isNoPart rfl ⟨Nat.le_of_ble_eq_true rfl, Nat.le_of_ble_eq_true rfl⟩ rfl rfl hl.1 rfl (Nat.le_of_ble_eq_true rfl) dX7_share_9 hP hS (fun H locs hP hS => ?_)
    refine lv_if_ne (tgt := 27) X.1 X.2.1 dX7_share_12 (by decide) (fun c12 => ?_) (fun c12 => ?_)
    · have hf := ie_s hf c12
      exact t_X7_share_b27 X F G I J  H locs ls hf hfF hfG hfI hfJ hP hS (lv_sub hl [0] rfl)
    · have hf := it_s hf c12
      refine lv_aload_n X.1 X.2.1 dX7_share_15 rfl (lv_at hl 0 rfl) ?_
      refine gC_34_0 X q_2_64 dX7_share_16 hP ?_
      refine gC_0_7 X q_1_77 dX7_share_19 hP ?_
      refine lv_iload_n X.1 X.2.1 dX7_share_22 rfl (lv_at hl 1 rfl) ?_
      obtain ⟨h23, hf⟩ := gd_s hf
      refine lC_10 (I := I) X (f := (I 6)) rfl h23 dX7_share_23 hP ?_
      refine lv_if_eq (tgt := 33) X.1 X.2.1 dX7_share_24 (by decide) (fun c24 => ?_) (fun c24 => ?_)
      · have hf := it_s hf c24
        refine lv_aload_n X.1 X.2.1 dX7_share_33 rfl (lv_at hl 0 rfl) ?_
        refine gC_34_3 X q_2_67 dX7_share_34 hP ?_
        obtain ⟨W_suspects_37, W_ready_37, W_total_37, W_allowed_37, W_kinds_37, W_answers_37, W_weights_37, W_reach_37, ho, hf⟩ := b8_s hf
        refine call_vv (rest := []) X (c_X6_refresh F G I J Z X.2.2.2.2.2.2.2.1  ho) q_3_146 q_3_147 q_3_148 q_1_6 q_3_149 ok_X6_refresh rfl 22 rfl rfl ⟨Nat.le_of_ble_eq_true rfl, Nat.le_of_ble_eq_true rfl⟩ rfl rfl hl.1 rfl (Nat.le_of_ble_eq_true rfl) dX7_share_37 hP hS (fun H locs hP hS => ?_)
        refine lv_aload_n X.1 X.2.1 dX7_share_40 rfl (lv_at hl 0 rfl) ?_
        refine gC_34_3 X q_2_67 dX7_share_41 hP ?_
        refine gC_22_3 (G := (va_up G 3 W_total_37)) X (v := W_total_37) rfl q_1_204 dX7_share_44 hP ?_
        refine lv_lconst (v := 0) X.1 X.2.1 dX7_share_47 (by decide) ?_
        refine W.lcmp X.1 X.2.1 dX7_share_48 ?_
        refine lv_if_ne (tgt := 60) X.1 X.2.1 dX7_share_49 (by decide) (fun c49 => ?_) (fun c49 => ?_)
        · have hf := ie_s hf c49
          refine lv_aload_n X.1 X.2.1 dX7_share_60 rfl (lv_at hl 0 rfl) ?_
          refine gC_34_3 X q_2_67 dX7_share_61 hP ?_
          refine gC_22_0 X q_1_198 dX7_share_64 hP ?_
          refine lv_iload_n X.1 X.2.1 dX7_share_67 rfl (lv_at hl 1 rfl) ?_
          obtain ⟨h68, hf⟩ := gd_s hf
          refine lC_23 (J := (va_up (va_up J 7 W_weights_37) 8 W_reach_37)) X (f := W_weights_37) rfl h68 dX7_share_68 hP ?_
          refine lv_aload_n X.1 X.2.1 dX7_share_69 rfl (lv_at hl 0 rfl) ?_
          refine gC_34_3 X q_2_67 dX7_share_70 hP ?_
          refine gC_22_3 (G := (va_up G 3 W_total_37)) X (v := W_total_37) rfl q_1_204 dX7_share_73 hP ?_
          refine lv_iload_n X.1 X.2.1 dX7_share_76 rfl (lv_at hl 2 rfl) ?_
          obtain ⟨r77, ho, hf⟩ := b1_s hf
          refine call_sl (rest := []) X (c_X7_part (W_weights_37 x1.toNatClampNeg) W_total_37 x2 ho) q_2_199 q_2_200 q_1_1 q_2_201 ok_X7_part rfl ⟨Nat.le_of_ble_eq_true rfl, Nat.le_of_ble_eq_true rfl⟩ rfl rfl hl.1 rfl (Nat.le_of_ble_eq_true rfl) dX7_share_77 hP hS (fun H locs hP hS => ?_)
          exact t_X7_share_b80 X (va_up (va_up F 6 W_suspects_37) 7 W_ready_37) (va_up G 3 W_total_37) (va_up (va_up (va_up I 11 W_allowed_37) 12 W_kinds_37) 13 W_answers_37) (va_up (va_up J 7 W_weights_37) 8 W_reach_37) r77 H locs ls hf (frm_up (frm_up hfF (by decide)) (by decide)) (frm_up hfG (by decide)) (frm_up (frm_up (frm_up hfI (by decide)) (by decide)) (by decide)) (frm_up (frm_up hfJ (by decide)) (by decide)) hP hS (lv_sub hl [0] rfl)
        · have hf := it_s hf c49
          refine lv_bipush (v := (-3)) X.1 X.2.1 dX7_share_52 (by decide) ?_
          obtain ⟨r54, ho, hf⟩ := b1_s hf
          refine call_sl (rest := []) X (c_X7_asLong (-3) ho) q_2_143 q_2_144 q_1_1 q_2_145 ok_X7_asLong rfl ⟨Nat.le_of_ble_eq_true rfl, Nat.le_of_ble_eq_true rfl⟩ rfl rfl hl.1 rfl (Nat.le_of_ble_eq_true rfl) dX7_share_54 hP hS (fun H locs hP hS => ?_)
          refine lv_goto (tgt := 80) X.1 X.2.1 dX7_share_57 (by decide) ?_
          exact t_X7_share_b80 X (va_up (va_up F 6 W_suspects_37) 7 W_ready_37) (va_up G 3 W_total_37) (va_up (va_up (va_up I 11 W_allowed_37) 12 W_kinds_37) 13 W_answers_37) (va_up (va_up J 7 W_weights_37) 8 W_reach_37) r54 H locs ls hf (frm_up (frm_up hfF (by decide)) (by decide)) (frm_up hfG (by decide)) (frm_up (frm_up (frm_up hfI (by decide)) (by decide)) (by decide)) (frm_up (frm_up hfJ (by decide)) (by decide)) hP hS (lv_sub hl [0] rfl)
      · have hf := ie_s hf c24
        exact t_X7_share_b27 X F G I J  H locs ls hf hfF hfG hfI hfJ hP hS (lv_sub hl [0] rfl)
set_option maxRecDepth 100000 in
theorem c_X7_share {l : Launch} {D : va_G} {a : Nat → Nat} {kc : Nat → ClassId} (F : Nat → Int32) (G : Nat → Int64) (I : Nat → Nat → Int32) (J : Nat → Nat → Int64) (Z : Nat → Nat → Nat → Int32) (hAp : ∀ i j, i < 44 → j < 44 → a i = a j → i = j) (x1 : Int32) (x2 : Int32) {o0 : Int64} {o1 : Int32} {o2 : Int32} {o3 : Int64} {o4 : Nat → Int32} {o5 : Nat → Int32} {o6 : Nat → Int32} {o7 : Nat → Int64} {o8 : Nat → Int64} (hf : p_X7_share (F 0) (F 2) (F 5) (F 6) (F 7) (G 3) (I 2) (I 4) (I 5) (I 6) (I 9) (I 10) (I 11) (I 12) (I 13) (J 7) (J 8) x1 x2 = some (o0, o1, o2, o3, o4, o5, o6, o7, o8)) : Ct 44 l yX7_share cX7_share 3 (some .long) rm_X7_share D (tyC kc) a (wC a kc F G I J Z) [.ref (a 34), .int x1, .int x2] (Ql D (wC a kc (va_up (va_up F 6 o1) 7 o2) (va_up G 3 o3) (va_up (va_up (va_up I 11 o4) 12 o5) 13 o6) (va_up (va_up J 7 o7) 8 o8) Z) o0) :=
  Ct.of (by decide +kernel) hAp (Nat.le_of_ble_eq_true rfl) (fun p e s m args below meth c ls X hP hl => t_X7_share_b0 X F G I J x1 x2 _ _ _ hf (frm_ul (frm_ul (fun k _ => rfl) (by decide)) (by decide)) (frm_ul (fun k _ => rfl) (by decide)) (frm_ul (frm_ul (frm_ul (fun k _ => rfl) (by decide)) (by decide)) (by decide)) (frm_ul (frm_ul (fun k _ => rfl) (by decide)) (by decide)) hP va_S.rf hl)
abbrev rm_X7_likeliest : Room := { frames := 5, cells := 0, slots := 0, locals := 117 }
set_option maxHeartbeats 4000000 in
set_option maxRecDepth 100000 in
theorem t_X7_likeliest_b0 {p : Program} {l : Launch} {e : Env} {s : State} {m : MethodId} {args : Array Value} {below : List Frame} {meth : Method} {c : Code} {D : va_G} {a : Nat → Nat} {kc : Nat → ClassId} (X : cx 44 p s m args meth c D (tyC kc) a cX7_likeliest 1 RX7 (some .int)) {Z : Nat → Nat → Nat → Int32} {Ff : Nat → Int32} {Gf : Nat → Int64} {If : Nat → Nat → Int32} {Jf : Nat → Nat → Int64} {r : Int32} :
    ∀ (F : Nat → Int32) (G : Nat → Int64) (I : Nat → Nat → Int32) (J : Nat → Nat → Int64)  (H : Heap) (locs : List Loc) (ls : Array Slot), p_X7_likeliest_b0 (F 0) (F 2) (F 5) (F 6) (F 7) (G 3) (I 2) (I 4) (I 5) (I 6) (I 9) (I 10) (I 11) (I 12) (I 13) (J 7) (J 8)  = some (r, (Ff 6), (Ff 7), (Gf 3), (If 11), (If 12), (If 13), (Jf 7), (Jf 8)) → (∀ k, k ∉ ([6, 7] : List Nat) → Ff k = F k) → (∀ k, k ∉ ([3] : List Nat) → Gf k = G k) → (∀ k, k ∉ ([11, 12, 13] : List Nat) → If k = I k) → (∀ k, k ∉ ([7, 8] : List Nat) → Jf k = J k) → va_P D vwCl (wC a kc F G I J Z) H → va_S (ad a 44 s.heap.size) s.heap H locs → lv_has ls 1 [(0, .ref (a 34))] → W p l e rm_X7_likeliest s m args below meth c H locs 0 0 (MQ below (Qi D (wC a kc Ff Gf If Jf Z) r (ad a 44 s.heap.size)) args s 0 0 (ad a 44 s.heap.size)) (F0 m 0 ls []) := by
  intro F G I J  H locs ls hf hfF hfG hfI hfJ hP hS hl
  unfold p_X7_likeliest_b0 at hf
  refine lv_aload_n X.1 X.2.1 dX7_likeliest_0 rfl (lv_at hl 0 rfl) ?_
  refine gC_34_3 X q_2_67 dX7_likeliest_1 hP ?_
  obtain ⟨W_suspects_4, W_ready_4, W_total_4, W_allowed_4, W_kinds_4, W_answers_4, W_weights_4, W_reach_4, ho, hf⟩ := b8_s hf
  refine call_vv (rest := []) X (c_X6_refresh F G I J Z X.2.2.2.2.2.2.2.1  ho) q_3_146 q_3_147 q_3_148 q_1_6 q_3_149 ok_X6_refresh rfl 22 rfl rfl ⟨Nat.le_of_ble_eq_true rfl, Nat.le_of_ble_eq_true rfl⟩ rfl rfl hl.1 rfl (Nat.le_of_ble_eq_true rfl) dX7_likeliest_4 hP hS (fun H locs hP hS => ?_)
  refine lv_aload_n X.1 X.2.1 dX7_likeliest_7 rfl (lv_at hl 0 rfl) ?_
  refine gC_34_3 X q_2_67 dX7_likeliest_8 hP ?_
  obtain ⟨r11, ho, hf⟩ := b1_s hf
  refine call_vi (rest := []) X (c_X6_heaviest (va_up (va_up F 6 W_suspects_4) 7 W_ready_4) (va_up G 3 W_total_4) (va_up (va_up (va_up I 11 W_allowed_4) 12 W_kinds_4) 13 W_answers_4) (va_up (va_up J 7 W_weights_4) 8 W_reach_4) Z X.2.2.2.2.2.2.2.1  ho) q_3_198 q_3_199 q_3_200 q_1_6 q_3_201 ok_X6_heaviest rfl 22 rfl rfl ⟨Nat.le_of_ble_eq_true rfl, Nat.le_of_ble_eq_true rfl⟩ rfl rfl hl.1 rfl (Nat.le_of_ble_eq_true rfl) dX7_likeliest_11 hP hS (fun H locs hP hS => ?_)
  obtain ⟨e0, hf⟩ := o2 hf
  obtain ⟨e1, hf⟩ := o2 hf
  obtain ⟨e2, hf⟩ := o2 hf
  obtain ⟨e3, hf⟩ := o2 hf
  obtain ⟨e4, hf⟩ := o2 hf
  obtain ⟨e5, hf⟩ := o2 hf
  obtain ⟨e6, hf⟩ := o2 hf
  obtain ⟨e7, hf⟩ := o2 hf
  have e8 := o1 hf
  have EF : Ff = (va_up (va_up F 6 W_suspects_4) 7 W_ready_4) := frm_eq (frm_up (frm_up hfF (by decide)) (by decide)) (frm_c (e1).symm (frm_c (e2).symm frm_n))
  have EG : Gf = (va_up G 3 W_total_4) := frm_eq (frm_up hfG (by decide)) (frm_c (e3).symm frm_n)
  have EI : If = (va_up (va_up (va_up I 11 W_allowed_4) 12 W_kinds_4) 13 W_answers_4) := frm_eq (frm_up (frm_up (frm_up hfI (by decide)) (by decide)) (by decide)) (frm_c (e4).symm (frm_c (e5).symm (frm_c (e6).symm frm_n)))
  have EJ : Jf = (va_up (va_up J 7 W_weights_4) 8 W_reach_4) := frm_eq (frm_up (frm_up hfJ (by decide)) (by decide)) (frm_c (e7).symm (frm_c (e8).symm frm_n))
  exact ret_i X hS (by rw [EF, EG, EI, EJ]; exact hP) e0 dX7_likeliest_14
set_option maxRecDepth 100000 in
theorem c_X7_likeliest {l : Launch} {D : va_G} {a : Nat → Nat} {kc : Nat → ClassId} (F : Nat → Int32) (G : Nat → Int64) (I : Nat → Nat → Int32) (J : Nat → Nat → Int64) (Z : Nat → Nat → Nat → Int32) (hAp : ∀ i j, i < 44 → j < 44 → a i = a j → i = j)  {o0 : Int32} {o1 : Int32} {o2 : Int32} {o3 : Int64} {o4 : Nat → Int32} {o5 : Nat → Int32} {o6 : Nat → Int32} {o7 : Nat → Int64} {o8 : Nat → Int64} (hf : p_X7_likeliest (F 0) (F 2) (F 5) (F 6) (F 7) (G 3) (I 2) (I 4) (I 5) (I 6) (I 9) (I 10) (I 11) (I 12) (I 13) (J 7) (J 8)  = some (o0, o1, o2, o3, o4, o5, o6, o7, o8)) : Ct 44 l yX7_likeliest cX7_likeliest 1 (some .int) rm_X7_likeliest D (tyC kc) a (wC a kc F G I J Z) [.ref (a 34)] (Qi D (wC a kc (va_up (va_up F 6 o1) 7 o2) (va_up G 3 o3) (va_up (va_up (va_up I 11 o4) 12 o5) 13 o6) (va_up (va_up J 7 o7) 8 o8) Z) o0) :=
  Ct.of (by decide +kernel) hAp (Nat.le_of_ble_eq_true rfl) (fun p e s m args below meth c ls X hP hl => t_X7_likeliest_b0 X F G I J  _ _ _ hf (frm_ul (frm_ul (fun k _ => rfl) (by decide)) (by decide)) (frm_ul (fun k _ => rfl) (by decide)) (frm_ul (frm_ul (frm_ul (fun k _ => rfl) (by decide)) (by decide)) (by decide)) (frm_ul (frm_ul (fun k _ => rfl) (by decide)) (by decide)) hP va_S.rf hl)
abbrev rm_X7_ask : Room := { frames := 5, cells := 0, slots := 0, locals := 117 }
set_option maxHeartbeats 4000000 in
set_option maxRecDepth 100000 in
theorem t_X7_ask_b49 {p : Program} {l : Launch} {e : Env} {s : State} {m : MethodId} {args : Array Value} {below : List Frame} {meth : Method} {c : Code} {D : va_G} {a : Nat → Nat} {kc : Nat → ClassId} (X : cx 44 p s m args meth c D (tyC kc) a cX7_ask 3 RX7 (some .int)) {Z : Nat → Nat → Nat → Int32} {Ff : Nat → Int32} {Gf : Nat → Int64} {If : Nat → Nat → Int32} {Jf : Nat → Nat → Int64} {r : Int32} :
    ∀ (F : Nat → Int32) (G : Nat → Int64) (I : Nat → Nat → Int32) (J : Nat → Nat → Int64) (t0 : Int32) (H : Heap) (locs : List Loc) (ls : Array Slot), p_X7_ask_b49 (F 0) (F 2) (F 5) (F 6) (F 7) (G 3) (I 2) (I 4) (I 5) (I 6) (I 9) (I 10) (I 11) (I 12) (I 13) (J 7) (J 8) t0 = some (r, (Ff 6), (Ff 7), (Gf 3), (If 11), (If 12), (If 13), (Jf 7), (Jf 8)) → (∀ k, k ∉ ([6, 7] : List Nat) → Ff k = F k) → (∀ k, k ∉ ([3] : List Nat) → Gf k = G k) → (∀ k, k ∉ ([11, 12, 13] : List Nat) → If k = I k) → (∀ k, k ∉ ([7, 8] : List Nat) → Jf k = J k) → va_P D vwCl (wC a kc F G I J Z) H → va_S (ad a 44 s.heap.size) s.heap H locs → lv_has ls 3 [(0, .ref (a 34))] → W p l e rm_X7_ask s m args below meth c H locs 0 0 (MQ below (Qi D (wC a kc Ff Gf If Jf Z) r (ad a 44 s.heap.size)) args s 0 0 (ad a 44 s.heap.size)) (F0 m 49 ls [.int t0]) := by
  intro F G I J t0 H locs ls hf hfF hfG hfI hfJ hP hS hl
  unfold p_X7_ask_b49 at hf
  obtain ⟨e0, hf⟩ := o2 hf
  obtain ⟨e1, hf⟩ := o2 hf
  obtain ⟨e2, hf⟩ := o2 hf
  obtain ⟨e3, hf⟩ := o2 hf
  obtain ⟨e4, hf⟩ := o2 hf
  obtain ⟨e5, hf⟩ := o2 hf
  obtain ⟨e6, hf⟩ := o2 hf
  obtain ⟨e7, hf⟩ := o2 hf
  have e8 := o1 hf
  have EF : Ff = F := frm_eq hfF (frm_c (e1).symm (frm_c (e2).symm frm_n))
  have EG : Gf = G := frm_eq hfG (frm_c (e3).symm frm_n)
  have EI : If = I := frm_eq hfI (frm_c (e4).symm (frm_c (e5).symm (frm_c (e6).symm frm_n)))
  have EJ : Jf = J := frm_eq hfJ (frm_c (e7).symm (frm_c (e8).symm frm_n))
  exact ret_i X hS (by rw [EF, EG, EI, EJ]; exact hP) e0 dX7_ask_49
set_option maxHeartbeats 4000000 in
set_option maxRecDepth 100000 in
theorem t_X7_ask_b0 {p : Program} {l : Launch} {e : Env} {s : State} {m : MethodId} {args : Array Value} {below : List Frame} {meth : Method} {c : Code} {D : va_G} {a : Nat → Nat} {kc : Nat → ClassId} (X : cx 44 p s m args meth c D (tyC kc) a cX7_ask 3 RX7 (some .int)) {Z : Nat → Nat → Nat → Int32} {Ff : Nat → Int32} {Gf : Nat → Int64} {If : Nat → Nat → Int32} {Jf : Nat → Nat → Int64} {r : Int32} :
    ∀ (F : Nat → Int32) (G : Nat → Int64) (I : Nat → Nat → Int32) (J : Nat → Nat → Int64) (x1 : Int32) (H : Heap) (locs : List Loc) (ls : Array Slot), p_X7_ask_b0 (F 0) (F 2) (F 5) (F 6) (F 7) (G 3) (I 2) (I 4) (I 5) (I 6) (I 9) (I 10) (I 11) (I 12) (I 13) (J 7) (J 8) x1 = some (r, (Ff 6), (Ff 7), (Gf 3), (If 11), (If 12), (If 13), (Jf 7), (Jf 8)) → (∀ k, k ∉ ([6, 7] : List Nat) → Ff k = F k) → (∀ k, k ∉ ([3] : List Nat) → Gf k = G k) → (∀ k, k ∉ ([11, 12, 13] : List Nat) → If k = I k) → (∀ k, k ∉ ([7, 8] : List Nat) → Jf k = J k) → va_P D vwCl (wC a kc F G I J Z) H → va_S (ad a 44 s.heap.size) s.heap H locs → lv_has ls 3 [(0, .ref (a 34)), (1, .int x1)] → W p l e rm_X7_ask s m args below meth c H locs 0 0 (MQ below (Qi D (wC a kc Ff Gf If Jf Z) r (ad a 44 s.heap.size)) args s 0 0 (ad a 44 s.heap.size)) (F0 m 0 ls []) := by
  intro F G I J x1 H locs ls hf hfF hfG hfI hfJ hP hS hl
  unfold p_X7_ask_b0 at hf
  refine lv_iload_n X.1 X.2.1 dX7_ask_0 rfl (lv_at hl 1 rfl) ?_
  obtain ⟨r1, ho, hf⟩ := b1_s hf
  refine call_si (rest := []) X (c_X7_isNoPart x1 ho) q_2_136 q_2_137 q_1_1 q_2_138 ok_X7_isNoPart rfl ⟨Nat.le_of_ble_eq_true rfl, Nat.le_of_ble_eq_true rfl⟩ rfl rfl hl.1 rfl (Nat.le_of_ble_eq_true rfl) dX7_ask_1 hP hS (fun H locs hP hS => ?_)
  refine lv_if_eq (tgt := 10) X.1 X.2.1 dX7_ask_4 (by decide) (fun c4 => ?_) (fun c4 => ?_)
  · have hf := it_s hf c4
    refine lv_aload_n X.1 X.2.1 dX7_ask_10 rfl (lv_at hl 0 rfl) ?_
    refine gC_34_3 X q_2_67 dX7_ask_11 hP ?_
    obtain ⟨W_suspects_14, W_ready_14, W_total_14, W_allowed_14, W_kinds_14, W_answers_14, W_weights_14, W_reach_14, ho, hf⟩ := b8_s hf
    refine call_vv (rest := []) X (c_X6_refresh F G I J Z X.2.2.2.2.2.2.2.1  ho) q_3_146 q_3_147 q_3_148 q_1_6 q_3_149 ok_X6_refresh rfl 22 rfl rfl ⟨Nat.le_of_ble_eq_true rfl, Nat.le_of_ble_eq_true rfl⟩ rfl rfl hl.1 rfl (Nat.le_of_ble_eq_true rfl) dX7_ask_14 hP hS (fun H locs hP hS => ?_)
    refine lv_aload_n X.1 X.2.1 dX7_ask_17 rfl (lv_at hl 0 rfl) ?_
    refine gC_34_3 X q_2_67 dX7_ask_18 hP ?_
    obtain ⟨r21, ho, hf⟩ := b1_s hf
    refine call_vi (rest := []) X (c_X6_whomToAsk (va_up (va_up F 6 W_suspects_14) 7 W_ready_14) (va_up G 3 W_total_14) (va_up (va_up (va_up I 11 W_allowed_14) 12 W_kinds_14) 13 W_answers_14) (va_up (va_up J 7 W_weights_14) 8 W_reach_14) Z X.2.2.2.2.2.2.2.1  ho) q_3_206 q_3_207 q_3_208 q_1_6 q_3_209 ok_X6_whomToAsk rfl 22 rfl rfl ⟨Nat.le_of_ble_eq_true rfl, Nat.le_of_ble_eq_true rfl⟩ rfl rfl hl.1 rfl (Nat.le_of_ble_eq_true rfl) dX7_ask_21 hP hS (fun H locs hP hS => ?_)
    refine lv_istore_n (lv' := [(2, .int r21), (0, .ref (a 34)), (1, .int x1)]) X.1 X.2.1 dX7_ask_24 rfl hl (by decide) rfl (fun ls hl => ?_)
    refine lv_iload_n X.1 X.2.1 dX7_ask_25 rfl (lv_at hl 0 rfl) ?_
    refine lv_iconst (v := (-1)) X.1 X.2.1 dX7_ask_26 (by decide) ?_
    refine lv_icmp_ne (tgt := 33) X.1 X.2.1 dX7_ask_27 (by decide) (fun c27 => ?_) (fun c27 => ?_)
    · have hf := ie_s hf c27
      refine lv_iload_n X.1 X.2.1 dX7_ask_33 rfl (lv_at hl 2 rfl) ?_
      refine lv_if_ne (tgt := 41) X.1 X.2.1 dX7_ask_34 (by decide) (fun c34 => ?_) (fun c34 => ?_)
      · have hf := ie_s hf c34
        refine lv_aload_n X.1 X.2.1 dX7_ask_41 rfl (lv_at hl 1 rfl) ?_
        refine gC_34_3 X q_2_67 dX7_ask_42 hP ?_
        refine lv_iload_n X.1 X.2.1 dX7_ask_45 rfl (lv_at hl 0 rfl) ?_
        obtain ⟨r46, ho, hf⟩ := b1_s hf
        refine call_vi (rest := []) X (c_X6_worstCase (va_up (va_up F 6 W_suspects_14) 7 W_ready_14) (va_up G 3 W_total_14) (va_up (va_up (va_up I 11 W_allowed_14) 12 W_kinds_14) 13 W_answers_14) (va_up (va_up J 7 W_weights_14) 8 W_reach_14) Z X.2.2.2.2.2.2.2.1 r21 ho) q_3_219 q_3_211 q_3_212 q_1_6 q_3_213 ok_X6_worstCase rfl 22 rfl rfl ⟨Nat.le_of_ble_eq_true rfl, Nat.le_of_ble_eq_true rfl⟩ rfl rfl hl.1 rfl (Nat.le_of_ble_eq_true rfl) dX7_ask_46 hP hS (fun H locs hP hS => ?_)
        exact t_X7_ask_b49 X (va_up (va_up F 6 W_suspects_14) 7 W_ready_14) (va_up G 3 W_total_14) (va_up (va_up (va_up I 11 W_allowed_14) 12 W_kinds_14) 13 W_answers_14) (va_up (va_up J 7 W_weights_14) 8 W_reach_14) r46 H locs ls hf (frm_up (frm_up hfF (by decide)) (by decide)) (frm_up hfG (by decide)) (frm_up (frm_up (frm_up hfI (by decide)) (by decide)) (by decide)) (frm_up (frm_up hfJ (by decide)) (by decide)) hP hS (lv_sub hl [1] rfl)
      · have hf := it_s hf c34
        refine lv_iload_n X.1 X.2.1 dX7_ask_37 rfl (lv_at hl 0 rfl) ?_
        refine lv_goto (tgt := 49) X.1 X.2.1 dX7_ask_38 (by decide) ?_
        exact t_X7_ask_b49 X (va_up (va_up F 6 W_suspects_14) 7 W_ready_14) (va_up G 3 W_total_14) (va_up (va_up (va_up I 11 W_allowed_14) 12 W_kinds_14) 13 W_answers_14) (va_up (va_up J 7 W_weights_14) 8 W_reach_14) r21 H locs ls hf (frm_up (frm_up hfF (by decide)) (by decide)) (frm_up hfG (by decide)) (frm_up (frm_up (frm_up hfI (by decide)) (by decide)) (by decide)) (frm_up (frm_up hfJ (by decide)) (by decide)) hP hS (lv_sub hl [1] rfl)
    · have hf := it_s hf c27
      refine lv_bipush (v := (-3)) X.1 X.2.1 dX7_ask_30 (by decide) ?_
      obtain ⟨e0, hf⟩ := o2 hf
      obtain ⟨e1, hf⟩ := o2 hf
      obtain ⟨e2, hf⟩ := o2 hf
      obtain ⟨e3, hf⟩ := o2 hf
      obtain ⟨e4, hf⟩ := o2 hf
      obtain ⟨e5, hf⟩ := o2 hf
      obtain ⟨e6, hf⟩ := o2 hf
      obtain ⟨e7, hf⟩ := o2 hf
      have e8 := o1 hf
      have EF : Ff = (va_up (va_up F 6 W_suspects_14) 7 W_ready_14) := frm_eq (frm_up (frm_up hfF (by decide)) (by decide)) (frm_c (e1).symm (frm_c (e2).symm frm_n))
      have EG : Gf = (va_up G 3 W_total_14) := frm_eq (frm_up hfG (by decide)) (frm_c (e3).symm frm_n)
      have EI : If = (va_up (va_up (va_up I 11 W_allowed_14) 12 W_kinds_14) 13 W_answers_14) := frm_eq (frm_up (frm_up (frm_up hfI (by decide)) (by decide)) (by decide)) (frm_c (e4).symm (frm_c (e5).symm (frm_c (e6).symm frm_n)))
      have EJ : Jf = (va_up (va_up J 7 W_weights_14) 8 W_reach_14) := frm_eq (frm_up (frm_up hfJ (by decide)) (by decide)) (frm_c (e7).symm (frm_c (e8).symm frm_n))
      exact ret_i X hS (by rw [EF, EG, EI, EJ]; exact hP) e0 dX7_ask_32
  · have hf := ie_s hf c4
    refine lv_bipush (v := (-2)) X.1 X.2.1 dX7_ask_7 (by decide) ?_
    obtain ⟨e0, hf⟩ := o2 hf
    obtain ⟨e1, hf⟩ := o2 hf
    obtain ⟨e2, hf⟩ := o2 hf
    obtain ⟨e3, hf⟩ := o2 hf
    obtain ⟨e4, hf⟩ := o2 hf
    obtain ⟨e5, hf⟩ := o2 hf
    obtain ⟨e6, hf⟩ := o2 hf
    obtain ⟨e7, hf⟩ := o2 hf
    have e8 := o1 hf
    have EF : Ff = F := frm_eq hfF (frm_c (e1).symm (frm_c (e2).symm frm_n))
    have EG : Gf = G := frm_eq hfG (frm_c (e3).symm frm_n)
    have EI : If = I := frm_eq hfI (frm_c (e4).symm (frm_c (e5).symm (frm_c (e6).symm frm_n)))
    have EJ : Jf = J := frm_eq hfJ (frm_c (e7).symm (frm_c (e8).symm frm_n))
    exact ret_i X hS (by rw [EF, EG, EI, EJ]; exact hP) e0 dX7_ask_9
set_option maxRecDepth 100000 in
theorem c_X7_ask {l : Launch} {D : va_G} {a : Nat → Nat} {kc : Nat → ClassId} (F : Nat → Int32) (G : Nat → Int64) (I : Nat → Nat → Int32) (J : Nat → Nat → Int64) (Z : Nat → Nat → Nat → Int32) (hAp : ∀ i j, i < 44 → j < 44 → a i = a j → i = j) (x1 : Int32) {o0 : Int32} {o1 : Int32} {o2 : Int32} {o3 : Int64} {o4 : Nat → Int32} {o5 : Nat → Int32} {o6 : Nat → Int32} {o7 : Nat → Int64} {o8 : Nat → Int64} (hf : p_X7_ask (F 0) (F 2) (F 5) (F 6) (F 7) (G 3) (I 2) (I 4) (I 5) (I 6) (I 9) (I 10) (I 11) (I 12) (I 13) (J 7) (J 8) x1 = some (o0, o1, o2, o3, o4, o5, o6, o7, o8)) : Ct 44 l yX7_ask cX7_ask 3 (some .int) rm_X7_ask D (tyC kc) a (wC a kc F G I J Z) [.ref (a 34), .int x1] (Qi D (wC a kc (va_up (va_up F 6 o1) 7 o2) (va_up G 3 o3) (va_up (va_up (va_up I 11 o4) 12 o5) 13 o6) (va_up (va_up J 7 o7) 8 o8) Z) o0) :=
  Ct.of (by decide +kernel) hAp (Nat.le_of_ble_eq_true rfl) (fun p e s m args below meth c ls X hP hl => t_X7_ask_b0 X F G I J x1 _ _ _ hf (frm_ul (frm_ul (fun k _ => rfl) (by decide)) (by decide)) (frm_ul (fun k _ => rfl) (by decide)) (frm_ul (frm_ul (frm_ul (fun k _ => rfl) (by decide)) (by decide)) (by decide)) (frm_ul (frm_ul (fun k _ => rfl) (by decide)) (by decide)) hP va_S.rf hl)
abbrev rm_X7_turned : Room := { frames := 2, cells := 0, slots := 0, locals := 56 }
set_option maxHeartbeats 4000000 in
set_option maxRecDepth 100000 in
theorem t_X7_turned_b27 {p : Program} {l : Launch} {e : Env} {s : State} {m : MethodId} {args : Array Value} {below : List Frame} {meth : Method} {c : Code} {D : va_G} {a : Nat → Nat} {kc : Nat → ClassId} (X : cx 44 p s m args meth c D (tyC kc) a cX7_turned 7 RX7 (some .long)) {F : Nat → Int32} {G : Nat → Int64} {I : Nat → Nat → Int32} {J : Nat → Nat → Int64} {Z : Nat → Nat → Nat → Int32}  {r : Int64} :
    ∀   (H : Heap) (locs : List Loc) (ls : Array Slot), p_X7_turned_b27   = some r → va_P D vwCl (wC a kc F G I J Z) H → va_S (ad a 44 s.heap.size) s.heap H locs → lv_has ls 7 [(0, .ref (a 34))] → W p l e rm_X7_turned s m args below meth c H locs 0 0 (MQ below (Ql D (wC a kc F G I J Z) r (ad a 44 s.heap.size)) args s 0 0 (ad a 44 s.heap.size)) (F0 m 27 ls []) := by
  intro   H locs ls hf  hP hS hl
  unfold p_X7_turned_b27 at hf
  refine lv_bipush (v := (-2)) X.1 X.2.1 dX7_turned_27 (by decide) ?_
  obtain ⟨r29, ho, hf⟩ := b1_s hf
  refine call_sl (rest := []) X (c_X7_asLong (-2) ho) q_2_143 q_2_144 q_1_1 q_2_145 ok_X7_asLong rfl ⟨Nat.le_of_ble_eq_true rfl, Nat.le_of_ble_eq_true rfl⟩ rfl rfl hl.1 rfl (Nat.le_of_ble_eq_true rfl) dX7_turned_29 hP hS (fun H locs hP hS => ?_)
  have e0 := o1 hf
  exact ret_l X hS hP e0 dX7_turned_32
set_option maxHeartbeats 4000000 in
set_option maxRecDepth 100000 in
theorem t_X7_turned_b41x {p : Program} {l : Launch} {e : Env} {s : State} {m : MethodId} {args : Array Value} {below : List Frame} {meth : Method} {c : Code} {D : va_G} {a : Nat → Nat} {kc : Nat → ClassId} (X : cx 44 p s m args meth c D (tyC kc) a cX7_turned 7 RX7 (some .long)) {F : Nat → Int32} {G : Nat → Int64} {I : Nat → Nat → Int32} {J : Nat → Nat → Int64} {Z : Nat → Nat → Nat → Int32}  {r : Int64} {K41 : Int32 → Int32 → Int32 → Int64 → Int32 → Option (Int64)} (kh41 : ∀  (x1 : Int32) (x2 : Int32) (x3 : Int32) (x4 : Int64) (x6 : Int32) (H : Heap) (locs : List Loc) (ls : Array Slot), K41  x1 x2 x3 x4 x6 = some r → va_P D vwCl (wC a kc F G I J Z) H → va_S (ad a 44 s.heap.size) s.heap H locs → lv_has ls 7 [(0, .ref (a 34)), (1, .int x1), (2, .int x2), (3, .int x3), (4, .long x4), (6, .int x6)] → W p l e rm_X7_turned s m args below meth c H locs 0 0 (MQ below (Ql D (wC a kc F G I J Z) r (ad a 44 s.heap.size)) args s 0 0 (ad a 44 s.heap.size)) (F0 m 41 ls [])) :
    ∀  (x1 : Int32) (x2 : Int32) (x3 : Int32) (x4 : Int64) (x6 : Int32) (H : Heap) (locs : List Loc) (ls : Array Slot), p_X7_turned_b41x K41  x1 x2 x3 x4 x6 = some r → va_P D vwCl (wC a kc F G I J Z) H → va_S (ad a 44 s.heap.size) s.heap H locs → lv_has ls 7 [(0, .ref (a 34)), (1, .int x1), (2, .int x2), (3, .int x3), (4, .long x4), (6, .int x6)] → W p l e rm_X7_turned s m args below meth c H locs 0 0 (MQ below (Ql D (wC a kc F G I J Z) r (ad a 44 s.heap.size)) args s 0 0 (ad a 44 s.heap.size)) (F0 m 41 ls []) := by
  intro  x1 x2 x3 x4 x6 H locs ls hf  hP hS hl
  unfold p_X7_turned_b41x at hf
  refine lv_iload X.1 X.2.1 dX7_turned_41 (lv_at hl 5 rfl) ?_
  refine lv_iload_n X.1 X.2.1 dX7_turned_43 rfl (lv_at hl 1 rfl) ?_
  refine lv_icmp_gt (tgt := 68) X.1 X.2.1 dX7_turned_44 (by decide) (fun c44 => ?_) (fun c44 => ?_)
  · have hf := it_s hf c44
    refine lv_lload X.1 X.2.1 dX7_turned_68 (lv_at hl 4 rfl) ?_
    refine lv_ldc2 (v := 2520) X.1 X.2.1 X.2.2.2.2.1 (X.2.2.2.2.2.1 _ q_3_224) dX7_turned_70 ?_
    refine lv_iload_n X.1 X.2.1 dX7_turned_73 rfl (lv_at hl 3 rfl) ?_
    obtain ⟨r74, ho, hf⟩ := b1_s hf
    refine call_sl (rest := []) X (c_X7_part x4 2520 x3 ho) q_2_199 q_2_200 q_1_1 q_2_201 ok_X7_part rfl ⟨Nat.le_of_ble_eq_true rfl, Nat.le_of_ble_eq_true rfl⟩ rfl rfl hl.1 rfl (Nat.le_of_ble_eq_true rfl) dX7_turned_74 hP hS (fun H locs hP hS => ?_)
    have e0 := o1 hf
    exact ret_l X hS hP e0 dX7_turned_77
  · have hf := ie_s hf c44
    refine lv_lload X.1 X.2.1 dX7_turned_47 (lv_at hl 4 rfl) ?_
    refine lv_iload_n X.1 X.2.1 dX7_turned_49 rfl (lv_at hl 2 rfl) ?_
    refine lv_i2l X.1 X.2.1 dX7_turned_50 rfl ?_
    refine lv_ldc2 (v := 2520) X.1 X.2.1 X.2.2.2.2.1 (X.2.2.2.2.2.1 _ q_3_224) dX7_turned_51 ?_
    refine lv_lmul X.1 X.2.1 dX7_turned_54 ?_
    refine lv_iload X.1 X.2.1 dX7_turned_55 (lv_at hl 5 rfl) ?_
    refine lv_i2l X.1 X.2.1 dX7_turned_57 rfl ?_
    obtain ⟨h58, hf⟩ := gd_s hf
    refine lv_ldiv X.1 X.2.1 dX7_turned_58 (of_decide_eq_true h58) ?_
    refine lv_ladd X.1 X.2.1 dX7_turned_59 ?_
    refine nm_l hf (fun x60 hf => ?_)
    refine lv_lstore (lv' := [(4, .long x60), (0, .ref (a 34)), (1, .int x1), (2, .int x2), (3, .int x3), (6, .int x6)]) X.1 X.2.1 dX7_turned_60 hl (by decide) rfl (fun ls hl => ?_)
    obtain ⟨x62, ex62, hf⟩ := nm_x hf
    refine lv_iinc (v := x62) (lv' := [(6, .int x62), (4, .long x60), (0, .ref (a 34)), (1, .int x1), (2, .int x2), (3, .int x3)]) X.1 X.2.1 dX7_turned_62 hl (k := 5) rfl ex62 (by decide) rfl (fun ls hl => ?_)
    refine lv_goto (tgt := 41) X.1 X.2.1 dX7_turned_65 (by decide) ?_
    exact kh41  x1 x2 x3 x60 x62 H locs ls hf  hP hS (lv_sub hl [2, 3, 4, 5, 1, 0] rfl)
set_option maxRecDepth 100000 in
theorem t_X7_turned_b41 {p : Program} {l : Launch} {e : Env} {s : State} {m : MethodId} {args : Array Value} {below : List Frame} {meth : Method} {c : Code} {D : va_G} {a : Nat → Nat} {kc : Nat → ClassId} (X : cx 44 p s m args meth c D (tyC kc) a cX7_turned 7 RX7 (some .long)) {F : Nat → Int32} {G : Nat → Int64} {I : Nat → Nat → Int32} {J : Nat → Nat → Int64} {Z : Nat → Nat → Nat → Int32}  {r : Int64} :
    ∀ (n : Nat)  (x1 : Int32) (x2 : Int32) (x3 : Int32) (x4 : Int64) (x6 : Int32) (H : Heap) (locs : List Loc) (ls : Array Slot), p_X7_turned_b41 n  x1 x2 x3 x4 x6 = some r → va_P D vwCl (wC a kc F G I J Z) H → va_S (ad a 44 s.heap.size) s.heap H locs → lv_has ls 7 [(0, .ref (a 34)), (1, .int x1), (2, .int x2), (3, .int x3), (4, .long x4), (6, .int x6)] → W p l e rm_X7_turned s m args below meth c H locs 0 0 (MQ below (Ql D (wC a kc F G I J Z) r (ad a 44 s.heap.size)) args s 0 0 (ad a 44 s.heap.size)) (F0 m 41 ls []) := by
  intro n
  induction n with
  | zero => intro  x1 x2 x3 x4 x6 H locs ls hf  hP hS hl; exact (nos hf).elim
  | succ n ih => exact t_X7_turned_b41x X ih
set_option maxHeartbeats 4000000 in
set_option maxRecDepth 100000 in
theorem t_X7_turned_b0 {p : Program} {l : Launch} {e : Env} {s : State} {m : MethodId} {args : Array Value} {below : List Frame} {meth : Method} {c : Code} {D : va_G} {a : Nat → Nat} {kc : Nat → ClassId} (X : cx 44 p s m args meth c D (tyC kc) a cX7_turned 7 RX7 (some .long)) {F : Nat → Int32} {G : Nat → Int64} {I : Nat → Nat → Int32} {J : Nat → Nat → Int64} {Z : Nat → Nat → Nat → Int32}  {r : Int64} :
    ∀  (x1 : Int32) (x2 : Int32) (x3 : Int32) (H : Heap) (locs : List Loc) (ls : Array Slot), p_X7_turned_b0  x1 x2 x3 = some r → va_P D vwCl (wC a kc F G I J Z) H → va_S (ad a 44 s.heap.size) s.heap H locs → lv_has ls 7 [(0, .ref (a 34)), (1, .int x1), (2, .int x2), (3, .int x3)] → W p l e rm_X7_turned s m args below meth c H locs 0 0 (MQ below (Ql D (wC a kc F G I J Z) r (ad a 44 s.heap.size)) args s 0 0 (ad a 44 s.heap.size)) (F0 m 0 ls []) := by
  intro  x1 x2 x3 H locs ls hf  hP hS hl
  unfold p_X7_turned_b0 at hf
  refine lv_iload_n X.1 X.2.1 dX7_turned_0 rfl (lv_at hl 1 rfl) ?_
  refine lv_iconst (v := 1) X.1 X.2.1 dX7_turned_1 (by decide) ?_
  refine lv_icmp_lt (tgt := 27) X.1 X.2.1 dX7_turned_2 (by decide) (fun c2 => ?_) (fun c2 => ?_)
  · have hf := it_s hf c2
    exact t_X7_turned_b27 X   H locs ls hf  hP hS (lv_sub hl [0] rfl)
  · have hf := ie_s hf c2
    refine lv_iload_n X.1 X.2.1 dX7_turned_5 rfl (lv_at hl 1 rfl) ?_
    refine lv_bipush (v := 9) X.1 X.2.1 dX7_turned_6 (by decide) ?_
    refine lv_icmp_gt (tgt := 27) X.1 X.2.1 dX7_turned_8 (by decide) (fun c8 => ?_) (fun c8 => ?_)
    · have hf := it_s hf c8
      exact t_X7_turned_b27 X   H locs ls hf  hP hS (lv_sub hl [0] rfl)
    · have hf := ie_s hf c8
      refine lv_iload_n X.1 X.2.1 dX7_turned_11 rfl (lv_at hl 2 rfl) ?_
      refine lv_if_lt (tgt := 27) X.1 X.2.1 dX7_turned_12 (by decide) (fun c12 => ?_) (fun c12 => ?_)
      · have hf := it_s hf c12
        exact t_X7_turned_b27 X   H locs ls hf  hP hS (lv_sub hl [0] rfl)
      · have hf := ie_s hf c12
        refine lv_iload_n X.1 X.2.1 dX7_turned_15 rfl (lv_at hl 2 rfl) ?_
        refine lv_iload_n X.1 X.2.1 dX7_turned_16 rfl (lv_at hl 1 rfl) ?_
        refine lv_icmp_gt (tgt := 27) X.1 X.2.1 dX7_turned_17 (by decide) (fun c17 => ?_) (fun c17 => ?_)
        · have hf := it_s hf c17
          exact t_X7_turned_b27 X   H locs ls hf  hP hS (lv_sub hl [0] rfl)
        · have hf := ie_s hf c17
          refine lv_iload_n X.1 X.2.1 dX7_turned_20 rfl (lv_at hl 3 rfl) ?_
          obtain ⟨r21, ho, hf⟩ := b1_s hf
          refine call_si (rest := []) X (c_X7_isNoPart x3 ho) q_2_136 q_2_137 q_1_1 q_2_138 ok_X7_isNoPart rfl ⟨Nat.le_of_ble_eq_true rfl, Nat.le_of_ble_eq_true rfl⟩ rfl rfl hl.1 rfl (Nat.le_of_ble_eq_true rfl) dX7_turned_21 hP hS (fun H locs hP hS => ?_)
          refine lv_if_eq (tgt := 33) X.1 X.2.1 dX7_turned_24 (by decide) (fun c24 => ?_) (fun c24 => ?_)
          · have hf := it_s hf c24
            refine lv_lconst (v := 0) X.1 X.2.1 dX7_turned_33 (by decide) ?_
            refine lv_lstore (lv' := [(4, .long 0), (0, .ref (a 34)), (1, .int x1), (2, .int x2), (3, .int x3)]) X.1 X.2.1 dX7_turned_34 hl (by decide) rfl (fun ls hl => ?_)
            refine lv_iload_n X.1 X.2.1 dX7_turned_36 rfl (lv_at hl 3 rfl) ?_
            refine lv_iconst (v := 1) X.1 X.2.1 dX7_turned_37 (by decide) ?_
            refine lv_iadd X.1 X.2.1 dX7_turned_38 ?_
            refine nm_i hf (fun x39 hf => ?_)
            refine lv_istore (lv' := [(6, .int x39), (4, .long 0), (0, .ref (a 34)), (1, .int x1), (2, .int x2), (3, .int x3)]) X.1 X.2.1 dX7_turned_39 hl (by decide) rfl (fun ls hl => ?_)
            exact t_X7_turned_b41 X 4096  x1 x2 x3 0 x39 H locs ls hf  hP hS (lv_sub hl [2, 3, 4, 5, 1, 0] rfl)
          · have hf := ie_s hf c24
            exact t_X7_turned_b27 X   H locs ls hf  hP hS (lv_sub hl [0] rfl)
set_option maxRecDepth 100000 in
theorem c_X7_turned {l : Launch} {D : va_G} {a : Nat → Nat} {kc : Nat → ClassId} (F : Nat → Int32) (G : Nat → Int64) (I : Nat → Nat → Int32) (J : Nat → Nat → Int64) (Z : Nat → Nat → Nat → Int32) (hAp : ∀ i j, i < 44 → j < 44 → a i = a j → i = j) (x1 : Int32) (x2 : Int32) (x3 : Int32) {o0 : Int64} (hf : p_X7_turned  x1 x2 x3 = some o0) : Ct 44 l yX7_turned cX7_turned 7 (some .long) rm_X7_turned D (tyC kc) a (wC a kc F G I J Z) [.ref (a 34), .int x1, .int x2, .int x3] (Ql D (wC a kc F G I J Z) o0) :=
  Ct.of (by decide +kernel) hAp (Nat.le_of_ble_eq_true rfl) (fun p e s m args below meth c ls X hP hl => t_X7_turned_b0 X  x1 x2 x3 _ _ _ hf  hP va_S.rf hl)
abbrev rm_X7_evening : Room := { frames := 4, cells := 0, slots := 0, locals := 98 }
set_option maxHeartbeats 4000000 in
set_option maxRecDepth 100000 in
theorem t_X7_evening_b48 {p : Program} {l : Launch} {e : Env} {s : State} {m : MethodId} {args : Array Value} {below : List Frame} {meth : Method} {c : Code} {D : va_G} {a : Nat → Nat} {kc : Nat → ClassId} (X : cx 44 p s m args meth c D (tyC kc) a cX7_evening 3 RX7 (some .int)) {G : Nat → Int64} {J : Nat → Nat → Int64} {Z : Nat → Nat → Nat → Int32} {Ff : Nat → Int32} {If : Nat → Nat → Int32} {r : Int32} :
    ∀ (F : Nat → Int32) (I : Nat → Nat → Int32) (t0 : Int32) (H : Heap) (locs : List Loc) (ls : Array Slot), p_X7_evening_b48 (F 0) (F 2) (F 8) (F 9) (I 2) (I 4) (I 5) (I 6) (I 14) t0 = some (r, (Ff 8), (Ff 9), (If 14)) → (∀ k, k ∉ ([8, 9] : List Nat) → Ff k = F k) → (∀ k, k ∉ ([14] : List Nat) → If k = I k) → va_P D vwCl (wC a kc F G I J Z) H → va_S (ad a 44 s.heap.size) s.heap H locs → lv_has ls 3 [(0, .ref (a 34))] → W p l e rm_X7_evening s m args below meth c H locs 0 0 (MQ below (Qi D (wC a kc Ff G If J Z) r (ad a 44 s.heap.size)) args s 0 0 (ad a 44 s.heap.size)) (F0 m 48 ls [.int t0]) := by
  intro F I t0 H locs ls hf hfF hfI hP hS hl
  unfold p_X7_evening_b48 at hf
  obtain ⟨e0, hf⟩ := o2 hf
  obtain ⟨e1, hf⟩ := o2 hf
  obtain ⟨e2, hf⟩ := o2 hf
  have e3 := o1 hf
  have EF : Ff = F := frm_eq hfF (frm_c (e1).symm (frm_c (e2).symm frm_n))
  have EI : If = I := frm_eq hfI (frm_c (e3).symm frm_n)
  exact ret_i X hS (by rw [EF, EI]; exact hP) e0 dX7_evening_48
set_option maxHeartbeats 4000000 in
set_option maxRecDepth 100000 in
theorem t_X7_evening_b16 {p : Program} {l : Launch} {e : Env} {s : State} {m : MethodId} {args : Array Value} {below : List Frame} {meth : Method} {c : Code} {D : va_G} {a : Nat → Nat} {kc : Nat → ClassId} (X : cx 44 p s m args meth c D (tyC kc) a cX7_evening 3 RX7 (some .int)) {G : Nat → Int64} {J : Nat → Nat → Int64} {Z : Nat → Nat → Nat → Int32} {Ff : Nat → Int32} {If : Nat → Nat → Int32} {r : Int32} :
    ∀ (F : Nat → Int32) (I : Nat → Nat → Int32) (x1 : Int32) (x2 : Int32) (H : Heap) (locs : List Loc) (ls : Array Slot), p_X7_evening_b16 (F 0) (F 2) (F 8) (F 9) (I 2) (I 4) (I 5) (I 6) (I 14) x1 x2 = some (r, (Ff 8), (Ff 9), (If 14)) → (∀ k, k ∉ ([8, 9] : List Nat) → Ff k = F k) → (∀ k, k ∉ ([14] : List Nat) → If k = I k) → va_P D vwCl (wC a kc F G I J Z) H → va_S (ad a 44 s.heap.size) s.heap H locs → lv_has ls 3 [(0, .ref (a 34)), (1, .int x1), (2, .int x2)] → W p l e rm_X7_evening s m args below meth c H locs 0 0 (MQ below (Qi D (wC a kc Ff G If J Z) r (ad a 44 s.heap.size)) args s 0 0 (ad a 44 s.heap.size)) (F0 m 16 ls []) := by
  intro F I x1 x2 H locs ls hf hfF hfI hP hS hl
  unfold p_X7_evening_b16 at hf
  refine lv_aload_n X.1 X.2.1 dX7_evening_16 rfl (lv_at hl 0 rfl) ?_
  refine gC_34_4 X q_2_68 dX7_evening_17 hP ?_
  refine lv_iload_n X.1 X.2.1 dX7_evening_20 rfl (lv_at hl 1 rfl) ?_
  obtain ⟨E_wrongs_21, E_state_21, E_places_21, ho, hf⟩ := b3_s hf
  refine call_vv (rest := []) X (c_X2_run F G I J Z X.2.2.2.2.2.2.2.1 x1 ho) q_3_229 q_3_230 q_3_231 q_1_7 q_3_232 ok_X2_run rfl 30 rfl rfl ⟨Nat.le_of_ble_eq_true rfl, Nat.le_of_ble_eq_true rfl⟩ rfl rfl hl.1 rfl (Nat.le_of_ble_eq_true rfl) dX7_evening_21 hP hS (fun H locs hP hS => ?_)
  refine lv_iload_n X.1 X.2.1 dX7_evening_24 rfl (lv_at hl 2 rfl) ?_
  refine lv_iconst (v := (-1)) X.1 X.2.1 dX7_evening_25 (by decide) ?_
  refine lv_icmp_ne (tgt := 39) X.1 X.2.1 dX7_evening_26 (by decide) (fun c26 => ?_) (fun c26 => ?_)
  · have hf := ie_s hf c26
    refine lv_aload_n X.1 X.2.1 dX7_evening_39 rfl (lv_at hl 0 rfl) ?_
    refine gC_34_4 X q_2_68 dX7_evening_40 hP ?_
    refine gC_30_0 X q_2_6 dX7_evening_43 hP ?_
    refine lv_iload_n X.1 X.2.1 dX7_evening_46 rfl (lv_at hl 2 rfl) ?_
    obtain ⟨h47, hf⟩ := gd_s hf
    refine lC_31 (I := (va_up I 14 E_places_21)) X (f := E_places_21) rfl h47 dX7_evening_47 hP ?_
    exact t_X7_evening_b48 X (va_up (va_up F 8 E_wrongs_21) 9 E_state_21) (va_up I 14 E_places_21) (E_places_21 x2.toNatClampNeg) H locs ls hf (frm_up (frm_up hfF (by decide)) (by decide)) (frm_up hfI (by decide)) hP hS (lv_sub hl [0] rfl)
  · have hf := it_s hf c26
    refine lv_aload_n X.1 X.2.1 dX7_evening_29 rfl (lv_at hl 0 rfl) ?_
    refine gC_34_4 X q_2_68 dX7_evening_30 hP ?_
    refine gC_30_1 (F := (va_up (va_up F 8 E_wrongs_21) 9 E_state_21)) X (v := E_wrongs_21) rfl q_2_8 dX7_evening_33 hP ?_
    refine lv_goto (tgt := 48) X.1 X.2.1 dX7_evening_36 (by decide) ?_
    exact t_X7_evening_b48 X (va_up (va_up F 8 E_wrongs_21) 9 E_state_21) (va_up I 14 E_places_21) E_wrongs_21 H locs ls hf (frm_up (frm_up hfF (by decide)) (by decide)) (frm_up hfI (by decide)) hP hS (lv_sub hl [0] rfl)
set_option maxHeartbeats 4000000 in
set_option maxRecDepth 100000 in
theorem t_X7_evening_b0 {p : Program} {l : Launch} {e : Env} {s : State} {m : MethodId} {args : Array Value} {below : List Frame} {meth : Method} {c : Code} {D : va_G} {a : Nat → Nat} {kc : Nat → ClassId} (X : cx 44 p s m args meth c D (tyC kc) a cX7_evening 3 RX7 (some .int)) {G : Nat → Int64} {J : Nat → Nat → Int64} {Z : Nat → Nat → Nat → Int32} {Ff : Nat → Int32} {If : Nat → Nat → Int32} {r : Int32} :
    ∀ (F : Nat → Int32) (I : Nat → Nat → Int32) (x1 : Int32) (x2 : Int32) (H : Heap) (locs : List Loc) (ls : Array Slot), p_X7_evening_b0 (F 0) (F 2) (F 8) (F 9) (I 2) (I 4) (I 5) (I 6) (I 14) x1 x2 = some (r, (Ff 8), (Ff 9), (If 14)) → (∀ k, k ∉ ([8, 9] : List Nat) → Ff k = F k) → (∀ k, k ∉ ([14] : List Nat) → If k = I k) → va_P D vwCl (wC a kc F G I J Z) H → va_S (ad a 44 s.heap.size) s.heap H locs → lv_has ls 3 [(0, .ref (a 34)), (1, .int x1), (2, .int x2)] → W p l e rm_X7_evening s m args below meth c H locs 0 0 (MQ below (Qi D (wC a kc Ff G If J Z) r (ad a 44 s.heap.size)) args s 0 0 (ad a 44 s.heap.size)) (F0 m 0 ls []) := by
  intro F I x1 x2 H locs ls hf hfF hfI hP hS hl
  unfold p_X7_evening_b0 at hf
  refine lv_iload_n X.1 X.2.1 dX7_evening_0 rfl (lv_at hl 2 rfl) ?_
  refine lv_iconst (v := (-1)) X.1 X.2.1 dX7_evening_1 (by decide) ?_
  refine lv_icmp_eq (tgt := 16) X.1 X.2.1 dX7_evening_2 (by decide) (fun c2 => ?_) (fun c2 => ?_)
  · have hf := it_s hf c2
    exact t_X7_evening_b16 X F I x1 x2 H locs ls hf hfF hfI hP hS (lv_sub hl [0, 1, 2] rfl)
  · have hf := ie_s hf c2
    refine lv_aload_n X.1 X.2.1 dX7_evening_5 rfl (lv_at hl 0 rfl) ?_
    refine lv_iload_n X.1 X.2.1 dX7_evening_6 rfl (lv_at hl 2 rfl) ?_
    obtain ⟨r7, ho, hf⟩ := b1_s hf
    refine call_vi (rest := []) X (c_X7_isNobody F G I J Z X.2.2.2.2.2.2.2.1 x2 ho) q_2_132 q_2_134 qs_yX7_isNobody q_1_1 q_2_135 ok_X7_isNobody rfl 34 rfl rfl ⟨Nat.le_of_ble_eq_true rfl, Nat.le_of_ble_eq_true rfl⟩ rfl rfl hl.1 rfl (Nat.le_of_ble_eq_true rfl) dX7_evening_7 hP hS (fun H locs hP hS => ?_)
    refine lv_if_eq (tgt := 16) X.1 X.2.1 dX7_evening_10 (by decide) (fun c10 => ?_) (fun c10 => ?_)
    · have hf := it_s hf c10
      exact t_X7_evening_b16 X F I x1 x2 H locs ls hf hfF hfI hP hS (lv_sub hl [0, 1, 2] rfl)
    · have hf := ie_s hf c10
      refine lv_bipush (v := (-2)) X.1 X.2.1 dX7_evening_13 (by decide) ?_
      obtain ⟨e0, hf⟩ := o2 hf
      obtain ⟨e1, hf⟩ := o2 hf
      obtain ⟨e2, hf⟩ := o2 hf
      have e3 := o1 hf
      have EF : Ff = F := frm_eq hfF (frm_c (e1).symm (frm_c (e2).symm frm_n))
      have EI : If = I := frm_eq hfI (frm_c (e3).symm frm_n)
      exact ret_i X hS (by rw [EF, EI]; exact hP) e0 dX7_evening_15
set_option maxRecDepth 100000 in
theorem c_X7_evening {l : Launch} {D : va_G} {a : Nat → Nat} {kc : Nat → ClassId} (F : Nat → Int32) (G : Nat → Int64) (I : Nat → Nat → Int32) (J : Nat → Nat → Int64) (Z : Nat → Nat → Nat → Int32) (hAp : ∀ i j, i < 44 → j < 44 → a i = a j → i = j) (x1 : Int32) (x2 : Int32) {o0 : Int32} {o1 : Int32} {o2 : Int32} {o3 : Nat → Int32} (hf : p_X7_evening (F 0) (F 2) (F 8) (F 9) (I 2) (I 4) (I 5) (I 6) (I 14) x1 x2 = some (o0, o1, o2, o3)) : Ct 44 l yX7_evening cX7_evening 3 (some .int) rm_X7_evening D (tyC kc) a (wC a kc F G I J Z) [.ref (a 34), .int x1, .int x2] (Qi D (wC a kc (va_up (va_up F 8 o1) 9 o2) G (va_up I 14 o3) J Z) o0) :=
  Ct.of (by decide +kernel) hAp (Nat.le_of_ble_eq_true rfl) (fun p e s m args below meth c ls X hP hl => t_X7_evening_b0 X F I x1 x2 _ _ _ hf (frm_ul (frm_ul (fun k _ => rfl) (by decide)) (by decide)) (frm_ul (fun k _ => rfl) (by decide)) hP va_S.rf hl)
abbrev rm_X7_isNoForm : Room := { frames := 0, cells := 0, slots := 0, locals := 0 }
set_option maxHeartbeats 4000000 in
set_option maxRecDepth 100000 in
theorem t_X7_isNoForm_b14 {p : Program} {l : Launch} {e : Env} {s : State} {m : MethodId} {args : Array Value} {below : List Frame} {meth : Method} {c : Code} {D : va_G} {a : Nat → Nat} (X : cx 0 p s m args meth c D [] a cX7_isNoForm 1 RX7 (some .boolean))   {r : Int32} :
    ∀  (t0 : Int32) (H : Heap) (locs : List Loc) (ls : Array Slot), p_X7_isNoForm_b14  t0 = some r → va_P D vwCl [] H → va_S (ad a 0 s.heap.size) s.heap H locs → lv_has ls 1 [] → W p l e rm_X7_isNoForm s m args below meth c H locs 0 0 (MQ below (Qi D [] r (ad a 0 s.heap.size)) args s 0 0 (ad a 0 s.heap.size)) (F0 m 14 ls [.int t0]) := by
  intro  t0 H locs ls hf  hP hS hl
  unfold p_X7_isNoForm_b14 at hf
  obtain ⟨h14, hf⟩ := gd_s hf
  have e0 := o1 hf
  exact ret_z X hS hP e0 h14 dX7_isNoForm_14
set_option maxHeartbeats 4000000 in
set_option maxRecDepth 100000 in
theorem t_X7_isNoForm_b9 {p : Program} {l : Launch} {e : Env} {s : State} {m : MethodId} {args : Array Value} {below : List Frame} {meth : Method} {c : Code} {D : va_G} {a : Nat → Nat} (X : cx 0 p s m args meth c D [] a cX7_isNoForm 1 RX7 (some .boolean))   {r : Int32} :
    ∀   (H : Heap) (locs : List Loc) (ls : Array Slot), p_X7_isNoForm_b9   = some r → va_P D vwCl [] H → va_S (ad a 0 s.heap.size) s.heap H locs → lv_has ls 1 [] → W p l e rm_X7_isNoForm s m args below meth c H locs 0 0 (MQ below (Qi D [] r (ad a 0 s.heap.size)) args s 0 0 (ad a 0 s.heap.size)) (F0 m 9 ls []) := by
  intro   H locs ls hf  hP hS hl
  unfold p_X7_isNoForm_b9 at hf
  refine lv_iconst (v := 1) X.1 X.2.1 dX7_isNoForm_9 (by decide) ?_
  refine lv_goto (tgt := 14) X.1 X.2.1 dX7_isNoForm_10 (by decide) ?_
  exact t_X7_isNoForm_b14 X  1 H locs ls hf  hP hS (lv_sub hl [] rfl)
set_option maxHeartbeats 4000000 in
set_option maxRecDepth 100000 in
theorem t_X7_isNoForm_b0 {p : Program} {l : Launch} {e : Env} {s : State} {m : MethodId} {args : Array Value} {below : List Frame} {meth : Method} {c : Code} {D : va_G} {a : Nat → Nat} (X : cx 0 p s m args meth c D [] a cX7_isNoForm 1 RX7 (some .boolean))   {r : Int32} :
    ∀  (x0 : Int32) (H : Heap) (locs : List Loc) (ls : Array Slot), p_X7_isNoForm_b0  x0 = some r → va_P D vwCl [] H → va_S (ad a 0 s.heap.size) s.heap H locs → lv_has ls 1 [(0, .int x0)] → W p l e rm_X7_isNoForm s m args below meth c H locs 0 0 (MQ below (Qi D [] r (ad a 0 s.heap.size)) args s 0 0 (ad a 0 s.heap.size)) (F0 m 0 ls []) := by
  intro  x0 H locs ls hf  hP hS hl
  unfold p_X7_isNoForm_b0 at hf
  refine lv_iload_n X.1 X.2.1 dX7_isNoForm_0 rfl (lv_at hl 0 rfl) ?_
  refine lv_if_lt (tgt := 9) X.1 X.2.1 dX7_isNoForm_1 (by decide) (fun c1 => ?_) (fun c1 => ?_)
  · have hf := it_s hf c1
    exact t_X7_isNoForm_b9 X   H locs ls hf  hP hS (lv_sub hl [] rfl)
  · have hf := ie_s hf c1
    refine lv_iload_n X.1 X.2.1 dX7_isNoForm_4 rfl (lv_at hl 0 rfl) ?_
    refine lv_iconst (v := 2) X.1 X.2.1 dX7_isNoForm_5 (by decide) ?_
    refine lv_icmp_le (tgt := 13) X.1 X.2.1 dX7_isNoForm_6 (by decide) (fun c6 => ?_) (fun c6 => ?_)
    · have hf := it_s hf c6
      refine lv_iconst (v := 0) X.1 X.2.1 dX7_isNoForm_13 (by decide) ?_
      exact t_X7_isNoForm_b14 X  0 H locs ls hf  hP hS (lv_sub hl [] rfl)
    · have hf := ie_s hf c6
      exact t_X7_isNoForm_b9 X   H locs ls hf  hP hS (lv_sub hl [] rfl)
set_option maxRecDepth 100000 in
theorem c_X7_isNoForm {l : Launch} {D : va_G} {a : Nat → Nat}  (x0 : Int32) {o0 : Int32} (hf : p_X7_isNoForm  x0 = some o0) : Ct 0 l yX7_isNoForm cX7_isNoForm 1 (some .boolean) rm_X7_isNoForm D [] a [] [.int x0] (Qi D [] o0) :=
  Ct.of (by decide +kernel) (fun i j h => absurd h (Nat.not_lt_zero i)) (Nat.le_of_ble_eq_true rfl) (fun p e s m args below meth c ls X hP hl => t_X7_isNoForm_b0 X  x0 _ _ _ hf  hP va_S.rf hl)
abbrev rm_X7_sheet : Room := { frames := 2, cells := 0, slots := 0, locals := 46 }
set_option maxHeartbeats 4000000 in
set_option maxRecDepth 100000 in
theorem t_X7_sheet_b20 {p : Program} {l : Launch} {e : Env} {s : State} {m : MethodId} {args : Array Value} {below : List Frame} {meth : Method} {c : Code} {D : va_G} {a : Nat → Nat} {kc : Nat → ClassId} (X : cx 44 p s m args meth c D (tyC kc) a cX7_sheet 4 RX7 (some .int)) {G : Nat → Int64} {J : Nat → Nat → Int64} {Ff : Nat → Int32} {If : Nat → Nat → Int32} {Zf : Nat → Nat → Nat → Int32} {r : Int32} :
    ∀ (F : Nat → Int32) (I : Nat → Nat → Int32) (Z : Nat → Nat → Nat → Int32)  (H : Heap) (locs : List Loc) (ls : Array Slot), p_X7_sheet_b20 (F 13) (I 16) (I 17) (Z 1)  = some (r, (Ff 13), (If 16), (If 17), (Zf 1)) → (∀ k, k ∉ ([13] : List Nat) → Ff k = F k) → (∀ k, k ∉ ([16, 17] : List Nat) → If k = I k) → (∀ k, k ∉ ([1] : List Nat) → Zf k = Z k) → va_P D vwCl (wC a kc F G I J Z) H → va_S (ad a 44 s.heap.size) s.heap H locs → lv_has ls 4 [(0, .ref (a 34))] → W p l e rm_X7_sheet s m args below meth c H locs 0 0 (MQ below (Qi D (wC a kc Ff G If J Zf) r (ad a 44 s.heap.size)) args s 0 0 (ad a 44 s.heap.size)) (F0 m 20 ls []) := by
  intro F I Z  H locs ls hf hfF hfI hfZ hP hS hl
  unfold p_X7_sheet_b20 at hf
  refine lv_bipush (v := (-2)) X.1 X.2.1 dX7_sheet_20 (by decide) ?_
  obtain ⟨e0, hf⟩ := o2 hf
  obtain ⟨e1, hf⟩ := o2 hf
  obtain ⟨e2, hf⟩ := o2 hf
  obtain ⟨e3, hf⟩ := o2 hf
  have e4 := o1 hf
  have EF : Ff = F := frm_eq hfF (frm_c (e1).symm frm_n)
  have EI : If = I := frm_eq hfI (frm_c (e2).symm (frm_c (e3).symm frm_n))
  have EZ : Zf = Z := frm_eq hfZ (frm_c (e4).symm frm_n)
  exact ret_i X hS (by rw [EF, EI, EZ]; exact hP) e0 dX7_sheet_22
set_option maxHeartbeats 4000000 in
set_option maxRecDepth 100000 in
theorem t_X7_sheet_b0 {p : Program} {l : Launch} {e : Env} {s : State} {m : MethodId} {args : Array Value} {below : List Frame} {meth : Method} {c : Code} {D : va_G} {a : Nat → Nat} {kc : Nat → ClassId} (X : cx 44 p s m args meth c D (tyC kc) a cX7_sheet 4 RX7 (some .int)) {G : Nat → Int64} {J : Nat → Nat → Int64} {Ff : Nat → Int32} {If : Nat → Nat → Int32} {Zf : Nat → Nat → Nat → Int32} {r : Int32} :
    ∀ (F : Nat → Int32) (I : Nat → Nat → Int32) (Z : Nat → Nat → Nat → Int32) (x1 : Int32) (x2 : Int32) (x3 : Int32) (H : Heap) (locs : List Loc) (ls : Array Slot), p_X7_sheet_b0 (F 13) (I 16) (I 17) (Z 1) x1 x2 x3 = some (r, (Ff 13), (If 16), (If 17), (Zf 1)) → (∀ k, k ∉ ([13] : List Nat) → Ff k = F k) → (∀ k, k ∉ ([16, 17] : List Nat) → If k = I k) → (∀ k, k ∉ ([1] : List Nat) → Zf k = Z k) → va_P D vwCl (wC a kc F G I J Z) H → va_S (ad a 44 s.heap.size) s.heap H locs → lv_has ls 4 [(0, .ref (a 34)), (1, .int x1), (2, .int x2), (3, .int x3)] → W p l e rm_X7_sheet s m args below meth c H locs 0 0 (MQ below (Qi D (wC a kc Ff G If J Zf) r (ad a 44 s.heap.size)) args s 0 0 (ad a 44 s.heap.size)) (F0 m 0 ls []) := by
  intro F I Z x1 x2 x3 H locs ls hf hfF hfI hfZ hP hS hl
  unfold p_X7_sheet_b0 at hf
  refine lv_iload_n X.1 X.2.1 dX7_sheet_0 rfl (lv_at hl 1 rfl) ?_
  obtain ⟨r1, ho, hf⟩ := b1_s hf
  refine call_si (rest := []) X (c_X7_isNoSheet x1 ho) q_2_235 q_2_236 q_1_1 q_2_237 ok_X7_isNoSheet rfl ⟨Nat.le_of_ble_eq_true rfl, Nat.le_of_ble_eq_true rfl⟩ rfl rfl hl.1 rfl (Nat.le_of_ble_eq_true rfl) dX7_sheet_1 hP hS (fun H locs hP hS => ?_)
  refine lv_if_ne (tgt := 20) X.1 X.2.1 dX7_sheet_4 (by decide) (fun c4 => ?_) (fun c4 => ?_)
  · have hf := ie_s hf c4
    exact t_X7_sheet_b20 X F I Z  H locs ls hf hfF hfI hfZ hP hS (lv_sub hl [0] rfl)
  · have hf := it_s hf c4
    refine lv_iload_n X.1 X.2.1 dX7_sheet_7 rfl (lv_at hl 2 rfl) ?_
    obtain ⟨r8, ho, hf⟩ := b1_s hf
    refine call_si (rest := []) X (c_X7_isNoForm x2 ho) q_4_13 q_4_14 q_1_1 q_4_15 ok_X7_isNoForm rfl ⟨Nat.le_of_ble_eq_true rfl, Nat.le_of_ble_eq_true rfl⟩ rfl rfl hl.1 rfl (Nat.le_of_ble_eq_true rfl) dX7_sheet_8 hP hS (fun H locs hP hS => ?_)
    refine lv_if_ne (tgt := 20) X.1 X.2.1 dX7_sheet_11 (by decide) (fun c11 => ?_) (fun c11 => ?_)
    · have hf := ie_s hf c11
      exact t_X7_sheet_b20 X F I Z  H locs ls hf hfF hfI hfZ hP hS (lv_sub hl [0] rfl)
    · have hf := it_s hf c11
      refine lv_iload_n X.1 X.2.1 dX7_sheet_14 rfl (lv_at hl 3 rfl) ?_
      refine lv_bipush (v := 60) X.1 X.2.1 dX7_sheet_15 (by decide) ?_
      refine lv_icmp_le (tgt := 23) X.1 X.2.1 dX7_sheet_17 (by decide) (fun c17 => ?_) (fun c17 => ?_)
      · have hf := it_s hf c17
        refine lv_iload_n X.1 X.2.1 dX7_sheet_23 rfl (lv_at hl 3 rfl) ?_
        refine lv_if_ge (tgt := 33) X.1 X.2.1 dX7_sheet_24 (by decide) (fun c24 => ?_) (fun c24 => ?_)
        · have hf := it_s hf c24
          refine lv_aload_n X.1 X.2.1 dX7_sheet_33 rfl (lv_at hl 0 rfl) ?_
          refine gC_34_6 X q_2_70 dX7_sheet_34 hP ?_
          refine lv_iload_n X.1 X.2.1 dX7_sheet_37 rfl (lv_at hl 1 rfl) ?_
          obtain ⟨h38, hf⟩ := gd_s hf
          refine alC_35 X h38 dX7_sheet_38 hP ?_
          refine lv_iload_n X.1 X.2.1 dX7_sheet_39 rfl (lv_at hl 2 rfl) ?_
          refine lv_iload_n X.1 X.2.1 dX7_sheet_40 rfl (lv_at hl 3 rfl) ?_
          obtain ⟨h41, hf⟩ := gd_s hf
          obtain ⟨S_form_41, S_size_41, S_items_41, ho, hf⟩ := b3_s hf
          refine call_vv (rest := []) X (c_X5_renew F G I J Z X.2.2.2.2.2.2.2.1 x1.toNatClampNeg x2 x3 ho) q_4_16 q_4_17 q_4_18 q_1_9 q_4_19 ok_X5_renew rfl (36 + x1.toNatClampNeg) (atC_36 (of_decide_eq_true h41)) rfl ⟨Nat.le_of_ble_eq_true rfl, Nat.le_of_ble_eq_true rfl⟩ rfl rfl hl.1 rfl (Nat.le_of_ble_eq_true rfl) dX7_sheet_41 hP hS (fun H locs hP hS => ?_)
          refine lv_iload_n X.1 X.2.1 dX7_sheet_44 rfl (lv_at hl 3 rfl) ?_
          obtain ⟨e0, hf⟩ := o2 hf
          obtain ⟨e1, hf⟩ := o2 hf
          obtain ⟨e2, hf⟩ := o2 hf
          obtain ⟨e3, hf⟩ := o2 hf
          have e4 := o1 hf
          have EF : Ff = F := frm_eq hfF (frm_c (e1).symm frm_n)
          have EI : If = (va_up (va_up I 16 S_form_41) 17 S_size_41) := frm_eq (frm_up (frm_up hfI (by decide)) (by decide)) (frm_c (e2).symm (frm_c (e3).symm frm_n))
          have EZ : Zf = (va_up Z 1 S_items_41) := frm_eq (frm_up hfZ (by decide)) (frm_c (e4).symm frm_n)
          exact ret_i X hS (by rw [EF, EI, EZ]; exact hP) e0 dX7_sheet_45
        · have hf := ie_s hf c24
          refine lv_aload_n X.1 X.2.1 dX7_sheet_27 rfl (lv_at hl 0 rfl) ?_
          refine lv_iconst (v := 5) X.1 X.2.1 dX7_sheet_28 (by decide) ?_
          obtain ⟨r29, T_finding_29, ho, hf⟩ := b2_s hf
          refine call_vi (rest := []) X (c_X7_find F G I J Z X.2.2.2.2.2.2.2.1 5 ho) q_2_238 q_3_0 qs_yX7_find q_1_1 q_3_1 ok_X7_find rfl 34 rfl rfl ⟨Nat.le_of_ble_eq_true rfl, Nat.le_of_ble_eq_true rfl⟩ rfl rfl hl.1 rfl (Nat.le_of_ble_eq_true rfl) dX7_sheet_29 hP hS (fun H locs hP hS => ?_)
          obtain ⟨e0, hf⟩ := o2 hf
          obtain ⟨e1, hf⟩ := o2 hf
          obtain ⟨e2, hf⟩ := o2 hf
          obtain ⟨e3, hf⟩ := o2 hf
          have e4 := o1 hf
          have EF : Ff = (va_up F 13 T_finding_29) := frm_eq (frm_up hfF (by decide)) (frm_c (e1).symm frm_n)
          have EI : If = I := frm_eq hfI (frm_c (e2).symm (frm_c (e3).symm frm_n))
          have EZ : Zf = Z := frm_eq hfZ (frm_c (e4).symm frm_n)
          exact ret_i X hS (by rw [EF, EI, EZ]; exact hP) e0 dX7_sheet_32
      · have hf := ie_s hf c17
        exact t_X7_sheet_b20 X F I Z  H locs ls hf hfF hfI hfZ hP hS (lv_sub hl [0] rfl)
set_option maxRecDepth 100000 in
theorem c_X7_sheet {l : Launch} {D : va_G} {a : Nat → Nat} {kc : Nat → ClassId} (F : Nat → Int32) (G : Nat → Int64) (I : Nat → Nat → Int32) (J : Nat → Nat → Int64) (Z : Nat → Nat → Nat → Int32) (hAp : ∀ i j, i < 44 → j < 44 → a i = a j → i = j) (x1 : Int32) (x2 : Int32) (x3 : Int32) {o0 : Int32} {o1 : Int32} {o2 : Nat → Int32} {o3 : Nat → Int32} {o4 : Nat → Nat → Int32} (hf : p_X7_sheet (F 13) (I 16) (I 17) (Z 1) x1 x2 x3 = some (o0, o1, o2, o3, o4)) : Ct 44 l yX7_sheet cX7_sheet 4 (some .int) rm_X7_sheet D (tyC kc) a (wC a kc F G I J Z) [.ref (a 34), .int x1, .int x2, .int x3] (Qi D (wC a kc (va_up F 13 o1) G (va_up (va_up I 16 o2) 17 o3) J (va_up Z 1 o4)) o0) :=
  Ct.of (by decide +kernel) hAp (Nat.le_of_ble_eq_true rfl) (fun p e s m args below meth c ls X hP hl => t_X7_sheet_b0 X F I Z x1 x2 x3 _ _ _ hf (frm_ul (fun k _ => rfl) (by decide)) (frm_ul (frm_ul (fun k _ => rfl) (by decide)) (by decide)) (frm_ul (fun k _ => rfl) (by decide)) hP va_S.rf hl)
abbrev rm_X7_lose : Room := { frames := 2, cells := 0, slots := 0, locals := 43 }
set_option maxHeartbeats 4000000 in
set_option maxRecDepth 100000 in
theorem t_X7_lose_b0 {p : Program} {l : Launch} {e : Env} {s : State} {m : MethodId} {args : Array Value} {below : List Frame} {meth : Method} {c : Code} {D : va_G} {a : Nat → Nat} {kc : Nat → ClassId} (X : cx 44 p s m args meth c D (tyC kc) a cX7_lose 4 RX7 (some .int)) {G : Nat → Int64} {J : Nat → Nat → Int64} {Z : Nat → Nat → Nat → Int32} {Ff : Nat → Int32} {If : Nat → Nat → Int32} {r : Int32} :
    ∀ (F : Nat → Int32) (I : Nat → Nat → Int32) (x1 : Int32) (H : Heap) (locs : List Loc) (ls : Array Slot), p_X7_lose_b0 (F 13) (I 17) x1 = some (r, (Ff 13), (If 17)) → (∀ k, k ∉ ([13] : List Nat) → Ff k = F k) → (∀ k, k ∉ ([17] : List Nat) → If k = I k) → va_P D vwCl (wC a kc F G I J Z) H → va_S (ad a 44 s.heap.size) s.heap H locs → lv_has ls 4 [(0, .ref (a 34)), (1, .int x1)] → W p l e rm_X7_lose s m args below meth c H locs 0 0 (MQ below (Qi D (wC a kc Ff G If J Z) r (ad a 44 s.heap.size)) args s 0 0 (ad a 44 s.heap.size)) (F0 m 0 ls []) := by
  intro F I x1 H locs ls hf hfF hfI hP hS hl
  unfold p_X7_lose_b0 at hf
  refine lv_aload_n X.1 X.2.1 dX7_lose_0 rfl (lv_at hl 0 rfl) ?_
  refine lv_iload_n X.1 X.2.1 dX7_lose_1 rfl (lv_at hl 1 rfl) ?_
  refine lv_iconst (v := 1) X.1 X.2.1 dX7_lose_2 (by decide) ?_
  obtain ⟨r3, T_finding_3, ho, hf⟩ := b2_s hf
  refine call_vi (rest := []) X (c_X7_refuseSheet F G I J Z X.2.2.2.2.2.2.2.1 x1 1 ho) q_2_231 q_2_233 qs_yX7_refuseSheet q_1_1 q_2_234 ok_X7_refuseSheet rfl 34 rfl rfl ⟨Nat.le_of_ble_eq_true rfl, Nat.le_of_ble_eq_true rfl⟩ rfl rfl hl.1 rfl (Nat.le_of_ble_eq_true rfl) dX7_lose_3 hP hS (fun H locs hP hS => ?_)
  refine lv_istore_n (lv' := [(2, .int r3), (0, .ref (a 34)), (1, .int x1)]) X.1 X.2.1 dX7_lose_6 rfl hl (by decide) rfl (fun ls hl => ?_)
  refine lv_iload_n X.1 X.2.1 dX7_lose_7 rfl (lv_at hl 0 rfl) ?_
  refine lv_if_eq (tgt := 13) X.1 X.2.1 dX7_lose_8 (by decide) (fun c8 => ?_) (fun c8 => ?_)
  · have hf := it_s hf c8
    refine lv_aload_n X.1 X.2.1 dX7_lose_13 rfl (lv_at hl 1 rfl) ?_
    refine gC_34_6 X q_2_70 dX7_lose_14 hP ?_
    refine lv_iload_n X.1 X.2.1 dX7_lose_17 rfl (lv_at hl 2 rfl) ?_
    obtain ⟨h18, hf⟩ := gd_s hf
    refine alC_35 X h18 dX7_lose_18 hP ?_
    obtain ⟨h19, hf⟩ := gd_s hf
    refine gC_sh_2 (I := I) X (of_decide_eq_true h19) (f := (I 17)) rfl q_2_56 dX7_lose_19 hP ?_
    refine nm_i hf (fun x22 hf => ?_)
    refine lv_istore_n (lv' := [(3, .int x22), (2, .int r3), (0, .ref (a 34)), (1, .int x1)]) X.1 X.2.1 dX7_lose_22 rfl hl (by decide) rfl (fun ls hl => ?_)
    refine lv_aload_n X.1 X.2.1 dX7_lose_23 rfl (lv_at hl 2 rfl) ?_
    refine gC_34_6 X q_2_70 dX7_lose_24 hP ?_
    refine lv_iload_n X.1 X.2.1 dX7_lose_27 rfl (lv_at hl 3 rfl) ?_
    obtain ⟨h28, hf⟩ := gd_s hf
    refine alC_35 X h28 dX7_lose_28 hP ?_
    refine lv_iconst (v := (-1)) X.1 X.2.1 dX7_lose_29 (by decide) ?_
    obtain ⟨h30, hf⟩ := gd_s hf
    obtain ⟨S_size_30, eS_size_30, hf⟩ := nm_x hf
    refine pC_sh_2 (I := I) X (of_decide_eq_true h30) eS_size_30 q_2_56 dX7_lose_30 hP hS (fun H locs hP hS => ?_)
    refine lv_iload_n X.1 X.2.1 dX7_lose_33 rfl (lv_at hl 0 rfl) ?_
    obtain ⟨e0, hf⟩ := o2 hf
    obtain ⟨e1, hf⟩ := o2 hf
    have e2 := o1 hf
    have EF : Ff = (va_up F 13 T_finding_3) := frm_eq (frm_up hfF (by decide)) (frm_c (e1).symm frm_n)
    have EI : If = (va_up I 17 S_size_30) := frm_eq (frm_up hfI (by decide)) (frm_c (e2).symm frm_n)
    exact ret_i X hS (by rw [EF, EI]; exact hP) e0 dX7_lose_34
  · have hf := ie_s hf c8
    refine lv_iload_n X.1 X.2.1 dX7_lose_11 rfl (lv_at hl 0 rfl) ?_
    obtain ⟨e0, hf⟩ := o2 hf
    obtain ⟨e1, hf⟩ := o2 hf
    have e2 := o1 hf
    have EF : Ff = (va_up F 13 T_finding_3) := frm_eq (frm_up hfF (by decide)) (frm_c (e1).symm frm_n)
    have EI : If = I := frm_eq hfI (frm_c (e2).symm frm_n)
    exact ret_i X hS (by rw [EF, EI]; exact hP) e0 dX7_lose_12
set_option maxRecDepth 100000 in
theorem c_X7_lose {l : Launch} {D : va_G} {a : Nat → Nat} {kc : Nat → ClassId} (F : Nat → Int32) (G : Nat → Int64) (I : Nat → Nat → Int32) (J : Nat → Nat → Int64) (Z : Nat → Nat → Nat → Int32) (hAp : ∀ i j, i < 44 → j < 44 → a i = a j → i = j) (x1 : Int32) {o0 : Int32} {o1 : Int32} {o2 : Nat → Int32} (hf : p_X7_lose (F 13) (I 17) x1 = some (o0, o1, o2)) : Ct 44 l yX7_lose cX7_lose 4 (some .int) rm_X7_lose D (tyC kc) a (wC a kc F G I J Z) [.ref (a 34), .int x1] (Qi D (wC a kc (va_up F 13 o1) G (va_up I 17 o2) J Z) o0) :=
  Ct.of (by decide +kernel) hAp (Nat.le_of_ble_eq_true rfl) (fun p e s m args below meth c ls X hP hl => t_X7_lose_b0 X F I x1 _ _ _ hf (frm_ul (fun k _ => rfl) (by decide)) (frm_ul (fun k _ => rfl) (by decide)) hP va_S.rf hl)
abbrev rm_X7_refuseItem : Room := { frames := 2, cells := 0, slots := 0, locals := 43 }
set_option maxHeartbeats 4000000 in
set_option maxRecDepth 100000 in
theorem t_X7_refuseItem_b69 {p : Program} {l : Launch} {e : Env} {s : State} {m : MethodId} {args : Array Value} {below : List Frame} {meth : Method} {c : Code} {D : va_G} {a : Nat → Nat} {kc : Nat → ClassId} (X : cx 44 p s m args meth c D (tyC kc) a cX7_refuseItem 5 RX7 (some .int)) {G : Nat → Int64} {I : Nat → Nat → Int32} {J : Nat → Nat → Int64} {Z : Nat → Nat → Nat → Int32} {Ff : Nat → Int32} {r : Int32} :
    ∀ (F : Nat → Int32) (t0 : Int32) (H : Heap) (locs : List Loc) (ls : Array Slot), p_X7_refuseItem_b69 (F 13) (I 16) (I 17) t0 = some (r, (Ff 13)) → (∀ k, k ∉ ([13] : List Nat) → Ff k = F k) → va_P D vwCl (wC a kc F G I J Z) H → va_S (ad a 44 s.heap.size) s.heap H locs → lv_has ls 5 [(0, .ref (a 34))] → W p l e rm_X7_refuseItem s m args below meth c H locs 0 0 (MQ below (Qi D (wC a kc Ff G I J Z) r (ad a 44 s.heap.size)) args s 0 0 (ad a 44 s.heap.size)) (F0 m 69 ls [.int t0]) := by
  intro F t0 H locs ls hf hfF hP hS hl
  unfold p_X7_refuseItem_b69 at hf
  obtain ⟨e0, hf⟩ := o2 hf
  have e1 := o1 hf
  have EF : Ff = F := frm_eq hfF (frm_c (e1).symm frm_n)
  exact ret_i X hS (by rw [EF]; exact hP) e0 dX7_refuseItem_69
set_option maxHeartbeats 4000000 in
set_option maxRecDepth 100000 in
theorem t_X7_refuseItem_b14 {p : Program} {l : Launch} {e : Env} {s : State} {m : MethodId} {args : Array Value} {below : List Frame} {meth : Method} {c : Code} {D : va_G} {a : Nat → Nat} {kc : Nat → ClassId} (X : cx 44 p s m args meth c D (tyC kc) a cX7_refuseItem 5 RX7 (some .int)) {G : Nat → Int64} {I : Nat → Nat → Int32} {J : Nat → Nat → Int64} {Z : Nat → Nat → Nat → Int32} {Ff : Nat → Int32} {r : Int32} :
    ∀ (F : Nat → Int32) (t1 : Int32) (t2 : Int32) (x1 : Int32) (x2 : Int32) (x3 : Int32) (H : Heap) (locs : List Loc) (ls : Array Slot), p_X7_refuseItem_b14 (F 13) (I 16) (I 17) t1 t2 x1 x2 x3 = some (r, (Ff 13)) → (∀ k, k ∉ ([13] : List Nat) → Ff k = F k) → va_P D vwCl (wC a kc F G I J Z) H → va_S (ad a 44 s.heap.size) s.heap H locs → lv_has ls 5 [(0, .ref (a 34)), (1, .int x1), (2, .int x2), (3, .int x3)] → W p l e rm_X7_refuseItem s m args below meth c H locs 0 0 (MQ below (Qi D (wC a kc Ff G I J Z) r (ad a 44 s.heap.size)) args s 0 0 (ad a 44 s.heap.size)) (F0 m 14 ls [.int t2, .int t1, .ref (a 34)]) := by
  intro F t1 t2 x1 x2 x3 H locs ls hf hfF hP hS hl
  unfold p_X7_refuseItem_b14 at hf
  obtain ⟨r14, T_finding_14, ho, hf⟩ := b2_s hf
  refine call_vi (rest := []) X (c_X7_refuseSheet F G I J Z X.2.2.2.2.2.2.2.1 t1 t2 ho) q_2_231 q_2_233 qs_yX7_refuseSheet q_1_1 q_2_234 ok_X7_refuseSheet rfl 34 rfl rfl ⟨Nat.le_of_ble_eq_true rfl, Nat.le_of_ble_eq_true rfl⟩ rfl rfl hl.1 rfl (Nat.le_of_ble_eq_true rfl) dX7_refuseItem_14 hP hS (fun H locs hP hS => ?_)
  refine lv_istore (lv' := [(4, .int r14), (0, .ref (a 34)), (1, .int x1), (2, .int x2), (3, .int x3)]) X.1 X.2.1 dX7_refuseItem_17 hl (by decide) rfl (fun ls hl => ?_)
  refine lv_iload X.1 X.2.1 dX7_refuseItem_19 (lv_at hl 0 rfl) ?_
  refine lv_if_eq (tgt := 27) X.1 X.2.1 dX7_refuseItem_21 (by decide) (fun c21 => ?_) (fun c21 => ?_)
  · have hf := it_s hf c21
    refine lv_aload_n X.1 X.2.1 dX7_refuseItem_27 rfl (lv_at hl 1 rfl) ?_
    refine gC_34_6 X q_2_70 dX7_refuseItem_28 hP ?_
    refine lv_iload_n X.1 X.2.1 dX7_refuseItem_31 rfl (lv_at hl 2 rfl) ?_
    obtain ⟨h32, hf⟩ := gd_s hf
    refine alC_35 X h32 dX7_refuseItem_32 hP ?_
    obtain ⟨h33, hf⟩ := gd_s hf
    refine gC_sh_1 (I := I) X (of_decide_eq_true h33) (f := (I 16)) rfl q_2_54 dX7_refuseItem_33 hP ?_
    refine lv_iload_n X.1 X.2.1 dX7_refuseItem_36 rfl (lv_at hl 3 rfl) ?_
    refine lv_icmp_eq (tgt := 46) X.1 X.2.1 dX7_refuseItem_37 (by decide) (fun c37 => ?_) (fun c37 => ?_)
    · have hf := it_s hf c37
      refine lv_aload_n X.1 X.2.1 dX7_refuseItem_46 rfl (lv_at hl 1 rfl) ?_
      refine gC_34_6 X q_2_70 dX7_refuseItem_47 hP ?_
      refine lv_iload_n X.1 X.2.1 dX7_refuseItem_50 rfl (lv_at hl 2 rfl) ?_
      obtain ⟨h51, hf⟩ := gd_s hf
      refine alC_35 X h51 dX7_refuseItem_51 hP ?_
      refine lv_iload_n X.1 X.2.1 dX7_refuseItem_52 rfl (lv_at hl 4 rfl) ?_
      refine lv_iconst (v := 1) X.1 X.2.1 dX7_refuseItem_53 (by decide) ?_
      obtain ⟨h54, hf⟩ := gd_s hf
      obtain ⟨r54, ho, hf⟩ := b1_s hf
      refine call_vi (rest := []) X (c_X5_holds (va_up F 13 T_finding_14) G I J Z X.2.2.2.2.2.2.2.1 x1.toNatClampNeg x3 1 ho) q_4_33 q_4_34 q_4_35 q_1_9 q_4_36 ok_X5_holds rfl (36 + x1.toNatClampNeg) (atC_36 (of_decide_eq_true h54)) rfl ⟨Nat.le_of_ble_eq_true rfl, Nat.le_of_ble_eq_true rfl⟩ rfl rfl hl.1 rfl (Nat.le_of_ble_eq_true rfl) dX7_refuseItem_54 hP hS (fun H locs hP hS => ?_)
      refine lv_if_eq (tgt := 64) X.1 X.2.1 dX7_refuseItem_57 (by decide) (fun c57 => ?_) (fun c57 => ?_)
      · have hf := it_s hf c57
        refine lv_aload_n X.1 X.2.1 dX7_refuseItem_64 rfl (lv_at hl 1 rfl) ?_
        refine lv_iconst (v := 2) X.1 X.2.1 dX7_refuseItem_65 (by decide) ?_
        obtain ⟨r66, T_finding_66, ho, hf⟩ := b2_s hf
        refine call_vi (rest := []) X (c_X7_find (va_up F 13 T_finding_14) G I J Z X.2.2.2.2.2.2.2.1 2 ho) q_2_238 q_3_0 qs_yX7_find q_1_1 q_3_1 ok_X7_find rfl 34 rfl rfl ⟨Nat.le_of_ble_eq_true rfl, Nat.le_of_ble_eq_true rfl⟩ rfl rfl hl.1 rfl (Nat.le_of_ble_eq_true rfl) dX7_refuseItem_66 hP hS (fun H locs hP hS => ?_)
        exact t_X7_refuseItem_b69 X (va_up (va_up F 13 T_finding_14) 13 T_finding_66) r66 H locs ls hf (frm_up (frm_up hfF (by decide)) (by decide)) hP hS (lv_sub hl [1] rfl)
      · have hf := ie_s hf c57
        refine lv_iconst (v := 0) X.1 X.2.1 dX7_refuseItem_60 (by decide) ?_
        refine lv_goto (tgt := 69) X.1 X.2.1 dX7_refuseItem_61 (by decide) ?_
        exact t_X7_refuseItem_b69 X (va_up F 13 T_finding_14) 0 H locs ls hf (frm_up hfF (by decide)) hP hS (lv_sub hl [1] rfl)
    · have hf := ie_s hf c37
      refine lv_aload_n X.1 X.2.1 dX7_refuseItem_40 rfl (lv_at hl 1 rfl) ?_
      refine lv_iconst (v := 3) X.1 X.2.1 dX7_refuseItem_41 (by decide) ?_
      obtain ⟨r42, T_finding_42, ho, hf⟩ := b2_s hf
      refine call_vi (rest := []) X (c_X7_find (va_up F 13 T_finding_14) G I J Z X.2.2.2.2.2.2.2.1 3 ho) q_2_238 q_3_0 qs_yX7_find q_1_1 q_3_1 ok_X7_find rfl 34 rfl rfl ⟨Nat.le_of_ble_eq_true rfl, Nat.le_of_ble_eq_true rfl⟩ rfl rfl hl.1 rfl (Nat.le_of_ble_eq_true rfl) dX7_refuseItem_42 hP hS (fun H locs hP hS => ?_)
      obtain ⟨e0, hf⟩ := o2 hf
      have e1 := o1 hf
      have EF : Ff = (va_up (va_up F 13 T_finding_14) 13 T_finding_42) := frm_eq (frm_up (frm_up hfF (by decide)) (by decide)) (frm_c (e1).symm frm_n)
      exact ret_i X hS (by rw [EF]; exact hP) e0 dX7_refuseItem_45
  · have hf := ie_s hf c21
    refine lv_iload X.1 X.2.1 dX7_refuseItem_24 (lv_at hl 0 rfl) ?_
    obtain ⟨e0, hf⟩ := o2 hf
    have e1 := o1 hf
    have EF : Ff = (va_up F 13 T_finding_14) := frm_eq (frm_up hfF (by decide)) (frm_c (e1).symm frm_n)
    exact ret_i X hS (by rw [EF]; exact hP) e0 dX7_refuseItem_26
set_option maxHeartbeats 4000000 in
set_option maxRecDepth 100000 in
theorem t_X7_refuseItem_b0 {p : Program} {l : Launch} {e : Env} {s : State} {m : MethodId} {args : Array Value} {below : List Frame} {meth : Method} {c : Code} {D : va_G} {a : Nat → Nat} {kc : Nat → ClassId} (X : cx 44 p s m args meth c D (tyC kc) a cX7_refuseItem 5 RX7 (some .int)) {G : Nat → Int64} {I : Nat → Nat → Int32} {J : Nat → Nat → Int64} {Z : Nat → Nat → Nat → Int32} {Ff : Nat → Int32} {r : Int32} :
    ∀ (F : Nat → Int32) (x1 : Int32) (x2 : Int32) (x3 : Int32) (H : Heap) (locs : List Loc) (ls : Array Slot), p_X7_refuseItem_b0 (F 13) (I 16) (I 17) x1 x2 x3 = some (r, (Ff 13)) → (∀ k, k ∉ ([13] : List Nat) → Ff k = F k) → va_P D vwCl (wC a kc F G I J Z) H → va_S (ad a 44 s.heap.size) s.heap H locs → lv_has ls 5 [(0, .ref (a 34)), (1, .int x1), (2, .int x2), (3, .int x3)] → W p l e rm_X7_refuseItem s m args below meth c H locs 0 0 (MQ below (Qi D (wC a kc Ff G I J Z) r (ad a 44 s.heap.size)) args s 0 0 (ad a 44 s.heap.size)) (F0 m 0 ls []) := by
  intro F x1 x2 x3 H locs ls hf hfF hP hS hl
  unfold p_X7_refuseItem_b0 at hf
  refine lv_aload_n X.1 X.2.1 dX7_refuseItem_0 rfl (lv_at hl 0 rfl) ?_
  refine lv_iload_n X.1 X.2.1 dX7_refuseItem_1 rfl (lv_at hl 1 rfl) ?_
  refine lv_iload_n X.1 X.2.1 dX7_refuseItem_2 rfl (lv_at hl 2 rfl) ?_
  obtain ⟨r3, ho, hf⟩ := b1_s hf
  refine call_si (rest := [.int x1, .ref (a 34)]) X (c_X7_isNoForm x2 ho) q_4_13 q_4_14 q_1_1 q_4_15 ok_X7_isNoForm rfl ⟨Nat.le_of_ble_eq_true rfl, Nat.le_of_ble_eq_true rfl⟩ rfl rfl hl.1 rfl (Nat.le_of_ble_eq_true rfl) dX7_refuseItem_3 hP hS (fun H locs hP hS => ?_)
  refine lv_if_ne (tgt := 13) X.1 X.2.1 dX7_refuseItem_6 (by decide) (fun c6 => ?_) (fun c6 => ?_)
  · have hf := ie_s hf c6
    refine lv_iconst (v := 0) X.1 X.2.1 dX7_refuseItem_13 (by decide) ?_
    exact t_X7_refuseItem_b14 X F x1 0 x1 x2 x3 H locs ls hf hfF hP hS (lv_sub hl [0, 1, 2, 3] rfl)
  · have hf := it_s hf c6
    refine lv_iconst (v := 1) X.1 X.2.1 dX7_refuseItem_9 (by decide) ?_
    refine lv_goto (tgt := 14) X.1 X.2.1 dX7_refuseItem_10 (by decide) ?_
    exact t_X7_refuseItem_b14 X F x1 1 x1 x2 x3 H locs ls hf hfF hP hS (lv_sub hl [0, 1, 2, 3] rfl)
set_option maxRecDepth 100000 in
theorem c_X7_refuseItem {l : Launch} {D : va_G} {a : Nat → Nat} {kc : Nat → ClassId} (F : Nat → Int32) (G : Nat → Int64) (I : Nat → Nat → Int32) (J : Nat → Nat → Int64) (Z : Nat → Nat → Nat → Int32) (hAp : ∀ i j, i < 44 → j < 44 → a i = a j → i = j) (x1 : Int32) (x2 : Int32) (x3 : Int32) {o0 : Int32} {o1 : Int32} (hf : p_X7_refuseItem (F 13) (I 16) (I 17) x1 x2 x3 = some (o0, o1)) : Ct 44 l yX7_refuseItem cX7_refuseItem 5 (some .int) rm_X7_refuseItem D (tyC kc) a (wC a kc F G I J Z) [.ref (a 34), .int x1, .int x2, .int x3] (Qi D (wC a kc (va_up F 13 o1) G I J Z) o0) :=
  Ct.of (by decide +kernel) hAp (Nat.le_of_ble_eq_true rfl) (fun p e s m args below meth c ls X hP hl => t_X7_refuseItem_b0 X F x1 x2 x3 _ _ _ hf (frm_ul (fun k _ => rfl) (by decide)) hP va_S.rf hl)
abbrev rm_X7_lay : Room := { frames := 3, cells := 0, slots := 0, locals := 67 }
set_option maxHeartbeats 4000000 in
set_option maxRecDepth 100000 in
theorem t_X7_lay_b0 {p : Program} {l : Launch} {e : Env} {s : State} {m : MethodId} {args : Array Value} {below : List Frame} {meth : Method} {c : Code} {D : va_G} {a : Nat → Nat} {kc : Nat → ClassId} (X : cx 44 p s m args meth c D (tyC kc) a cX7_lay 6 RX7 (some .int)) {G : Nat → Int64} {I : Nat → Nat → Int32} {J : Nat → Nat → Int64} {Ff : Nat → Int32} {Zf : Nat → Nat → Nat → Int32} {r : Int32} :
    ∀ (F : Nat → Int32) (Z : Nat → Nat → Nat → Int32) (x1 : Int32) (x2 : Int32) (x3 : Int32) (x4 : Int32) (H : Heap) (locs : List Loc) (ls : Array Slot), p_X7_lay_b0 (F 13) (I 16) (I 17) (Z 1) x1 x2 x3 x4 = some (r, (Ff 13), (Zf 1)) → (∀ k, k ∉ ([13] : List Nat) → Ff k = F k) → (∀ k, k ∉ ([1] : List Nat) → Zf k = Z k) → va_P D vwCl (wC a kc F G I J Z) H → va_S (ad a 44 s.heap.size) s.heap H locs → lv_has ls 6 [(0, .ref (a 34)), (1, .int x1), (2, .int x2), (3, .int x3), (4, .int x4)] → W p l e rm_X7_lay s m args below meth c H locs 0 0 (MQ below (Qi D (wC a kc Ff G I J Zf) r (ad a 44 s.heap.size)) args s 0 0 (ad a 44 s.heap.size)) (F0 m 0 ls []) := by
  intro F Z x1 x2 x3 x4 H locs ls hf hfF hfZ hP hS hl
  unfold p_X7_lay_b0 at hf
  refine lv_aload_n X.1 X.2.1 dX7_lay_0 rfl (lv_at hl 0 rfl) ?_
  refine lv_iload_n X.1 X.2.1 dX7_lay_1 rfl (lv_at hl 1 rfl) ?_
  refine lv_iload_n X.1 X.2.1 dX7_lay_2 rfl (lv_at hl 2 rfl) ?_
  refine lv_iload_n X.1 X.2.1 dX7_lay_3 rfl (lv_at hl 3 rfl) ?_
  obtain ⟨r4, T_finding_4, ho, hf⟩ := b2_s hf
  refine call_vi (rest := []) X (c_X7_refuseItem F G I J Z X.2.2.2.2.2.2.2.1 x1 x2 x3 ho) q_4_29 q_4_31 qs_yX7_refuseItem q_1_1 q_4_32 ok_X7_refuseItem rfl 34 rfl rfl ⟨Nat.le_of_ble_eq_true rfl, Nat.le_of_ble_eq_true rfl⟩ rfl rfl hl.1 rfl (Nat.le_of_ble_eq_true rfl) dX7_lay_4 hP hS (fun H locs hP hS => ?_)
  refine lv_istore (lv' := [(5, .int r4), (0, .ref (a 34)), (1, .int x1), (2, .int x2), (3, .int x3), (4, .int x4)]) X.1 X.2.1 dX7_lay_7 hl (by decide) rfl (fun ls hl => ?_)
  refine lv_iload X.1 X.2.1 dX7_lay_9 (lv_at hl 0 rfl) ?_
  refine lv_if_eq (tgt := 17) X.1 X.2.1 dX7_lay_11 (by decide) (fun c11 => ?_) (fun c11 => ?_)
  · have hf := it_s hf c11
    refine lv_aload_n X.1 X.2.1 dX7_lay_17 rfl (lv_at hl 1 rfl) ?_
    refine gC_34_6 X q_2_70 dX7_lay_18 hP ?_
    refine lv_iload_n X.1 X.2.1 dX7_lay_21 rfl (lv_at hl 2 rfl) ?_
    obtain ⟨h22, hf⟩ := gd_s hf
    refine alC_35 X h22 dX7_lay_22 hP ?_
    refine lv_iload_n X.1 X.2.1 dX7_lay_23 rfl (lv_at hl 4 rfl) ?_
    refine lv_iload X.1 X.2.1 dX7_lay_24 (lv_at hl 5 rfl) ?_
    obtain ⟨h26, hf⟩ := gd_s hf
    obtain ⟨S_items_26, ho, hf⟩ := b1_s hf
    refine call_vv (rest := []) X (c_X5_put (va_up F 13 T_finding_4) G I J Z X.2.2.2.2.2.2.2.1 x1.toNatClampNeg x3 x4 ho) q_4_37 q_4_38 q_4_39 q_1_9 q_4_40 ok_X5_put rfl (36 + x1.toNatClampNeg) (atC_36 (of_decide_eq_true h26)) rfl ⟨Nat.le_of_ble_eq_true rfl, Nat.le_of_ble_eq_true rfl⟩ rfl rfl hl.1 rfl (Nat.le_of_ble_eq_true rfl) dX7_lay_26 hP hS (fun H locs hP hS => ?_)
    refine lv_iconst (v := 1) X.1 X.2.1 dX7_lay_29 (by decide) ?_
    obtain ⟨e0, hf⟩ := o2 hf
    obtain ⟨e1, hf⟩ := o2 hf
    have e2 := o1 hf
    have EF : Ff = (va_up F 13 T_finding_4) := frm_eq (frm_up hfF (by decide)) (frm_c (e1).symm frm_n)
    have EZ : Zf = (va_up Z 1 S_items_26) := frm_eq (frm_up hfZ (by decide)) (frm_c (e2).symm frm_n)
    exact ret_i X hS (by rw [EF, EZ]; exact hP) e0 dX7_lay_30
  · have hf := ie_s hf c11
    refine lv_iload X.1 X.2.1 dX7_lay_14 (lv_at hl 0 rfl) ?_
    obtain ⟨e0, hf⟩ := o2 hf
    obtain ⟨e1, hf⟩ := o2 hf
    have e2 := o1 hf
    have EF : Ff = (va_up F 13 T_finding_4) := frm_eq (frm_up hfF (by decide)) (frm_c (e1).symm frm_n)
    have EZ : Zf = Z := frm_eq hfZ (frm_c (e2).symm frm_n)
    exact ret_i X hS (by rw [EF, EZ]; exact hP) e0 dX7_lay_16
set_option maxRecDepth 100000 in
theorem c_X7_lay {l : Launch} {D : va_G} {a : Nat → Nat} {kc : Nat → ClassId} (F : Nat → Int32) (G : Nat → Int64) (I : Nat → Nat → Int32) (J : Nat → Nat → Int64) (Z : Nat → Nat → Nat → Int32) (hAp : ∀ i j, i < 44 → j < 44 → a i = a j → i = j) (x1 : Int32) (x2 : Int32) (x3 : Int32) (x4 : Int32) {o0 : Int32} {o1 : Int32} {o2 : Nat → Nat → Int32} (hf : p_X7_lay (F 13) (I 16) (I 17) (Z 1) x1 x2 x3 x4 = some (o0, o1, o2)) : Ct 44 l yX7_lay cX7_lay 6 (some .int) rm_X7_lay D (tyC kc) a (wC a kc F G I J Z) [.ref (a 34), .int x1, .int x2, .int x3, .int x4] (Qi D (wC a kc (va_up F 13 o1) G I J (va_up Z 1 o2)) o0) :=
  Ct.of (by decide +kernel) hAp (Nat.le_of_ble_eq_true rfl) (fun p e s m args below meth c ls X hP hl => t_X7_lay_b0 X F Z x1 x2 x3 x4 _ _ _ hf (frm_ul (fun k _ => rfl) (by decide)) (frm_ul (fun k _ => rfl) (by decide)) hP va_S.rf hl)
abbrev rm_X7_get : Room := { frames := 3, cells := 0, slots := 0, locals := 67 }
set_option maxHeartbeats 4000000 in
set_option maxRecDepth 100000 in
theorem t_X7_get_b27 {p : Program} {l : Launch} {e : Env} {s : State} {m : MethodId} {args : Array Value} {below : List Frame} {meth : Method} {c : Code} {D : va_G} {a : Nat → Nat} {kc : Nat → ClassId} (X : cx 44 p s m args meth c D (tyC kc) a cX7_get 4 RX7 (some .int)) {G : Nat → Int64} {I : Nat → Nat → Int32} {J : Nat → Nat → Int64} {Z : Nat → Nat → Nat → Int32} {Ff : Nat → Int32} {r : Int32} :
    ∀ (F : Nat → Int32) (t0 : Int32) (H : Heap) (locs : List Loc) (ls : Array Slot), p_X7_get_b27 (F 13) (I 16) (I 17) (Z 1) t0 = some (r, (Ff 13)) → (∀ k, k ∉ ([13] : List Nat) → Ff k = F k) → va_P D vwCl (wC a kc F G I J Z) H → va_S (ad a 44 s.heap.size) s.heap H locs → lv_has ls 4 [(0, .ref (a 34))] → W p l e rm_X7_get s m args below meth c H locs 0 0 (MQ below (Qi D (wC a kc Ff G I J Z) r (ad a 44 s.heap.size)) args s 0 0 (ad a 44 s.heap.size)) (F0 m 27 ls [.int t0]) := by
  intro F t0 H locs ls hf hfF hP hS hl
  unfold p_X7_get_b27 at hf
  obtain ⟨e0, hf⟩ := o2 hf
  have e1 := o1 hf
  have EF : Ff = F := frm_eq hfF (frm_c (e1).symm frm_n)
  exact ret_i X hS (by rw [EF]; exact hP) e0 dX7_get_27
set_option maxHeartbeats 4000000 in
set_option maxRecDepth 100000 in
theorem t_X7_get_b0 {p : Program} {l : Launch} {e : Env} {s : State} {m : MethodId} {args : Array Value} {below : List Frame} {meth : Method} {c : Code} {D : va_G} {a : Nat → Nat} {kc : Nat → ClassId} (X : cx 44 p s m args meth c D (tyC kc) a cX7_get 4 RX7 (some .int)) {G : Nat → Int64} {I : Nat → Nat → Int32} {J : Nat → Nat → Int64} {Z : Nat → Nat → Nat → Int32} {Ff : Nat → Int32} {r : Int32} :
    ∀ (F : Nat → Int32) (x1 : Int32) (x2 : Int32) (x3 : Int32) (H : Heap) (locs : List Loc) (ls : Array Slot), p_X7_get_b0 (F 13) (I 16) (I 17) (Z 1) x1 x2 x3 = some (r, (Ff 13)) → (∀ k, k ∉ ([13] : List Nat) → Ff k = F k) → va_P D vwCl (wC a kc F G I J Z) H → va_S (ad a 44 s.heap.size) s.heap H locs → lv_has ls 4 [(0, .ref (a 34)), (1, .int x1), (2, .int x2), (3, .int x3)] → W p l e rm_X7_get s m args below meth c H locs 0 0 (MQ below (Qi D (wC a kc Ff G I J Z) r (ad a 44 s.heap.size)) args s 0 0 (ad a 44 s.heap.size)) (F0 m 0 ls []) := by
  intro F x1 x2 x3 H locs ls hf hfF hP hS hl
  unfold p_X7_get_b0 at hf
  refine lv_aload_n X.1 X.2.1 dX7_get_0 rfl (lv_at hl 0 rfl) ?_
  refine lv_iload_n X.1 X.2.1 dX7_get_1 rfl (lv_at hl 1 rfl) ?_
  refine lv_iload_n X.1 X.2.1 dX7_get_2 rfl (lv_at hl 2 rfl) ?_
  refine lv_iload_n X.1 X.2.1 dX7_get_3 rfl (lv_at hl 3 rfl) ?_
  obtain ⟨r4, T_finding_4, ho, hf⟩ := b2_s hf
  refine call_vi (rest := []) X (c_X7_refuseItem F G I J Z X.2.2.2.2.2.2.2.1 x1 x2 x3 ho) q_4_29 q_4_31 qs_yX7_refuseItem q_1_1 q_4_32 ok_X7_refuseItem rfl 34 rfl rfl ⟨Nat.le_of_ble_eq_true rfl, Nat.le_of_ble_eq_true rfl⟩ rfl rfl hl.1 rfl (Nat.le_of_ble_eq_true rfl) dX7_get_4 hP hS (fun H locs hP hS => ?_)
  refine lv_if_eq (tgt := 16) X.1 X.2.1 dX7_get_7 (by decide) (fun c7 => ?_) (fun c7 => ?_)
  · have hf := it_s hf c7
    refine lv_aload_n X.1 X.2.1 dX7_get_16 rfl (lv_at hl 0 rfl) ?_
    refine gC_34_6 X q_2_70 dX7_get_17 hP ?_
    refine lv_iload_n X.1 X.2.1 dX7_get_20 rfl (lv_at hl 1 rfl) ?_
    obtain ⟨h21, hf⟩ := gd_s hf
    refine alC_35 X h21 dX7_get_21 hP ?_
    obtain ⟨h22, hf⟩ := gd_s hf
    refine gC_sh_0 X (of_decide_eq_true h22) q_2_52 dX7_get_22 hP ?_
    refine lv_iload_n X.1 X.2.1 dX7_get_25 rfl (lv_at hl 3 rfl) ?_
    obtain ⟨h26s, hf⟩ := gd_s hf
    obtain ⟨h26, hf⟩ := gd_s hf
    refine ldC_40 (Z := Z) X (of_decide_eq_true h26s) (f := (Z 1)) rfl h26 dX7_get_26 hP ?_
    exact t_X7_get_b27 X (va_up F 13 T_finding_4) ((Z 1) x1.toNatClampNeg x3.toNatClampNeg) H locs ls hf (frm_up hfF (by decide)) hP hS (lv_sub hl [0] rfl)
  · have hf := ie_s hf c7
    refine lv_ldcw (v := (-2147483648)) X.1 X.2.1 X.2.2.2.2.1 (X.2.2.2.2.2.1 _ q_4_45) dX7_get_10 ?_
    refine lv_goto (tgt := 27) X.1 X.2.1 dX7_get_13 (by decide) ?_
    exact t_X7_get_b27 X (va_up F 13 T_finding_4) (-2147483648) H locs ls hf (frm_up hfF (by decide)) hP hS (lv_sub hl [0] rfl)
set_option maxRecDepth 100000 in
theorem c_X7_get {l : Launch} {D : va_G} {a : Nat → Nat} {kc : Nat → ClassId} (F : Nat → Int32) (G : Nat → Int64) (I : Nat → Nat → Int32) (J : Nat → Nat → Int64) (Z : Nat → Nat → Nat → Int32) (hAp : ∀ i j, i < 44 → j < 44 → a i = a j → i = j) (x1 : Int32) (x2 : Int32) (x3 : Int32) {o0 : Int32} {o1 : Int32} (hf : p_X7_get (F 13) (I 16) (I 17) (Z 1) x1 x2 x3 = some (o0, o1)) : Ct 44 l yX7_get cX7_get 4 (some .int) rm_X7_get D (tyC kc) a (wC a kc F G I J Z) [.ref (a 34), .int x1, .int x2, .int x3] (Qi D (wC a kc (va_up F 13 o1) G I J Z) o0) :=
  Ct.of (by decide +kernel) hAp (Nat.le_of_ble_eq_true rfl) (fun p e s m args below meth c ls X hP hl => t_X7_get_b0 X F x1 x2 x3 _ _ _ hf (frm_ul (fun k _ => rfl) (by decide)) hP va_S.rf hl)
abbrev rm_X7_copy : Room := { frames := 1, cells := 0, slots := 0, locals := 60 }
set_option maxHeartbeats 4000000 in
set_option maxRecDepth 100000 in
theorem t_X7_copy_b14 {p : Program} {l : Launch} {e : Env} {s : State} {m : MethodId} {args : Array Value} {below : List Frame} {meth : Method} {c : Code} {D : va_G} {a : Nat → Nat} {kc : Nat → ClassId} (X : cx 44 p s m args meth c D (tyC kc) a cX7_copy 8 RX7 (some .int)) {G : Nat → Int64} {I : Nat → Nat → Int32} {J : Nat → Nat → Int64} {Ff : Nat → Int32} {Zf : Nat → Nat → Nat → Int32} {r : Int32} :
    ∀ (F : Nat → Int32) (Z : Nat → Nat → Nat → Int32)  (H : Heap) (locs : List Loc) (ls : Array Slot), p_X7_copy_b14 (F 13) (I 16) (I 17) (Z 1)  = some (r, (Ff 13), (Zf 1)) → (∀ k, k ∉ ([13] : List Nat) → Ff k = F k) → (∀ k, k ∉ ([1] : List Nat) → Zf k = Z k) → va_P D vwCl (wC a kc F G I J Z) H → va_S (ad a 44 s.heap.size) s.heap H locs → lv_has ls 8 [(0, .ref (a 34))] → W p l e rm_X7_copy s m args below meth c H locs 0 0 (MQ below (Qi D (wC a kc Ff G I J Zf) r (ad a 44 s.heap.size)) args s 0 0 (ad a 44 s.heap.size)) (F0 m 14 ls []) := by
  intro F Z  H locs ls hf hfF hfZ hP hS hl
  unfold p_X7_copy_b14 at hf
  refine lv_bipush (v := (-2)) X.1 X.2.1 dX7_copy_14 (by decide) ?_
  obtain ⟨e0, hf⟩ := o2 hf
  obtain ⟨e1, hf⟩ := o2 hf
  have e2 := o1 hf
  have EF : Ff = F := frm_eq hfF (frm_c (e1).symm frm_n)
  have EZ : Zf = Z := frm_eq hfZ (frm_c (e2).symm frm_n)
  exact ret_i X hS (by rw [EF, EZ]; exact hP) e0 dX7_copy_16
set_option maxHeartbeats 4000000 in
set_option maxRecDepth 100000 in
theorem t_X7_copy_b51 {p : Program} {l : Launch} {e : Env} {s : State} {m : MethodId} {args : Array Value} {below : List Frame} {meth : Method} {c : Code} {D : va_G} {a : Nat → Nat} {kc : Nat → ClassId} (X : cx 44 p s m args meth c D (tyC kc) a cX7_copy 8 RX7 (some .int)) {G : Nat → Int64} {I : Nat → Nat → Int32} {J : Nat → Nat → Int64} {Ff : Nat → Int32} {Zf : Nat → Nat → Nat → Int32} {r : Int32} :
    ∀ (F : Nat → Int32) (Z : Nat → Nat → Nat → Int32)  (H : Heap) (locs : List Loc) (ls : Array Slot), p_X7_copy_b51 (F 13) (I 16) (I 17) (Z 1)  = some (r, (Ff 13), (Zf 1)) → (∀ k, k ∉ ([13] : List Nat) → Ff k = F k) → (∀ k, k ∉ ([1] : List Nat) → Zf k = Z k) → va_P D vwCl (wC a kc F G I J Z) H → va_S (ad a 44 s.heap.size) s.heap H locs → lv_has ls 8 [(0, .ref (a 34))] → W p l e rm_X7_copy s m args below meth c H locs 0 0 (MQ below (Qi D (wC a kc Ff G I J Zf) r (ad a 44 s.heap.size)) args s 0 0 (ad a 44 s.heap.size)) (F0 m 51 ls []) := by
  intro F Z  H locs ls hf hfF hfZ hP hS hl
  unfold p_X7_copy_b51 at hf
  refine lv_aload_n X.1 X.2.1 dX7_copy_51 rfl (lv_at hl 0 rfl) ?_
  refine lv_iconst (v := 1) X.1 X.2.1 dX7_copy_52 (by decide) ?_
  obtain ⟨r53, T_finding_53, ho, hf⟩ := b2_s hf
  refine call_vi (rest := []) X (c_X7_find F G I J Z X.2.2.2.2.2.2.2.1 1 ho) q_2_238 q_3_0 qs_yX7_find q_1_1 q_3_1 ok_X7_find rfl 34 rfl rfl ⟨Nat.le_of_ble_eq_true rfl, Nat.le_of_ble_eq_true rfl⟩ rfl rfl hl.1 rfl (Nat.le_of_ble_eq_true rfl) dX7_copy_53 hP hS (fun H locs hP hS => ?_)
  obtain ⟨e0, hf⟩ := o2 hf
  obtain ⟨e1, hf⟩ := o2 hf
  have e2 := o1 hf
  have EF : Ff = (va_up F 13 T_finding_53) := frm_eq (frm_up hfF (by decide)) (frm_c (e1).symm frm_n)
  have EZ : Zf = Z := frm_eq hfZ (frm_c (e2).symm frm_n)
  exact ret_i X hS (by rw [EF, EZ]; exact hP) e0 dX7_copy_56
set_option maxHeartbeats 4000000 in
set_option maxRecDepth 100000 in
theorem t_X7_copy_b99 {p : Program} {l : Launch} {e : Env} {s : State} {m : MethodId} {args : Array Value} {below : List Frame} {meth : Method} {c : Code} {D : va_G} {a : Nat → Nat} {kc : Nat → ClassId} (X : cx 44 p s m args meth c D (tyC kc) a cX7_copy 8 RX7 (some .int)) {G : Nat → Int64} {I : Nat → Nat → Int32} {J : Nat → Nat → Int64} {Ff : Nat → Int32} {Zf : Nat → Nat → Nat → Int32} {r : Int32} :
    ∀ (F : Nat → Int32) (Z : Nat → Nat → Nat → Int32)  (H : Heap) (locs : List Loc) (ls : Array Slot), p_X7_copy_b99 (F 13) (I 16) (I 17) (Z 1)  = some (r, (Ff 13), (Zf 1)) → (∀ k, k ∉ ([13] : List Nat) → Ff k = F k) → (∀ k, k ∉ ([1] : List Nat) → Zf k = Z k) → va_P D vwCl (wC a kc F G I J Z) H → va_S (ad a 44 s.heap.size) s.heap H locs → lv_has ls 8 [(0, .ref (a 34))] → W p l e rm_X7_copy s m args below meth c H locs 0 0 (MQ below (Qi D (wC a kc Ff G I J Zf) r (ad a 44 s.heap.size)) args s 0 0 (ad a 44 s.heap.size)) (F0 m 99 ls []) := by
  intro F Z  H locs ls hf hfF hfZ hP hS hl
  unfold p_X7_copy_b99 at hf
  refine lv_aload_n X.1 X.2.1 dX7_copy_99 rfl (lv_at hl 0 rfl) ?_
  refine lv_iconst (v := 2) X.1 X.2.1 dX7_copy_100 (by decide) ?_
  obtain ⟨r101, T_finding_101, ho, hf⟩ := b2_s hf
  refine call_vi (rest := []) X (c_X7_find F G I J Z X.2.2.2.2.2.2.2.1 2 ho) q_2_238 q_3_0 qs_yX7_find q_1_1 q_3_1 ok_X7_find rfl 34 rfl rfl ⟨Nat.le_of_ble_eq_true rfl, Nat.le_of_ble_eq_true rfl⟩ rfl rfl hl.1 rfl (Nat.le_of_ble_eq_true rfl) dX7_copy_101 hP hS (fun H locs hP hS => ?_)
  obtain ⟨e0, hf⟩ := o2 hf
  obtain ⟨e1, hf⟩ := o2 hf
  have e2 := o1 hf
  have EF : Ff = (va_up F 13 T_finding_101) := frm_eq (frm_up hfF (by decide)) (frm_c (e1).symm frm_n)
  have EZ : Zf = Z := frm_eq hfZ (frm_c (e2).symm frm_n)
  exact ret_i X hS (by rw [EF, EZ]; exact hP) e0 dX7_copy_104
set_option maxHeartbeats 4000000 in
set_option maxRecDepth 100000 in
theorem t_X7_copy_b0 {p : Program} {l : Launch} {e : Env} {s : State} {m : MethodId} {args : Array Value} {below : List Frame} {meth : Method} {c : Code} {D : va_G} {a : Nat → Nat} {kc : Nat → ClassId} (X : cx 44 p s m args meth c D (tyC kc) a cX7_copy 8 RX7 (some .int)) {G : Nat → Int64} {I : Nat → Nat → Int32} {J : Nat → Nat → Int64} {Ff : Nat → Int32} {Zf : Nat → Nat → Nat → Int32} {r : Int32} :
    ∀ (F : Nat → Int32) (Z : Nat → Nat → Nat → Int32) (x1 : Int32) (x2 : Int32) (x3 : Int32) (x4 : Int32) (x5 : Int32) (H : Heap) (locs : List Loc) (ls : Array Slot), p_X7_copy_b0 (F 13) (I 16) (I 17) (Z 1) x1 x2 x3 x4 x5 = some (r, (Ff 13), (Zf 1)) → (∀ k, k ∉ ([13] : List Nat) → Ff k = F k) → (∀ k, k ∉ ([1] : List Nat) → Zf k = Z k) → va_P D vwCl (wC a kc F G I J Z) H → va_S (ad a 44 s.heap.size) s.heap H locs → lv_has ls 8 [(0, .ref (a 34)), (1, .int x1), (2, .int x2), (3, .int x3), (4, .int x4), (5, .int x5)] → W p l e rm_X7_copy s m args below meth c H locs 0 0 (MQ below (Qi D (wC a kc Ff G I J Zf) r (ad a 44 s.heap.size)) args s 0 0 (ad a 44 s.heap.size)) (F0 m 0 ls []) := by
  intro F Z x1 x2 x3 x4 x5 H locs ls hf hfF hfZ hP hS hl
  unfold p_X7_copy_b0 at hf
  refine lv_iload_n X.1 X.2.1 dX7_copy_0 rfl (lv_at hl 1 rfl) ?_
  obtain ⟨r1, ho, hf⟩ := b1_s hf
  refine call_si (rest := []) X (c_X7_isNoSheet x1 ho) q_2_235 q_2_236 q_1_1 q_2_237 ok_X7_isNoSheet rfl ⟨Nat.le_of_ble_eq_true rfl, Nat.le_of_ble_eq_true rfl⟩ rfl rfl hl.1 rfl (Nat.le_of_ble_eq_true rfl) dX7_copy_1 hP hS (fun H locs hP hS => ?_)
  refine lv_if_ne (tgt := 14) X.1 X.2.1 dX7_copy_4 (by decide) (fun c4 => ?_) (fun c4 => ?_)
  · have hf := ie_s hf c4
    exact t_X7_copy_b14 X F Z  H locs ls hf hfF hfZ hP hS (lv_sub hl [0] rfl)
  · have hf := it_s hf c4
    refine lv_iload_n X.1 X.2.1 dX7_copy_7 rfl (lv_at hl 3 rfl) ?_
    obtain ⟨r8, ho, hf⟩ := b1_s hf
    refine call_si (rest := []) X (c_X7_isNoSheet x3 ho) q_2_235 q_2_236 q_1_1 q_2_237 ok_X7_isNoSheet rfl ⟨Nat.le_of_ble_eq_true rfl, Nat.le_of_ble_eq_true rfl⟩ rfl rfl hl.1 rfl (Nat.le_of_ble_eq_true rfl) dX7_copy_8 hP hS (fun H locs hP hS => ?_)
    refine lv_if_eq (tgt := 17) X.1 X.2.1 dX7_copy_11 (by decide) (fun c11 => ?_) (fun c11 => ?_)
    · have hf := it_s hf c11
      refine lv_aload_n X.1 X.2.1 dX7_copy_17 rfl (lv_at hl 0 rfl) ?_
      refine gC_34_6 X q_2_70 dX7_copy_18 hP ?_
      refine lv_iload_n X.1 X.2.1 dX7_copy_21 rfl (lv_at hl 1 rfl) ?_
      obtain ⟨h22, hf⟩ := gd_s hf
      refine alC_35 X h22 dX7_copy_22 hP ?_
      refine lv_astore (lv' := [(6, .ref (a (36 + x1.toNatClampNeg))), (0, .ref (a 34)), (1, .int x1), (2, .int x2), (3, .int x3), (4, .int x4), (5, .int x5)]) X.1 X.2.1 dX7_copy_23 hl (by decide) rfl (fun ls hl => ?_)
      refine lv_aload_n X.1 X.2.1 dX7_copy_25 rfl (lv_at hl 1 rfl) ?_
      refine gC_34_6 X q_2_70 dX7_copy_26 hP ?_
      refine lv_iload_n X.1 X.2.1 dX7_copy_29 rfl (lv_at hl 4 rfl) ?_
      obtain ⟨h30, hf⟩ := gd_s hf
      refine alC_35 X h30 dX7_copy_30 hP ?_
      refine lv_astore (lv' := [(7, .ref (a (36 + x3.toNatClampNeg))), (6, .ref (a (36 + x1.toNatClampNeg))), (0, .ref (a 34)), (1, .int x1), (2, .int x2), (3, .int x3), (4, .int x4), (5, .int x5)]) X.1 X.2.1 dX7_copy_31 hl (by decide) rfl (fun ls hl => ?_)
      refine lv_aload X.1 X.2.1 dX7_copy_33 (lv_at hl 1 rfl) ?_
      obtain ⟨h35, hf⟩ := gd_s hf
      refine gC_sh_2 (I := I) X (of_decide_eq_true h35) (f := (I 17)) rfl q_2_56 dX7_copy_35 hP ?_
      refine lv_iconst (v := (-1)) X.1 X.2.1 dX7_copy_38 (by decide) ?_
      refine lv_icmp_eq (tgt := 51) X.1 X.2.1 dX7_copy_39 (by decide) (fun c39 => ?_) (fun c39 => ?_)
      · have hf := it_s hf c39
        exact t_X7_copy_b51 X F Z  H locs ls hf hfF hfZ hP hS (lv_sub hl [2] rfl)
      · have hf := ie_s hf c39
        refine lv_aload X.1 X.2.1 dX7_copy_42 (lv_at hl 0 rfl) ?_
        obtain ⟨h44, hf⟩ := gd_s hf
        refine gC_sh_2 (I := I) X (of_decide_eq_true h44) (f := (I 17)) rfl q_2_56 dX7_copy_44 hP ?_
        refine lv_iconst (v := (-1)) X.1 X.2.1 dX7_copy_47 (by decide) ?_
        refine lv_icmp_ne (tgt := 57) X.1 X.2.1 dX7_copy_48 (by decide) (fun c48 => ?_) (fun c48 => ?_)
        · have hf := ie_s hf c48
          refine lv_aload X.1 X.2.1 dX7_copy_57 (lv_at hl 1 rfl) ?_
          obtain ⟨h59, hf⟩ := gd_s hf
          refine gC_sh_1 (I := I) X (of_decide_eq_true h59) (f := (I 16)) rfl q_2_54 dX7_copy_59 hP ?_
          refine lv_aload X.1 X.2.1 dX7_copy_62 (lv_at hl 0 rfl) ?_
          obtain ⟨h64, hf⟩ := gd_s hf
          refine gC_sh_1 (I := I) X (of_decide_eq_true h64) (f := (I 16)) rfl q_2_54 dX7_copy_64 hP ?_
          refine lv_icmp_eq (tgt := 76) X.1 X.2.1 dX7_copy_67 (by decide) (fun c67 => ?_) (fun c67 => ?_)
          · have hf := it_s hf c67
            refine lv_aload X.1 X.2.1 dX7_copy_76 (lv_at hl 1 rfl) ?_
            refine lv_iload_n X.1 X.2.1 dX7_copy_78 rfl (lv_at hl 4 rfl) ?_
            refine lv_iload X.1 X.2.1 dX7_copy_79 (lv_at hl 7 rfl) ?_
            obtain ⟨h81, hf⟩ := gd_s hf
            obtain ⟨r81, ho, hf⟩ := b1_s hf
            refine call_vi (rest := []) X (c_X5_holds F G I J Z X.2.2.2.2.2.2.2.1 x1.toNatClampNeg x2 x5 ho) q_4_33 q_4_34 q_4_35 q_1_9 q_4_36 ok_X5_holds rfl (36 + x1.toNatClampNeg) (atC_36 (of_decide_eq_true h81)) rfl ⟨Nat.le_of_ble_eq_true rfl, Nat.le_of_ble_eq_true rfl⟩ rfl rfl hl.1 rfl (Nat.le_of_ble_eq_true rfl) dX7_copy_81 hP hS (fun H locs hP hS => ?_)
            refine lv_if_eq (tgt := 99) X.1 X.2.1 dX7_copy_84 (by decide) (fun c84 => ?_) (fun c84 => ?_)
            · have hf := it_s hf c84
              exact t_X7_copy_b99 X F Z  H locs ls hf hfF hfZ hP hS (lv_sub hl [2] rfl)
            · have hf := ie_s hf c84
              refine lv_aload X.1 X.2.1 dX7_copy_87 (lv_at hl 0 rfl) ?_
              refine lv_iload X.1 X.2.1 dX7_copy_89 (lv_at hl 6 rfl) ?_
              refine lv_iload X.1 X.2.1 dX7_copy_91 (lv_at hl 7 rfl) ?_
              obtain ⟨h93, hf⟩ := gd_s hf
              obtain ⟨r93, ho, hf⟩ := b1_s hf
              refine call_vi (rest := []) X (c_X5_holds F G I J Z X.2.2.2.2.2.2.2.1 x3.toNatClampNeg x4 x5 ho) q_4_33 q_4_34 q_4_35 q_1_9 q_4_36 ok_X5_holds rfl (36 + x3.toNatClampNeg) (atC_36 (of_decide_eq_true h93)) rfl ⟨Nat.le_of_ble_eq_true rfl, Nat.le_of_ble_eq_true rfl⟩ rfl rfl hl.1 rfl (Nat.le_of_ble_eq_true rfl) dX7_copy_93 hP hS (fun H locs hP hS => ?_)
              refine lv_if_ne (tgt := 105) X.1 X.2.1 dX7_copy_96 (by decide) (fun c96 => ?_) (fun c96 => ?_)
              · have hf := ie_s hf c96
                refine lv_aload X.1 X.2.1 dX7_copy_105 (lv_at hl 1 rfl) ?_
                obtain ⟨h107, hf⟩ := gd_s hf
                refine gC_sh_0 X (of_decide_eq_true h107) q_2_52 dX7_copy_107 hP ?_
                refine lv_iload_n X.1 X.2.1 dX7_copy_110 rfl (lv_at hl 4 rfl) ?_
                refine lv_aload X.1 X.2.1 dX7_copy_111 (lv_at hl 0 rfl) ?_
                obtain ⟨h113, hf⟩ := gd_s hf
                refine gC_sh_0 X (of_decide_eq_true h113) q_2_52 dX7_copy_113 hP ?_
                refine lv_iload X.1 X.2.1 dX7_copy_116 (lv_at hl 6 rfl) ?_
                refine lv_iload X.1 X.2.1 dX7_copy_118 (lv_at hl 7 rfl) ?_
                obtain ⟨h120s0, hf⟩ := gd_s hf
                obtain ⟨h120s1, hf⟩ := gd_s hf
                obtain ⟨h120, hf⟩ := gd_s hf
                obtain ⟨S_items_120, eS_items_120, hf⟩ := nm_x hf
                refine cpC_40_40 (Z := Z) X (of_decide_eq_true h120s0) (of_decide_eq_true h120s1) h120 eS_items_120 q_4_50 hl.1 (Nat.le_of_ble_eq_true rfl) (Nat.le_of_ble_eq_true rfl) dX7_copy_120 hP hS (fun H locs hP hS => ?_)
                refine lv_iconst (v := 1) X.1 X.2.1 dX7_copy_123 (by decide) ?_
                obtain ⟨e0, hf⟩ := o2 hf
                obtain ⟨e1, hf⟩ := o2 hf
                have e2 := o1 hf
                have EF : Ff = F := frm_eq hfF (frm_c (e1).symm frm_n)
                have EZ : Zf = (va_up Z 1 S_items_120) := frm_eq (frm_up hfZ (by decide)) (frm_c (e2).symm frm_n)
                exact ret_i X hS (by rw [EF, EZ]; exact hP) e0 dX7_copy_124
              · have hf := it_s hf c96
                exact t_X7_copy_b99 X F Z  H locs ls hf hfF hfZ hP hS (lv_sub hl [2] rfl)
          · have hf := ie_s hf c67
            refine lv_aload_n X.1 X.2.1 dX7_copy_70 rfl (lv_at hl 2 rfl) ?_
            refine lv_iconst (v := 4) X.1 X.2.1 dX7_copy_71 (by decide) ?_
            obtain ⟨r72, T_finding_72, ho, hf⟩ := b2_s hf
            refine call_vi (rest := []) X (c_X7_find F G I J Z X.2.2.2.2.2.2.2.1 4 ho) q_2_238 q_3_0 qs_yX7_find q_1_1 q_3_1 ok_X7_find rfl 34 rfl rfl ⟨Nat.le_of_ble_eq_true rfl, Nat.le_of_ble_eq_true rfl⟩ rfl rfl hl.1 rfl (Nat.le_of_ble_eq_true rfl) dX7_copy_72 hP hS (fun H locs hP hS => ?_)
            obtain ⟨e0, hf⟩ := o2 hf
            obtain ⟨e1, hf⟩ := o2 hf
            have e2 := o1 hf
            have EF : Ff = (va_up F 13 T_finding_72) := frm_eq (frm_up hfF (by decide)) (frm_c (e1).symm frm_n)
            have EZ : Zf = Z := frm_eq hfZ (frm_c (e2).symm frm_n)
            exact ret_i X hS (by rw [EF, EZ]; exact hP) e0 dX7_copy_75
        · have hf := it_s hf c48
          exact t_X7_copy_b51 X F Z  H locs ls hf hfF hfZ hP hS (lv_sub hl [2] rfl)
    · have hf := ie_s hf c11
      exact t_X7_copy_b14 X F Z  H locs ls hf hfF hfZ hP hS (lv_sub hl [0] rfl)
set_option maxRecDepth 100000 in
theorem c_X7_copy {l : Launch} {D : va_G} {a : Nat → Nat} {kc : Nat → ClassId} (F : Nat → Int32) (G : Nat → Int64) (I : Nat → Nat → Int32) (J : Nat → Nat → Int64) (Z : Nat → Nat → Nat → Int32) (hAp : ∀ i j, i < 44 → j < 44 → a i = a j → i = j) (x1 : Int32) (x2 : Int32) (x3 : Int32) (x4 : Int32) (x5 : Int32) {o0 : Int32} {o1 : Int32} {o2 : Nat → Nat → Int32} (hf : p_X7_copy (F 13) (I 16) (I 17) (Z 1) x1 x2 x3 x4 x5 = some (o0, o1, o2)) : Ct 44 l yX7_copy cX7_copy 8 (some .int) rm_X7_copy D (tyC kc) a (wC a kc F G I J Z) [.ref (a 34), .int x1, .int x2, .int x3, .int x4, .int x5] (Qi D (wC a kc (va_up F 13 o1) G I J (va_up Z 1 o2)) o0) :=
  Ct.of (by decide +kernel) hAp (Nat.le_of_ble_eq_true rfl) (fun p e s m args below meth c ls X hP hl => t_X7_copy_b0 X F Z x1 x2 x3 x4 x5 _ _ _ hf (frm_ul (fun k _ => rfl) (by decide)) (frm_ul (fun k _ => rfl) (by decide)) hP va_S.rf hl)
