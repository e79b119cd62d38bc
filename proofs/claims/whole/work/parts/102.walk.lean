abbrev rm_X3_parse : Room := { frames := 3, cells := 0, slots := 0, locals := 69 }
set_option maxHeartbeats 4000000 in
set_option maxRecDepth 100000 in
theorem t_X3_parse_b0 {p : Program} {l : Launch} {e : Env} {s : State} {m : MethodId} {args : Array Value} {below : List Frame} {meth : Method} {c : Code} {D : va_G} {a : Nat → Nat} {kc : Nat → ClassId} (X : cx 44 p s m args meth c D (tyC kc) a cX3_parse 1 RX3 none) {G : Nat → Int64} {J : Nat → Nat → Int64} {Z : Nat → Nat → Nat → Int32} {Ff : Nat → Int32} {If : Nat → Nat → Int32}  :
    ∀ (F : Nat → Int32) (I : Nat → Nat → Int32)  (H : Heap) (locs : List Loc) (ls : Array Slot), p_X3_parse_b0 (F 0) (F 1) (F 2) (I 0) (I 1) (I 2) (I 3) (I 4) (I 5) (I 6) (Z 0)  = some ((Ff 0), (Ff 1), (Ff 2), (If 1), (If 2), (If 3), (If 4), (If 5), (If 6)) → (∀ k, k ∉ ([0, 1, 2] : List Nat) → Ff k = F k) → (∀ k, k ∉ ([1, 2, 3, 4, 5, 6] : List Nat) → If k = I k) → va_P D vwCl (wC a kc F G I J Z) H → va_S (ad a 44 s.heap.size) s.heap H locs → lv_has ls 1 [(0, .ref (a 0))] → W p l e rm_X3_parse s m args below meth c H locs 0 0 (MQ below (Qv D (wC a kc Ff G If J Z) (ad a 44 s.heap.size)) args s 0 0 (ad a 44 s.heap.size)) (F0 m 0 ls []) := by
  intro F I  H locs ls hf hfF hfI hP hS hl
  unfold p_X3_parse_b0 at hf
  refine lv_aload_n X.1 X.2.1 dX3_parse_0 rfl (lv_at hl 0 rfl) ?_
  obtain ⟨H_seats_1, H_rows_1, H_faults_1, H_sorts_1, H_rowOf_1, H_bySort_1, ho, hf⟩ := b6_s hf
  refine call_vv (rest := []) X (c_X3_parseSeats F G I J Z X.2.2.2.2.2.2.2.1  ho) q_1_34 q_1_36 qs_yX3_parseSeats q_1_2 q_1_37 ok_X3_parseSeats rfl 0 rfl rfl ⟨Nat.le_of_ble_eq_true rfl, Nat.le_of_ble_eq_true rfl⟩ rfl rfl hl.1 rfl (Nat.le_of_ble_eq_true rfl) dX3_parse_1 hP hS (fun H locs hP hS => ?_)
  refine lv_aload_n X.1 X.2.1 dX3_parse_4 rfl (lv_at hl 0 rfl) ?_
  obtain ⟨H_people_5, H_faults_5, H_owns_5, H_kinds_5, ho, hf⟩ := b4_s hf
  refine call_vv (rest := []) X (c_X3_parsePeople (va_up (va_up F 0 H_seats_1) 1 H_rows_1) G (va_up (va_up (va_up (va_up I 1 H_faults_1) 2 H_sorts_1) 3 H_rowOf_1) 4 H_bySort_1) J Z X.2.2.2.2.2.2.2.1  ho) q_1_48 q_1_50 qs_yX3_parsePeople q_1_2 q_1_51 ok_X3_parsePeople rfl 0 rfl rfl ⟨Nat.le_of_ble_eq_true rfl, Nat.le_of_ble_eq_true rfl⟩ rfl rfl hl.1 rfl (Nat.le_of_ble_eq_true rfl) dX3_parse_5 hP hS (fun H locs hP hS => ?_)
  obtain ⟨e0, hf⟩ := o2 hf
  obtain ⟨e1, hf⟩ := o2 hf
  obtain ⟨e2, hf⟩ := o2 hf
  obtain ⟨e3, hf⟩ := o2 hf
  obtain ⟨e4, hf⟩ := o2 hf
  obtain ⟨e5, hf⟩ := o2 hf
  obtain ⟨e6, hf⟩ := o2 hf
  obtain ⟨e7, hf⟩ := o2 hf
  have e8 := o1 hf
  have EF : Ff = (va_up (va_up (va_up F 0 H_seats_1) 1 H_rows_1) 2 H_people_5) := frm_eq (frm_up (frm_up (frm_up hfF (by decide)) (by decide)) (by decide)) (frm_c (e0).symm (frm_c (e1).symm (frm_c (e2).symm frm_n)))
  have EI : If = (va_up (va_up (va_up (va_up (va_up (va_up (va_up I 1 H_faults_1) 2 H_sorts_1) 3 H_rowOf_1) 4 H_bySort_1) 1 H_faults_5) 5 H_owns_5) 6 H_kinds_5) := frm_eq (frm_up (frm_up (frm_up (frm_up (frm_up (frm_up (frm_up hfI (by decide)) (by decide)) (by decide)) (by decide)) (by decide)) (by decide)) (by decide)) (frm_c (e3).symm (frm_c (e4).symm (frm_c (e5).symm (frm_c (e6).symm (frm_c (e7).symm (frm_c (e8).symm frm_n))))))
  exact ret_v X hS (by rw [EF, EI]; exact hP) dX3_parse_8
set_option maxRecDepth 100000 in
theorem c_X3_parse {l : Launch} {D : va_G} {a : Nat → Nat} {kc : Nat → ClassId} (F : Nat → Int32) (G : Nat → Int64) (I : Nat → Nat → Int32) (J : Nat → Nat → Int64) (Z : Nat → Nat → Nat → Int32) (hAp : ∀ i j, i < 44 → j < 44 → a i = a j → i = j)  {o0 : Int32} {o1 : Int32} {o2 : Int32} {o3 : Nat → Int32} {o4 : Nat → Int32} {o5 : Nat → Int32} {o6 : Nat → Int32} {o7 : Nat → Int32} {o8 : Nat → Int32} (hf : p_X3_parse (F 0) (F 1) (F 2) (I 0) (I 1) (I 2) (I 3) (I 4) (I 5) (I 6) (Z 0)  = some (o0, o1, o2, o3, o4, o5, o6, o7, o8)) : Ct 44 l yX3_parse cX3_parse 1 none rm_X3_parse D (tyC kc) a (wC a kc F G I J Z) [.ref (a 0)] (Qv D (wC a kc (va_up (va_up (va_up F 0 o0) 1 o1) 2 o2) G (va_up (va_up (va_up (va_up (va_up (va_up I 1 o3) 2 o4) 3 o5) 4 o6) 5 o7) 6 o8) J Z)) :=
  Ct.of (by decide +kernel) hAp (Nat.le_of_ble_eq_true rfl) (fun p e s m args below meth c ls X hP hl => t_X3_parse_b0 X F I  _ _ _ hf (frm_ul (frm_ul (frm_ul (fun k _ => rfl) (by decide)) (by decide)) (by decide)) (frm_ul (frm_ul (frm_ul (frm_ul (frm_ul (frm_ul (fun k _ => rfl) (by decide)) (by decide)) (by decide)) (by decide)) (by decide)) (by decide)) hP va_S.rf hl)
abbrev rm_X3_append : Room := { frames := 4, cells := 0, slots := 0, locals := 89 }
set_option maxHeartbeats 4000000 in
set_option maxRecDepth 100000 in
theorem t_X3_append_b35 {p : Program} {l : Launch} {e : Env} {s : State} {m : MethodId} {args : Array Value} {below : List Frame} {meth : Method} {c : Code} {D : va_G} {a : Nat → Nat} {kc : Nat → ClassId} (X : cx 44 p s m args meth c D (tyC kc) a cX3_append 3 RX3 none) {G : Nat → Int64} {J : Nat → Nat → Int64} {Ff : Nat → Int32} {If : Nat → Nat → Int32} {Zf : Nat → Nat → Nat → Int32}  :
    ∀ (F : Nat → Int32) (I : Nat → Nat → Int32) (Z : Nat → Nat → Nat → Int32)  (H : Heap) (locs : List Loc) (ls : Array Slot), p_X3_append_b35 (F 0) (F 1) (F 2) (I 0) (I 1) (I 2) (I 3) (I 4) (I 5) (I 6) (Z 0)  = some ((Ff 0), (Ff 1), (Ff 2), (If 0), (If 1), (If 2), (If 3), (If 4), (If 5), (If 6), (Zf 0)) → (∀ k, k ∉ ([0, 1, 2] : List Nat) → Ff k = F k) → (∀ k, k ∉ ([0, 1, 2, 3, 4, 5, 6] : List Nat) → If k = I k) → (∀ k, k ∉ ([0] : List Nat) → Zf k = Z k) → va_P D vwCl (wC a kc F G I J Z) H → va_S (ad a 44 s.heap.size) s.heap H locs → lv_has ls 3 [(0, .ref (a 0))] → W p l e rm_X3_append s m args below meth c H locs 0 0 (MQ below (Qv D (wC a kc Ff G If J Zf) (ad a 44 s.heap.size)) args s 0 0 (ad a 44 s.heap.size)) (F0 m 35 ls []) := by
  intro F I Z  H locs ls hf hfF hfI hfZ hP hS hl
  unfold p_X3_append_b35 at hf
  refine lv_aload_n X.1 X.2.1 dX3_append_35 rfl (lv_at hl 0 rfl) ?_
  obtain ⟨H_seats_36, H_rows_36, H_people_36, H_faults_36, H_sorts_36, H_rowOf_36, H_bySort_36, H_owns_36, H_kinds_36, ho, hf⟩ := b9_s hf
  refine call_vv (rest := []) X (c_X3_parse F G I J Z X.2.2.2.2.2.2.2.1  ho) q_1_30 q_1_32 qs_yX3_parse q_1_2 q_1_33 ok_X3_parse rfl 0 rfl rfl ⟨Nat.le_of_ble_eq_true rfl, Nat.le_of_ble_eq_true rfl⟩ rfl rfl hl.1 rfl (Nat.le_of_ble_eq_true rfl) dX3_append_36 hP hS (fun H locs hP hS => ?_)
  obtain ⟨e0, hf⟩ := o2 hf
  obtain ⟨e1, hf⟩ := o2 hf
  obtain ⟨e2, hf⟩ := o2 hf
  obtain ⟨e3, hf⟩ := o2 hf
  obtain ⟨e4, hf⟩ := o2 hf
  obtain ⟨e5, hf⟩ := o2 hf
  obtain ⟨e6, hf⟩ := o2 hf
  obtain ⟨e7, hf⟩ := o2 hf
  obtain ⟨e8, hf⟩ := o2 hf
  obtain ⟨e9, hf⟩ := o2 hf
  have e10 := o1 hf
  have EF : Ff = (va_up (va_up (va_up F 0 H_seats_36) 1 H_rows_36) 2 H_people_36) := frm_eq (frm_up (frm_up (frm_up hfF (by decide)) (by decide)) (by decide)) (frm_c (e0).symm (frm_c (e1).symm (frm_c (e2).symm frm_n)))
  have EI : If = (va_up (va_up (va_up (va_up (va_up (va_up I 1 H_faults_36) 2 H_sorts_36) 3 H_rowOf_36) 4 H_bySort_36) 5 H_owns_36) 6 H_kinds_36) := frm_eq (frm_up (frm_up (frm_up (frm_up (frm_up (frm_up hfI (by decide)) (by decide)) (by decide)) (by decide)) (by decide)) (by decide)) (frm_c (e3).symm (frm_c (e4).symm (frm_c (e5).symm (frm_c (e6).symm (frm_c (e7).symm (frm_c (e8).symm (frm_c (e9).symm frm_n)))))))
  have EZ : Zf = Z := frm_eq hfZ (frm_c (e10).symm frm_n)
  exact ret_v X hS (by rw [EF, EI, EZ]; exact hP) dX3_append_39
set_option maxHeartbeats 4000000 in
set_option maxRecDepth 100000 in
theorem t_X3_append_b0 {p : Program} {l : Launch} {e : Env} {s : State} {m : MethodId} {args : Array Value} {below : List Frame} {meth : Method} {c : Code} {D : va_G} {a : Nat → Nat} {kc : Nat → ClassId} (X : cx 44 p s m args meth c D (tyC kc) a cX3_append 3 RX3 none) {G : Nat → Int64} {J : Nat → Nat → Int64} {Ff : Nat → Int32} {If : Nat → Nat → Int32} {Zf : Nat → Nat → Nat → Int32}  :
    ∀ (F : Nat → Int32) (I : Nat → Nat → Int32) (Z : Nat → Nat → Nat → Int32) (x1 : Int32) (x2 : Int32) (H : Heap) (locs : List Loc) (ls : Array Slot), p_X3_append_b0 (F 0) (F 1) (F 2) (I 0) (I 1) (I 2) (I 3) (I 4) (I 5) (I 6) (Z 0) x1 x2 = some ((Ff 0), (Ff 1), (Ff 2), (If 0), (If 1), (If 2), (If 3), (If 4), (If 5), (If 6), (Zf 0)) → (∀ k, k ∉ ([0, 1, 2] : List Nat) → Ff k = F k) → (∀ k, k ∉ ([0, 1, 2, 3, 4, 5, 6] : List Nat) → If k = I k) → (∀ k, k ∉ ([0] : List Nat) → Zf k = Z k) → va_P D vwCl (wC a kc F G I J Z) H → va_S (ad a 44 s.heap.size) s.heap H locs → lv_has ls 3 [(0, .ref (a 0)), (1, .int x1), (2, .int x2)] → W p l e rm_X3_append s m args below meth c H locs 0 0 (MQ below (Qv D (wC a kc Ff G If J Zf) (ad a 44 s.heap.size)) args s 0 0 (ad a 44 s.heap.size)) (F0 m 0 ls []) := by
  intro F I Z x1 x2 H locs ls hf hfF hfI hfZ hP hS hl
  unfold p_X3_append_b0 at hf
  refine lv_aload_n X.1 X.2.1 dX3_append_0 rfl (lv_at hl 0 rfl) ?_
  refine gC_0_1 X q_1_56 dX3_append_1 hP ?_
  refine lv_iload_n X.1 X.2.1 dX3_append_4 rfl (lv_at hl 1 rfl) ?_
  obtain ⟨h5, hf⟩ := gd_s hf
  refine lC_4 (I := I) X (f := (I 0)) rfl h5 dX3_append_5 hP ?_
  refine lv_bipush (v := 20) X.1 X.2.1 dX3_append_6 (by decide) ?_
  refine lv_icmp_ge (tgt := 35) X.1 X.2.1 dX3_append_8 (by decide) (fun c8 => ?_) (fun c8 => ?_)
  · have hf := it_s hf c8
    exact t_X3_append_b35 X F I Z  H locs ls hf hfF hfI hfZ hP hS (lv_sub hl [0] rfl)
  · have hf := ie_s hf c8
    refine lv_aload_n X.1 X.2.1 dX3_append_11 rfl (lv_at hl 0 rfl) ?_
    refine gC_0_0 X q_1_55 dX3_append_12 hP ?_
    refine lv_iload_n X.1 X.2.1 dX3_append_15 rfl (lv_at hl 1 rfl) ?_
    obtain ⟨h16, hf⟩ := gd_s hf
    refine alC_1 X h16 dX3_append_16 hP ?_
    refine lv_aload_n X.1 X.2.1 dX3_append_17 rfl (lv_at hl 0 rfl) ?_
    refine gC_0_1 X q_1_56 dX3_append_18 hP ?_
    refine lv_iload_n X.1 X.2.1 dX3_append_21 rfl (lv_at hl 1 rfl) ?_
    obtain ⟨h22, hf⟩ := gd_s hf
    refine lC_4 (I := I) X (f := (I 0)) rfl h22 dX3_append_22 hP ?_
    refine lv_iload_n X.1 X.2.1 dX3_append_23 rfl (lv_at hl 2 rfl) ?_
    obtain ⟨h24s, hf⟩ := gd_s hf
    obtain ⟨h24, hf⟩ := gd_s hf
    obtain ⟨H_bytes_24, eH_bytes_24, hf⟩ := nm_x hf
    refine sdC_2 (Z := Z) X (of_decide_eq_true h24s) h24 eH_bytes_24 dX3_append_24 hP hS (fun H locs hP hS => ?_)
    refine lv_aload_n X.1 X.2.1 dX3_append_25 rfl (lv_at hl 0 rfl) ?_
    refine gC_0_1 X q_1_56 dX3_append_26 hP ?_
    refine lv_iload_n X.1 X.2.1 dX3_append_29 rfl (lv_at hl 1 rfl) ?_
    refine lv_dup2_11 X.1 X.2.1 dX3_append_30 rfl rfl ?_
    obtain ⟨h31, hf⟩ := gd_s hf
    refine lC_4 (I := I) X (f := (I 0)) rfl h31 dX3_append_31 hP ?_
    refine lv_iconst (v := 1) X.1 X.2.1 dX3_append_32 (by decide) ?_
    refine lv_iadd X.1 X.2.1 dX3_append_33 ?_
    obtain ⟨h34, hf⟩ := gd_s hf
    obtain ⟨H_lengths_34, eH_lengths_34, hf⟩ := nm_x hf
    refine sC_4 (I := I) X h34 eH_lengths_34 dX3_append_34 hP hS (fun H locs hP hS => ?_)
    exact t_X3_append_b35 X F (va_up I 0 H_lengths_34) (va_up Z 0 H_bytes_24)  H locs ls hf hfF (frm_up hfI (by decide)) (frm_up hfZ (by decide)) hP hS (lv_sub hl [0] rfl)
set_option maxRecDepth 100000 in
theorem c_X3_append {l : Launch} {D : va_G} {a : Nat → Nat} {kc : Nat → ClassId} (F : Nat → Int32) (G : Nat → Int64) (I : Nat → Nat → Int32) (J : Nat → Nat → Int64) (Z : Nat → Nat → Nat → Int32) (hAp : ∀ i j, i < 44 → j < 44 → a i = a j → i = j) (x1 : Int32) (x2 : Int32) {o0 : Int32} {o1 : Int32} {o2 : Int32} {o3 : Nat → Int32} {o4 : Nat → Int32} {o5 : Nat → Int32} {o6 : Nat → Int32} {o7 : Nat → Int32} {o8 : Nat → Int32} {o9 : Nat → Int32} {o10 : Nat → Nat → Int32} (hf : p_X3_append (F 0) (F 1) (F 2) (I 0) (I 1) (I 2) (I 3) (I 4) (I 5) (I 6) (Z 0) x1 x2 = some (o0, o1, o2, o3, o4, o5, o6, o7, o8, o9, o10)) : Ct 44 l yX3_append cX3_append 3 none rm_X3_append D (tyC kc) a (wC a kc F G I J Z) [.ref (a 0), .int x1, .int x2] (Qv D (wC a kc (va_up (va_up (va_up F 0 o0) 1 o1) 2 o2) G (va_up (va_up (va_up (va_up (va_up (va_up (va_up I 0 o3) 1 o4) 2 o5) 3 o6) 4 o7) 5 o8) 6 o9) J (va_up Z 0 o10))) :=
  Ct.of (by decide +kernel) hAp (Nat.le_of_ble_eq_true rfl) (fun p e s m args below meth c ls X hP hl => t_X3_append_b0 X F I Z x1 x2 _ _ _ hf (frm_ul (frm_ul (frm_ul (fun k _ => rfl) (by decide)) (by decide)) (by decide)) (frm_ul (frm_ul (frm_ul (frm_ul (frm_ul (frm_ul (frm_ul (fun k _ => rfl) (by decide)) (by decide)) (by decide)) (by decide)) (by decide)) (by decide)) (by decide)) (frm_ul (fun k _ => rfl) (by decide)) hP va_S.rf hl)
abbrev rm_X3_empty : Room := { frames := 4, cells := 0, slots := 0, locals := 89 }
set_option maxHeartbeats 4000000 in
set_option maxRecDepth 100000 in
theorem t_X3_empty_b0 {p : Program} {l : Launch} {e : Env} {s : State} {m : MethodId} {args : Array Value} {below : List Frame} {meth : Method} {c : Code} {D : va_G} {a : Nat → Nat} {kc : Nat → ClassId} (X : cx 44 p s m args meth c D (tyC kc) a cX3_empty 2 RX3 none) {G : Nat → Int64} {J : Nat → Nat → Int64} {Z : Nat → Nat → Nat → Int32} {Ff : Nat → Int32} {If : Nat → Nat → Int32}  :
    ∀ (F : Nat → Int32) (I : Nat → Nat → Int32) (x1 : Int32) (H : Heap) (locs : List Loc) (ls : Array Slot), p_X3_empty_b0 (F 0) (F 1) (F 2) (I 0) (I 1) (I 2) (I 3) (I 4) (I 5) (I 6) (Z 0) x1 = some ((Ff 0), (Ff 1), (Ff 2), (If 0), (If 1), (If 2), (If 3), (If 4), (If 5), (If 6)) → (∀ k, k ∉ ([0, 1, 2] : List Nat) → Ff k = F k) → (∀ k, k ∉ ([0, 1, 2, 3, 4, 5, 6] : List Nat) → If k = I k) → va_P D vwCl (wC a kc F G I J Z) H → va_S (ad a 44 s.heap.size) s.heap H locs → lv_has ls 2 [(0, .ref (a 0)), (1, .int x1)] → W p l e rm_X3_empty s m args below meth c H locs 0 0 (MQ below (Qv D (wC a kc Ff G If J Z) (ad a 44 s.heap.size)) args s 0 0 (ad a 44 s.heap.size)) (F0 m 0 ls []) := by
  intro F I x1 H locs ls hf hfF hfI hP hS hl
  unfold p_X3_empty_b0 at hf
  refine lv_aload_n X.1 X.2.1 dX3_empty_0 rfl (lv_at hl 0 rfl) ?_
  refine gC_0_1 X q_1_56 dX3_empty_1 hP ?_
  refine lv_iload_n X.1 X.2.1 dX3_empty_4 rfl (lv_at hl 1 rfl) ?_
  refine lv_iconst (v := 0) X.1 X.2.1 dX3_empty_5 (by decide) ?_
  obtain ⟨h6, hf⟩ := gd_s hf
  obtain ⟨H_lengths_6, eH_lengths_6, hf⟩ := nm_x hf
  refine sC_4 (I := I) X h6 eH_lengths_6 dX3_empty_6 hP hS (fun H locs hP hS => ?_)
  refine lv_aload_n X.1 X.2.1 dX3_empty_7 rfl (lv_at hl 0 rfl) ?_
  obtain ⟨H_seats_8, H_rows_8, H_people_8, H_faults_8, H_sorts_8, H_rowOf_8, H_bySort_8, H_owns_8, H_kinds_8, ho, hf⟩ := b9_s hf
  refine call_vv (rest := []) X (c_X3_parse F G (va_up I 0 H_lengths_6) J Z X.2.2.2.2.2.2.2.1  ho) q_1_30 q_1_32 qs_yX3_parse q_1_2 q_1_33 ok_X3_parse rfl 0 rfl rfl ⟨Nat.le_of_ble_eq_true rfl, Nat.le_of_ble_eq_true rfl⟩ rfl rfl hl.1 rfl (Nat.le_of_ble_eq_true rfl) dX3_empty_8 hP hS (fun H locs hP hS => ?_)
  obtain ⟨e0, hf⟩ := o2 hf
  obtain ⟨e1, hf⟩ := o2 hf
  obtain ⟨e2, hf⟩ := o2 hf
  obtain ⟨e3, hf⟩ := o2 hf
  obtain ⟨e4, hf⟩ := o2 hf
  obtain ⟨e5, hf⟩ := o2 hf
  obtain ⟨e6, hf⟩ := o2 hf
  obtain ⟨e7, hf⟩ := o2 hf
  obtain ⟨e8, hf⟩ := o2 hf
  have e9 := o1 hf
  have EF : Ff = (va_up (va_up (va_up F 0 H_seats_8) 1 H_rows_8) 2 H_people_8) := frm_eq (frm_up (frm_up (frm_up hfF (by decide)) (by decide)) (by decide)) (frm_c (e0).symm (frm_c (e1).symm (frm_c (e2).symm frm_n)))
  have EI : If = (va_up (va_up (va_up (va_up (va_up (va_up (va_up I 0 H_lengths_6) 1 H_faults_8) 2 H_sorts_8) 3 H_rowOf_8) 4 H_bySort_8) 5 H_owns_8) 6 H_kinds_8) := frm_eq (frm_up (frm_up (frm_up (frm_up (frm_up (frm_up (frm_up hfI (by decide)) (by decide)) (by decide)) (by decide)) (by decide)) (by decide)) (by decide)) (frm_c (e3).symm (frm_c (e4).symm (frm_c (e5).symm (frm_c (e6).symm (frm_c (e7).symm (frm_c (e8).symm (frm_c (e9).symm frm_n)))))))
  exact ret_v X hS (by rw [EF, EI]; exact hP) dX3_empty_11
set_option maxRecDepth 100000 in
theorem c_X3_empty {l : Launch} {D : va_G} {a : Nat → Nat} {kc : Nat → ClassId} (F : Nat → Int32) (G : Nat → Int64) (I : Nat → Nat → Int32) (J : Nat → Nat → Int64) (Z : Nat → Nat → Nat → Int32) (hAp : ∀ i j, i < 44 → j < 44 → a i = a j → i = j) (x1 : Int32) {o0 : Int32} {o1 : Int32} {o2 : Int32} {o3 : Nat → Int32} {o4 : Nat → Int32} {o5 : Nat → Int32} {o6 : Nat → Int32} {o7 : Nat → Int32} {o8 : Nat → Int32} {o9 : Nat → Int32} (hf : p_X3_empty (F 0) (F 1) (F 2) (I 0) (I 1) (I 2) (I 3) (I 4) (I 5) (I 6) (Z 0) x1 = some (o0, o1, o2, o3, o4, o5, o6, o7, o8, o9)) : Ct 44 l yX3_empty cX3_empty 2 none rm_X3_empty D (tyC kc) a (wC a kc F G I J Z) [.ref (a 0), .int x1] (Qv D (wC a kc (va_up (va_up (va_up F 0 o0) 1 o1) 2 o2) G (va_up (va_up (va_up (va_up (va_up (va_up (va_up I 0 o3) 1 o4) 2 o5) 3 o6) 4 o7) 5 o8) 6 o9) J Z)) :=
  Ct.of (by decide +kernel) hAp (Nat.le_of_ble_eq_true rfl) (fun p e s m args below meth c ls X hP hl => t_X3_empty_b0 X F I x1 _ _ _ hf (frm_ul (frm_ul (frm_ul (fun k _ => rfl) (by decide)) (by decide)) (by decide)) (frm_ul (frm_ul (frm_ul (frm_ul (frm_ul (frm_ul (frm_ul (fun k _ => rfl) (by decide)) (by decide)) (by decide)) (by decide)) (by decide)) (by decide)) (by decide)) hP va_S.rf hl)
abbrev rm_X3_ownersOf : Room := { frames := 0, cells := 0, slots := 0, locals := 0 }
set_option maxHeartbeats 4000000 in
set_option maxRecDepth 100000 in
theorem t_X3_ownersOf_b28 {p : Program} {l : Launch} {e : Env} {s : State} {m : MethodId} {args : Array Value} {below : List Frame} {meth : Method} {c : Code} {D : va_G} {a : Nat → Nat} {kc : Nat → ClassId} (X : cx 44 p s m args meth c D (tyC kc) a cX3_ownersOf 4 RX3 (some .int)) {F : Nat → Int32} {G : Nat → Int64} {I : Nat → Nat → Int32} {J : Nat → Nat → Int64} {Z : Nat → Nat → Nat → Int32}  {r : Int32} {K4 : Int32 → (Nat → Int32) → Int32 → Int32 → Int32 → Option (Int32)} (kh4 : ∀  (x1 : Int32) (x2 : Int32) (x3 : Int32) (H : Heap) (locs : List Loc) (ls : Array Slot), K4 (F 2) (I 5) x1 x2 x3 = some r → va_P D vwCl (wC a kc F G I J Z) H → va_S (ad a 44 s.heap.size) s.heap H locs → lv_has ls 4 [(0, .ref (a 0)), (1, .int x1), (2, .int x2), (3, .int x3)] → W p l e rm_X3_ownersOf s m args below meth c H locs 0 0 (MQ below (Qi D (wC a kc F G I J Z) r (ad a 44 s.heap.size)) args s 0 0 (ad a 44 s.heap.size)) (F0 m 4 ls [])) :
    ∀  (x1 : Int32) (x2 : Int32) (x3 : Int32) (H : Heap) (locs : List Loc) (ls : Array Slot), p_X3_ownersOf_b28 K4 (F 2) (I 5) x1 x2 x3 = some r → va_P D vwCl (wC a kc F G I J Z) H → va_S (ad a 44 s.heap.size) s.heap H locs → lv_has ls 4 [(0, .ref (a 0)), (1, .int x1), (2, .int x2), (3, .int x3)] → W p l e rm_X3_ownersOf s m args below meth c H locs 0 0 (MQ below (Qi D (wC a kc F G I J Z) r (ad a 44 s.heap.size)) args s 0 0 (ad a 44 s.heap.size)) (F0 m 28 ls []) := by
  intro  x1 x2 x3 H locs ls hf  hP hS hl
  unfold p_X3_ownersOf_b28 at hf
  obtain ⟨x28, ex28, hf⟩ := nm_x hf
  refine lv_iinc (v := x28) (lv' := [(3, .int x28), (0, .ref (a 0)), (1, .int x1), (2, .int x2)]) X.1 X.2.1 dX3_ownersOf_28 hl (k := 3) rfl ex28 (by decide) rfl (fun ls hl => ?_)
  refine lv_goto (tgt := 4) X.1 X.2.1 dX3_ownersOf_31 (by decide) ?_
  exact kh4  x1 x2 x28 H locs ls hf  hP hS (lv_sub hl [1, 2, 3, 0] rfl)
set_option maxHeartbeats 4000000 in
set_option maxRecDepth 100000 in
theorem t_X3_ownersOf_b4x {p : Program} {l : Launch} {e : Env} {s : State} {m : MethodId} {args : Array Value} {below : List Frame} {meth : Method} {c : Code} {D : va_G} {a : Nat → Nat} {kc : Nat → ClassId} (X : cx 44 p s m args meth c D (tyC kc) a cX3_ownersOf 4 RX3 (some .int)) {F : Nat → Int32} {G : Nat → Int64} {I : Nat → Nat → Int32} {J : Nat → Nat → Int64} {Z : Nat → Nat → Nat → Int32}  {r : Int32} {K4 : Int32 → (Nat → Int32) → Int32 → Int32 → Int32 → Option (Int32)} (kh4 : ∀  (x1 : Int32) (x2 : Int32) (x3 : Int32) (H : Heap) (locs : List Loc) (ls : Array Slot), K4 (F 2) (I 5) x1 x2 x3 = some r → va_P D vwCl (wC a kc F G I J Z) H → va_S (ad a 44 s.heap.size) s.heap H locs → lv_has ls 4 [(0, .ref (a 0)), (1, .int x1), (2, .int x2), (3, .int x3)] → W p l e rm_X3_ownersOf s m args below meth c H locs 0 0 (MQ below (Qi D (wC a kc F G I J Z) r (ad a 44 s.heap.size)) args s 0 0 (ad a 44 s.heap.size)) (F0 m 4 ls [])) :
    ∀  (x1 : Int32) (x2 : Int32) (x3 : Int32) (H : Heap) (locs : List Loc) (ls : Array Slot), p_X3_ownersOf_b4x K4 (F 2) (I 5) x1 x2 x3 = some r → va_P D vwCl (wC a kc F G I J Z) H → va_S (ad a 44 s.heap.size) s.heap H locs → lv_has ls 4 [(0, .ref (a 0)), (1, .int x1), (2, .int x2), (3, .int x3)] → W p l e rm_X3_ownersOf s m args below meth c H locs 0 0 (MQ below (Qi D (wC a kc F G I J Z) r (ad a 44 s.heap.size)) args s 0 0 (ad a 44 s.heap.size)) (F0 m 4 ls []) := by
  intro  x1 x2 x3 H locs ls hf  hP hS hl
  unfold p_X3_ownersOf_b4x at hf
  refine lv_iload_n X.1 X.2.1 dX3_ownersOf_4 rfl (lv_at hl 3 rfl) ?_
  refine lv_aload_n X.1 X.2.1 dX3_ownersOf_5 rfl (lv_at hl 0 rfl) ?_
  refine gC_0_10 (F := F) X (v := (F 2)) rfl q_1_92 dX3_ownersOf_6 hP ?_
  refine lv_icmp_ge (tgt := 34) X.1 X.2.1 dX3_ownersOf_9 (by decide) (fun c9 => ?_) (fun c9 => ?_)
  · have hf := it_s hf c9
    refine lv_iload_n X.1 X.2.1 dX3_ownersOf_34 rfl (lv_at hl 2 rfl) ?_
    have e0 := o1 hf
    exact ret_i X hS hP e0 dX3_ownersOf_35
  · have hf := ie_s hf c9
    refine lv_aload_n X.1 X.2.1 dX3_ownersOf_12 rfl (lv_at hl 0 rfl) ?_
    refine gC_0_6 X q_1_65 dX3_ownersOf_13 hP ?_
    refine lv_iload_n X.1 X.2.1 dX3_ownersOf_16 rfl (lv_at hl 3 rfl) ?_
    obtain ⟨h17, hf⟩ := gd_s hf
    refine lC_9 (I := I) X (f := (I 5)) rfl h17 dX3_ownersOf_17 hP ?_
    refine lv_iload_n X.1 X.2.1 dX3_ownersOf_18 rfl (lv_at hl 1 rfl) ?_
    refine lv_icmp_ne (tgt := 28) X.1 X.2.1 dX3_ownersOf_19 (by decide) (fun c19 => ?_) (fun c19 => ?_)
    · have hf := ie_s hf c19
      exact t_X3_ownersOf_b28 X kh4  x1 x2 x3 H locs ls hf  hP hS (lv_sub hl [0, 1, 2, 3] rfl)
    · have hf := it_s hf c19
      refine lv_iload_n X.1 X.2.1 dX3_ownersOf_22 rfl (lv_at hl 2 rfl) ?_
      refine lv_iconst (v := 1) X.1 X.2.1 dX3_ownersOf_23 (by decide) ?_
      refine lv_iload_n X.1 X.2.1 dX3_ownersOf_24 rfl (lv_at hl 3 rfl) ?_
      refine lv_ishl X.1 X.2.1 dX3_ownersOf_25 ?_
      refine lv_ior X.1 X.2.1 dX3_ownersOf_26 ?_
      refine nm_i hf (fun x27 hf => ?_)
      refine lv_istore_n (lv' := [(2, .int x27), (0, .ref (a 0)), (1, .int x1), (3, .int x3)]) X.1 X.2.1 dX3_ownersOf_27 rfl hl (by decide) rfl (fun ls hl => ?_)
      exact t_X3_ownersOf_b28 X kh4  x1 x27 x3 H locs ls hf  hP hS (lv_sub hl [1, 2, 0, 3] rfl)
set_option maxRecDepth 100000 in
theorem t_X3_ownersOf_b4 {p : Program} {l : Launch} {e : Env} {s : State} {m : MethodId} {args : Array Value} {below : List Frame} {meth : Method} {c : Code} {D : va_G} {a : Nat → Nat} {kc : Nat → ClassId} (X : cx 44 p s m args meth c D (tyC kc) a cX3_ownersOf 4 RX3 (some .int)) {F : Nat → Int32} {G : Nat → Int64} {I : Nat → Nat → Int32} {J : Nat → Nat → Int64} {Z : Nat → Nat → Nat → Int32}  {r : Int32} :
    ∀ (n : Nat)  (x1 : Int32) (x2 : Int32) (x3 : Int32) (H : Heap) (locs : List Loc) (ls : Array Slot), p_X3_ownersOf_b4 n (F 2) (I 5) x1 x2 x3 = some r → va_P D vwCl (wC a kc F G I J Z) H → va_S (ad a 44 s.heap.size) s.heap H locs → lv_has ls 4 [(0, .ref (a 0)), (1, .int x1), (2, .int x2), (3, .int x3)] → W p l e rm_X3_ownersOf s m args below meth c H locs 0 0 (MQ below (Qi D (wC a kc F G I J Z) r (ad a 44 s.heap.size)) args s 0 0 (ad a 44 s.heap.size)) (F0 m 4 ls []) := by
  intro n
  induction n with
  | zero => intro  x1 x2 x3 H locs ls hf  hP hS hl; exact (nos hf).elim
  | succ n ih => exact t_X3_ownersOf_b4x X ih
set_option maxHeartbeats 4000000 in
set_option maxRecDepth 100000 in
theorem t_X3_ownersOf_b0 {p : Program} {l : Launch} {e : Env} {s : State} {m : MethodId} {args : Array Value} {below : List Frame} {meth : Method} {c : Code} {D : va_G} {a : Nat → Nat} {kc : Nat → ClassId} (X : cx 44 p s m args meth c D (tyC kc) a cX3_ownersOf 4 RX3 (some .int)) {F : Nat → Int32} {G : Nat → Int64} {I : Nat → Nat → Int32} {J : Nat → Nat → Int64} {Z : Nat → Nat → Nat → Int32}  {r : Int32} :
    ∀  (x1 : Int32) (H : Heap) (locs : List Loc) (ls : Array Slot), p_X3_ownersOf_b0 (F 2) (I 5) x1 = some r → va_P D vwCl (wC a kc F G I J Z) H → va_S (ad a 44 s.heap.size) s.heap H locs → lv_has ls 4 [(0, .ref (a 0)), (1, .int x1)] → W p l e rm_X3_ownersOf s m args below meth c H locs 0 0 (MQ below (Qi D (wC a kc F G I J Z) r (ad a 44 s.heap.size)) args s 0 0 (ad a 44 s.heap.size)) (F0 m 0 ls []) := by
  intro  x1 H locs ls hf  hP hS hl
  unfold p_X3_ownersOf_b0 at hf
  refine lv_iconst (v := 0) X.1 X.2.1 dX3_ownersOf_0 (by decide) ?_
  refine lv_istore_n (lv' := [(2, .int 0), (0, .ref (a 0)), (1, .int x1)]) X.1 X.2.1 dX3_ownersOf_1 rfl hl (by decide) rfl (fun ls hl => ?_)
  refine lv_iconst (v := 0) X.1 X.2.1 dX3_ownersOf_2 (by decide) ?_
  refine lv_istore_n (lv' := [(3, .int 0), (2, .int 0), (0, .ref (a 0)), (1, .int x1)]) X.1 X.2.1 dX3_ownersOf_3 rfl hl (by decide) rfl (fun ls hl => ?_)
  exact t_X3_ownersOf_b4 X 4096  x1 0 0 H locs ls hf  hP hS (lv_sub hl [2, 3, 1, 0] rfl)
set_option maxRecDepth 100000 in
theorem c_X3_ownersOf {l : Launch} {D : va_G} {a : Nat → Nat} {kc : Nat → ClassId} (F : Nat → Int32) (G : Nat → Int64) (I : Nat → Nat → Int32) (J : Nat → Nat → Int64) (Z : Nat → Nat → Nat → Int32) (hAp : ∀ i j, i < 44 → j < 44 → a i = a j → i = j) (x1 : Int32) {o0 : Int32} (hf : p_X3_ownersOf (F 2) (I 5) x1 = some o0) : Ct 44 l yX3_ownersOf cX3_ownersOf 4 (some .int) rm_X3_ownersOf D (tyC kc) a (wC a kc F G I J Z) [.ref (a 0), .int x1] (Qi D (wC a kc F G I J Z) o0) :=
  Ct.of (by decide +kernel) hAp (Nat.le_of_ble_eq_true rfl) (fun p e s m args below meth c ls X hP hl => t_X3_ownersOf_b0 X  x1 _ _ _ hf  hP va_S.rf hl)
abbrev rm_X3_countLost : Room := { frames := 0, cells := 0, slots := 0, locals := 0 }
set_option maxHeartbeats 4000000 in
set_option maxRecDepth 100000 in
theorem t_X3_countLost_b28 {p : Program} {l : Launch} {e : Env} {s : State} {m : MethodId} {args : Array Value} {below : List Frame} {meth : Method} {c : Code} {D : va_G} {a : Nat → Nat} {kc : Nat → ClassId} (X : cx 44 p s m args meth c D (tyC kc) a cX3_countLost 3 RX3 (some .int)) {F : Nat → Int32} {G : Nat → Int64} {I : Nat → Nat → Int32} {J : Nat → Nat → Int64} {Z : Nat → Nat → Nat → Int32}  {r : Int32} {K4 : Int32 → (Nat → Int32) → Int32 → Int32 → Option (Int32)} (kh4 : ∀  (x1 : Int32) (x2 : Int32) (H : Heap) (locs : List Loc) (ls : Array Slot), K4 (F 2) (I 6) x1 x2 = some r → va_P D vwCl (wC a kc F G I J Z) H → va_S (ad a 44 s.heap.size) s.heap H locs → lv_has ls 3 [(0, .ref (a 0)), (1, .int x1), (2, .int x2)] → W p l e rm_X3_countLost s m args below meth c H locs 0 0 (MQ below (Qi D (wC a kc F G I J Z) r (ad a 44 s.heap.size)) args s 0 0 (ad a 44 s.heap.size)) (F0 m 4 ls [])) :
    ∀  (t0 : Int32) (t1 : Int32) (x2 : Int32) (H : Heap) (locs : List Loc) (ls : Array Slot), p_X3_countLost_b28 K4 (F 2) (I 6) t0 t1 x2 = some r → va_P D vwCl (wC a kc F G I J Z) H → va_S (ad a 44 s.heap.size) s.heap H locs → lv_has ls 3 [(0, .ref (a 0)), (2, .int x2)] → W p l e rm_X3_countLost s m args below meth c H locs 0 0 (MQ below (Qi D (wC a kc F G I J Z) r (ad a 44 s.heap.size)) args s 0 0 (ad a 44 s.heap.size)) (F0 m 28 ls [.int t1, .int t0]) := by
  intro  t0 t1 x2 H locs ls hf  hP hS hl
  unfold p_X3_countLost_b28 at hf
  refine lv_iadd X.1 X.2.1 dX3_countLost_28 ?_
  refine nm_i hf (fun x29 hf => ?_)
  refine lv_istore_n (lv' := [(1, .int x29), (0, .ref (a 0)), (2, .int x2)]) X.1 X.2.1 dX3_countLost_29 rfl hl (by decide) rfl (fun ls hl => ?_)
  obtain ⟨x30, ex30, hf⟩ := nm_x hf
  refine lv_iinc (v := x30) (lv' := [(2, .int x30), (1, .int x29), (0, .ref (a 0))]) X.1 X.2.1 dX3_countLost_30 hl (k := 2) rfl ex30 (by decide) rfl (fun ls hl => ?_)
  refine lv_goto (tgt := 4) X.1 X.2.1 dX3_countLost_33 (by decide) ?_
  exact kh4  x29 x30 H locs ls hf  hP hS (lv_sub hl [2, 1, 0] rfl)
set_option maxHeartbeats 4000000 in
set_option maxRecDepth 100000 in
theorem t_X3_countLost_b4x {p : Program} {l : Launch} {e : Env} {s : State} {m : MethodId} {args : Array Value} {below : List Frame} {meth : Method} {c : Code} {D : va_G} {a : Nat → Nat} {kc : Nat → ClassId} (X : cx 44 p s m args meth c D (tyC kc) a cX3_countLost 3 RX3 (some .int)) {F : Nat → Int32} {G : Nat → Int64} {I : Nat → Nat → Int32} {J : Nat → Nat → Int64} {Z : Nat → Nat → Nat → Int32}  {r : Int32} {K4 : Int32 → (Nat → Int32) → Int32 → Int32 → Option (Int32)} (kh4 : ∀  (x1 : Int32) (x2 : Int32) (H : Heap) (locs : List Loc) (ls : Array Slot), K4 (F 2) (I 6) x1 x2 = some r → va_P D vwCl (wC a kc F G I J Z) H → va_S (ad a 44 s.heap.size) s.heap H locs → lv_has ls 3 [(0, .ref (a 0)), (1, .int x1), (2, .int x2)] → W p l e rm_X3_countLost s m args below meth c H locs 0 0 (MQ below (Qi D (wC a kc F G I J Z) r (ad a 44 s.heap.size)) args s 0 0 (ad a 44 s.heap.size)) (F0 m 4 ls [])) :
    ∀  (x1 : Int32) (x2 : Int32) (H : Heap) (locs : List Loc) (ls : Array Slot), p_X3_countLost_b4x K4 (F 2) (I 6) x1 x2 = some r → va_P D vwCl (wC a kc F G I J Z) H → va_S (ad a 44 s.heap.size) s.heap H locs → lv_has ls 3 [(0, .ref (a 0)), (1, .int x1), (2, .int x2)] → W p l e rm_X3_countLost s m args below meth c H locs 0 0 (MQ below (Qi D (wC a kc F G I J Z) r (ad a 44 s.heap.size)) args s 0 0 (ad a 44 s.heap.size)) (F0 m 4 ls []) := by
  intro  x1 x2 H locs ls hf  hP hS hl
  unfold p_X3_countLost_b4x at hf
  refine lv_iload_n X.1 X.2.1 dX3_countLost_4 rfl (lv_at hl 2 rfl) ?_
  refine lv_aload_n X.1 X.2.1 dX3_countLost_5 rfl (lv_at hl 0 rfl) ?_
  refine gC_0_10 (F := F) X (v := (F 2)) rfl q_1_92 dX3_countLost_6 hP ?_
  refine lv_icmp_ge (tgt := 36) X.1 X.2.1 dX3_countLost_9 (by decide) (fun c9 => ?_) (fun c9 => ?_)
  · have hf := it_s hf c9
    refine lv_iload_n X.1 X.2.1 dX3_countLost_36 rfl (lv_at hl 1 rfl) ?_
    have e0 := o1 hf
    exact ret_i X hS hP e0 dX3_countLost_37
  · have hf := ie_s hf c9
    refine lv_iload_n X.1 X.2.1 dX3_countLost_12 rfl (lv_at hl 1 rfl) ?_
    refine lv_aload_n X.1 X.2.1 dX3_countLost_13 rfl (lv_at hl 0 rfl) ?_
    refine gC_0_7 X q_1_72 dX3_countLost_14 hP ?_
    refine lv_iload_n X.1 X.2.1 dX3_countLost_17 rfl (lv_at hl 2 rfl) ?_
    obtain ⟨h18, hf⟩ := gd_s hf
    refine lC_10 (I := I) X (f := (I 6)) rfl h18 dX3_countLost_18 hP ?_
    refine lv_iconst (v := 1) X.1 X.2.1 dX3_countLost_19 (by decide) ?_
    refine lv_icmp_ne (tgt := 27) X.1 X.2.1 dX3_countLost_20 (by decide) (fun c20 => ?_) (fun c20 => ?_)
    · have hf := ie_s hf c20
      refine lv_iconst (v := 0) X.1 X.2.1 dX3_countLost_27 (by decide) ?_
      exact t_X3_countLost_b28 X kh4  x1 0 x2 H locs ls hf  hP hS (lv_sub hl [0, 2] rfl)
    · have hf := it_s hf c20
      refine lv_iconst (v := 1) X.1 X.2.1 dX3_countLost_23 (by decide) ?_
      refine lv_goto (tgt := 28) X.1 X.2.1 dX3_countLost_24 (by decide) ?_
      exact t_X3_countLost_b28 X kh4  x1 1 x2 H locs ls hf  hP hS (lv_sub hl [0, 2] rfl)
set_option maxRecDepth 100000 in
theorem t_X3_countLost_b4 {p : Program} {l : Launch} {e : Env} {s : State} {m : MethodId} {args : Array Value} {below : List Frame} {meth : Method} {c : Code} {D : va_G} {a : Nat → Nat} {kc : Nat → ClassId} (X : cx 44 p s m args meth c D (tyC kc) a cX3_countLost 3 RX3 (some .int)) {F : Nat → Int32} {G : Nat → Int64} {I : Nat → Nat → Int32} {J : Nat → Nat → Int64} {Z : Nat → Nat → Nat → Int32}  {r : Int32} :
    ∀ (n : Nat)  (x1 : Int32) (x2 : Int32) (H : Heap) (locs : List Loc) (ls : Array Slot), p_X3_countLost_b4 n (F 2) (I 6) x1 x2 = some r → va_P D vwCl (wC a kc F G I J Z) H → va_S (ad a 44 s.heap.size) s.heap H locs → lv_has ls 3 [(0, .ref (a 0)), (1, .int x1), (2, .int x2)] → W p l e rm_X3_countLost s m args below meth c H locs 0 0 (MQ below (Qi D (wC a kc F G I J Z) r (ad a 44 s.heap.size)) args s 0 0 (ad a 44 s.heap.size)) (F0 m 4 ls []) := by
  intro n
  induction n with
  | zero => intro  x1 x2 H locs ls hf  hP hS hl; exact (nos hf).elim
  | succ n ih => exact t_X3_countLost_b4x X ih
set_option maxHeartbeats 4000000 in
set_option maxRecDepth 100000 in
theorem t_X3_countLost_b0 {p : Program} {l : Launch} {e : Env} {s : State} {m : MethodId} {args : Array Value} {below : List Frame} {meth : Method} {c : Code} {D : va_G} {a : Nat → Nat} {kc : Nat → ClassId} (X : cx 44 p s m args meth c D (tyC kc) a cX3_countLost 3 RX3 (some .int)) {F : Nat → Int32} {G : Nat → Int64} {I : Nat → Nat → Int32} {J : Nat → Nat → Int64} {Z : Nat → Nat → Nat → Int32}  {r : Int32} :
    ∀   (H : Heap) (locs : List Loc) (ls : Array Slot), p_X3_countLost_b0 (F 2) (I 6)  = some r → va_P D vwCl (wC a kc F G I J Z) H → va_S (ad a 44 s.heap.size) s.heap H locs → lv_has ls 3 [(0, .ref (a 0))] → W p l e rm_X3_countLost s m args below meth c H locs 0 0 (MQ below (Qi D (wC a kc F G I J Z) r (ad a 44 s.heap.size)) args s 0 0 (ad a 44 s.heap.size)) (F0 m 0 ls []) := by
  intro   H locs ls hf  hP hS hl
  unfold p_X3_countLost_b0 at hf
  refine lv_iconst (v := 0) X.1 X.2.1 dX3_countLost_0 (by decide) ?_
  refine lv_istore_n (lv' := [(1, .int 0), (0, .ref (a 0))]) X.1 X.2.1 dX3_countLost_1 rfl hl (by decide) rfl (fun ls hl => ?_)
  refine lv_iconst (v := 0) X.1 X.2.1 dX3_countLost_2 (by decide) ?_
  refine lv_istore_n (lv' := [(2, .int 0), (1, .int 0), (0, .ref (a 0))]) X.1 X.2.1 dX3_countLost_3 rfl hl (by decide) rfl (fun ls hl => ?_)
  exact t_X3_countLost_b4 X 4096  0 0 H locs ls hf  hP hS (lv_sub hl [2, 1, 0] rfl)
set_option maxRecDepth 100000 in
theorem c_X3_countLost {l : Launch} {D : va_G} {a : Nat → Nat} {kc : Nat → ClassId} (F : Nat → Int32) (G : Nat → Int64) (I : Nat → Nat → Int32) (J : Nat → Nat → Int64) (Z : Nat → Nat → Nat → Int32) (hAp : ∀ i j, i < 44 → j < 44 → a i = a j → i = j)  {o0 : Int32} (hf : p_X3_countLost (F 2) (I 6)  = some o0) : Ct 44 l yX3_countLost cX3_countLost 3 (some .int) rm_X3_countLost D (tyC kc) a (wC a kc F G I J Z) [.ref (a 0)] (Qi D (wC a kc F G I J Z) o0) :=
  Ct.of (by decide +kernel) hAp (Nat.le_of_ble_eq_true rfl) (fun p e s m args below meth c ls X hP hl => t_X3_countLost_b0 X   _ _ _ hf  hP va_S.rf hl)
abbrev rm_X3_countUnowned : Room := { frames := 1, cells := 0, slots := 0, locals := 23 }
set_option maxHeartbeats 4000000 in
set_option maxRecDepth 100000 in
theorem t_X3_countUnowned_b26 {p : Program} {l : Launch} {e : Env} {s : State} {m : MethodId} {args : Array Value} {below : List Frame} {meth : Method} {c : Code} {D : va_G} {a : Nat → Nat} {kc : Nat → ClassId} (X : cx 44 p s m args meth c D (tyC kc) a cX3_countUnowned 3 RX3 (some .int)) {F : Nat → Int32} {G : Nat → Int64} {I : Nat → Nat → Int32} {J : Nat → Nat → Int64} {Z : Nat → Nat → Nat → Int32}  {r : Int32} {K4 : Int32 → Int32 → (Nat → Int32) → Int32 → Int32 → Option (Int32)} (kh4 : ∀  (x1 : Int32) (x2 : Int32) (H : Heap) (locs : List Loc) (ls : Array Slot), K4 (F 0) (F 2) (I 5) x1 x2 = some r → va_P D vwCl (wC a kc F G I J Z) H → va_S (ad a 44 s.heap.size) s.heap H locs → lv_has ls 3 [(0, .ref (a 0)), (1, .int x1), (2, .int x2)] → W p l e rm_X3_countUnowned s m args below meth c H locs 0 0 (MQ below (Qi D (wC a kc F G I J Z) r (ad a 44 s.heap.size)) args s 0 0 (ad a 44 s.heap.size)) (F0 m 4 ls [])) :
    ∀  (t0 : Int32) (t1 : Int32) (x2 : Int32) (H : Heap) (locs : List Loc) (ls : Array Slot), p_X3_countUnowned_b26 K4 (F 0) (F 2) (I 5) t0 t1 x2 = some r → va_P D vwCl (wC a kc F G I J Z) H → va_S (ad a 44 s.heap.size) s.heap H locs → lv_has ls 3 [(0, .ref (a 0)), (2, .int x2)] → W p l e rm_X3_countUnowned s m args below meth c H locs 0 0 (MQ below (Qi D (wC a kc F G I J Z) r (ad a 44 s.heap.size)) args s 0 0 (ad a 44 s.heap.size)) (F0 m 26 ls [.int t1, .int t0]) := by
  intro  t0 t1 x2 H locs ls hf  hP hS hl
  unfold p_X3_countUnowned_b26 at hf
  refine lv_iadd X.1 X.2.1 dX3_countUnowned_26 ?_
  refine nm_i hf (fun x27 hf => ?_)
  refine lv_istore_n (lv' := [(1, .int x27), (0, .ref (a 0)), (2, .int x2)]) X.1 X.2.1 dX3_countUnowned_27 rfl hl (by decide) rfl (fun ls hl => ?_)
  obtain ⟨x28, ex28, hf⟩ := nm_x hf
  refine lv_iinc (v := x28) (lv' := [(2, .int x28), (1, .int x27), (0, .ref (a 0))]) X.1 X.2.1 dX3_countUnowned_28 hl (k := 2) rfl ex28 (by decide) rfl (fun ls hl => ?_)
  refine lv_goto (tgt := 4) X.1 X.2.1 dX3_countUnowned_31 (by decide) ?_
  exact kh4  x27 x28 H locs ls hf  hP hS (lv_sub hl [2, 1, 0] rfl)
set_option maxHeartbeats 4000000 in
set_option maxRecDepth 100000 in
theorem t_X3_countUnowned_b4x {p : Program} {l : Launch} {e : Env} {s : State} {m : MethodId} {args : Array Value} {below : List Frame} {meth : Method} {c : Code} {D : va_G} {a : Nat → Nat} {kc : Nat → ClassId} (X : cx 44 p s m args meth c D (tyC kc) a cX3_countUnowned 3 RX3 (some .int)) {F : Nat → Int32} {G : Nat → Int64} {I : Nat → Nat → Int32} {J : Nat → Nat → Int64} {Z : Nat → Nat → Nat → Int32}  {r : Int32} {K4 : Int32 → Int32 → (Nat → Int32) → Int32 → Int32 → Option (Int32)} (kh4 : ∀  (x1 : Int32) (x2 : Int32) (H : Heap) (locs : List Loc) (ls : Array Slot), K4 (F 0) (F 2) (I 5) x1 x2 = some r → va_P D vwCl (wC a kc F G I J Z) H → va_S (ad a 44 s.heap.size) s.heap H locs → lv_has ls 3 [(0, .ref (a 0)), (1, .int x1), (2, .int x2)] → W p l e rm_X3_countUnowned s m args below meth c H locs 0 0 (MQ below (Qi D (wC a kc F G I J Z) r (ad a 44 s.heap.size)) args s 0 0 (ad a 44 s.heap.size)) (F0 m 4 ls [])) :
    ∀  (x1 : Int32) (x2 : Int32) (H : Heap) (locs : List Loc) (ls : Array Slot), p_X3_countUnowned_b4x K4 (F 0) (F 2) (I 5) x1 x2 = some r → va_P D vwCl (wC a kc F G I J Z) H → va_S (ad a 44 s.heap.size) s.heap H locs → lv_has ls 3 [(0, .ref (a 0)), (1, .int x1), (2, .int x2)] → W p l e rm_X3_countUnowned s m args below meth c H locs 0 0 (MQ below (Qi D (wC a kc F G I J Z) r (ad a 44 s.heap.size)) args s 0 0 (ad a 44 s.heap.size)) (F0 m 4 ls []) := by
  intro  x1 x2 H locs ls hf  hP hS hl
  unfold p_X3_countUnowned_b4x at hf
  refine lv_iload_n X.1 X.2.1 dX3_countUnowned_4 rfl (lv_at hl 2 rfl) ?_
  refine lv_aload_n X.1 X.2.1 dX3_countUnowned_5 rfl (lv_at hl 0 rfl) ?_
  refine gC_0_8 (F := F) X (v := (F 0)) rfl q_1_80 dX3_countUnowned_6 hP ?_
  refine lv_icmp_ge (tgt := 34) X.1 X.2.1 dX3_countUnowned_9 (by decide) (fun c9 => ?_) (fun c9 => ?_)
  · have hf := it_s hf c9
    refine lv_iload_n X.1 X.2.1 dX3_countUnowned_34 rfl (lv_at hl 1 rfl) ?_
    have e0 := o1 hf
    exact ret_i X hS hP e0 dX3_countUnowned_35
  · have hf := ie_s hf c9
    refine lv_iload_n X.1 X.2.1 dX3_countUnowned_12 rfl (lv_at hl 1 rfl) ?_
    refine lv_aload_n X.1 X.2.1 dX3_countUnowned_13 rfl (lv_at hl 0 rfl) ?_
    refine lv_iload_n X.1 X.2.1 dX3_countUnowned_14 rfl (lv_at hl 2 rfl) ?_
    obtain ⟨r15, ho, hf⟩ := b1_s hf
    refine call_vi (rest := [.int x1]) X (c_X3_ownersOf F G I J Z X.2.2.2.2.2.2.2.1 x2 ho) q_4_70 q_2_125 q_2_126 q_1_2 q_2_127 ok_X3_ownersOf rfl 0 rfl rfl ⟨Nat.le_of_ble_eq_true rfl, Nat.le_of_ble_eq_true rfl⟩ rfl rfl hl.1 rfl (Nat.le_of_ble_eq_true rfl) dX3_countUnowned_15 hP hS (fun H locs hP hS => ?_)
    refine lv_if_ne (tgt := 25) X.1 X.2.1 dX3_countUnowned_18 (by decide) (fun c18 => ?_) (fun c18 => ?_)
    · have hf := ie_s hf c18
      refine lv_iconst (v := 0) X.1 X.2.1 dX3_countUnowned_25 (by decide) ?_
      exact t_X3_countUnowned_b26 X kh4  x1 0 x2 H locs ls hf  hP hS (lv_sub hl [0, 2] rfl)
    · have hf := it_s hf c18
      refine lv_iconst (v := 1) X.1 X.2.1 dX3_countUnowned_21 (by decide) ?_
      refine lv_goto (tgt := 26) X.1 X.2.1 dX3_countUnowned_22 (by decide) ?_
      exact t_X3_countUnowned_b26 X kh4  x1 1 x2 H locs ls hf  hP hS (lv_sub hl [0, 2] rfl)
set_option maxRecDepth 100000 in
theorem t_X3_countUnowned_b4 {p : Program} {l : Launch} {e : Env} {s : State} {m : MethodId} {args : Array Value} {below : List Frame} {meth : Method} {c : Code} {D : va_G} {a : Nat → Nat} {kc : Nat → ClassId} (X : cx 44 p s m args meth c D (tyC kc) a cX3_countUnowned 3 RX3 (some .int)) {F : Nat → Int32} {G : Nat → Int64} {I : Nat → Nat → Int32} {J : Nat → Nat → Int64} {Z : Nat → Nat → Nat → Int32}  {r : Int32} :
    ∀ (n : Nat)  (x1 : Int32) (x2 : Int32) (H : Heap) (locs : List Loc) (ls : Array Slot), p_X3_countUnowned_b4 n (F 0) (F 2) (I 5) x1 x2 = some r → va_P D vwCl (wC a kc F G I J Z) H → va_S (ad a 44 s.heap.size) s.heap H locs → lv_has ls 3 [(0, .ref (a 0)), (1, .int x1), (2, .int x2)] → W p l e rm_X3_countUnowned s m args below meth c H locs 0 0 (MQ below (Qi D (wC a kc F G I J Z) r (ad a 44 s.heap.size)) args s 0 0 (ad a 44 s.heap.size)) (F0 m 4 ls []) := by
  intro n
  induction n with
  | zero => intro  x1 x2 H locs ls hf  hP hS hl; exact (nos hf).elim
  | succ n ih => exact t_X3_countUnowned_b4x X ih
set_option maxHeartbeats 4000000 in
set_option maxRecDepth 100000 in
theorem t_X3_countUnowned_b0 {p : Program} {l : Launch} {e : Env} {s : State} {m : MethodId} {args : Array Value} {below : List Frame} {meth : Method} {c : Code} {D : va_G} {a : Nat → Nat} {kc : Nat → ClassId} (X : cx 44 p s m args meth c D (tyC kc) a cX3_countUnowned 3 RX3 (some .int)) {F : Nat → Int32} {G : Nat → Int64} {I : Nat → Nat → Int32} {J : Nat → Nat → Int64} {Z : Nat → Nat → Nat → Int32}  {r : Int32} :
    ∀   (H : Heap) (locs : List Loc) (ls : Array Slot), p_X3_countUnowned_b0 (F 0) (F 2) (I 5)  = some r → va_P D vwCl (wC a kc F G I J Z) H → va_S (ad a 44 s.heap.size) s.heap H locs → lv_has ls 3 [(0, .ref (a 0))] → W p l e rm_X3_countUnowned s m args below meth c H locs 0 0 (MQ below (Qi D (wC a kc F G I J Z) r (ad a 44 s.heap.size)) args s 0 0 (ad a 44 s.heap.size)) (F0 m 0 ls []) := by
  intro   H locs ls hf  hP hS hl
  unfold p_X3_countUnowned_b0 at hf
  refine lv_iconst (v := 0) X.1 X.2.1 dX3_countUnowned_0 (by decide) ?_
  refine lv_istore_n (lv' := [(1, .int 0), (0, .ref (a 0))]) X.1 X.2.1 dX3_countUnowned_1 rfl hl (by decide) rfl (fun ls hl => ?_)
  refine lv_iconst (v := 0) X.1 X.2.1 dX3_countUnowned_2 (by decide) ?_
  refine lv_istore_n (lv' := [(2, .int 0), (1, .int 0), (0, .ref (a 0))]) X.1 X.2.1 dX3_countUnowned_3 rfl hl (by decide) rfl (fun ls hl => ?_)
  exact t_X3_countUnowned_b4 X 4096  0 0 H locs ls hf  hP hS (lv_sub hl [2, 1, 0] rfl)
set_option maxRecDepth 100000 in
theorem c_X3_countUnowned {l : Launch} {D : va_G} {a : Nat → Nat} {kc : Nat → ClassId} (F : Nat → Int32) (G : Nat → Int64) (I : Nat → Nat → Int32) (J : Nat → Nat → Int64) (Z : Nat → Nat → Nat → Int32) (hAp : ∀ i j, i < 44 → j < 44 → a i = a j → i = j)  {o0 : Int32} (hf : p_X3_countUnowned (F 0) (F 2) (I 5)  = some o0) : Ct 44 l yX3_countUnowned cX3_countUnowned 3 (some .int) rm_X3_countUnowned D (tyC kc) a (wC a kc F G I J Z) [.ref (a 0)] (Qi D (wC a kc F G I J Z) o0) :=
  Ct.of (by decide +kernel) hAp (Nat.le_of_ble_eq_true rfl) (fun p e s m args below meth c ls X hP hl => t_X3_countUnowned_b0 X   _ _ _ hf  hP va_S.rf hl)
abbrev rm_X3_isIn : Room := { frames := 1, cells := 0, slots := 0, locals := 21 }
set_option maxHeartbeats 4000000 in
set_option maxRecDepth 100000 in
theorem t_X3_isIn_b25 {p : Program} {l : Launch} {e : Env} {s : State} {m : MethodId} {args : Array Value} {below : List Frame} {meth : Method} {c : Code} {D : va_G} {a : Nat → Nat} {kc : Nat → ClassId} (X : cx 44 p s m args meth c D (tyC kc) a cX3_isIn 3 RX3 (some .boolean)) {F : Nat → Int32} {G : Nat → Int64} {I : Nat → Nat → Int32} {J : Nat → Nat → Int64} {Z : Nat → Nat → Nat → Int32}  {r : Int32} :
    ∀  (t0 : Int32) (H : Heap) (locs : List Loc) (ls : Array Slot), p_X3_isIn_b25 (F 0) t0 = some r → va_P D vwCl (wC a kc F G I J Z) H → va_S (ad a 44 s.heap.size) s.heap H locs → lv_has ls 3 [(0, .ref (a 0))] → W p l e rm_X3_isIn s m args below meth c H locs 0 0 (MQ below (Qi D (wC a kc F G I J Z) r (ad a 44 s.heap.size)) args s 0 0 (ad a 44 s.heap.size)) (F0 m 25 ls [.int t0]) := by
  intro  t0 H locs ls hf  hP hS hl
  unfold p_X3_isIn_b25 at hf
  obtain ⟨h25, hf⟩ := gd_s hf
  have e0 := o1 hf
  exact ret_z X hS hP e0 h25 dX3_isIn_25
set_option maxHeartbeats 4000000 in
set_option maxRecDepth 100000 in
theorem t_X3_isIn_b24 {p : Program} {l : Launch} {e : Env} {s : State} {m : MethodId} {args : Array Value} {below : List Frame} {meth : Method} {c : Code} {D : va_G} {a : Nat → Nat} {kc : Nat → ClassId} (X : cx 44 p s m args meth c D (tyC kc) a cX3_isIn 3 RX3 (some .boolean)) {F : Nat → Int32} {G : Nat → Int64} {I : Nat → Nat → Int32} {J : Nat → Nat → Int64} {Z : Nat → Nat → Nat → Int32}  {r : Int32} :
    ∀   (H : Heap) (locs : List Loc) (ls : Array Slot), p_X3_isIn_b24 (F 0)  = some r → va_P D vwCl (wC a kc F G I J Z) H → va_S (ad a 44 s.heap.size) s.heap H locs → lv_has ls 3 [(0, .ref (a 0))] → W p l e rm_X3_isIn s m args below meth c H locs 0 0 (MQ below (Qi D (wC a kc F G I J Z) r (ad a 44 s.heap.size)) args s 0 0 (ad a 44 s.heap.size)) (F0 m 24 ls []) := by
  intro   H locs ls hf  hP hS hl
  unfold p_X3_isIn_b24 at hf
  refine lv_iconst (v := 0) X.1 X.2.1 dX3_isIn_24 (by decide) ?_
  exact t_X3_isIn_b25 X  0 H locs ls hf  hP hS (lv_sub hl [0] rfl)
set_option maxHeartbeats 4000000 in
set_option maxRecDepth 100000 in
theorem t_X3_isIn_b0 {p : Program} {l : Launch} {e : Env} {s : State} {m : MethodId} {args : Array Value} {below : List Frame} {meth : Method} {c : Code} {D : va_G} {a : Nat → Nat} {kc : Nat → ClassId} (X : cx 44 p s m args meth c D (tyC kc) a cX3_isIn 3 RX3 (some .boolean)) {F : Nat → Int32} {G : Nat → Int64} {I : Nat → Nat → Int32} {J : Nat → Nat → Int64} {Z : Nat → Nat → Nat → Int32}  {r : Int32} :
    ∀  (x1 : Int32) (x2 : Int32) (H : Heap) (locs : List Loc) (ls : Array Slot), p_X3_isIn_b0 (F 0) x1 x2 = some r → va_P D vwCl (wC a kc F G I J Z) H → va_S (ad a 44 s.heap.size) s.heap H locs → lv_has ls 3 [(0, .ref (a 0)), (1, .int x1), (2, .int x2)] → W p l e rm_X3_isIn s m args below meth c H locs 0 0 (MQ below (Qi D (wC a kc F G I J Z) r (ad a 44 s.heap.size)) args s 0 0 (ad a 44 s.heap.size)) (F0 m 0 ls []) := by
  intro  x1 x2 H locs ls hf  hP hS hl
  unfold p_X3_isIn_b0 at hf
  refine lv_iload_n X.1 X.2.1 dX3_isIn_0 rfl (lv_at hl 2 rfl) ?_
  refine lv_if_lt (tgt := 24) X.1 X.2.1 dX3_isIn_1 (by decide) (fun c1 => ?_) (fun c1 => ?_)
  · have hf := it_s hf c1
    exact t_X3_isIn_b24 X   H locs ls hf  hP hS (lv_sub hl [0] rfl)
  · have hf := ie_s hf c1
    refine lv_iload_n X.1 X.2.1 dX3_isIn_4 rfl (lv_at hl 2 rfl) ?_
    refine lv_aload_n X.1 X.2.1 dX3_isIn_5 rfl (lv_at hl 0 rfl) ?_
    refine gC_0_8 (F := F) X (v := (F 0)) rfl q_1_80 dX3_isIn_6 hP ?_
    refine lv_icmp_ge (tgt := 24) X.1 X.2.1 dX3_isIn_9 (by decide) (fun c9 => ?_) (fun c9 => ?_)
    · have hf := it_s hf c9
      exact t_X3_isIn_b24 X   H locs ls hf  hP hS (lv_sub hl [0] rfl)
    · have hf := ie_s hf c9
      refine lv_iload_n X.1 X.2.1 dX3_isIn_12 rfl (lv_at hl 1 rfl) ?_
      refine lv_iload_n X.1 X.2.1 dX3_isIn_13 rfl (lv_at hl 2 rfl) ?_
      obtain ⟨r14, ho, hf⟩ := b1_s hf
      refine call_si (rest := []) X (c_X3_has x1 x2 ho) q_2_185 q_2_178 q_1_2 q_2_179 ok_X3_has rfl ⟨Nat.le_of_ble_eq_true rfl, Nat.le_of_ble_eq_true rfl⟩ rfl rfl hl.1 rfl (Nat.le_of_ble_eq_true rfl) dX3_isIn_14 hP hS (fun H locs hP hS => ?_)
      refine lv_if_eq (tgt := 24) X.1 X.2.1 dX3_isIn_17 (by decide) (fun c17 => ?_) (fun c17 => ?_)
      · have hf := it_s hf c17
        exact t_X3_isIn_b24 X   H locs ls hf  hP hS (lv_sub hl [0] rfl)
      · have hf := ie_s hf c17
        refine lv_iconst (v := 1) X.1 X.2.1 dX3_isIn_20 (by decide) ?_
        refine lv_goto (tgt := 25) X.1 X.2.1 dX3_isIn_21 (by decide) ?_
        exact t_X3_isIn_b25 X  1 H locs ls hf  hP hS (lv_sub hl [0] rfl)
set_option maxRecDepth 100000 in
theorem c_X3_isIn {l : Launch} {D : va_G} {a : Nat → Nat} {kc : Nat → ClassId} (F : Nat → Int32) (G : Nat → Int64) (I : Nat → Nat → Int32) (J : Nat → Nat → Int64) (Z : Nat → Nat → Nat → Int32) (hAp : ∀ i j, i < 44 → j < 44 → a i = a j → i = j) (x1 : Int32) (x2 : Int32) {o0 : Int32} (hf : p_X3_isIn (F 0) x1 x2 = some o0) : Ct 44 l yX3_isIn cX3_isIn 3 (some .boolean) rm_X3_isIn D (tyC kc) a (wC a kc F G I J Z) [.ref (a 0), .int x1, .int x2] (Qi D (wC a kc F G I J Z) o0) :=
  Ct.of (by decide +kernel) hAp (Nat.le_of_ble_eq_true rfl) (fun p e s m args below meth c ls X hP hl => t_X3_isIn_b0 X  x1 x2 _ _ _ hf  hP va_S.rf hl)
abbrev rm_X3_firstWhoCannot : Room := { frames := 2, cells := 0, slots := 0, locals := 50 }
set_option maxHeartbeats 4000000 in
set_option maxRecDepth 100000 in
theorem t_X3_firstWhoCannot_b4x {p : Program} {l : Launch} {e : Env} {s : State} {m : MethodId} {args : Array Value} {below : List Frame} {meth : Method} {c : Code} {D : va_G} {a : Nat → Nat} {kc : Nat → ClassId} (X : cx 44 p s m args meth c D (tyC kc) a cX3_firstWhoCannot 5 RX3 (some .int)) {F : Nat → Int32} {G : Nat → Int64} {I : Nat → Nat → Int32} {J : Nat → Nat → Int64} {Z : Nat → Nat → Nat → Int32}  {r : Int32} {K4 : Int32 → Int32 → (Nat → Int32) → (Nat → Int32) → (Nat → Int32) → (Nat → Int32) → (Nat → Nat → Int32) → Nat → Int32 → Int32 → Option (Int32)} (kh4 : ∀  (s1 : Nat) (x2 : Int32) (x3 : Int32) (H : Heap) (locs : List Loc) (ls : Array Slot), K4 (F 0) (F 2) (I 2) (I 4) (I 5) (I 6) (Z 1) s1 x2 x3 = some r → va_P D vwCl (wC a kc F G I J Z) H → va_S (ad a 44 s.heap.size) s.heap H locs → lv_has ls 5 [(0, .ref (a 0)), (1, .ref (a (40 + s1))), (2, .int x2), (3, .int x3)] → W p l e rm_X3_firstWhoCannot s m args below meth c H locs 0 0 (MQ below (Qi D (wC a kc F G I J Z) r (ad a 44 s.heap.size)) args s 0 0 (ad a 44 s.heap.size)) (F0 m 4 ls [])) :
    ∀  (s1 : Nat) (x2 : Int32) (x3 : Int32) (H : Heap) (locs : List Loc) (ls : Array Slot), p_X3_firstWhoCannot_b4x K4 (F 0) (F 2) (I 2) (I 4) (I 5) (I 6) (Z 1) s1 x2 x3 = some r → va_P D vwCl (wC a kc F G I J Z) H → va_S (ad a 44 s.heap.size) s.heap H locs → lv_has ls 5 [(0, .ref (a 0)), (1, .ref (a (40 + s1))), (2, .int x2), (3, .int x3)] → W p l e rm_X3_firstWhoCannot s m args below meth c H locs 0 0 (MQ below (Qi D (wC a kc F G I J Z) r (ad a 44 s.heap.size)) args s 0 0 (ad a 44 s.heap.size)) (F0 m 4 ls []) := by
  intro  s1 x2 x3 H locs ls hf  hP hS hl
  unfold p_X3_firstWhoCannot_b4x at hf
  refine lv_iload_n X.1 X.2.1 dX3_firstWhoCannot_4 rfl (lv_at hl 3 rfl) ?_
  refine lv_aload_n X.1 X.2.1 dX3_firstWhoCannot_5 rfl (lv_at hl 0 rfl) ?_
  refine gC_0_10 (F := F) X (v := (F 2)) rfl q_1_92 dX3_firstWhoCannot_6 hP ?_
  refine lv_icmp_ge (tgt := 59) X.1 X.2.1 dX3_firstWhoCannot_9 (by decide) (fun c9 => ?_) (fun c9 => ?_)
  · have hf := it_s hf c9
    refine lv_iconst (v := (-1)) X.1 X.2.1 dX3_firstWhoCannot_59 (by decide) ?_
    have e0 := o1 hf
    exact ret_i X hS hP e0 dX3_firstWhoCannot_60
  · have hf := ie_s hf c9
    refine lv_aload_n X.1 X.2.1 dX3_firstWhoCannot_12 rfl (lv_at hl 0 rfl) ?_
    refine lv_iload_n X.1 X.2.1 dX3_firstWhoCannot_13 rfl (lv_at hl 2 rfl) ?_
    refine lv_aload_n X.1 X.2.1 dX3_firstWhoCannot_14 rfl (lv_at hl 0 rfl) ?_
    refine gC_0_6 X q_1_65 dX3_firstWhoCannot_15 hP ?_
    refine lv_iload_n X.1 X.2.1 dX3_firstWhoCannot_18 rfl (lv_at hl 3 rfl) ?_
    obtain ⟨h19, hf⟩ := gd_s hf
    refine lC_9 (I := I) X (f := (I 5)) rfl h19 dX3_firstWhoCannot_19 hP ?_
    refine lv_aload_n X.1 X.2.1 dX3_firstWhoCannot_20 rfl (lv_at hl 0 rfl) ?_
    refine gC_0_7 X q_1_72 dX3_firstWhoCannot_21 hP ?_
    refine lv_iload_n X.1 X.2.1 dX3_firstWhoCannot_24 rfl (lv_at hl 3 rfl) ?_
    obtain ⟨h25, hf⟩ := gd_s hf
    refine lC_10 (I := I) X (f := (I 6)) rfl h25 dX3_firstWhoCannot_25 hP ?_
    obtain ⟨r26, ho, hf⟩ := b1_s hf
    refine call_vi (rest := []) X (c_X3_choices F G I J Z X.2.2.2.2.2.2.2.1 x2 ((I 5) x3.toNatClampNeg) ((I 6) x3.toNatClampNeg) ho) q_3_6 q_2_181 q_2_182 q_1_2 q_2_183 ok_X3_choices rfl 0 rfl rfl ⟨Nat.le_of_ble_eq_true rfl, Nat.le_of_ble_eq_true rfl⟩ rfl rfl hl.1 rfl (Nat.le_of_ble_eq_true rfl) dX3_firstWhoCannot_26 hP hS (fun H locs hP hS => ?_)
    refine lv_istore (lv' := [(4, .int r26), (0, .ref (a 0)), (1, .ref (a (40 + s1))), (2, .int x2), (3, .int x3)]) X.1 X.2.1 dX3_firstWhoCannot_29 hl (by decide) rfl (fun ls hl => ?_)
    refine lv_aload_n X.1 X.2.1 dX3_firstWhoCannot_31 rfl (lv_at hl 1 rfl) ?_
    refine lv_iload X.1 X.2.1 dX3_firstWhoCannot_32 (lv_at hl 0 rfl) ?_
    refine lv_aload_n X.1 X.2.1 dX3_firstWhoCannot_34 rfl (lv_at hl 2 rfl) ?_
    refine lv_iload_n X.1 X.2.1 dX3_firstWhoCannot_35 rfl (lv_at hl 4 rfl) ?_
    obtain ⟨h36s, hf⟩ := gd_s hf
    obtain ⟨h36, hf⟩ := gd_s hf
    refine ldC_40 (Z := Z) X (of_decide_eq_true h36s) (f := (Z 1)) rfl h36 dX3_firstWhoCannot_36 hP ?_
    obtain ⟨r37, ho, hf⟩ := b1_s hf
    refine call_vi (rest := []) X (c_X3_isIn F G I J Z X.2.2.2.2.2.2.2.1 r26 ((Z 1) s1 x3.toNatClampNeg) ho) q_3_7 q_3_9 qs_yX3_isIn q_1_2 q_3_10 ok_X3_isIn rfl 0 rfl rfl ⟨Nat.le_of_ble_eq_true rfl, Nat.le_of_ble_eq_true rfl⟩ rfl rfl hl.1 rfl (Nat.le_of_ble_eq_true rfl) dX3_firstWhoCannot_37 hP hS (fun H locs hP hS => ?_)
    refine lv_if_ne (tgt := 45) X.1 X.2.1 dX3_firstWhoCannot_40 (by decide) (fun c40 => ?_) (fun c40 => ?_)
    · have hf := ie_s hf c40
      refine lv_iload_n X.1 X.2.1 dX3_firstWhoCannot_45 rfl (lv_at hl 3 rfl) ?_
      refine lv_iconst (v := 1) X.1 X.2.1 dX3_firstWhoCannot_46 (by decide) ?_
      refine lv_aload_n X.1 X.2.1 dX3_firstWhoCannot_47 rfl (lv_at hl 2 rfl) ?_
      refine lv_iload_n X.1 X.2.1 dX3_firstWhoCannot_48 rfl (lv_at hl 4 rfl) ?_
      obtain ⟨h49s, hf⟩ := gd_s hf
      obtain ⟨h49, hf⟩ := gd_s hf
      refine ldC_40 (Z := Z) X (of_decide_eq_true h49s) (f := (Z 1)) rfl h49 dX3_firstWhoCannot_49 hP ?_
      refine lv_ishl X.1 X.2.1 dX3_firstWhoCannot_50 ?_
      refine lv_ior X.1 X.2.1 dX3_firstWhoCannot_51 ?_
      refine nm_i hf (fun x52 hf => ?_)
      refine lv_istore_n (lv' := [(2, .int x52), (4, .int r26), (0, .ref (a 0)), (1, .ref (a (40 + s1))), (3, .int x3)]) X.1 X.2.1 dX3_firstWhoCannot_52 rfl hl (by decide) rfl (fun ls hl => ?_)
      obtain ⟨x53, ex53, hf⟩ := nm_x hf
      refine lv_iinc (v := x53) (lv' := [(3, .int x53), (2, .int x52), (4, .int r26), (0, .ref (a 0)), (1, .ref (a (40 + s1)))]) X.1 X.2.1 dX3_firstWhoCannot_53 hl (k := 4) rfl ex53 (by decide) rfl (fun ls hl => ?_)
      refine lv_goto (tgt := 4) X.1 X.2.1 dX3_firstWhoCannot_56 (by decide) ?_
      exact kh4  s1 x52 x53 H locs ls hf  hP hS (lv_sub hl [3, 4, 1, 0] rfl)
    · have hf := it_s hf c40
      refine lv_iload_n X.1 X.2.1 dX3_firstWhoCannot_43 rfl (lv_at hl 4 rfl) ?_
      have e0 := o1 hf
      exact ret_i X hS hP e0 dX3_firstWhoCannot_44
set_option maxRecDepth 100000 in
theorem t_X3_firstWhoCannot_b4 {p : Program} {l : Launch} {e : Env} {s : State} {m : MethodId} {args : Array Value} {below : List Frame} {meth : Method} {c : Code} {D : va_G} {a : Nat → Nat} {kc : Nat → ClassId} (X : cx 44 p s m args meth c D (tyC kc) a cX3_firstWhoCannot 5 RX3 (some .int)) {F : Nat → Int32} {G : Nat → Int64} {I : Nat → Nat → Int32} {J : Nat → Nat → Int64} {Z : Nat → Nat → Nat → Int32}  {r : Int32} :
    ∀ (n : Nat)  (s1 : Nat) (x2 : Int32) (x3 : Int32) (H : Heap) (locs : List Loc) (ls : Array Slot), p_X3_firstWhoCannot_b4 n (F 0) (F 2) (I 2) (I 4) (I 5) (I 6) (Z 1) s1 x2 x3 = some r → va_P D vwCl (wC a kc F G I J Z) H → va_S (ad a 44 s.heap.size) s.heap H locs → lv_has ls 5 [(0, .ref (a 0)), (1, .ref (a (40 + s1))), (2, .int x2), (3, .int x3)] → W p l e rm_X3_firstWhoCannot s m args below meth c H locs 0 0 (MQ below (Qi D (wC a kc F G I J Z) r (ad a 44 s.heap.size)) args s 0 0 (ad a 44 s.heap.size)) (F0 m 4 ls []) := by
  intro n
  induction n with
  | zero => intro  s1 x2 x3 H locs ls hf  hP hS hl; exact (nos hf).elim
  | succ n ih => exact t_X3_firstWhoCannot_b4x X ih
set_option maxHeartbeats 4000000 in
set_option maxRecDepth 100000 in
theorem t_X3_firstWhoCannot_b0 {p : Program} {l : Launch} {e : Env} {s : State} {m : MethodId} {args : Array Value} {below : List Frame} {meth : Method} {c : Code} {D : va_G} {a : Nat → Nat} {kc : Nat → ClassId} (X : cx 44 p s m args meth c D (tyC kc) a cX3_firstWhoCannot 5 RX3 (some .int)) {F : Nat → Int32} {G : Nat → Int64} {I : Nat → Nat → Int32} {J : Nat → Nat → Int64} {Z : Nat → Nat → Nat → Int32}  {r : Int32} :
    ∀  (s1 : Nat) (H : Heap) (locs : List Loc) (ls : Array Slot), p_X3_firstWhoCannot_b0 (F 0) (F 2) (I 2) (I 4) (I 5) (I 6) (Z 1) s1 = some r → va_P D vwCl (wC a kc F G I J Z) H → va_S (ad a 44 s.heap.size) s.heap H locs → lv_has ls 5 [(0, .ref (a 0)), (1, .ref (a (40 + s1)))] → W p l e rm_X3_firstWhoCannot s m args below meth c H locs 0 0 (MQ below (Qi D (wC a kc F G I J Z) r (ad a 44 s.heap.size)) args s 0 0 (ad a 44 s.heap.size)) (F0 m 0 ls []) := by
  intro  s1 H locs ls hf  hP hS hl
  unfold p_X3_firstWhoCannot_b0 at hf
  refine lv_iconst (v := 0) X.1 X.2.1 dX3_firstWhoCannot_0 (by decide) ?_
  refine lv_istore_n (lv' := [(2, .int 0), (0, .ref (a 0)), (1, .ref (a (40 + s1)))]) X.1 X.2.1 dX3_firstWhoCannot_1 rfl hl (by decide) rfl (fun ls hl => ?_)
  refine lv_iconst (v := 0) X.1 X.2.1 dX3_firstWhoCannot_2 (by decide) ?_
  refine lv_istore_n (lv' := [(3, .int 0), (2, .int 0), (0, .ref (a 0)), (1, .ref (a (40 + s1)))]) X.1 X.2.1 dX3_firstWhoCannot_3 rfl hl (by decide) rfl (fun ls hl => ?_)
  exact t_X3_firstWhoCannot_b4 X 4096  s1 0 0 H locs ls hf  hP hS (lv_sub hl [2, 3, 1, 0] rfl)
set_option maxRecDepth 100000 in
theorem c_X3_firstWhoCannot {l : Launch} {D : va_G} {a : Nat → Nat} {kc : Nat → ClassId} (F : Nat → Int32) (G : Nat → Int64) (I : Nat → Nat → Int32) (J : Nat → Nat → Int64) (Z : Nat → Nat → Nat → Int32) (hAp : ∀ i j, i < 44 → j < 44 → a i = a j → i = j) (s1 : Nat) {o0 : Int32} (hf : p_X3_firstWhoCannot (F 0) (F 2) (I 2) (I 4) (I 5) (I 6) (Z 1) s1 = some o0) : Ct 44 l yX3_firstWhoCannot cX3_firstWhoCannot 5 (some .int) rm_X3_firstWhoCannot D (tyC kc) a (wC a kc F G I J Z) [.ref (a 0), .ref (a (40 + s1))] (Qi D (wC a kc F G I J Z) o0) :=
  Ct.of (by decide +kernel) hAp (Nat.le_of_ble_eq_true rfl) (fun p e s m args below meth c ls X hP hl => t_X3_firstWhoCannot_b0 X  s1 _ _ _ hf  hP va_S.rf hl)
abbrev rm_X3_chanceOf : Room := { frames := 2, cells := 0, slots := 0, locals := 50 }
set_option maxHeartbeats 4000000 in
set_option maxRecDepth 100000 in
theorem t_X3_chanceOf_b64 {p : Program} {l : Launch} {e : Env} {s : State} {m : MethodId} {args : Array Value} {below : List Frame} {meth : Method} {c : Code} {D : va_G} {a : Nat → Nat} {kc : Nat → ClassId} (X : cx 44 p s m args meth c D (tyC kc) a cX3_chanceOf 8 RX3 (some .long)) {F : Nat → Int32} {G : Nat → Int64} {I : Nat → Nat → Int32} {J : Nat → Nat → Int64} {Z : Nat → Nat → Nat → Int32}  {r : Int64} :
    ∀   (H : Heap) (locs : List Loc) (ls : Array Slot), p_X3_chanceOf_b64 (F 0) (F 2) (I 2) (I 4) (I 5) (I 6) (Z 1)  = some r → va_P D vwCl (wC a kc F G I J Z) H → va_S (ad a 44 s.heap.size) s.heap H locs → lv_has ls 8 [(0, .ref (a 0))] → W p l e rm_X3_chanceOf s m args below meth c H locs 0 0 (MQ below (Ql D (wC a kc F G I J Z) r (ad a 44 s.heap.size)) args s 0 0 (ad a 44 s.heap.size)) (F0 m 64 ls []) := by
  intro   H locs ls hf  hP hS hl
  unfold p_X3_chanceOf_b64 at hf
  refine lv_lconst (v := 0) X.1 X.2.1 dX3_chanceOf_64 (by decide) ?_
  have e0 := o1 hf
  exact ret_l X hS hP e0 dX3_chanceOf_65
set_option maxHeartbeats 4000000 in
set_option maxRecDepth 100000 in
theorem t_X3_chanceOf_b9x {p : Program} {l : Launch} {e : Env} {s : State} {m : MethodId} {args : Array Value} {below : List Frame} {meth : Method} {c : Code} {D : va_G} {a : Nat → Nat} {kc : Nat → ClassId} (X : cx 44 p s m args meth c D (tyC kc) a cX3_chanceOf 8 RX3 (some .long)) {F : Nat → Int32} {G : Nat → Int64} {I : Nat → Nat → Int32} {J : Nat → Nat → Int64} {Z : Nat → Nat → Nat → Int32}  {r : Int64} {K9 : Int32 → Int32 → (Nat → Int32) → (Nat → Int32) → (Nat → Int32) → (Nat → Int32) → (Nat → Nat → Int32) → Nat → Int32 → Int64 → Int32 → Option (Int64)} (kh9 : ∀  (s1 : Nat) (x2 : Int32) (x3 : Int64) (x5 : Int32) (H : Heap) (locs : List Loc) (ls : Array Slot), K9 (F 0) (F 2) (I 2) (I 4) (I 5) (I 6) (Z 1) s1 x2 x3 x5 = some r → va_P D vwCl (wC a kc F G I J Z) H → va_S (ad a 44 s.heap.size) s.heap H locs → lv_has ls 8 [(0, .ref (a 0)), (1, .ref (a (40 + s1))), (2, .int x2), (3, .long x3), (5, .int x5)] → W p l e rm_X3_chanceOf s m args below meth c H locs 0 0 (MQ below (Ql D (wC a kc F G I J Z) r (ad a 44 s.heap.size)) args s 0 0 (ad a 44 s.heap.size)) (F0 m 9 ls [])) :
    ∀  (s1 : Nat) (x2 : Int32) (x3 : Int64) (x5 : Int32) (H : Heap) (locs : List Loc) (ls : Array Slot), p_X3_chanceOf_b9x K9 (F 0) (F 2) (I 2) (I 4) (I 5) (I 6) (Z 1) s1 x2 x3 x5 = some r → va_P D vwCl (wC a kc F G I J Z) H → va_S (ad a 44 s.heap.size) s.heap H locs → lv_has ls 8 [(0, .ref (a 0)), (1, .ref (a (40 + s1))), (2, .int x2), (3, .long x3), (5, .int x5)] → W p l e rm_X3_chanceOf s m args below meth c H locs 0 0 (MQ below (Ql D (wC a kc F G I J Z) r (ad a 44 s.heap.size)) args s 0 0 (ad a 44 s.heap.size)) (F0 m 9 ls []) := by
  intro  s1 x2 x3 x5 H locs ls hf  hP hS hl
  unfold p_X3_chanceOf_b9x at hf
  refine lv_iload X.1 X.2.1 dX3_chanceOf_9 (lv_at hl 4 rfl) ?_
  refine lv_aload_n X.1 X.2.1 dX3_chanceOf_11 rfl (lv_at hl 0 rfl) ?_
  refine gC_0_10 (F := F) X (v := (F 2)) rfl q_1_92 dX3_chanceOf_12 hP ?_
  refine lv_icmp_ge (tgt := 87) X.1 X.2.1 dX3_chanceOf_15 (by decide) (fun c15 => ?_) (fun c15 => ?_)
  · have hf := it_s hf c15
    refine lv_lload_n X.1 X.2.1 dX3_chanceOf_87 rfl (lv_at hl 3 rfl) ?_
    have e0 := o1 hf
    exact ret_l X hS hP e0 dX3_chanceOf_88
  · have hf := ie_s hf c15
    refine lv_aload_n X.1 X.2.1 dX3_chanceOf_18 rfl (lv_at hl 0 rfl) ?_
    refine lv_iload_n X.1 X.2.1 dX3_chanceOf_19 rfl (lv_at hl 2 rfl) ?_
    refine lv_aload_n X.1 X.2.1 dX3_chanceOf_20 rfl (lv_at hl 0 rfl) ?_
    refine gC_0_6 X q_1_65 dX3_chanceOf_21 hP ?_
    refine lv_iload X.1 X.2.1 dX3_chanceOf_24 (lv_at hl 4 rfl) ?_
    obtain ⟨h26, hf⟩ := gd_s hf
    refine lC_9 (I := I) X (f := (I 5)) rfl h26 dX3_chanceOf_26 hP ?_
    refine lv_aload_n X.1 X.2.1 dX3_chanceOf_27 rfl (lv_at hl 0 rfl) ?_
    refine gC_0_7 X q_1_72 dX3_chanceOf_28 hP ?_
    refine lv_iload X.1 X.2.1 dX3_chanceOf_31 (lv_at hl 4 rfl) ?_
    obtain ⟨h33, hf⟩ := gd_s hf
    refine lC_10 (I := I) X (f := (I 6)) rfl h33 dX3_chanceOf_33 hP ?_
    obtain ⟨r34, ho, hf⟩ := b1_s hf
    refine call_vi (rest := []) X (c_X3_choices F G I J Z X.2.2.2.2.2.2.2.1 x2 ((I 5) x5.toNatClampNeg) ((I 6) x5.toNatClampNeg) ho) q_3_6 q_2_181 q_2_182 q_1_2 q_2_183 ok_X3_choices rfl 0 rfl rfl ⟨Nat.le_of_ble_eq_true rfl, Nat.le_of_ble_eq_true rfl⟩ rfl rfl hl.1 rfl (Nat.le_of_ble_eq_true rfl) dX3_chanceOf_34 hP hS (fun H locs hP hS => ?_)
    refine lv_istore (lv' := [(6, .int r34), (0, .ref (a 0)), (1, .ref (a (40 + s1))), (2, .int x2), (3, .long x3), (5, .int x5)]) X.1 X.2.1 dX3_chanceOf_37 hl (by decide) rfl (fun ls hl => ?_)
    refine lv_iload X.1 X.2.1 dX3_chanceOf_39 (lv_at hl 0 rfl) ?_
    obtain ⟨r41, ho, hf⟩ := b1_s hf
    refine call_si (rest := []) X (c_J6_bitCount_0f7a4 r34 ho) q_3_20 q_2_164 q_1_11 q_2_165 ok_J6_bitCount_0f7a4 rfl ⟨Nat.le_of_ble_eq_true rfl, Nat.le_of_ble_eq_true rfl⟩ rfl rfl hl.1 rfl (Nat.le_of_ble_eq_true rfl) dX3_chanceOf_41 hP hS (fun H locs hP hS => ?_)
    refine lv_istore (lv' := [(7, .int r41), (6, .int r34), (0, .ref (a 0)), (1, .ref (a (40 + s1))), (2, .int x2), (3, .long x3), (5, .int x5)]) X.1 X.2.1 dX3_chanceOf_44 hl (by decide) rfl (fun ls hl => ?_)
    refine lv_iload X.1 X.2.1 dX3_chanceOf_46 (lv_at hl 0 rfl) ?_
    refine lv_if_eq (tgt := 64) X.1 X.2.1 dX3_chanceOf_48 (by decide) (fun c48 => ?_) (fun c48 => ?_)
    · have hf := it_s hf c48
      exact t_X3_chanceOf_b64 X   H locs ls hf  hP hS (lv_sub hl [2] rfl)
    · have hf := ie_s hf c48
      refine lv_aload_n X.1 X.2.1 dX3_chanceOf_51 rfl (lv_at hl 2 rfl) ?_
      refine lv_iload X.1 X.2.1 dX3_chanceOf_52 (lv_at hl 1 rfl) ?_
      refine lv_aload_n X.1 X.2.1 dX3_chanceOf_54 rfl (lv_at hl 3 rfl) ?_
      refine lv_iload X.1 X.2.1 dX3_chanceOf_55 (lv_at hl 6 rfl) ?_
      obtain ⟨h57s, hf⟩ := gd_s hf
      obtain ⟨h57, hf⟩ := gd_s hf
      refine ldC_40 (Z := Z) X (of_decide_eq_true h57s) (f := (Z 1)) rfl h57 dX3_chanceOf_57 hP ?_
      obtain ⟨r58, ho, hf⟩ := b1_s hf
      refine call_vi (rest := []) X (c_X3_isIn F G I J Z X.2.2.2.2.2.2.2.1 r34 ((Z 1) s1 x5.toNatClampNeg) ho) q_3_7 q_3_9 qs_yX3_isIn q_1_2 q_3_10 ok_X3_isIn rfl 0 rfl rfl ⟨Nat.le_of_ble_eq_true rfl, Nat.le_of_ble_eq_true rfl⟩ rfl rfl hl.1 rfl (Nat.le_of_ble_eq_true rfl) dX3_chanceOf_58 hP hS (fun H locs hP hS => ?_)
      refine lv_if_ne (tgt := 66) X.1 X.2.1 dX3_chanceOf_61 (by decide) (fun c61 => ?_) (fun c61 => ?_)
      · have hf := ie_s hf c61
        refine lv_lload_n X.1 X.2.1 dX3_chanceOf_66 rfl (lv_at hl 5 rfl) ?_
        refine lv_iload X.1 X.2.1 dX3_chanceOf_67 (lv_at hl 0 rfl) ?_
        refine lv_i2l X.1 X.2.1 dX3_chanceOf_69 rfl ?_
        obtain ⟨h70, hf⟩ := gd_s hf
        refine lv_ldiv X.1 X.2.1 dX3_chanceOf_70 (of_decide_eq_true h70) ?_
        refine nm_l hf (fun x71 hf => ?_)
        refine lv_lstore_n (lv' := [(3, .long x71), (7, .int r41), (6, .int r34), (0, .ref (a 0)), (1, .ref (a (40 + s1))), (2, .int x2), (5, .int x5)]) X.1 X.2.1 dX3_chanceOf_71 rfl hl (by decide) rfl (fun ls hl => ?_)
        refine lv_iload_n X.1 X.2.1 dX3_chanceOf_72 rfl (lv_at hl 5 rfl) ?_
        refine lv_iconst (v := 1) X.1 X.2.1 dX3_chanceOf_73 (by decide) ?_
        refine lv_aload_n X.1 X.2.1 dX3_chanceOf_74 rfl (lv_at hl 4 rfl) ?_
        refine lv_iload X.1 X.2.1 dX3_chanceOf_75 (lv_at hl 6 rfl) ?_
        obtain ⟨h77s, hf⟩ := gd_s hf
        obtain ⟨h77, hf⟩ := gd_s hf
        refine ldC_40 (Z := Z) X (of_decide_eq_true h77s) (f := (Z 1)) rfl h77 dX3_chanceOf_77 hP ?_
        refine lv_ishl X.1 X.2.1 dX3_chanceOf_78 ?_
        refine lv_ior X.1 X.2.1 dX3_chanceOf_79 ?_
        refine nm_i hf (fun x80 hf => ?_)
        refine lv_istore_n (lv' := [(2, .int x80), (3, .long x71), (7, .int r41), (6, .int r34), (0, .ref (a 0)), (1, .ref (a (40 + s1))), (5, .int x5)]) X.1 X.2.1 dX3_chanceOf_80 rfl hl (by decide) rfl (fun ls hl => ?_)
        obtain ⟨x81, ex81, hf⟩ := nm_x hf
        refine lv_iinc (v := x81) (lv' := [(5, .int x81), (2, .int x80), (3, .long x71), (7, .int r41), (6, .int r34), (0, .ref (a 0)), (1, .ref (a (40 + s1)))]) X.1 X.2.1 dX3_chanceOf_81 hl (k := 6) rfl ex81 (by decide) rfl (fun ls hl => ?_)
        refine lv_goto (tgt := 9) X.1 X.2.1 dX3_chanceOf_84 (by decide) ?_
        exact kh9  s1 x80 x71 x81 H locs ls hf  hP hS (lv_sub hl [5, 6, 1, 2, 0] rfl)
      · have hf := it_s hf c61
        exact t_X3_chanceOf_b64 X   H locs ls hf  hP hS (lv_sub hl [2] rfl)
set_option maxRecDepth 100000 in
theorem t_X3_chanceOf_b9 {p : Program} {l : Launch} {e : Env} {s : State} {m : MethodId} {args : Array Value} {below : List Frame} {meth : Method} {c : Code} {D : va_G} {a : Nat → Nat} {kc : Nat → ClassId} (X : cx 44 p s m args meth c D (tyC kc) a cX3_chanceOf 8 RX3 (some .long)) {F : Nat → Int32} {G : Nat → Int64} {I : Nat → Nat → Int32} {J : Nat → Nat → Int64} {Z : Nat → Nat → Nat → Int32}  {r : Int64} :
    ∀ (n : Nat)  (s1 : Nat) (x2 : Int32) (x3 : Int64) (x5 : Int32) (H : Heap) (locs : List Loc) (ls : Array Slot), p_X3_chanceOf_b9 n (F 0) (F 2) (I 2) (I 4) (I 5) (I 6) (Z 1) s1 x2 x3 x5 = some r → va_P D vwCl (wC a kc F G I J Z) H → va_S (ad a 44 s.heap.size) s.heap H locs → lv_has ls 8 [(0, .ref (a 0)), (1, .ref (a (40 + s1))), (2, .int x2), (3, .long x3), (5, .int x5)] → W p l e rm_X3_chanceOf s m args below meth c H locs 0 0 (MQ below (Ql D (wC a kc F G I J Z) r (ad a 44 s.heap.size)) args s 0 0 (ad a 44 s.heap.size)) (F0 m 9 ls []) := by
  intro n
  induction n with
  | zero => intro  s1 x2 x3 x5 H locs ls hf  hP hS hl; exact (nos hf).elim
  | succ n ih => exact t_X3_chanceOf_b9x X ih
set_option maxHeartbeats 4000000 in
set_option maxRecDepth 100000 in
theorem t_X3_chanceOf_b0 {p : Program} {l : Launch} {e : Env} {s : State} {m : MethodId} {args : Array Value} {below : List Frame} {meth : Method} {c : Code} {D : va_G} {a : Nat → Nat} {kc : Nat → ClassId} (X : cx 44 p s m args meth c D (tyC kc) a cX3_chanceOf 8 RX3 (some .long)) {F : Nat → Int32} {G : Nat → Int64} {I : Nat → Nat → Int32} {J : Nat → Nat → Int64} {Z : Nat → Nat → Nat → Int32}  {r : Int64} :
    ∀  (s1 : Nat) (H : Heap) (locs : List Loc) (ls : Array Slot), p_X3_chanceOf_b0 (F 0) (F 2) (I 2) (I 4) (I 5) (I 6) (Z 1) s1 = some r → va_P D vwCl (wC a kc F G I J Z) H → va_S (ad a 44 s.heap.size) s.heap H locs → lv_has ls 8 [(0, .ref (a 0)), (1, .ref (a (40 + s1)))] → W p l e rm_X3_chanceOf s m args below meth c H locs 0 0 (MQ below (Ql D (wC a kc F G I J Z) r (ad a 44 s.heap.size)) args s 0 0 (ad a 44 s.heap.size)) (F0 m 0 ls []) := by
  intro  s1 H locs ls hf  hP hS hl
  unfold p_X3_chanceOf_b0 at hf
  refine lv_iconst (v := 0) X.1 X.2.1 dX3_chanceOf_0 (by decide) ?_
  refine lv_istore_n (lv' := [(2, .int 0), (0, .ref (a 0)), (1, .ref (a (40 + s1)))]) X.1 X.2.1 dX3_chanceOf_1 rfl hl (by decide) rfl (fun ls hl => ?_)
  refine lv_ldc2 (v := 182891520000) X.1 X.2.1 X.2.2.2.2.1 (X.2.2.2.2.2.1 _ q_3_19) dX3_chanceOf_2 ?_
  refine lv_lstore_n (lv' := [(3, .long 182891520000), (2, .int 0), (0, .ref (a 0)), (1, .ref (a (40 + s1)))]) X.1 X.2.1 dX3_chanceOf_5 rfl hl (by decide) rfl (fun ls hl => ?_)
  refine lv_iconst (v := 0) X.1 X.2.1 dX3_chanceOf_6 (by decide) ?_
  refine lv_istore (lv' := [(5, .int 0), (3, .long 182891520000), (2, .int 0), (0, .ref (a 0)), (1, .ref (a (40 + s1)))]) X.1 X.2.1 dX3_chanceOf_7 hl (by decide) rfl (fun ls hl => ?_)
  exact t_X3_chanceOf_b9 X 4096  s1 0 182891520000 0 H locs ls hf  hP hS (lv_sub hl [3, 4, 2, 1, 0] rfl)
set_option maxRecDepth 100000 in
theorem c_X3_chanceOf {l : Launch} {D : va_G} {a : Nat → Nat} {kc : Nat → ClassId} (F : Nat → Int32) (G : Nat → Int64) (I : Nat → Nat → Int32) (J : Nat → Nat → Int64) (Z : Nat → Nat → Nat → Int32) (hAp : ∀ i j, i < 44 → j < 44 → a i = a j → i = j) (s1 : Nat) {o0 : Int64} (hf : p_X3_chanceOf (F 0) (F 2) (I 2) (I 4) (I 5) (I 6) (Z 1) s1 = some o0) : Ct 44 l yX3_chanceOf cX3_chanceOf 8 (some .long) rm_X3_chanceOf D (tyC kc) a (wC a kc F G I J Z) [.ref (a 0), .ref (a (40 + s1))] (Ql D (wC a kc F G I J Z) o0) :=
  Ct.of (by decide +kernel) hAp (Nat.le_of_ble_eq_true rfl) (fun p e s m args below meth c ls X hP hl => t_X3_chanceOf_b0 X  s1 _ _ _ hf  hP va_S.rf hl)
abbrev rm_X4_isWhole : Room := { frames := 1, cells := 0, slots := 0, locals := 20 }
set_option maxHeartbeats 4000000 in
set_option maxRecDepth 100000 in
theorem t_X4_isWhole_b99 {p : Program} {l : Launch} {e : Env} {s : State} {m : MethodId} {args : Array Value} {below : List Frame} {meth : Method} {c : Code} {D : va_G} {a : Nat → Nat} {kc : Nat → ClassId} (X : cx 44 p s m args meth c D (tyC kc) a cX4_isWhole 5 RX4 (some .boolean)) {F : Nat → Int32} {G : Nat → Int64} {I : Nat → Nat → Int32} {J : Nat → Nat → Int64} {Z : Nat → Nat → Nat → Int32}  {r : Int32} :
    ∀  (t0 : Int32) (H : Heap) (locs : List Loc) (ls : Array Slot), p_X4_isWhole_b99 (F 0) (F 2) (I 5) (Z 1) t0 = some r → va_P D vwCl (wC a kc F G I J Z) H → va_S (ad a 44 s.heap.size) s.heap H locs → lv_has ls 5 [(0, .ref (a 32))] → W p l e rm_X4_isWhole s m args below meth c H locs 0 0 (MQ below (Qi D (wC a kc F G I J Z) r (ad a 44 s.heap.size)) args s 0 0 (ad a 44 s.heap.size)) (F0 m 99 ls [.int t0]) := by
  intro  t0 H locs ls hf  hP hS hl
  unfold p_X4_isWhole_b99 at hf
  obtain ⟨h99, hf⟩ := gd_s hf
  have e0 := o1 hf
  exact ret_z X hS hP e0 h99 dX4_isWhole_99
set_option maxHeartbeats 4000000 in
set_option maxRecDepth 100000 in
theorem t_X4_isWhole_b98 {p : Program} {l : Launch} {e : Env} {s : State} {m : MethodId} {args : Array Value} {below : List Frame} {meth : Method} {c : Code} {D : va_G} {a : Nat → Nat} {kc : Nat → ClassId} (X : cx 44 p s m args meth c D (tyC kc) a cX4_isWhole 5 RX4 (some .boolean)) {F : Nat → Int32} {G : Nat → Int64} {I : Nat → Nat → Int32} {J : Nat → Nat → Int64} {Z : Nat → Nat → Nat → Int32}  {r : Int32} :
    ∀   (H : Heap) (locs : List Loc) (ls : Array Slot), p_X4_isWhole_b98 (F 0) (F 2) (I 5) (Z 1)  = some r → va_P D vwCl (wC a kc F G I J Z) H → va_S (ad a 44 s.heap.size) s.heap H locs → lv_has ls 5 [(0, .ref (a 32))] → W p l e rm_X4_isWhole s m args below meth c H locs 0 0 (MQ below (Qi D (wC a kc F G I J Z) r (ad a 44 s.heap.size)) args s 0 0 (ad a 44 s.heap.size)) (F0 m 98 ls []) := by
  intro   H locs ls hf  hP hS hl
  unfold p_X4_isWhole_b98 at hf
  refine lv_iconst (v := 0) X.1 X.2.1 dX4_isWhole_98 (by decide) ?_
  exact t_X4_isWhole_b99 X  0 H locs ls hf  hP hS (lv_sub hl [0] rfl)
set_option maxHeartbeats 4000000 in
set_option maxRecDepth 100000 in
theorem t_X4_isWhole_b40 {p : Program} {l : Launch} {e : Env} {s : State} {m : MethodId} {args : Array Value} {below : List Frame} {meth : Method} {c : Code} {D : va_G} {a : Nat → Nat} {kc : Nat → ClassId} (X : cx 44 p s m args meth c D (tyC kc) a cX4_isWhole 5 RX4 (some .boolean)) {F : Nat → Int32} {G : Nat → Int64} {I : Nat → Nat → Int32} {J : Nat → Nat → Int64} {Z : Nat → Nat → Nat → Int32}  {r : Int32} :
    ∀   (H : Heap) (locs : List Loc) (ls : Array Slot), p_X4_isWhole_b40 (F 0) (F 2) (I 5) (Z 1)  = some r → va_P D vwCl (wC a kc F G I J Z) H → va_S (ad a 44 s.heap.size) s.heap H locs → lv_has ls 5 [(0, .ref (a 32))] → W p l e rm_X4_isWhole s m args below meth c H locs 0 0 (MQ below (Qi D (wC a kc F G I J Z) r (ad a 44 s.heap.size)) args s 0 0 (ad a 44 s.heap.size)) (F0 m 40 ls []) := by
  intro   H locs ls hf  hP hS hl
  unfold p_X4_isWhole_b40 at hf
  refine lv_iconst (v := 0) X.1 X.2.1 dX4_isWhole_40 (by decide) ?_
  have e0 := o1 hf
  exact ret_z X hS hP e0 (by decide) dX4_isWhole_41
set_option maxHeartbeats 4000000 in
set_option maxRecDepth 100000 in
theorem t_X4_isWhole_b7x {p : Program} {l : Launch} {e : Env} {s : State} {m : MethodId} {args : Array Value} {below : List Frame} {meth : Method} {c : Code} {D : va_G} {a : Nat → Nat} {kc : Nat → ClassId} (X : cx 44 p s m args meth c D (tyC kc) a cX4_isWhole 5 RX4 (some .boolean)) {F : Nat → Int32} {G : Nat → Int64} {I : Nat → Nat → Int32} {J : Nat → Nat → Int64} {Z : Nat → Nat → Nat → Int32}  {r : Int32} {K7 : Int32 → Int32 → (Nat → Int32) → (Nat → Nat → Int32) → Nat → Int32 → Int32 → Int32 → Option (Int32)} (kh7 : ∀  (s1 : Nat) (x2 : Int32) (x3 : Int32) (x4 : Int32) (H : Heap) (locs : List Loc) (ls : Array Slot), K7 (F 0) (F 2) (I 5) (Z 1) s1 x2 x3 x4 = some r → va_P D vwCl (wC a kc F G I J Z) H → va_S (ad a 44 s.heap.size) s.heap H locs → lv_has ls 5 [(0, .ref (a 32)), (1, .ref (a (40 + s1))), (2, .int x2), (3, .int x3), (4, .int x4)] → W p l e rm_X4_isWhole s m args below meth c H locs 0 0 (MQ below (Qi D (wC a kc F G I J Z) r (ad a 44 s.heap.size)) args s 0 0 (ad a 44 s.heap.size)) (F0 m 7 ls [])) :
    ∀  (s1 : Nat) (x2 : Int32) (x3 : Int32) (x4 : Int32) (H : Heap) (locs : List Loc) (ls : Array Slot), p_X4_isWhole_b7x K7 (F 0) (F 2) (I 5) (Z 1) s1 x2 x3 x4 = some r → va_P D vwCl (wC a kc F G I J Z) H → va_S (ad a 44 s.heap.size) s.heap H locs → lv_has ls 5 [(0, .ref (a 32)), (1, .ref (a (40 + s1))), (2, .int x2), (3, .int x3), (4, .int x4)] → W p l e rm_X4_isWhole s m args below meth c H locs 0 0 (MQ below (Qi D (wC a kc F G I J Z) r (ad a 44 s.heap.size)) args s 0 0 (ad a 44 s.heap.size)) (F0 m 7 ls []) := by
  intro  s1 x2 x3 x4 H locs ls hf  hP hS hl
  unfold p_X4_isWhole_b7x at hf
  refine lv_iload X.1 X.2.1 dX4_isWhole_7 (lv_at hl 4 rfl) ?_
  refine lv_aload_n X.1 X.2.1 dX4_isWhole_9 rfl (lv_at hl 0 rfl) ?_
  refine gC_32_3 X q_2_31 dX4_isWhole_10 hP ?_
  refine gC_0_10 (F := F) X (v := (F 2)) rfl q_1_88 dX4_isWhole_13 hP ?_
  refine lv_icmp_ge (tgt := 72) X.1 X.2.1 dX4_isWhole_16 (by decide) (fun c16 => ?_) (fun c16 => ?_)
  · have hf := it_s hf c16
    refine lv_iload_n X.1 X.2.1 dX4_isWhole_72 rfl (lv_at hl 2 rfl) ?_
    refine lv_aload_n X.1 X.2.1 dX4_isWhole_73 rfl (lv_at hl 0 rfl) ?_
    refine gC_32_3 X q_2_31 dX4_isWhole_74 hP ?_
    obtain ⟨r77, ho, hf⟩ := b1_s hf
    refine call_vi (rest := [.int x2]) X (c_X3_allSeats F G I J Z X.2.2.2.2.2.2.2.1  ho) q_3_105 q_2_160 q_2_161 q_1_2 q_2_162 ok_X3_allSeats rfl 0 rfl rfl ⟨Nat.le_of_ble_eq_true rfl, Nat.le_of_ble_eq_true rfl⟩ rfl rfl hl.1 rfl (Nat.le_of_ble_eq_true rfl) dX4_isWhole_77 hP hS (fun H locs hP hS => ?_)
    refine lv_icmp_ne (tgt := 98) X.1 X.2.1 dX4_isWhole_80 (by decide) (fun c80 => ?_) (fun c80 => ?_)
    · have hf := ie_s hf c80
      exact t_X4_isWhole_b98 X   H locs ls hf  hP hS (lv_sub hl [0] rfl)
    · have hf := it_s hf c80
      refine lv_iload_n X.1 X.2.1 dX4_isWhole_83 rfl (lv_at hl 3 rfl) ?_
      refine lv_aload_n X.1 X.2.1 dX4_isWhole_84 rfl (lv_at hl 0 rfl) ?_
      refine gC_32_3 X q_2_31 dX4_isWhole_85 hP ?_
      obtain ⟨r88, ho, hf⟩ := b1_s hf
      refine call_vi (rest := [.int x3]) X (c_X3_allSeats F G I J Z X.2.2.2.2.2.2.2.1  ho) q_3_105 q_2_160 q_2_161 q_1_2 q_2_162 ok_X3_allSeats rfl 0 rfl rfl ⟨Nat.le_of_ble_eq_true rfl, Nat.le_of_ble_eq_true rfl⟩ rfl rfl hl.1 rfl (Nat.le_of_ble_eq_true rfl) dX4_isWhole_88 hP hS (fun H locs hP hS => ?_)
      refine lv_icmp_ne (tgt := 98) X.1 X.2.1 dX4_isWhole_91 (by decide) (fun c91 => ?_) (fun c91 => ?_)
      · have hf := ie_s hf c91
        exact t_X4_isWhole_b98 X   H locs ls hf  hP hS (lv_sub hl [0] rfl)
      · have hf := it_s hf c91
        refine lv_iconst (v := 1) X.1 X.2.1 dX4_isWhole_94 (by decide) ?_
        refine lv_goto (tgt := 99) X.1 X.2.1 dX4_isWhole_95 (by decide) ?_
        exact t_X4_isWhole_b99 X  1 H locs ls hf  hP hS (lv_sub hl [0] rfl)
  · have hf := ie_s hf c16
    refine lv_aload_n X.1 X.2.1 dX4_isWhole_19 rfl (lv_at hl 1 rfl) ?_
    refine lv_iload X.1 X.2.1 dX4_isWhole_20 (lv_at hl 4 rfl) ?_
    obtain ⟨h22s, hf⟩ := gd_s hf
    obtain ⟨h22, hf⟩ := gd_s hf
    refine ldC_40 (Z := Z) X (of_decide_eq_true h22s) (f := (Z 1)) rfl h22 dX4_isWhole_22 hP ?_
    refine lv_if_lt (tgt := 40) X.1 X.2.1 dX4_isWhole_23 (by decide) (fun c23 => ?_) (fun c23 => ?_)
    · have hf := it_s hf c23
      exact t_X4_isWhole_b40 X   H locs ls hf  hP hS (lv_sub hl [0] rfl)
    · have hf := ie_s hf c23
      refine lv_aload_n X.1 X.2.1 dX4_isWhole_26 rfl (lv_at hl 1 rfl) ?_
      refine lv_iload X.1 X.2.1 dX4_isWhole_27 (lv_at hl 4 rfl) ?_
      obtain ⟨h29s, hf⟩ := gd_s hf
      obtain ⟨h29, hf⟩ := gd_s hf
      refine ldC_40 (Z := Z) X (of_decide_eq_true h29s) (f := (Z 1)) rfl h29 dX4_isWhole_29 hP ?_
      refine lv_aload_n X.1 X.2.1 dX4_isWhole_30 rfl (lv_at hl 0 rfl) ?_
      refine gC_32_3 X q_2_31 dX4_isWhole_31 hP ?_
      refine gC_0_8 (F := F) X (v := (F 0)) rfl q_1_78 dX4_isWhole_34 hP ?_
      refine lv_icmp_lt (tgt := 42) X.1 X.2.1 dX4_isWhole_37 (by decide) (fun c37 => ?_) (fun c37 => ?_)
      · have hf := it_s hf c37
        refine lv_iload_n X.1 X.2.1 dX4_isWhole_42 rfl (lv_at hl 2 rfl) ?_
        refine lv_iconst (v := 1) X.1 X.2.1 dX4_isWhole_43 (by decide) ?_
        refine lv_aload_n X.1 X.2.1 dX4_isWhole_44 rfl (lv_at hl 1 rfl) ?_
        refine lv_iload X.1 X.2.1 dX4_isWhole_45 (lv_at hl 4 rfl) ?_
        obtain ⟨h47s, hf⟩ := gd_s hf
        obtain ⟨h47, hf⟩ := gd_s hf
        refine ldC_40 (Z := Z) X (of_decide_eq_true h47s) (f := (Z 1)) rfl h47 dX4_isWhole_47 hP ?_
        refine lv_ishl X.1 X.2.1 dX4_isWhole_48 ?_
        refine lv_ior X.1 X.2.1 dX4_isWhole_49 ?_
        refine nm_i hf (fun x50 hf => ?_)
        refine lv_istore_n (lv' := [(2, .int x50), (0, .ref (a 32)), (1, .ref (a (40 + s1))), (3, .int x3), (4, .int x4)]) X.1 X.2.1 dX4_isWhole_50 rfl hl (by decide) rfl (fun ls hl => ?_)
        refine lv_iload_n X.1 X.2.1 dX4_isWhole_51 rfl (lv_at hl 3 rfl) ?_
        refine lv_iconst (v := 1) X.1 X.2.1 dX4_isWhole_52 (by decide) ?_
        refine lv_aload_n X.1 X.2.1 dX4_isWhole_53 rfl (lv_at hl 1 rfl) ?_
        refine gC_32_3 X q_2_31 dX4_isWhole_54 hP ?_
        refine gC_0_6 X q_1_66 dX4_isWhole_57 hP ?_
        refine lv_iload X.1 X.2.1 dX4_isWhole_60 (lv_at hl 4 rfl) ?_
        obtain ⟨h62, hf⟩ := gd_s hf
        refine lC_9 (I := I) X (f := (I 5)) rfl h62 dX4_isWhole_62 hP ?_
        refine lv_ishl X.1 X.2.1 dX4_isWhole_63 ?_
        refine lv_ior X.1 X.2.1 dX4_isWhole_64 ?_
        refine nm_i hf (fun x65 hf => ?_)
        refine lv_istore_n (lv' := [(3, .int x65), (2, .int x50), (0, .ref (a 32)), (1, .ref (a (40 + s1))), (4, .int x4)]) X.1 X.2.1 dX4_isWhole_65 rfl hl (by decide) rfl (fun ls hl => ?_)
        obtain ⟨x66, ex66, hf⟩ := nm_x hf
        refine lv_iinc (v := x66) (lv' := [(4, .int x66), (3, .int x65), (2, .int x50), (0, .ref (a 32)), (1, .ref (a (40 + s1)))]) X.1 X.2.1 dX4_isWhole_66 hl (k := 4) rfl ex66 (by decide) rfl (fun ls hl => ?_)
        refine lv_goto (tgt := 7) X.1 X.2.1 dX4_isWhole_69 (by decide) ?_
        exact kh7  s1 x50 x65 x66 H locs ls hf  hP hS (lv_sub hl [3, 4, 2, 1, 0] rfl)
      · have hf := ie_s hf c37
        exact t_X4_isWhole_b40 X   H locs ls hf  hP hS (lv_sub hl [0] rfl)
set_option maxRecDepth 100000 in
theorem t_X4_isWhole_b7 {p : Program} {l : Launch} {e : Env} {s : State} {m : MethodId} {args : Array Value} {below : List Frame} {meth : Method} {c : Code} {D : va_G} {a : Nat → Nat} {kc : Nat → ClassId} (X : cx 44 p s m args meth c D (tyC kc) a cX4_isWhole 5 RX4 (some .boolean)) {F : Nat → Int32} {G : Nat → Int64} {I : Nat → Nat → Int32} {J : Nat → Nat → Int64} {Z : Nat → Nat → Nat → Int32}  {r : Int32} :
    ∀ (n : Nat)  (s1 : Nat) (x2 : Int32) (x3 : Int32) (x4 : Int32) (H : Heap) (locs : List Loc) (ls : Array Slot), p_X4_isWhole_b7 n (F 0) (F 2) (I 5) (Z 1) s1 x2 x3 x4 = some r → va_P D vwCl (wC a kc F G I J Z) H → va_S (ad a 44 s.heap.size) s.heap H locs → lv_has ls 5 [(0, .ref (a 32)), (1, .ref (a (40 + s1))), (2, .int x2), (3, .int x3), (4, .int x4)] → W p l e rm_X4_isWhole s m args below meth c H locs 0 0 (MQ below (Qi D (wC a kc F G I J Z) r (ad a 44 s.heap.size)) args s 0 0 (ad a 44 s.heap.size)) (F0 m 7 ls []) := by
  intro n
  induction n with
  | zero => intro  s1 x2 x3 x4 H locs ls hf  hP hS hl; exact (nos hf).elim
  | succ n ih => exact t_X4_isWhole_b7x X ih
set_option maxHeartbeats 4000000 in
set_option maxRecDepth 100000 in
theorem t_X4_isWhole_b0 {p : Program} {l : Launch} {e : Env} {s : State} {m : MethodId} {args : Array Value} {below : List Frame} {meth : Method} {c : Code} {D : va_G} {a : Nat → Nat} {kc : Nat → ClassId} (X : cx 44 p s m args meth c D (tyC kc) a cX4_isWhole 5 RX4 (some .boolean)) {F : Nat → Int32} {G : Nat → Int64} {I : Nat → Nat → Int32} {J : Nat → Nat → Int64} {Z : Nat → Nat → Nat → Int32}  {r : Int32} :
    ∀  (s1 : Nat) (H : Heap) (locs : List Loc) (ls : Array Slot), p_X4_isWhole_b0 (F 0) (F 2) (I 5) (Z 1) s1 = some r → va_P D vwCl (wC a kc F G I J Z) H → va_S (ad a 44 s.heap.size) s.heap H locs → lv_has ls 5 [(0, .ref (a 32)), (1, .ref (a (40 + s1)))] → W p l e rm_X4_isWhole s m args below meth c H locs 0 0 (MQ below (Qi D (wC a kc F G I J Z) r (ad a 44 s.heap.size)) args s 0 0 (ad a 44 s.heap.size)) (F0 m 0 ls []) := by
  intro  s1 H locs ls hf  hP hS hl
  unfold p_X4_isWhole_b0 at hf
  refine lv_iconst (v := 0) X.1 X.2.1 dX4_isWhole_0 (by decide) ?_
  refine lv_istore_n (lv' := [(2, .int 0), (0, .ref (a 32)), (1, .ref (a (40 + s1)))]) X.1 X.2.1 dX4_isWhole_1 rfl hl (by decide) rfl (fun ls hl => ?_)
  refine lv_iconst (v := 0) X.1 X.2.1 dX4_isWhole_2 (by decide) ?_
  refine lv_istore_n (lv' := [(3, .int 0), (2, .int 0), (0, .ref (a 32)), (1, .ref (a (40 + s1)))]) X.1 X.2.1 dX4_isWhole_3 rfl hl (by decide) rfl (fun ls hl => ?_)
  refine lv_iconst (v := 0) X.1 X.2.1 dX4_isWhole_4 (by decide) ?_
  refine lv_istore (lv' := [(4, .int 0), (3, .int 0), (2, .int 0), (0, .ref (a 32)), (1, .ref (a (40 + s1)))]) X.1 X.2.1 dX4_isWhole_5 hl (by decide) rfl (fun ls hl => ?_)
  exact t_X4_isWhole_b7 X 4096  s1 0 0 0 H locs ls hf  hP hS (lv_sub hl [3, 4, 2, 1, 0] rfl)
set_option maxRecDepth 100000 in
theorem c_X4_isWhole {l : Launch} {D : va_G} {a : Nat → Nat} {kc : Nat → ClassId} (F : Nat → Int32) (G : Nat → Int64) (I : Nat → Nat → Int32) (J : Nat → Nat → Int64) (Z : Nat → Nat → Nat → Int32) (hAp : ∀ i j, i < 44 → j < 44 → a i = a j → i = j) (s1 : Nat) {o0 : Int32} (hf : p_X4_isWhole (F 0) (F 2) (I 5) (Z 1) s1 = some o0) : Ct 44 l yX4_isWhole cX4_isWhole 5 (some .boolean) rm_X4_isWhole D (tyC kc) a (wC a kc F G I J Z) [.ref (a 32), .ref (a (40 + s1))] (Qi D (wC a kc F G I J Z) o0) :=
  Ct.of (by decide +kernel) hAp (Nat.le_of_ble_eq_true rfl) (fun p e s m args below meth c ls X hP hl => t_X4_isWhole_b0 X  s1 _ _ _ hf  hP va_S.rf hl)
abbrev rm_X4_countRings : Room := { frames := 1, cells := 0, slots := 0, locals := 30 }
set_option maxHeartbeats 4000000 in
set_option maxRecDepth 100000 in
theorem t_X4_countRings_b116 {p : Program} {l : Launch} {e : Env} {s : State} {m : MethodId} {args : Array Value} {below : List Frame} {meth : Method} {c : Code} {D : va_G} {a : Nat → Nat} {kc : Nat → ClassId} (X : cx 44 p s m args meth c D (tyC kc) a cX4_countRings 5 RX4 none) {G : Nat → Int64} {I : Nat → Nat → Int32} {J : Nat → Nat → Int64} {Z : Nat → Nat → Nat → Int32} {Ff : Nat → Int32}  {K19 : Int32 → Int32 → Int32 → Int32 → (Nat → Int32) → Int32 → Int32 → Option (Int32 × Int32 × Int32)} (kh19 : ∀ (F : Nat → Int32) (x1 : Int32) (x2 : Int32) (H : Heap) (locs : List Loc) (ls : Array Slot), K19 (F 0) (F 10) (F 11) (F 12) (I 15) x1 x2 = some ((Ff 10), (Ff 11), (Ff 12)) → (∀ k, k ∉ ([10, 11, 12] : List Nat) → Ff k = F k) → va_P D vwCl (wC a kc F G I J Z) H → va_S (ad a 44 s.heap.size) s.heap H locs → lv_has ls 5 [(0, .ref (a 32)), (1, .int x1), (2, .int x2)] → W p l e rm_X4_countRings s m args below meth c H locs 0 0 (MQ below (Qv D (wC a kc Ff G I J Z) (ad a 44 s.heap.size)) args s 0 0 (ad a 44 s.heap.size)) (F0 m 19 ls [])) :
    ∀ (F : Nat → Int32) (x1 : Int32) (x2 : Int32) (H : Heap) (locs : List Loc) (ls : Array Slot), p_X4_countRings_b116 K19 (F 0) (F 10) (F 11) (F 12) (I 15) x1 x2 = some ((Ff 10), (Ff 11), (Ff 12)) → (∀ k, k ∉ ([10, 11, 12] : List Nat) → Ff k = F k) → va_P D vwCl (wC a kc F G I J Z) H → va_S (ad a 44 s.heap.size) s.heap H locs → lv_has ls 5 [(0, .ref (a 32)), (1, .int x1), (2, .int x2)] → W p l e rm_X4_countRings s m args below meth c H locs 0 0 (MQ below (Qv D (wC a kc Ff G I J Z) (ad a 44 s.heap.size)) args s 0 0 (ad a 44 s.heap.size)) (F0 m 116 ls []) := by
  intro F x1 x2 H locs ls hf hfF hP hS hl
  unfold p_X4_countRings_b116 at hf
  obtain ⟨x116, ex116, hf⟩ := nm_x hf
  refine lv_iinc (v := x116) (lv' := [(2, .int x116), (0, .ref (a 32)), (1, .int x1)]) X.1 X.2.1 dX4_countRings_116 hl (k := 2) rfl ex116 (by decide) rfl (fun ls hl => ?_)
  refine lv_goto (tgt := 19) X.1 X.2.1 dX4_countRings_119 (by decide) ?_
  exact kh19 F x1 x116 H locs ls hf hfF hP hS (lv_sub hl [1, 2, 0] rfl)
set_option maxHeartbeats 4000000 in
set_option maxRecDepth 100000 in
theorem t_X4_countRings_b77 {p : Program} {l : Launch} {e : Env} {s : State} {m : MethodId} {args : Array Value} {below : List Frame} {meth : Method} {c : Code} {D : va_G} {a : Nat → Nat} {kc : Nat → ClassId} (X : cx 44 p s m args meth c D (tyC kc) a cX4_countRings 5 RX4 none) {G : Nat → Int64} {I : Nat → Nat → Int32} {J : Nat → Nat → Int64} {Z : Nat → Nat → Nat → Int32} {Ff : Nat → Int32}  {K19 : Int32 → Int32 → Int32 → Int32 → (Nat → Int32) → Int32 → Int32 → Option (Int32 × Int32 × Int32)} (kh19 : ∀ (F : Nat → Int32) (x1 : Int32) (x2 : Int32) (H : Heap) (locs : List Loc) (ls : Array Slot), K19 (F 0) (F 10) (F 11) (F 12) (I 15) x1 x2 = some ((Ff 10), (Ff 11), (Ff 12)) → (∀ k, k ∉ ([10, 11, 12] : List Nat) → Ff k = F k) → va_P D vwCl (wC a kc F G I J Z) H → va_S (ad a 44 s.heap.size) s.heap H locs → lv_has ls 5 [(0, .ref (a 32)), (1, .int x1), (2, .int x2)] → W p l e rm_X4_countRings s m args below meth c H locs 0 0 (MQ below (Qv D (wC a kc Ff G I J Z) (ad a 44 s.heap.size)) args s 0 0 (ad a 44 s.heap.size)) (F0 m 19 ls [])) :
    ∀ (F : Nat → Int32) (x1 : Int32) (x2 : Int32) (x3 : Int32) (H : Heap) (locs : List Loc) (ls : Array Slot), p_X4_countRings_b77 K19 (F 0) (F 10) (F 11) (F 12) (I 15) x1 x2 x3 = some ((Ff 10), (Ff 11), (Ff 12)) → (∀ k, k ∉ ([10, 11, 12] : List Nat) → Ff k = F k) → va_P D vwCl (wC a kc F G I J Z) H → va_S (ad a 44 s.heap.size) s.heap H locs → lv_has ls 5 [(0, .ref (a 32)), (1, .int x1), (2, .int x2), (3, .int x3)] → W p l e rm_X4_countRings s m args below meth c H locs 0 0 (MQ below (Qv D (wC a kc Ff G I J Z) (ad a 44 s.heap.size)) args s 0 0 (ad a 44 s.heap.size)) (F0 m 77 ls []) := by
  intro F x1 x2 x3 H locs ls hf hfF hP hS hl
  unfold p_X4_countRings_b77 at hf
  refine lv_iload_n X.1 X.2.1 dX4_countRings_77 rfl (lv_at hl 3 rfl) ?_
  refine lv_iconst (v := 1) X.1 X.2.1 dX4_countRings_78 (by decide) ?_
  refine lv_icmp_le (tgt := 116) X.1 X.2.1 dX4_countRings_79 (by decide) (fun c79 => ?_) (fun c79 => ?_)
  · have hf := it_s hf c79
    exact t_X4_countRings_b116 X kh19 F x1 x2 H locs ls hf hfF hP hS (lv_sub hl [0, 1, 2] rfl)
  · have hf := ie_s hf c79
    refine lv_aload_n X.1 X.2.1 dX4_countRings_82 rfl (lv_at hl 0 rfl) ?_
    refine lv_dup X.1 X.2.1 dX4_countRings_83 rfl ?_
    refine gC_32_0 (F := F) X (v := (F 10)) rfl q_2_26 dX4_countRings_84 hP ?_
    refine lv_iconst (v := 1) X.1 X.2.1 dX4_countRings_87 (by decide) ?_
    refine lv_iadd X.1 X.2.1 dX4_countRings_88 ?_
    refine nm_i hf (fun R_number_89 hf => ?_)
    refine pC_32_0 X q_2_26 dX4_countRings_89 hP hS (fun H locs hP hS => ?_)
    refine lv_aload_n X.1 X.2.1 dX4_countRings_92 rfl (lv_at hl 0 rfl) ?_
    refine lv_dup X.1 X.2.1 dX4_countRings_93 rfl ?_
    refine gC_32_1 (F := (va_up F 10 R_number_89)) X (v := (F 11)) rfl q_2_28 dX4_countRings_94 hP ?_
    refine lv_iload_n X.1 X.2.1 dX4_countRings_97 rfl (lv_at hl 3 rfl) ?_
    refine lv_iconst (v := 1) X.1 X.2.1 dX4_countRings_98 (by decide) ?_
    refine lv_isub X.1 X.2.1 dX4_countRings_99 ?_
    refine lv_iadd X.1 X.2.1 dX4_countRings_100 ?_
    refine nm_i hf (fun R_changes_101 hf => ?_)
    refine pC_32_1 X q_2_28 dX4_countRings_101 hP hS (fun H locs hP hS => ?_)
    refine lv_aload_n X.1 X.2.1 dX4_countRings_104 rfl (lv_at hl 0 rfl) ?_
    refine lv_aload_n X.1 X.2.1 dX4_countRings_105 rfl (lv_at hl 0 rfl) ?_
    refine gC_32_2 (F := (va_up (va_up F 10 R_number_89) 11 R_changes_101)) X (v := (F 12)) rfl q_2_30 dX4_countRings_106 hP ?_
    refine lv_iload_n X.1 X.2.1 dX4_countRings_109 rfl (lv_at hl 3 rfl) ?_
    refine va_mmax X.1 X.2.1 (by rw [X.2.2.1, hl.1]) X.2.2.2.2.1 (X.2.2.2.2.2.1 _ q_3_111) (X.2.2.2.2.2.1 _ q_3_112) (X.2.2.2.2.2.1 _ q_1_13) (X.2.2.2.2.2.1 _ q_3_113) (Nat.le_of_ble_eq_true rfl) (Nat.le_of_ble_eq_true rfl) (Nat.zero_le _) (Nat.zero_le _) dX4_countRings_110 ?_
    refine nm_i hf (fun R_longest_113 hf => ?_)
    refine pC_32_2 X q_2_30 dX4_countRings_113 hP hS (fun H locs hP hS => ?_)
    exact t_X4_countRings_b116 X kh19 (va_up (va_up (va_up F 10 R_number_89) 11 R_changes_101) 12 R_longest_113) x1 x2 H locs ls hf (frm_up (frm_up (frm_up hfF (by decide)) (by decide)) (by decide)) hP hS (lv_sub hl [0, 1, 2] rfl)
set_option maxHeartbeats 4000000 in
set_option maxRecDepth 100000 in
theorem t_X4_countRings_b35x {p : Program} {l : Launch} {e : Env} {s : State} {m : MethodId} {args : Array Value} {below : List Frame} {meth : Method} {c : Code} {D : va_G} {a : Nat → Nat} {kc : Nat → ClassId} (X : cx 44 p s m args meth c D (tyC kc) a cX4_countRings 5 RX4 none) {G : Nat → Int64} {I : Nat → Nat → Int32} {J : Nat → Nat → Int64} {Z : Nat → Nat → Nat → Int32} {Ff : Nat → Int32}  {K19 : Int32 → Int32 → Int32 → Int32 → (Nat → Int32) → Int32 → Int32 → Option (Int32 × Int32 × Int32)} (kh19 : ∀ (F : Nat → Int32) (x1 : Int32) (x2 : Int32) (H : Heap) (locs : List Loc) (ls : Array Slot), K19 (F 0) (F 10) (F 11) (F 12) (I 15) x1 x2 = some ((Ff 10), (Ff 11), (Ff 12)) → (∀ k, k ∉ ([10, 11, 12] : List Nat) → Ff k = F k) → va_P D vwCl (wC a kc F G I J Z) H → va_S (ad a 44 s.heap.size) s.heap H locs → lv_has ls 5 [(0, .ref (a 32)), (1, .int x1), (2, .int x2)] → W p l e rm_X4_countRings s m args below meth c H locs 0 0 (MQ below (Qv D (wC a kc Ff G I J Z) (ad a 44 s.heap.size)) args s 0 0 (ad a 44 s.heap.size)) (F0 m 19 ls [])) {K35 : Int32 → Int32 → Int32 → Int32 → (Nat → Int32) → Int32 → Int32 → Int32 → Int32 → Option (Int32 × Int32 × Int32)} (kh35 : ∀ (F : Nat → Int32) (x1 : Int32) (x2 : Int32) (x3 : Int32) (x4 : Int32) (H : Heap) (locs : List Loc) (ls : Array Slot), K35 (F 0) (F 10) (F 11) (F 12) (I 15) x1 x2 x3 x4 = some ((Ff 10), (Ff 11), (Ff 12)) → (∀ k, k ∉ ([10, 11, 12] : List Nat) → Ff k = F k) → va_P D vwCl (wC a kc F G I J Z) H → va_S (ad a 44 s.heap.size) s.heap H locs → lv_has ls 5 [(0, .ref (a 32)), (1, .int x1), (2, .int x2), (3, .int x3), (4, .int x4)] → W p l e rm_X4_countRings s m args below meth c H locs 0 0 (MQ below (Qv D (wC a kc Ff G I J Z) (ad a 44 s.heap.size)) args s 0 0 (ad a 44 s.heap.size)) (F0 m 35 ls [])) :
    ∀ (F : Nat → Int32) (x1 : Int32) (x2 : Int32) (x3 : Int32) (x4 : Int32) (H : Heap) (locs : List Loc) (ls : Array Slot), p_X4_countRings_b35x K19 K35 (F 0) (F 10) (F 11) (F 12) (I 15) x1 x2 x3 x4 = some ((Ff 10), (Ff 11), (Ff 12)) → (∀ k, k ∉ ([10, 11, 12] : List Nat) → Ff k = F k) → va_P D vwCl (wC a kc F G I J Z) H → va_S (ad a 44 s.heap.size) s.heap H locs → lv_has ls 5 [(0, .ref (a 32)), (1, .int x1), (2, .int x2), (3, .int x3), (4, .int x4)] → W p l e rm_X4_countRings s m args below meth c H locs 0 0 (MQ below (Qv D (wC a kc Ff G I J Z) (ad a 44 s.heap.size)) args s 0 0 (ad a 44 s.heap.size)) (F0 m 35 ls []) := by
  intro F x1 x2 x3 x4 H locs ls hf hfF hP hS hl
  unfold p_X4_countRings_b35x at hf
  refine lv_iload_n X.1 X.2.1 dX4_countRings_35 rfl (lv_at hl 3 rfl) ?_
  refine lv_aload_n X.1 X.2.1 dX4_countRings_36 rfl (lv_at hl 0 rfl) ?_
  refine gC_32_3 X q_2_31 dX4_countRings_37 hP ?_
  refine gC_0_8 (F := F) X (v := (F 0)) rfl q_1_78 dX4_countRings_40 hP ?_
  refine lv_icmp_ge (tgt := 77) X.1 X.2.1 dX4_countRings_43 (by decide) (fun c43 => ?_) (fun c43 => ?_)
  · have hf := it_s hf c43
    exact t_X4_countRings_b77 X kh19 F x1 x2 x3 H locs ls hf hfF hP hS (lv_sub hl [0, 1, 2, 3] rfl)
  · have hf := ie_s hf c43
    refine lv_iload_n X.1 X.2.1 dX4_countRings_46 rfl (lv_at hl 1 rfl) ?_
    refine lv_iload X.1 X.2.1 dX4_countRings_47 (lv_at hl 4 rfl) ?_
    obtain ⟨r49, ho, hf⟩ := b1_s hf
    refine call_si (rest := []) X (c_X3_has x1 x4 ho) q_3_110 q_2_178 q_1_2 q_2_179 ok_X3_has rfl ⟨Nat.le_of_ble_eq_true rfl, Nat.le_of_ble_eq_true rfl⟩ rfl rfl hl.1 rfl (Nat.le_of_ble_eq_true rfl) dX4_countRings_49 hP hS (fun H locs hP hS => ?_)
    refine lv_if_ne (tgt := 77) X.1 X.2.1 dX4_countRings_52 (by decide) (fun c52 => ?_) (fun c52 => ?_)
    · have hf := ie_s hf c52
      exact t_X4_countRings_b77 X kh19 F x1 x2 x3 H locs ls hf hfF hP hS (lv_sub hl [0, 1, 2, 3] rfl)
    · have hf := it_s hf c52
      refine lv_iload_n X.1 X.2.1 dX4_countRings_55 rfl (lv_at hl 1 rfl) ?_
      refine lv_iconst (v := 1) X.1 X.2.1 dX4_countRings_56 (by decide) ?_
      refine lv_iload X.1 X.2.1 dX4_countRings_57 (lv_at hl 4 rfl) ?_
      refine lv_ishl X.1 X.2.1 dX4_countRings_59 ?_
      refine lv_ior X.1 X.2.1 dX4_countRings_60 ?_
      refine nm_i hf (fun x61 hf => ?_)
      refine lv_istore_n (lv' := [(1, .int x61), (0, .ref (a 32)), (2, .int x2), (3, .int x3), (4, .int x4)]) X.1 X.2.1 dX4_countRings_61 rfl hl (by decide) rfl (fun ls hl => ?_)
      refine lv_aload_n X.1 X.2.1 dX4_countRings_62 rfl (lv_at hl 1 rfl) ?_
      refine gC_32_4 X q_2_32 dX4_countRings_63 hP ?_
      refine lv_iload X.1 X.2.1 dX4_countRings_66 (lv_at hl 4 rfl) ?_
      obtain ⟨h68, hf⟩ := gd_s hf
      refine lC_33 (I := I) X (f := (I 15)) rfl h68 dX4_countRings_68 hP ?_
      refine nm_i hf (fun x69 hf => ?_)
      refine lv_istore (lv' := [(4, .int x69), (1, .int x61), (0, .ref (a 32)), (2, .int x2), (3, .int x3)]) X.1 X.2.1 dX4_countRings_69 hl (by decide) rfl (fun ls hl => ?_)
      obtain ⟨x71, ex71, hf⟩ := nm_x hf
      refine lv_iinc (v := x71) (lv' := [(3, .int x71), (4, .int x69), (1, .int x61), (0, .ref (a 32)), (2, .int x2)]) X.1 X.2.1 dX4_countRings_71 hl (k := 4) rfl ex71 (by decide) rfl (fun ls hl => ?_)
      refine lv_goto (tgt := 35) X.1 X.2.1 dX4_countRings_74 (by decide) ?_
      exact kh35 F x61 x2 x71 x69 H locs ls hf hfF hP hS (lv_sub hl [3, 2, 4, 0, 1] rfl)
set_option maxRecDepth 100000 in
theorem t_X4_countRings_b35 {p : Program} {l : Launch} {e : Env} {s : State} {m : MethodId} {args : Array Value} {below : List Frame} {meth : Method} {c : Code} {D : va_G} {a : Nat → Nat} {kc : Nat → ClassId} (X : cx 44 p s m args meth c D (tyC kc) a cX4_countRings 5 RX4 none) {G : Nat → Int64} {I : Nat → Nat → Int32} {J : Nat → Nat → Int64} {Z : Nat → Nat → Nat → Int32} {Ff : Nat → Int32}  {K19 : Int32 → Int32 → Int32 → Int32 → (Nat → Int32) → Int32 → Int32 → Option (Int32 × Int32 × Int32)} (kh19 : ∀ (F : Nat → Int32) (x1 : Int32) (x2 : Int32) (H : Heap) (locs : List Loc) (ls : Array Slot), K19 (F 0) (F 10) (F 11) (F 12) (I 15) x1 x2 = some ((Ff 10), (Ff 11), (Ff 12)) → (∀ k, k ∉ ([10, 11, 12] : List Nat) → Ff k = F k) → va_P D vwCl (wC a kc F G I J Z) H → va_S (ad a 44 s.heap.size) s.heap H locs → lv_has ls 5 [(0, .ref (a 32)), (1, .int x1), (2, .int x2)] → W p l e rm_X4_countRings s m args below meth c H locs 0 0 (MQ below (Qv D (wC a kc Ff G I J Z) (ad a 44 s.heap.size)) args s 0 0 (ad a 44 s.heap.size)) (F0 m 19 ls [])) :
    ∀ (n : Nat) (F : Nat → Int32) (x1 : Int32) (x2 : Int32) (x3 : Int32) (x4 : Int32) (H : Heap) (locs : List Loc) (ls : Array Slot), p_X4_countRings_b35 K19 n (F 0) (F 10) (F 11) (F 12) (I 15) x1 x2 x3 x4 = some ((Ff 10), (Ff 11), (Ff 12)) → (∀ k, k ∉ ([10, 11, 12] : List Nat) → Ff k = F k) → va_P D vwCl (wC a kc F G I J Z) H → va_S (ad a 44 s.heap.size) s.heap H locs → lv_has ls 5 [(0, .ref (a 32)), (1, .int x1), (2, .int x2), (3, .int x3), (4, .int x4)] → W p l e rm_X4_countRings s m args below meth c H locs 0 0 (MQ below (Qv D (wC a kc Ff G I J Z) (ad a 44 s.heap.size)) args s 0 0 (ad a 44 s.heap.size)) (F0 m 35 ls []) := by
  intro n
  induction n with
  | zero => intro F x1 x2 x3 x4 H locs ls hf hfF hP hS hl; exact (nos hf).elim
  | succ n ih => exact t_X4_countRings_b35x X kh19 ih
set_option maxHeartbeats 4000000 in
set_option maxRecDepth 100000 in
theorem t_X4_countRings_b19x {p : Program} {l : Launch} {e : Env} {s : State} {m : MethodId} {args : Array Value} {below : List Frame} {meth : Method} {c : Code} {D : va_G} {a : Nat → Nat} {kc : Nat → ClassId} (X : cx 44 p s m args meth c D (tyC kc) a cX4_countRings 5 RX4 none) {G : Nat → Int64} {I : Nat → Nat → Int32} {J : Nat → Nat → Int64} {Z : Nat → Nat → Nat → Int32} {Ff : Nat → Int32}  {K19 : Int32 → Int32 → Int32 → Int32 → (Nat → Int32) → Int32 → Int32 → Option (Int32 × Int32 × Int32)} (kh19 : ∀ (F : Nat → Int32) (x1 : Int32) (x2 : Int32) (H : Heap) (locs : List Loc) (ls : Array Slot), K19 (F 0) (F 10) (F 11) (F 12) (I 15) x1 x2 = some ((Ff 10), (Ff 11), (Ff 12)) → (∀ k, k ∉ ([10, 11, 12] : List Nat) → Ff k = F k) → va_P D vwCl (wC a kc F G I J Z) H → va_S (ad a 44 s.heap.size) s.heap H locs → lv_has ls 5 [(0, .ref (a 32)), (1, .int x1), (2, .int x2)] → W p l e rm_X4_countRings s m args below meth c H locs 0 0 (MQ below (Qv D (wC a kc Ff G I J Z) (ad a 44 s.heap.size)) args s 0 0 (ad a 44 s.heap.size)) (F0 m 19 ls [])) :
    ∀ (F : Nat → Int32) (x1 : Int32) (x2 : Int32) (H : Heap) (locs : List Loc) (ls : Array Slot), p_X4_countRings_b19x K19 (F 0) (F 10) (F 11) (F 12) (I 15) x1 x2 = some ((Ff 10), (Ff 11), (Ff 12)) → (∀ k, k ∉ ([10, 11, 12] : List Nat) → Ff k = F k) → va_P D vwCl (wC a kc F G I J Z) H → va_S (ad a 44 s.heap.size) s.heap H locs → lv_has ls 5 [(0, .ref (a 32)), (1, .int x1), (2, .int x2)] → W p l e rm_X4_countRings s m args below meth c H locs 0 0 (MQ below (Qv D (wC a kc Ff G I J Z) (ad a 44 s.heap.size)) args s 0 0 (ad a 44 s.heap.size)) (F0 m 19 ls []) := by
  intro F x1 x2 H locs ls hf hfF hP hS hl
  unfold p_X4_countRings_b19x at hf
  refine lv_iload_n X.1 X.2.1 dX4_countRings_19 rfl (lv_at hl 2 rfl) ?_
  refine lv_aload_n X.1 X.2.1 dX4_countRings_20 rfl (lv_at hl 0 rfl) ?_
  refine gC_32_3 X q_2_31 dX4_countRings_21 hP ?_
  refine gC_0_8 (F := F) X (v := (F 0)) rfl q_1_78 dX4_countRings_24 hP ?_
  refine lv_icmp_ge (tgt := 122) X.1 X.2.1 dX4_countRings_27 (by decide) (fun c27 => ?_) (fun c27 => ?_)
  · have hf := it_s hf c27
    obtain ⟨e0, hf⟩ := o2 hf
    obtain ⟨e1, hf⟩ := o2 hf
    have e2 := o1 hf
    have EF : Ff = F := frm_eq hfF (frm_c (e0).symm (frm_c (e1).symm (frm_c (e2).symm frm_n)))
    exact ret_v X hS (by rw [EF]; exact hP) dX4_countRings_122
  · have hf := ie_s hf c27
    refine lv_iconst (v := 0) X.1 X.2.1 dX4_countRings_30 (by decide) ?_
    refine lv_istore_n (lv' := [(3, .int 0), (0, .ref (a 32)), (1, .int x1), (2, .int x2)]) X.1 X.2.1 dX4_countRings_31 rfl hl (by decide) rfl (fun ls hl => ?_)
    refine lv_iload_n X.1 X.2.1 dX4_countRings_32 rfl (lv_at hl 3 rfl) ?_
    refine lv_istore (lv' := [(4, .int x2), (3, .int 0), (0, .ref (a 32)), (1, .int x1), (2, .int x2)]) X.1 X.2.1 dX4_countRings_33 hl (by decide) rfl (fun ls hl => ?_)
    exact t_X4_countRings_b35 X kh19 4096 F x1 x2 0 x2 H locs ls hf hfF hP hS (lv_sub hl [2, 3, 4, 1, 0] rfl)
set_option maxRecDepth 100000 in
theorem t_X4_countRings_b19 {p : Program} {l : Launch} {e : Env} {s : State} {m : MethodId} {args : Array Value} {below : List Frame} {meth : Method} {c : Code} {D : va_G} {a : Nat → Nat} {kc : Nat → ClassId} (X : cx 44 p s m args meth c D (tyC kc) a cX4_countRings 5 RX4 none) {G : Nat → Int64} {I : Nat → Nat → Int32} {J : Nat → Nat → Int64} {Z : Nat → Nat → Nat → Int32} {Ff : Nat → Int32}  :
    ∀ (n : Nat) (F : Nat → Int32) (x1 : Int32) (x2 : Int32) (H : Heap) (locs : List Loc) (ls : Array Slot), p_X4_countRings_b19 n (F 0) (F 10) (F 11) (F 12) (I 15) x1 x2 = some ((Ff 10), (Ff 11), (Ff 12)) → (∀ k, k ∉ ([10, 11, 12] : List Nat) → Ff k = F k) → va_P D vwCl (wC a kc F G I J Z) H → va_S (ad a 44 s.heap.size) s.heap H locs → lv_has ls 5 [(0, .ref (a 32)), (1, .int x1), (2, .int x2)] → W p l e rm_X4_countRings s m args below meth c H locs 0 0 (MQ below (Qv D (wC a kc Ff G I J Z) (ad a 44 s.heap.size)) args s 0 0 (ad a 44 s.heap.size)) (F0 m 19 ls []) := by
  intro n
  induction n with
  | zero => intro F x1 x2 H locs ls hf hfF hP hS hl; exact (nos hf).elim
  | succ n ih => exact t_X4_countRings_b19x X ih
set_option maxHeartbeats 4000000 in
set_option maxRecDepth 100000 in
theorem t_X4_countRings_b0 {p : Program} {l : Launch} {e : Env} {s : State} {m : MethodId} {args : Array Value} {below : List Frame} {meth : Method} {c : Code} {D : va_G} {a : Nat → Nat} {kc : Nat → ClassId} (X : cx 44 p s m args meth c D (tyC kc) a cX4_countRings 5 RX4 none) {G : Nat → Int64} {I : Nat → Nat → Int32} {J : Nat → Nat → Int64} {Z : Nat → Nat → Nat → Int32} {Ff : Nat → Int32}  :
    ∀ (F : Nat → Int32)  (H : Heap) (locs : List Loc) (ls : Array Slot), p_X4_countRings_b0 (F 0) (F 10) (F 11) (F 12) (I 15)  = some ((Ff 10), (Ff 11), (Ff 12)) → (∀ k, k ∉ ([10, 11, 12] : List Nat) → Ff k = F k) → va_P D vwCl (wC a kc F G I J Z) H → va_S (ad a 44 s.heap.size) s.heap H locs → lv_has ls 5 [(0, .ref (a 32))] → W p l e rm_X4_countRings s m args below meth c H locs 0 0 (MQ below (Qv D (wC a kc Ff G I J Z) (ad a 44 s.heap.size)) args s 0 0 (ad a 44 s.heap.size)) (F0 m 0 ls []) := by
  intro F  H locs ls hf hfF hP hS hl
  unfold p_X4_countRings_b0 at hf
  refine lv_aload_n X.1 X.2.1 dX4_countRings_0 rfl (lv_at hl 0 rfl) ?_
  refine lv_iconst (v := 0) X.1 X.2.1 dX4_countRings_1 (by decide) ?_
  refine pC_32_0 X q_2_26 dX4_countRings_2 hP hS (fun H locs hP hS => ?_)
  refine lv_aload_n X.1 X.2.1 dX4_countRings_5 rfl (lv_at hl 0 rfl) ?_
  refine lv_iconst (v := 0) X.1 X.2.1 dX4_countRings_6 (by decide) ?_
  refine pC_32_1 X q_2_28 dX4_countRings_7 hP hS (fun H locs hP hS => ?_)
  refine lv_aload_n X.1 X.2.1 dX4_countRings_10 rfl (lv_at hl 0 rfl) ?_
  refine lv_iconst (v := 0) X.1 X.2.1 dX4_countRings_11 (by decide) ?_
  refine pC_32_2 X q_2_30 dX4_countRings_12 hP hS (fun H locs hP hS => ?_)
  refine lv_iconst (v := 0) X.1 X.2.1 dX4_countRings_15 (by decide) ?_
  refine lv_istore_n (lv' := [(1, .int 0), (0, .ref (a 32))]) X.1 X.2.1 dX4_countRings_16 rfl hl (by decide) rfl (fun ls hl => ?_)
  refine lv_iconst (v := 0) X.1 X.2.1 dX4_countRings_17 (by decide) ?_
  refine lv_istore_n (lv' := [(2, .int 0), (1, .int 0), (0, .ref (a 32))]) X.1 X.2.1 dX4_countRings_18 rfl hl (by decide) rfl (fun ls hl => ?_)
  exact t_X4_countRings_b19 X 4096 (va_up (va_up (va_up F 10 0) 11 0) 12 0) 0 0 H locs ls hf (frm_up (frm_up (frm_up hfF (by decide)) (by decide)) (by decide)) hP hS (lv_sub hl [2, 1, 0] rfl)
set_option maxRecDepth 100000 in
theorem c_X4_countRings {l : Launch} {D : va_G} {a : Nat → Nat} {kc : Nat → ClassId} (F : Nat → Int32) (G : Nat → Int64) (I : Nat → Nat → Int32) (J : Nat → Nat → Int64) (Z : Nat → Nat → Nat → Int32) (hAp : ∀ i j, i < 44 → j < 44 → a i = a j → i = j)  {o0 : Int32} {o1 : Int32} {o2 : Int32} (hf : p_X4_countRings (F 0) (F 10) (F 11) (F 12) (I 15)  = some (o0, o1, o2)) : Ct 44 l yX4_countRings cX4_countRings 5 none rm_X4_countRings D (tyC kc) a (wC a kc F G I J Z) [.ref (a 32)] (Qv D (wC a kc (va_up (va_up (va_up F 10 o0) 11 o1) 12 o2) G I J Z)) :=
  Ct.of (by decide +kernel) hAp (Nat.le_of_ble_eq_true rfl) (fun p e s m args below meth c ls X hP hl => t_X4_countRings_b0 X F  _ _ _ hf (frm_ul (frm_ul (frm_ul (fun k _ => rfl) (by decide)) (by decide)) (by decide)) hP va_S.rf hl)
abbrev rm_X4_follow : Room := { frames := 2, cells := 0, slots := 0, locals := 54 }
set_option maxHeartbeats 4000000 in
set_option maxRecDepth 100000 in
theorem t_X4_follow_b12x {p : Program} {l : Launch} {e : Env} {s : State} {m : MethodId} {args : Array Value} {below : List Frame} {meth : Method} {c : Code} {D : va_G} {a : Nat → Nat} {kc : Nat → ClassId} (X : cx 44 p s m args meth c D (tyC kc) a cX4_follow 3 RX4 (some .boolean)) {G : Nat → Int64} {J : Nat → Nat → Int64} {Z : Nat → Nat → Nat → Int32} {Ff : Nat → Int32} {If : Nat → Nat → Int32} {r : Int32} {K12 : Int32 → Int32 → Int32 → Int32 → Int32 → (Nat → Int32) → (Nat → Int32) → (Nat → Nat → Int32) → Nat → Int32 → Option (Int32 × Int32 × Int32 × Int32 × (Nat → Int32))} (kh12 : ∀ (F : Nat → Int32) (I : Nat → Nat → Int32) (s1 : Nat) (x2 : Int32) (H : Heap) (locs : List Loc) (ls : Array Slot), K12 (F 0) (F 2) (F 10) (F 11) (F 12) (I 5) (I 15) (Z 1) s1 x2 = some (r, (Ff 10), (Ff 11), (Ff 12), (If 15)) → (∀ k, k ∉ ([10, 11, 12] : List Nat) → Ff k = F k) → (∀ k, k ∉ ([15] : List Nat) → If k = I k) → va_P D vwCl (wC a kc F G I J Z) H → va_S (ad a 44 s.heap.size) s.heap H locs → lv_has ls 3 [(0, .ref (a 32)), (1, .ref (a (40 + s1))), (2, .int x2)] → W p l e rm_X4_follow s m args below meth c H locs 0 0 (MQ below (Qi D (wC a kc Ff G If J Z) r (ad a 44 s.heap.size)) args s 0 0 (ad a 44 s.heap.size)) (F0 m 12 ls [])) :
    ∀ (F : Nat → Int32) (I : Nat → Nat → Int32) (s1 : Nat) (x2 : Int32) (H : Heap) (locs : List Loc) (ls : Array Slot), p_X4_follow_b12x K12 (F 0) (F 2) (F 10) (F 11) (F 12) (I 5) (I 15) (Z 1) s1 x2 = some (r, (Ff 10), (Ff 11), (Ff 12), (If 15)) → (∀ k, k ∉ ([10, 11, 12] : List Nat) → Ff k = F k) → (∀ k, k ∉ ([15] : List Nat) → If k = I k) → va_P D vwCl (wC a kc F G I J Z) H → va_S (ad a 44 s.heap.size) s.heap H locs → lv_has ls 3 [(0, .ref (a 32)), (1, .ref (a (40 + s1))), (2, .int x2)] → W p l e rm_X4_follow s m args below meth c H locs 0 0 (MQ below (Qi D (wC a kc Ff G If J Z) r (ad a 44 s.heap.size)) args s 0 0 (ad a 44 s.heap.size)) (F0 m 12 ls []) := by
  intro F I s1 x2 H locs ls hf hfF hfI hP hS hl
  unfold p_X4_follow_b12x at hf
  refine lv_iload_n X.1 X.2.1 dX4_follow_12 rfl (lv_at hl 2 rfl) ?_
  refine lv_aload_n X.1 X.2.1 dX4_follow_13 rfl (lv_at hl 0 rfl) ?_
  refine gC_32_3 X q_2_31 dX4_follow_14 hP ?_
  refine gC_0_10 (F := F) X (v := (F 2)) rfl q_1_88 dX4_follow_17 hP ?_
  refine lv_icmp_ge (tgt := 46) X.1 X.2.1 dX4_follow_20 (by decide) (fun c20 => ?_) (fun c20 => ?_)
  · have hf := it_s hf c20
    refine lv_aload_n X.1 X.2.1 dX4_follow_46 rfl (lv_at hl 0 rfl) ?_
    obtain ⟨R_number_47, R_changes_47, R_longest_47, ho, hf⟩ := b3_s hf
    refine call_vv (rest := []) X (c_X4_countRings F G I J Z X.2.2.2.2.2.2.2.1  ho) q_3_106 q_3_108 qs_yX4_countRings q_1_8 q_3_109 ok_X4_countRings rfl 32 rfl rfl ⟨Nat.le_of_ble_eq_true rfl, Nat.le_of_ble_eq_true rfl⟩ rfl rfl hl.1 rfl (Nat.le_of_ble_eq_true rfl) dX4_follow_47 hP hS (fun H locs hP hS => ?_)
    refine lv_iconst (v := 1) X.1 X.2.1 dX4_follow_50 (by decide) ?_
    obtain ⟨e0, hf⟩ := o2 hf
    obtain ⟨e1, hf⟩ := o2 hf
    obtain ⟨e2, hf⟩ := o2 hf
    obtain ⟨e3, hf⟩ := o2 hf
    have e4 := o1 hf
    have EF : Ff = (va_up (va_up (va_up F 10 R_number_47) 11 R_changes_47) 12 R_longest_47) := frm_eq (frm_up (frm_up (frm_up hfF (by decide)) (by decide)) (by decide)) (frm_c (e1).symm (frm_c (e2).symm (frm_c (e3).symm frm_n)))
    have EI : If = I := frm_eq hfI (frm_c (e4).symm frm_n)
    exact ret_z X hS (by rw [EF, EI]; exact hP) e0 (by decide) dX4_follow_51
  · have hf := ie_s hf c20
    refine lv_aload_n X.1 X.2.1 dX4_follow_23 rfl (lv_at hl 0 rfl) ?_
    refine gC_32_4 X q_2_32 dX4_follow_24 hP ?_
    refine lv_aload_n X.1 X.2.1 dX4_follow_27 rfl (lv_at hl 1 rfl) ?_
    refine lv_iload_n X.1 X.2.1 dX4_follow_28 rfl (lv_at hl 2 rfl) ?_
    obtain ⟨h29s, hf⟩ := gd_s hf
    obtain ⟨h29, hf⟩ := gd_s hf
    refine ldC_40 (Z := Z) X (of_decide_eq_true h29s) (f := (Z 1)) rfl h29 dX4_follow_29 hP ?_
    refine lv_aload_n X.1 X.2.1 dX4_follow_30 rfl (lv_at hl 0 rfl) ?_
    refine gC_32_3 X q_2_31 dX4_follow_31 hP ?_
    refine gC_0_6 X q_1_66 dX4_follow_34 hP ?_
    refine lv_iload_n X.1 X.2.1 dX4_follow_37 rfl (lv_at hl 2 rfl) ?_
    obtain ⟨h38, hf⟩ := gd_s hf
    refine lC_9 (I := I) X (f := (I 5)) rfl h38 dX4_follow_38 hP ?_
    obtain ⟨h39, hf⟩ := gd_s hf
    obtain ⟨R_goal_39, eR_goal_39, hf⟩ := nm_x hf
    refine sC_33 (I := I) X h39 eR_goal_39 dX4_follow_39 hP hS (fun H locs hP hS => ?_)
    obtain ⟨x40, ex40, hf⟩ := nm_x hf
    refine lv_iinc (v := x40) (lv' := [(2, .int x40), (0, .ref (a 32)), (1, .ref (a (40 + s1)))]) X.1 X.2.1 dX4_follow_40 hl (k := 2) rfl ex40 (by decide) rfl (fun ls hl => ?_)
    refine lv_goto (tgt := 12) X.1 X.2.1 dX4_follow_43 (by decide) ?_
    exact kh12 F (va_up I 15 R_goal_39) s1 x40 H locs ls hf hfF (frm_up hfI (by decide)) hP hS (lv_sub hl [1, 2, 0] rfl)
set_option maxRecDepth 100000 in
theorem t_X4_follow_b12 {p : Program} {l : Launch} {e : Env} {s : State} {m : MethodId} {args : Array Value} {below : List Frame} {meth : Method} {c : Code} {D : va_G} {a : Nat → Nat} {kc : Nat → ClassId} (X : cx 44 p s m args meth c D (tyC kc) a cX4_follow 3 RX4 (some .boolean)) {G : Nat → Int64} {J : Nat → Nat → Int64} {Z : Nat → Nat → Nat → Int32} {Ff : Nat → Int32} {If : Nat → Nat → Int32} {r : Int32} :
    ∀ (n : Nat) (F : Nat → Int32) (I : Nat → Nat → Int32) (s1 : Nat) (x2 : Int32) (H : Heap) (locs : List Loc) (ls : Array Slot), p_X4_follow_b12 n (F 0) (F 2) (F 10) (F 11) (F 12) (I 5) (I 15) (Z 1) s1 x2 = some (r, (Ff 10), (Ff 11), (Ff 12), (If 15)) → (∀ k, k ∉ ([10, 11, 12] : List Nat) → Ff k = F k) → (∀ k, k ∉ ([15] : List Nat) → If k = I k) → va_P D vwCl (wC a kc F G I J Z) H → va_S (ad a 44 s.heap.size) s.heap H locs → lv_has ls 3 [(0, .ref (a 32)), (1, .ref (a (40 + s1))), (2, .int x2)] → W p l e rm_X4_follow s m args below meth c H locs 0 0 (MQ below (Qi D (wC a kc Ff G If J Z) r (ad a 44 s.heap.size)) args s 0 0 (ad a 44 s.heap.size)) (F0 m 12 ls []) := by
  intro n
  induction n with
  | zero => intro F I s1 x2 H locs ls hf hfF hfI hP hS hl; exact (nos hf).elim
  | succ n ih => exact t_X4_follow_b12x X ih
set_option maxHeartbeats 4000000 in
set_option maxRecDepth 100000 in
theorem t_X4_follow_b0 {p : Program} {l : Launch} {e : Env} {s : State} {m : MethodId} {args : Array Value} {below : List Frame} {meth : Method} {c : Code} {D : va_G} {a : Nat → Nat} {kc : Nat → ClassId} (X : cx 44 p s m args meth c D (tyC kc) a cX4_follow 3 RX4 (some .boolean)) {G : Nat → Int64} {J : Nat → Nat → Int64} {Z : Nat → Nat → Nat → Int32} {Ff : Nat → Int32} {If : Nat → Nat → Int32} {r : Int32} :
    ∀ (F : Nat → Int32) (I : Nat → Nat → Int32) (s1 : Nat) (H : Heap) (locs : List Loc) (ls : Array Slot), p_X4_follow_b0 (F 0) (F 2) (F 10) (F 11) (F 12) (I 5) (I 15) (Z 1) s1 = some (r, (Ff 10), (Ff 11), (Ff 12), (If 15)) → (∀ k, k ∉ ([10, 11, 12] : List Nat) → Ff k = F k) → (∀ k, k ∉ ([15] : List Nat) → If k = I k) → va_P D vwCl (wC a kc F G I J Z) H → va_S (ad a 44 s.heap.size) s.heap H locs → lv_has ls 3 [(0, .ref (a 32)), (1, .ref (a (40 + s1)))] → W p l e rm_X4_follow s m args below meth c H locs 0 0 (MQ below (Qi D (wC a kc Ff G If J Z) r (ad a 44 s.heap.size)) args s 0 0 (ad a 44 s.heap.size)) (F0 m 0 ls []) := by
  intro F I s1 H locs ls hf hfF hfI hP hS hl
  unfold p_X4_follow_b0 at hf
  refine lv_aload_n X.1 X.2.1 dX4_follow_0 rfl (lv_at hl 0 rfl) ?_
  refine lv_aload_n X.1 X.2.1 dX4_follow_1 rfl (lv_at hl 1 rfl) ?_
  obtain ⟨r2, ho, hf⟩ := b1_s hf
  refine call_vi (rest := []) X (c_X4_isWhole F G I J Z X.2.2.2.2.2.2.2.1 s1 ho) q_3_101 q_3_103 qs_yX4_isWhole q_1_8 q_3_104 ok_X4_isWhole rfl 32 rfl rfl ⟨Nat.le_of_ble_eq_true rfl, Nat.le_of_ble_eq_true rfl⟩ rfl rfl hl.1 rfl (Nat.le_of_ble_eq_true rfl) dX4_follow_2 hP hS (fun H locs hP hS => ?_)
  refine lv_if_ne (tgt := 10) X.1 X.2.1 dX4_follow_5 (by decide) (fun c5 => ?_) (fun c5 => ?_)
  · have hf := ie_s hf c5
    refine lv_iconst (v := 0) X.1 X.2.1 dX4_follow_10 (by decide) ?_
    refine lv_istore_n (lv' := [(2, .int 0), (0, .ref (a 32)), (1, .ref (a (40 + s1)))]) X.1 X.2.1 dX4_follow_11 rfl hl (by decide) rfl (fun ls hl => ?_)
    exact t_X4_follow_b12 X 4096 F I s1 0 H locs ls hf hfF hfI hP hS (lv_sub hl [1, 2, 0] rfl)
  · have hf := it_s hf c5
    refine lv_iconst (v := 0) X.1 X.2.1 dX4_follow_8 (by decide) ?_
    obtain ⟨e0, hf⟩ := o2 hf
    obtain ⟨e1, hf⟩ := o2 hf
    obtain ⟨e2, hf⟩ := o2 hf
    obtain ⟨e3, hf⟩ := o2 hf
    have e4 := o1 hf
    have EF : Ff = F := frm_eq hfF (frm_c (e1).symm (frm_c (e2).symm (frm_c (e3).symm frm_n)))
    have EI : If = I := frm_eq hfI (frm_c (e4).symm frm_n)
    exact ret_z X hS (by rw [EF, EI]; exact hP) e0 (by decide) dX4_follow_9
set_option maxRecDepth 100000 in
theorem c_X4_follow {l : Launch} {D : va_G} {a : Nat → Nat} {kc : Nat → ClassId} (F : Nat → Int32) (G : Nat → Int64) (I : Nat → Nat → Int32) (J : Nat → Nat → Int64) (Z : Nat → Nat → Nat → Int32) (hAp : ∀ i j, i < 44 → j < 44 → a i = a j → i = j) (s1 : Nat) {o0 : Int32} {o1 : Int32} {o2 : Int32} {o3 : Int32} {o4 : Nat → Int32} (hf : p_X4_follow (F 0) (F 2) (F 10) (F 11) (F 12) (I 5) (I 15) (Z 1) s1 = some (o0, o1, o2, o3, o4)) : Ct 44 l yX4_follow cX4_follow 3 (some .boolean) rm_X4_follow D (tyC kc) a (wC a kc F G I J Z) [.ref (a 32), .ref (a (40 + s1))] (Qi D (wC a kc (va_up (va_up (va_up F 10 o1) 11 o2) 12 o3) G (va_up I 15 o4) J Z) o0) :=
  Ct.of (by decide +kernel) hAp (Nat.le_of_ble_eq_true rfl) (fun p e s m args below meth c ls X hP hl => t_X4_follow_b0 X F I s1 _ _ _ hf (frm_ul (frm_ul (frm_ul (fun k _ => rfl) (by decide)) (by decide)) (by decide)) (frm_ul (fun k _ => rfl) (by decide)) hP va_S.rf hl)
abbrev rm_X4_rounds : Room := { frames := 0, cells := 0, slots := 0, locals := 0 }
set_option maxHeartbeats 4000000 in
set_option maxRecDepth 100000 in
theorem t_X4_rounds_b23 {p : Program} {l : Launch} {e : Env} {s : State} {m : MethodId} {args : Array Value} {below : List Frame} {meth : Method} {c : Code} {D : va_G} {a : Nat → Nat} {kc : Nat → ClassId} (X : cx 44 p s m args meth c D (tyC kc) a cX4_rounds 1 RX4 (some .int)) {F : Nat → Int32} {G : Nat → Int64} {I : Nat → Nat → Int32} {J : Nat → Nat → Int64} {Z : Nat → Nat → Nat → Int32}  {r : Int32} :
    ∀  (t0 : Int32) (H : Heap) (locs : List Loc) (ls : Array Slot), p_X4_rounds_b23 (F 12) t0 = some r → va_P D vwCl (wC a kc F G I J Z) H → va_S (ad a 44 s.heap.size) s.heap H locs → lv_has ls 1 [(0, .ref (a 32))] → W p l e rm_X4_rounds s m args below meth c H locs 0 0 (MQ below (Qi D (wC a kc F G I J Z) r (ad a 44 s.heap.size)) args s 0 0 (ad a 44 s.heap.size)) (F0 m 23 ls [.int t0]) := by
  intro  t0 H locs ls hf  hP hS hl
  unfold p_X4_rounds_b23 at hf
  have e0 := o1 hf
  exact ret_i X hS hP e0 dX4_rounds_23
set_option maxHeartbeats 4000000 in
set_option maxRecDepth 100000 in
theorem t_X4_rounds_b0 {p : Program} {l : Launch} {e : Env} {s : State} {m : MethodId} {args : Array Value} {below : List Frame} {meth : Method} {c : Code} {D : va_G} {a : Nat → Nat} {kc : Nat → ClassId} (X : cx 44 p s m args meth c D (tyC kc) a cX4_rounds 1 RX4 (some .int)) {F : Nat → Int32} {G : Nat → Int64} {I : Nat → Nat → Int32} {J : Nat → Nat → Int64} {Z : Nat → Nat → Nat → Int32}  {r : Int32} :
    ∀   (H : Heap) (locs : List Loc) (ls : Array Slot), p_X4_rounds_b0 (F 12)  = some r → va_P D vwCl (wC a kc F G I J Z) H → va_S (ad a 44 s.heap.size) s.heap H locs → lv_has ls 1 [(0, .ref (a 32))] → W p l e rm_X4_rounds s m args below meth c H locs 0 0 (MQ below (Qi D (wC a kc F G I J Z) r (ad a 44 s.heap.size)) args s 0 0 (ad a 44 s.heap.size)) (F0 m 0 ls []) := by
  intro   H locs ls hf  hP hS hl
  unfold p_X4_rounds_b0 at hf
  refine lv_aload_n X.1 X.2.1 dX4_rounds_0 rfl (lv_at hl 0 rfl) ?_
  refine gC_32_2 (F := F) X (v := (F 12)) rfl q_2_30 dX4_rounds_1 hP ?_
  refine lv_iconst (v := 2) X.1 X.2.1 dX4_rounds_4 (by decide) ?_
  refine lv_icmp_ge (tgt := 10) X.1 X.2.1 dX4_rounds_5 (by decide) (fun c5 => ?_) (fun c5 => ?_)
  · have hf := it_s hf c5
    refine lv_aload_n X.1 X.2.1 dX4_rounds_10 rfl (lv_at hl 0 rfl) ?_
    refine gC_32_2 (F := F) X (v := (F 12)) rfl q_2_30 dX4_rounds_11 hP ?_
    refine lv_iconst (v := 2) X.1 X.2.1 dX4_rounds_14 (by decide) ?_
    refine lv_icmp_ne (tgt := 22) X.1 X.2.1 dX4_rounds_15 (by decide) (fun c15 => ?_) (fun c15 => ?_)
    · have hf := ie_s hf c15
      refine lv_iconst (v := 2) X.1 X.2.1 dX4_rounds_22 (by decide) ?_
      exact t_X4_rounds_b23 X  2 H locs ls hf  hP hS (lv_sub hl [0] rfl)
    · have hf := it_s hf c15
      refine lv_iconst (v := 1) X.1 X.2.1 dX4_rounds_18 (by decide) ?_
      refine lv_goto (tgt := 23) X.1 X.2.1 dX4_rounds_19 (by decide) ?_
      exact t_X4_rounds_b23 X  1 H locs ls hf  hP hS (lv_sub hl [0] rfl)
  · have hf := ie_s hf c5
    refine lv_iconst (v := 0) X.1 X.2.1 dX4_rounds_8 (by decide) ?_
    have e0 := o1 hf
    exact ret_i X hS hP e0 dX4_rounds_9
set_option maxRecDepth 100000 in
theorem c_X4_rounds {l : Launch} {D : va_G} {a : Nat → Nat} {kc : Nat → ClassId} (F : Nat → Int32) (G : Nat → Int64) (I : Nat → Nat → Int32) (J : Nat → Nat → Int64) (Z : Nat → Nat → Nat → Int32) (hAp : ∀ i j, i < 44 → j < 44 → a i = a j → i = j)  {o0 : Int32} (hf : p_X4_rounds (F 12)  = some o0) : Ct 44 l yX4_rounds cX4_rounds 1 (some .int) rm_X4_rounds D (tyC kc) a (wC a kc F G I J Z) [.ref (a 32)] (Qi D (wC a kc F G I J Z) o0) :=
  Ct.of (by decide +kernel) hAp (Nat.le_of_ble_eq_true rfl) (fun p e s m args below meth c ls X hP hl => t_X4_rounds_b0 X   _ _ _ hf  hP va_S.rf hl)
abbrev rm_X5_renew : Room := { frames := 1, cells := 0, slots := 0, locals := 24 }
set_option maxHeartbeats 4000000 in
set_option maxRecDepth 100000 in
theorem t_X5_renew_b0 {p : Program} {l : Launch} {e : Env} {s : State} {m : MethodId} {args : Array Value} {below : List Frame} {meth : Method} {c : Code} {D : va_G} {a : Nat → Nat} {kc : Nat → ClassId} (X : cx 44 p s m args meth c D (tyC kc) a cX5_renew 3 RX5 none) {F : Nat → Int32} {G : Nat → Int64} {J : Nat → Nat → Int64} {If : Nat → Nat → Int32} {Zf : Nat → Nat → Nat → Int32}  :
    ∀ (I : Nat → Nat → Int32) (Z : Nat → Nat → Nat → Int32) (s0 : Nat) (x1 : Int32) (x2 : Int32) (H : Heap) (locs : List Loc) (ls : Array Slot), p_X5_renew_b0 (I 16) (I 17) (Z 1) s0 x1 x2 = some ((If 16), (If 17), (Zf 1)) → (∀ k, k ∉ ([16, 17] : List Nat) → If k = I k) → (∀ k, k ∉ ([1] : List Nat) → Zf k = Z k) → va_P D vwCl (wC a kc F G I J Z) H → va_S (ad a 44 s.heap.size) s.heap H locs → lv_has ls 3 [(0, .ref (a (36 + s0))), (1, .int x1), (2, .int x2)] → W p l e rm_X5_renew s m args below meth c H locs 0 0 (MQ below (Qv D (wC a kc F G If J Zf) (ad a 44 s.heap.size)) args s 0 0 (ad a 44 s.heap.size)) (F0 m 0 ls []) := by
  intro I Z s0 x1 x2 H locs ls hf hfI hfZ hP hS hl
  unfold p_X5_renew_b0 at hf
  refine lv_aload_n X.1 X.2.1 dX5_renew_0 rfl (lv_at hl 0 rfl) ?_
  refine lv_iload_n X.1 X.2.1 dX5_renew_1 rfl (lv_at hl 1 rfl) ?_
  obtain ⟨h2, hf⟩ := gd_s hf
  obtain ⟨S_form_2, eS_form_2, hf⟩ := nm_x hf
  refine pC_sh_1 (I := I) X (of_decide_eq_true h2) eS_form_2 q_2_53 dX5_renew_2 hP hS (fun H locs hP hS => ?_)
  refine lv_aload_n X.1 X.2.1 dX5_renew_5 rfl (lv_at hl 0 rfl) ?_
  refine lv_iload_n X.1 X.2.1 dX5_renew_6 rfl (lv_at hl 2 rfl) ?_
  obtain ⟨h7, hf⟩ := gd_s hf
  obtain ⟨S_size_7, eS_size_7, hf⟩ := nm_x hf
  refine pC_sh_2 (I := (va_up I 16 S_form_2)) X (of_decide_eq_true h7) eS_size_7 q_2_55 dX5_renew_7 hP hS (fun H locs hP hS => ?_)
  refine lv_aload_n X.1 X.2.1 dX5_renew_10 rfl (lv_at hl 0 rfl) ?_
  obtain ⟨h11, hf⟩ := gd_s hf
  refine gC_sh_0 X (of_decide_eq_true h11) q_2_51 dX5_renew_11 hP ?_
  refine lv_iconst (v := 0) X.1 X.2.1 dX5_renew_14 (by decide) ?_
  obtain ⟨h15s, hf⟩ := gd_s hf
  obtain ⟨S_items_15, eS_items_15, hf⟩ := nm_x hf
  refine flC_40 (Z := Z) (rest := []) X (of_decide_eq_true h15s) eS_items_15 q_4_20 (Nat.le_of_ble_eq_true rfl) (Nat.le_of_ble_eq_true rfl) hl.1 (Nat.le_of_ble_eq_true rfl) dX5_renew_15 hP hS (fun H locs hP hS => ?_)
  obtain ⟨e0, hf⟩ := o2 hf
  obtain ⟨e1, hf⟩ := o2 hf
  have e2 := o1 hf
  have EI : If = (va_up (va_up I 16 S_form_2) 17 S_size_7) := frm_eq (frm_up (frm_up hfI (by decide)) (by decide)) (frm_c (e0).symm (frm_c (e1).symm frm_n))
  have EZ : Zf = (va_up Z 1 S_items_15) := frm_eq (frm_up hfZ (by decide)) (frm_c (e2).symm frm_n)
  exact ret_v X hS (by rw [EI, EZ]; exact hP) dX5_renew_18
set_option maxRecDepth 100000 in
theorem c_X5_renew {l : Launch} {D : va_G} {a : Nat → Nat} {kc : Nat → ClassId} (F : Nat → Int32) (G : Nat → Int64) (I : Nat → Nat → Int32) (J : Nat → Nat → Int64) (Z : Nat → Nat → Nat → Int32) (hAp : ∀ i j, i < 44 → j < 44 → a i = a j → i = j) (s0 : Nat) (x1 : Int32) (x2 : Int32) {o0 : Nat → Int32} {o1 : Nat → Int32} {o2 : Nat → Nat → Int32} (hf : p_X5_renew (I 16) (I 17) (Z 1) s0 x1 x2 = some (o0, o1, o2)) : Ct 44 l yX5_renew cX5_renew 3 none rm_X5_renew D (tyC kc) a (wC a kc F G I J Z) [.ref (a (36 + s0)), .int x1, .int x2] (Qv D (wC a kc F G (va_up (va_up I 16 o0) 17 o1) J (va_up Z 1 o2))) :=
  Ct.of (by decide +kernel) hAp (Nat.le_of_ble_eq_true rfl) (fun p e s m args below meth c ls X hP hl => t_X5_renew_b0 X I Z s0 x1 x2 _ _ _ hf (frm_ul (frm_ul (fun k _ => rfl) (by decide)) (by decide)) (frm_ul (fun k _ => rfl) (by decide)) hP va_S.rf hl)
abbrev rm_X5_holds : Room := { frames := 0, cells := 0, slots := 0, locals := 0 }
set_option maxHeartbeats 4000000 in
set_option maxRecDepth 100000 in
theorem t_X5_holds_b23 {p : Program} {l : Launch} {e : Env} {s : State} {m : MethodId} {args : Array Value} {below : List Frame} {meth : Method} {c : Code} {D : va_G} {a : Nat → Nat} {kc : Nat → ClassId} (X : cx 44 p s m args meth c D (tyC kc) a cX5_holds 3 RX5 (some .boolean)) {F : Nat → Int32} {G : Nat → Int64} {I : Nat → Nat → Int32} {J : Nat → Nat → Int64} {Z : Nat → Nat → Nat → Int32}  {r : Int32} :
    ∀  (t0 : Int32) (H : Heap) (locs : List Loc) (ls : Array Slot), p_X5_holds_b23 (I 17) t0 = some r → va_P D vwCl (wC a kc F G I J Z) H → va_S (ad a 44 s.heap.size) s.heap H locs → lv_has ls 3 [] → W p l e rm_X5_holds s m args below meth c H locs 0 0 (MQ below (Qi D (wC a kc F G I J Z) r (ad a 44 s.heap.size)) args s 0 0 (ad a 44 s.heap.size)) (F0 m 23 ls [.int t0]) := by
  intro  t0 H locs ls hf  hP hS hl
  unfold p_X5_holds_b23 at hf
  obtain ⟨h23, hf⟩ := gd_s hf
  have e0 := o1 hf
  exact ret_z X hS hP e0 h23 dX5_holds_23
set_option maxHeartbeats 4000000 in
set_option maxRecDepth 100000 in
theorem t_X5_holds_b22 {p : Program} {l : Launch} {e : Env} {s : State} {m : MethodId} {args : Array Value} {below : List Frame} {meth : Method} {c : Code} {D : va_G} {a : Nat → Nat} {kc : Nat → ClassId} (X : cx 44 p s m args meth c D (tyC kc) a cX5_holds 3 RX5 (some .boolean)) {F : Nat → Int32} {G : Nat → Int64} {I : Nat → Nat → Int32} {J : Nat → Nat → Int64} {Z : Nat → Nat → Nat → Int32}  {r : Int32} :
    ∀   (H : Heap) (locs : List Loc) (ls : Array Slot), p_X5_holds_b22 (I 17)  = some r → va_P D vwCl (wC a kc F G I J Z) H → va_S (ad a 44 s.heap.size) s.heap H locs → lv_has ls 3 [] → W p l e rm_X5_holds s m args below meth c H locs 0 0 (MQ below (Qi D (wC a kc F G I J Z) r (ad a 44 s.heap.size)) args s 0 0 (ad a 44 s.heap.size)) (F0 m 22 ls []) := by
  intro   H locs ls hf  hP hS hl
  unfold p_X5_holds_b22 at hf
  refine lv_iconst (v := 0) X.1 X.2.1 dX5_holds_22 (by decide) ?_
  exact t_X5_holds_b23 X  0 H locs ls hf  hP hS (lv_sub hl [] rfl)
set_option maxHeartbeats 4000000 in
set_option maxRecDepth 100000 in
theorem t_X5_holds_b0 {p : Program} {l : Launch} {e : Env} {s : State} {m : MethodId} {args : Array Value} {below : List Frame} {meth : Method} {c : Code} {D : va_G} {a : Nat → Nat} {kc : Nat → ClassId} (X : cx 44 p s m args meth c D (tyC kc) a cX5_holds 3 RX5 (some .boolean)) {F : Nat → Int32} {G : Nat → Int64} {I : Nat → Nat → Int32} {J : Nat → Nat → Int64} {Z : Nat → Nat → Nat → Int32}  {r : Int32} :
    ∀  (s0 : Nat) (x1 : Int32) (x2 : Int32) (H : Heap) (locs : List Loc) (ls : Array Slot), p_X5_holds_b0 (I 17) s0 x1 x2 = some r → va_P D vwCl (wC a kc F G I J Z) H → va_S (ad a 44 s.heap.size) s.heap H locs → lv_has ls 3 [(0, .ref (a (36 + s0))), (1, .int x1), (2, .int x2)] → W p l e rm_X5_holds s m args below meth c H locs 0 0 (MQ below (Qi D (wC a kc F G I J Z) r (ad a 44 s.heap.size)) args s 0 0 (ad a 44 s.heap.size)) (F0 m 0 ls []) := by
  intro  s0 x1 x2 H locs ls hf  hP hS hl
  unfold p_X5_holds_b0 at hf
  refine lv_iload_n X.1 X.2.1 dX5_holds_0 rfl (lv_at hl 1 rfl) ?_
  refine lv_if_lt (tgt := 22) X.1 X.2.1 dX5_holds_1 (by decide) (fun c1 => ?_) (fun c1 => ?_)
  · have hf := it_s hf c1
    exact t_X5_holds_b22 X   H locs ls hf  hP hS (lv_sub hl [] rfl)
  · have hf := ie_s hf c1
    refine lv_iload_n X.1 X.2.1 dX5_holds_4 rfl (lv_at hl 2 rfl) ?_
    refine lv_if_lt (tgt := 22) X.1 X.2.1 dX5_holds_5 (by decide) (fun c5 => ?_) (fun c5 => ?_)
    · have hf := it_s hf c5
      exact t_X5_holds_b22 X   H locs ls hf  hP hS (lv_sub hl [] rfl)
    · have hf := ie_s hf c5
      refine lv_iload_n X.1 X.2.1 dX5_holds_8 rfl (lv_at hl 1 rfl) ?_
      refine lv_aload_n X.1 X.2.1 dX5_holds_9 rfl (lv_at hl 0 rfl) ?_
      obtain ⟨h10, hf⟩ := gd_s hf
      refine gC_sh_2 (I := I) X (of_decide_eq_true h10) (f := (I 17)) rfl q_2_55 dX5_holds_10 hP ?_
      refine lv_iload_n X.1 X.2.1 dX5_holds_13 rfl (lv_at hl 2 rfl) ?_
      refine lv_isub X.1 X.2.1 dX5_holds_14 ?_
      refine lv_icmp_gt (tgt := 22) X.1 X.2.1 dX5_holds_15 (by decide) (fun c15 => ?_) (fun c15 => ?_)
      · have hf := it_s hf c15
        exact t_X5_holds_b22 X   H locs ls hf  hP hS (lv_sub hl [] rfl)
      · have hf := ie_s hf c15
        refine lv_iconst (v := 1) X.1 X.2.1 dX5_holds_18 (by decide) ?_
        refine lv_goto (tgt := 23) X.1 X.2.1 dX5_holds_19 (by decide) ?_
        exact t_X5_holds_b23 X  1 H locs ls hf  hP hS (lv_sub hl [] rfl)
set_option maxRecDepth 100000 in
theorem c_X5_holds {l : Launch} {D : va_G} {a : Nat → Nat} {kc : Nat → ClassId} (F : Nat → Int32) (G : Nat → Int64) (I : Nat → Nat → Int32) (J : Nat → Nat → Int64) (Z : Nat → Nat → Nat → Int32) (hAp : ∀ i j, i < 44 → j < 44 → a i = a j → i = j) (s0 : Nat) (x1 : Int32) (x2 : Int32) {o0 : Int32} (hf : p_X5_holds (I 17) s0 x1 x2 = some o0) : Ct 44 l yX5_holds cX5_holds 3 (some .boolean) rm_X5_holds D (tyC kc) a (wC a kc F G I J Z) [.ref (a (36 + s0)), .int x1, .int x2] (Qi D (wC a kc F G I J Z) o0) :=
  Ct.of (by decide +kernel) hAp (Nat.le_of_ble_eq_true rfl) (fun p e s m args below meth c ls X hP hl => t_X5_holds_b0 X  s0 x1 x2 _ _ _ hf  hP va_S.rf hl)
abbrev rm_X5_put : Room := { frames := 0, cells := 0, slots := 0, locals := 0 }
set_option maxHeartbeats 4000000 in
set_option maxRecDepth 100000 in
theorem t_X5_put_b44 {p : Program} {l : Launch} {e : Env} {s : State} {m : MethodId} {args : Array Value} {below : List Frame} {meth : Method} {c : Code} {D : va_G} {a : Nat → Nat} {kc : Nat → ClassId} (X : cx 44 p s m args meth c D (tyC kc) a cX5_put 3 RX5 none) {F : Nat → Int32} {G : Nat → Int64} {I : Nat → Nat → Int32} {J : Nat → Nat → Int64} {Zf : Nat → Nat → Nat → Int32}  :
    ∀ (Z : Nat → Nat → Nat → Int32)  (H : Heap) (locs : List Loc) (ls : Array Slot), p_X5_put_b44 (I 16) (Z 1)  = some (Zf 1) → (∀ k, k ∉ ([1] : List Nat) → Zf k = Z k) → va_P D vwCl (wC a kc F G I J Z) H → va_S (ad a 44 s.heap.size) s.heap H locs → lv_has ls 3 [] → W p l e rm_X5_put s m args below meth c H locs 0 0 (MQ below (Qv D (wC a kc F G I J Zf) (ad a 44 s.heap.size)) args s 0 0 (ad a 44 s.heap.size)) (F0 m 44 ls []) := by
  intro Z  H locs ls hf hfZ hP hS hl
  unfold p_X5_put_b44 at hf
  have e0 := o1 hf
  have EZ : Zf = Z := frm_eq hfZ (frm_c (e0).symm frm_n)
  exact ret_v X hS (by rw [EZ]; exact hP) dX5_put_44
set_option maxHeartbeats 4000000 in
set_option maxRecDepth 100000 in
theorem t_X5_put_b0 {p : Program} {l : Launch} {e : Env} {s : State} {m : MethodId} {args : Array Value} {below : List Frame} {meth : Method} {c : Code} {D : va_G} {a : Nat → Nat} {kc : Nat → ClassId} (X : cx 44 p s m args meth c D (tyC kc) a cX5_put 3 RX5 none) {F : Nat → Int32} {G : Nat → Int64} {I : Nat → Nat → Int32} {J : Nat → Nat → Int64} {Zf : Nat → Nat → Nat → Int32}  :
    ∀ (Z : Nat → Nat → Nat → Int32) (s0 : Nat) (x1 : Int32) (x2 : Int32) (H : Heap) (locs : List Loc) (ls : Array Slot), p_X5_put_b0 (I 16) (Z 1) s0 x1 x2 = some (Zf 1) → (∀ k, k ∉ ([1] : List Nat) → Zf k = Z k) → va_P D vwCl (wC a kc F G I J Z) H → va_S (ad a 44 s.heap.size) s.heap H locs → lv_has ls 3 [(0, .ref (a (36 + s0))), (1, .int x1), (2, .int x2)] → W p l e rm_X5_put s m args below meth c H locs 0 0 (MQ below (Qv D (wC a kc F G I J Zf) (ad a 44 s.heap.size)) args s 0 0 (ad a 44 s.heap.size)) (F0 m 0 ls []) := by
  intro Z s0 x1 x2 H locs ls hf hfZ hP hS hl
  unfold p_X5_put_b0 at hf
  refine lv_aload_n X.1 X.2.1 dX5_put_0 rfl (lv_at hl 0 rfl) ?_
  obtain ⟨h1, hf⟩ := gd_s hf
  refine gC_sh_1 (I := I) X (of_decide_eq_true h1) (f := (I 16)) rfl q_2_53 dX5_put_1 hP ?_
  refine lv_if_ne (tgt := 18) X.1 X.2.1 dX5_put_4 (by decide) (fun c4 => ?_) (fun c4 => ?_)
  · have hf := ie_s hf c4
    refine lv_aload_n X.1 X.2.1 dX5_put_18 rfl (lv_at hl 0 rfl) ?_
    obtain ⟨h19, hf⟩ := gd_s hf
    refine gC_sh_1 (I := I) X (of_decide_eq_true h19) (f := (I 16)) rfl q_2_53 dX5_put_19 hP ?_
    refine lv_iconst (v := 1) X.1 X.2.1 dX5_put_22 (by decide) ?_
    refine lv_icmp_ne (tgt := 37) X.1 X.2.1 dX5_put_23 (by decide) (fun c23 => ?_) (fun c23 => ?_)
    · have hf := ie_s hf c23
      refine lv_aload_n X.1 X.2.1 dX5_put_37 rfl (lv_at hl 0 rfl) ?_
      obtain ⟨h38, hf⟩ := gd_s hf
      refine gC_sh_0 X (of_decide_eq_true h38) q_2_51 dX5_put_38 hP ?_
      refine lv_iload_n X.1 X.2.1 dX5_put_41 rfl (lv_at hl 1 rfl) ?_
      refine lv_iload_n X.1 X.2.1 dX5_put_42 rfl (lv_at hl 2 rfl) ?_
      obtain ⟨h43s, hf⟩ := gd_s hf
      obtain ⟨h43, hf⟩ := gd_s hf
      obtain ⟨S_items_43, eS_items_43, hf⟩ := nm_x hf
      refine sdC_40 (Z := Z) X (of_decide_eq_true h43s) h43 eS_items_43 dX5_put_43 hP hS (fun H locs hP hS => ?_)
      exact t_X5_put_b44 X (va_up Z 1 S_items_43)  H locs ls hf (frm_up hfZ (by decide)) hP hS (lv_sub hl [] rfl)
    · have hf := it_s hf c23
      refine lv_aload_n X.1 X.2.1 dX5_put_26 rfl (lv_at hl 0 rfl) ?_
      obtain ⟨h27, hf⟩ := gd_s hf
      refine gC_sh_0 X (of_decide_eq_true h27) q_2_51 dX5_put_27 hP ?_
      refine lv_iload_n X.1 X.2.1 dX5_put_30 rfl (lv_at hl 1 rfl) ?_
      refine lv_iload_n X.1 X.2.1 dX5_put_31 rfl (lv_at hl 2 rfl) ?_
      refine lv_i2s X.1 X.2.1 dX5_put_32 rfl ?_
      obtain ⟨h33s, hf⟩ := gd_s hf
      obtain ⟨h33, hf⟩ := gd_s hf
      obtain ⟨S_items_33, eS_items_33, hf⟩ := nm_x hf
      refine sdC_40 (Z := Z) X (of_decide_eq_true h33s) h33 eS_items_33 dX5_put_33 hP hS (fun H locs hP hS => ?_)
      refine lv_goto (tgt := 44) X.1 X.2.1 dX5_put_34 (by decide) ?_
      exact t_X5_put_b44 X (va_up Z 1 S_items_33)  H locs ls hf (frm_up hfZ (by decide)) hP hS (lv_sub hl [] rfl)
  · have hf := it_s hf c4
    refine lv_aload_n X.1 X.2.1 dX5_put_7 rfl (lv_at hl 0 rfl) ?_
    obtain ⟨h8, hf⟩ := gd_s hf
    refine gC_sh_0 X (of_decide_eq_true h8) q_2_51 dX5_put_8 hP ?_
    refine lv_iload_n X.1 X.2.1 dX5_put_11 rfl (lv_at hl 1 rfl) ?_
    refine lv_iload_n X.1 X.2.1 dX5_put_12 rfl (lv_at hl 2 rfl) ?_
    refine lv_i2b X.1 X.2.1 dX5_put_13 rfl ?_
    obtain ⟨h14s, hf⟩ := gd_s hf
    obtain ⟨h14, hf⟩ := gd_s hf
    obtain ⟨S_items_14, eS_items_14, hf⟩ := nm_x hf
    refine sdC_40 (Z := Z) X (of_decide_eq_true h14s) h14 eS_items_14 dX5_put_14 hP hS (fun H locs hP hS => ?_)
    refine lv_goto (tgt := 44) X.1 X.2.1 dX5_put_15 (by decide) ?_
    exact t_X5_put_b44 X (va_up Z 1 S_items_14)  H locs ls hf (frm_up hfZ (by decide)) hP hS (lv_sub hl [] rfl)
set_option maxRecDepth 100000 in
theorem c_X5_put {l : Launch} {D : va_G} {a : Nat → Nat} {kc : Nat → ClassId} (F : Nat → Int32) (G : Nat → Int64) (I : Nat → Nat → Int32) (J : Nat → Nat → Int64) (Z : Nat → Nat → Nat → Int32) (hAp : ∀ i j, i < 44 → j < 44 → a i = a j → i = j) (s0 : Nat) (x1 : Int32) (x2 : Int32) {o0 : Nat → Nat → Int32} (hf : p_X5_put (I 16) (Z 1) s0 x1 x2 = some o0) : Ct 44 l yX5_put cX5_put 3 none rm_X5_put D (tyC kc) a (wC a kc F G I J Z) [.ref (a (36 + s0)), .int x1, .int x2] (Qv D (wC a kc F G I J (va_up Z 1 o0))) :=
  Ct.of (by decide +kernel) hAp (Nat.le_of_ble_eq_true rfl) (fun p e s m args below meth c ls X hP hl => t_X5_put_b0 X Z s0 x1 x2 _ _ _ hf (frm_ul (fun k _ => rfl) (by decide)) hP va_S.rf hl)
abbrev rm_X6_mayTell : Room := { frames := 0, cells := 0, slots := 0, locals := 0 }
set_option maxHeartbeats 4000000 in
set_option maxRecDepth 100000 in
theorem t_X6_mayTell_b26 {p : Program} {l : Launch} {e : Env} {s : State} {m : MethodId} {args : Array Value} {below : List Frame} {meth : Method} {c : Code} {D : va_G} {a : Nat → Nat} {kc : Nat → ClassId} (X : cx 44 p s m args meth c D (tyC kc) a cX6_mayTell 3 RX6 (some .boolean)) {F : Nat → Int32} {G : Nat → Int64} {I : Nat → Nat → Int32} {J : Nat → Nat → Int64} {Z : Nat → Nat → Nat → Int32}  {r : Int32} :
    ∀  (t0 : Int32) (H : Heap) (locs : List Loc) (ls : Array Slot), p_X6_mayTell_b26  t0 = some r → va_P D vwCl (wC a kc F G I J Z) H → va_S (ad a 44 s.heap.size) s.heap H locs → lv_has ls 3 [(0, .ref (a 22))] → W p l e rm_X6_mayTell s m args below meth c H locs 0 0 (MQ below (Qi D (wC a kc F G I J Z) r (ad a 44 s.heap.size)) args s 0 0 (ad a 44 s.heap.size)) (F0 m 26 ls [.int t0]) := by
  intro  t0 H locs ls hf  hP hS hl
  unfold p_X6_mayTell_b26 at hf
  obtain ⟨h26, hf⟩ := gd_s hf
  have e0 := o1 hf
  exact ret_z X hS hP e0 h26 dX6_mayTell_26
set_option maxHeartbeats 4000000 in
set_option maxRecDepth 100000 in
theorem t_X6_mayTell_b25 {p : Program} {l : Launch} {e : Env} {s : State} {m : MethodId} {args : Array Value} {below : List Frame} {meth : Method} {c : Code} {D : va_G} {a : Nat → Nat} {kc : Nat → ClassId} (X : cx 44 p s m args meth c D (tyC kc) a cX6_mayTell 3 RX6 (some .boolean)) {F : Nat → Int32} {G : Nat → Int64} {I : Nat → Nat → Int32} {J : Nat → Nat → Int64} {Z : Nat → Nat → Nat → Int32}  {r : Int32} :
    ∀   (H : Heap) (locs : List Loc) (ls : Array Slot), p_X6_mayTell_b25   = some r → va_P D vwCl (wC a kc F G I J Z) H → va_S (ad a 44 s.heap.size) s.heap H locs → lv_has ls 3 [(0, .ref (a 22))] → W p l e rm_X6_mayTell s m args below meth c H locs 0 0 (MQ below (Qi D (wC a kc F G I J Z) r (ad a 44 s.heap.size)) args s 0 0 (ad a 44 s.heap.size)) (F0 m 25 ls []) := by
  intro   H locs ls hf  hP hS hl
  unfold p_X6_mayTell_b25 at hf
  refine lv_iconst (v := 0) X.1 X.2.1 dX6_mayTell_25 (by decide) ?_
  exact t_X6_mayTell_b26 X  0 H locs ls hf  hP hS (lv_sub hl [0] rfl)
set_option maxHeartbeats 4000000 in
set_option maxRecDepth 100000 in
theorem t_X6_mayTell_b0 {p : Program} {l : Launch} {e : Env} {s : State} {m : MethodId} {args : Array Value} {below : List Frame} {meth : Method} {c : Code} {D : va_G} {a : Nat → Nat} {kc : Nat → ClassId} (X : cx 44 p s m args meth c D (tyC kc) a cX6_mayTell 3 RX6 (some .boolean)) {F : Nat → Int32} {G : Nat → Int64} {I : Nat → Nat → Int32} {J : Nat → Nat → Int64} {Z : Nat → Nat → Nat → Int32}  {r : Int32} :
    ∀  (x1 : Int32) (x2 : Int32) (H : Heap) (locs : List Loc) (ls : Array Slot), p_X6_mayTell_b0  x1 x2 = some r → va_P D vwCl (wC a kc F G I J Z) H → va_S (ad a 44 s.heap.size) s.heap H locs → lv_has ls 3 [(0, .ref (a 22)), (1, .int x1), (2, .int x2)] → W p l e rm_X6_mayTell s m args below meth c H locs 0 0 (MQ below (Qi D (wC a kc F G I J Z) r (ad a 44 s.heap.size)) args s 0 0 (ad a 44 s.heap.size)) (F0 m 0 ls []) := by
  intro  x1 x2 H locs ls hf  hP hS hl
  unfold p_X6_mayTell_b0 at hf
  refine lv_iload_n X.1 X.2.1 dX6_mayTell_0 rfl (lv_at hl 1 rfl) ?_
  refine lv_iconst (v := (-1)) X.1 X.2.1 dX6_mayTell_1 (by decide) ?_
  refine lv_icmp_lt (tgt := 25) X.1 X.2.1 dX6_mayTell_2 (by decide) (fun c2 => ?_) (fun c2 => ?_)
  · have hf := it_s hf c2
    exact t_X6_mayTell_b25 X   H locs ls hf  hP hS (lv_sub hl [0] rfl)
  · have hf := ie_s hf c2
    refine lv_iload_n X.1 X.2.1 dX6_mayTell_5 rfl (lv_at hl 1 rfl) ?_
    refine lv_bipush (v := 8) X.1 X.2.1 dX6_mayTell_6 (by decide) ?_
    refine lv_icmp_ge (tgt := 25) X.1 X.2.1 dX6_mayTell_8 (by decide) (fun c8 => ?_) (fun c8 => ?_)
    · have hf := it_s hf c8
      exact t_X6_mayTell_b25 X   H locs ls hf  hP hS (lv_sub hl [0] rfl)
    · have hf := ie_s hf c8
      refine lv_iload_n X.1 X.2.1 dX6_mayTell_11 rfl (lv_at hl 2 rfl) ?_
      refine lv_if_lt (tgt := 25) X.1 X.2.1 dX6_mayTell_12 (by decide) (fun c12 => ?_) (fun c12 => ?_)
      · have hf := it_s hf c12
        exact t_X6_mayTell_b25 X   H locs ls hf  hP hS (lv_sub hl [0] rfl)
      · have hf := ie_s hf c12
        refine lv_iload_n X.1 X.2.1 dX6_mayTell_15 rfl (lv_at hl 2 rfl) ?_
        refine lv_bipush (v := 8) X.1 X.2.1 dX6_mayTell_16 (by decide) ?_
        refine lv_icmp_ge (tgt := 25) X.1 X.2.1 dX6_mayTell_18 (by decide) (fun c18 => ?_) (fun c18 => ?_)
        · have hf := it_s hf c18
          exact t_X6_mayTell_b25 X   H locs ls hf  hP hS (lv_sub hl [0] rfl)
        · have hf := ie_s hf c18
          refine lv_iconst (v := 1) X.1 X.2.1 dX6_mayTell_21 (by decide) ?_
          refine lv_goto (tgt := 26) X.1 X.2.1 dX6_mayTell_22 (by decide) ?_
          exact t_X6_mayTell_b26 X  1 H locs ls hf  hP hS (lv_sub hl [0] rfl)
set_option maxRecDepth 100000 in
theorem c_X6_mayTell {l : Launch} {D : va_G} {a : Nat → Nat} {kc : Nat → ClassId} (F : Nat → Int32) (G : Nat → Int64) (I : Nat → Nat → Int32) (J : Nat → Nat → Int64) (Z : Nat → Nat → Nat → Int32) (hAp : ∀ i j, i < 44 → j < 44 → a i = a j → i = j) (x1 : Int32) (x2 : Int32) {o0 : Int32} (hf : p_X6_mayTell  x1 x2 = some o0) : Ct 44 l yX6_mayTell cX6_mayTell 3 (some .boolean) rm_X6_mayTell D (tyC kc) a (wC a kc F G I J Z) [.ref (a 22), .int x1, .int x2] (Qi D (wC a kc F G I J Z) o0) :=
  Ct.of (by decide +kernel) hAp (Nat.le_of_ble_eq_true rfl) (fun p e s m args below meth c ls X hP hl => t_X6_mayTell_b0 X  x1 x2 _ _ _ hf  hP va_S.rf hl)
abbrev rm_X6_tell : Room := { frames := 0, cells := 0, slots := 0, locals := 0 }
set_option maxHeartbeats 4000000 in
set_option maxRecDepth 100000 in
theorem t_X6_tell_b44 {p : Program} {l : Launch} {e : Env} {s : State} {m : MethodId} {args : Array Value} {below : List Frame} {meth : Method} {c : Code} {D : va_G} {a : Nat → Nat} {kc : Nat → ClassId} (X : cx 44 p s m args meth c D (tyC kc) a cX6_tell 3 RX6 none) {G : Nat → Int64} {J : Nat → Nat → Int64} {Z : Nat → Nat → Nat → Int32} {Ff : Nat → Int32} {If : Nat → Nat → Int32}  :
    ∀ (F : Nat → Int32) (I : Nat → Nat → Int32)  (H : Heap) (locs : List Loc) (ls : Array Slot), p_X6_tell_b44 (F 5) (F 7) (I 9) (I 10)  = some ((Ff 5), (Ff 7), (If 9), (If 10)) → (∀ k, k ∉ ([5, 7] : List Nat) → Ff k = F k) → (∀ k, k ∉ ([9, 10] : List Nat) → If k = I k) → va_P D vwCl (wC a kc F G I J Z) H → va_S (ad a 44 s.heap.size) s.heap H locs → lv_has ls 3 [(0, .ref (a 22))] → W p l e rm_X6_tell s m args below meth c H locs 0 0 (MQ below (Qv D (wC a kc Ff G If J Z) (ad a 44 s.heap.size)) args s 0 0 (ad a 44 s.heap.size)) (F0 m 44 ls []) := by
  intro F I  H locs ls hf hfF hfI hP hS hl
  unfold p_X6_tell_b44 at hf
  obtain ⟨e0, hf⟩ := o2 hf
  obtain ⟨e1, hf⟩ := o2 hf
  obtain ⟨e2, hf⟩ := o2 hf
  have e3 := o1 hf
  have EF : Ff = F := frm_eq hfF (frm_c (e0).symm (frm_c (e1).symm frm_n))
  have EI : If = I := frm_eq hfI (frm_c (e2).symm (frm_c (e3).symm frm_n))
  exact ret_v X hS (by rw [EF, EI]; exact hP) dX6_tell_44
set_option maxHeartbeats 4000000 in
set_option maxRecDepth 100000 in
theorem t_X6_tell_b0 {p : Program} {l : Launch} {e : Env} {s : State} {m : MethodId} {args : Array Value} {below : List Frame} {meth : Method} {c : Code} {D : va_G} {a : Nat → Nat} {kc : Nat → ClassId} (X : cx 44 p s m args meth c D (tyC kc) a cX6_tell 3 RX6 none) {G : Nat → Int64} {J : Nat → Nat → Int64} {Z : Nat → Nat → Nat → Int32} {Ff : Nat → Int32} {If : Nat → Nat → Int32}  :
    ∀ (F : Nat → Int32) (I : Nat → Nat → Int32) (x1 : Int32) (x2 : Int32) (H : Heap) (locs : List Loc) (ls : Array Slot), p_X6_tell_b0 (F 5) (F 7) (I 9) (I 10) x1 x2 = some ((Ff 5), (Ff 7), (If 9), (If 10)) → (∀ k, k ∉ ([5, 7] : List Nat) → Ff k = F k) → (∀ k, k ∉ ([9, 10] : List Nat) → If k = I k) → va_P D vwCl (wC a kc F G I J Z) H → va_S (ad a 44 s.heap.size) s.heap H locs → lv_has ls 3 [(0, .ref (a 22)), (1, .int x1), (2, .int x2)] → W p l e rm_X6_tell s m args below meth c H locs 0 0 (MQ below (Qv D (wC a kc Ff G If J Z) (ad a 44 s.heap.size)) args s 0 0 (ad a 44 s.heap.size)) (F0 m 0 ls []) := by
  intro F I x1 x2 H locs ls hf hfF hfI hP hS hl
  unfold p_X6_tell_b0 at hf
  refine lv_aload_n X.1 X.2.1 dX6_tell_0 rfl (lv_at hl 0 rfl) ?_
  refine gC_22_1 (F := F) X (v := (F 5)) rfl q_1_199 dX6_tell_1 hP ?_
  refine lv_bipush (v := 8) X.1 X.2.1 dX6_tell_4 (by decide) ?_
  refine lv_icmp_ge (tgt := 44) X.1 X.2.1 dX6_tell_6 (by decide) (fun c6 => ?_) (fun c6 => ?_)
  · have hf := it_s hf c6
    exact t_X6_tell_b44 X F I  H locs ls hf hfF hfI hP hS (lv_sub hl [0] rfl)
  · have hf := ie_s hf c6
    refine lv_aload_n X.1 X.2.1 dX6_tell_9 rfl (lv_at hl 0 rfl) ?_
    refine gC_22_6 X q_1_208 dX6_tell_10 hP ?_
    refine lv_aload_n X.1 X.2.1 dX6_tell_13 rfl (lv_at hl 0 rfl) ?_
    refine gC_22_1 (F := F) X (v := (F 5)) rfl q_1_199 dX6_tell_14 hP ?_
    refine lv_iload_n X.1 X.2.1 dX6_tell_17 rfl (lv_at hl 1 rfl) ?_
    obtain ⟨h18, hf⟩ := gd_s hf
    obtain ⟨W_persons_18, eW_persons_18, hf⟩ := nm_x hf
    refine sC_24 (I := I) X h18 eW_persons_18 dX6_tell_18 hP hS (fun H locs hP hS => ?_)
    refine lv_aload_n X.1 X.2.1 dX6_tell_19 rfl (lv_at hl 0 rfl) ?_
    refine gC_22_7 X q_1_209 dX6_tell_20 hP ?_
    refine lv_aload_n X.1 X.2.1 dX6_tell_23 rfl (lv_at hl 0 rfl) ?_
    refine gC_22_1 (F := F) X (v := (F 5)) rfl q_1_199 dX6_tell_24 hP ?_
    refine lv_iload_n X.1 X.2.1 dX6_tell_27 rfl (lv_at hl 2 rfl) ?_
    obtain ⟨h28, hf⟩ := gd_s hf
    obtain ⟨W_places_28, eW_places_28, hf⟩ := nm_x hf
    refine sC_25 (I := (va_up I 9 W_persons_18)) X h28 eW_places_28 dX6_tell_28 hP hS (fun H locs hP hS => ?_)
    refine lv_aload_n X.1 X.2.1 dX6_tell_29 rfl (lv_at hl 0 rfl) ?_
    refine lv_dup X.1 X.2.1 dX6_tell_30 rfl ?_
    refine gC_22_1 (F := F) X (v := (F 5)) rfl q_1_199 dX6_tell_31 hP ?_
    refine lv_iconst (v := 1) X.1 X.2.1 dX6_tell_34 (by decide) ?_
    refine lv_iadd X.1 X.2.1 dX6_tell_35 ?_
    refine nm_i hf (fun W_size_36 hf => ?_)
    refine pC_22_1 X q_1_199 dX6_tell_36 hP hS (fun H locs hP hS => ?_)
    refine lv_aload_n X.1 X.2.1 dX6_tell_39 rfl (lv_at hl 0 rfl) ?_
    refine lv_iconst (v := 0) X.1 X.2.1 dX6_tell_40 (by decide) ?_
    refine pC_22_4 X (by decide) q_1_205 dX6_tell_41 hP hS (fun H locs hP hS => ?_)
    exact t_X6_tell_b44 X (va_up (va_up F 5 W_size_36) 7 0) (va_up (va_up I 9 W_persons_18) 10 W_places_28)  H locs ls hf (frm_up (frm_up hfF (by decide)) (by decide)) (frm_up (frm_up hfI (by decide)) (by decide)) hP hS (lv_sub hl [0] rfl)
set_option maxRecDepth 100000 in
theorem c_X6_tell {l : Launch} {D : va_G} {a : Nat → Nat} {kc : Nat → ClassId} (F : Nat → Int32) (G : Nat → Int64) (I : Nat → Nat → Int32) (J : Nat → Nat → Int64) (Z : Nat → Nat → Nat → Int32) (hAp : ∀ i j, i < 44 → j < 44 → a i = a j → i = j) (x1 : Int32) (x2 : Int32) {o0 : Int32} {o1 : Int32} {o2 : Nat → Int32} {o3 : Nat → Int32} (hf : p_X6_tell (F 5) (F 7) (I 9) (I 10) x1 x2 = some (o0, o1, o2, o3)) : Ct 44 l yX6_tell cX6_tell 3 none rm_X6_tell D (tyC kc) a (wC a kc F G I J Z) [.ref (a 22), .int x1, .int x2] (Qv D (wC a kc (va_up (va_up F 5 o0) 7 o1) G (va_up (va_up I 9 o2) 10 o3) J Z)) :=
  Ct.of (by decide +kernel) hAp (Nat.le_of_ble_eq_true rfl) (fun p e s m args below meth c ls X hP hl => t_X6_tell_b0 X F I x1 x2 _ _ _ hf (frm_ul (frm_ul (fun k _ => rfl) (by decide)) (by decide)) (frm_ul (frm_ul (fun k _ => rfl) (by decide)) (by decide)) hP va_S.rf hl)
abbrev rm_X6_clear : Room := { frames := 0, cells := 0, slots := 0, locals := 0 }
set_option maxHeartbeats 4000000 in
set_option maxRecDepth 100000 in
theorem t_X6_clear_b0 {p : Program} {l : Launch} {e : Env} {s : State} {m : MethodId} {args : Array Value} {below : List Frame} {meth : Method} {c : Code} {D : va_G} {a : Nat → Nat} {kc : Nat → ClassId} (X : cx 44 p s m args meth c D (tyC kc) a cX6_clear 1 RX6 none) {G : Nat → Int64} {I : Nat → Nat → Int32} {J : Nat → Nat → Int64} {Z : Nat → Nat → Nat → Int32} {Ff : Nat → Int32}  :
    ∀ (F : Nat → Int32)  (H : Heap) (locs : List Loc) (ls : Array Slot), p_X6_clear_b0 (F 5) (F 7)  = some ((Ff 5), (Ff 7)) → (∀ k, k ∉ ([5, 7] : List Nat) → Ff k = F k) → va_P D vwCl (wC a kc F G I J Z) H → va_S (ad a 44 s.heap.size) s.heap H locs → lv_has ls 1 [(0, .ref (a 22))] → W p l e rm_X6_clear s m args below meth c H locs 0 0 (MQ below (Qv D (wC a kc Ff G I J Z) (ad a 44 s.heap.size)) args s 0 0 (ad a 44 s.heap.size)) (F0 m 0 ls []) := by
  intro F  H locs ls hf hfF hP hS hl
  unfold p_X6_clear_b0 at hf
  refine lv_aload_n X.1 X.2.1 dX6_clear_0 rfl (lv_at hl 0 rfl) ?_
  refine lv_iconst (v := 0) X.1 X.2.1 dX6_clear_1 (by decide) ?_
  refine pC_22_1 X q_1_199 dX6_clear_2 hP hS (fun H locs hP hS => ?_)
  refine lv_aload_n X.1 X.2.1 dX6_clear_5 rfl (lv_at hl 0 rfl) ?_
  refine lv_iconst (v := 0) X.1 X.2.1 dX6_clear_6 (by decide) ?_
  refine pC_22_4 X (by decide) q_1_205 dX6_clear_7 hP hS (fun H locs hP hS => ?_)
  obtain ⟨e0, hf⟩ := o2 hf
  have e1 := o1 hf
  have EF : Ff = (va_up (va_up F 5 0) 7 0) := frm_eq (frm_up (frm_up hfF (by decide)) (by decide)) (frm_c (e0).symm (frm_c (e1).symm frm_n))
  exact ret_v X hS (by rw [EF]; exact hP) dX6_clear_10
set_option maxRecDepth 100000 in
theorem c_X6_clear {l : Launch} {D : va_G} {a : Nat → Nat} {kc : Nat → ClassId} (F : Nat → Int32) (G : Nat → Int64) (I : Nat → Nat → Int32) (J : Nat → Nat → Int64) (Z : Nat → Nat → Nat → Int32) (hAp : ∀ i j, i < 44 → j < 44 → a i = a j → i = j)  {o0 : Int32} {o1 : Int32} (hf : p_X6_clear (F 5) (F 7)  = some (o0, o1)) : Ct 44 l yX6_clear cX6_clear 1 none rm_X6_clear D (tyC kc) a (wC a kc F G I J Z) [.ref (a 22)] (Qv D (wC a kc (va_up (va_up F 5 o0) 7 o1) G I J Z)) :=
  Ct.of (by decide +kernel) hAp (Nat.le_of_ble_eq_true rfl) (fun p e s m args below meth c ls X hP hl => t_X6_clear_b0 X F  _ _ _ hf (frm_ul (frm_ul (fun k _ => rfl) (by decide)) (by decide)) hP va_S.rf hl)
abbrev rm_X6_forbid : Room := { frames := 0, cells := 0, slots := 0, locals := 0 }
set_option maxHeartbeats 4000000 in
set_option maxRecDepth 100000 in
theorem t_X6_forbid_b2x {p : Program} {l : Launch} {e : Env} {s : State} {m : MethodId} {args : Array Value} {below : List Frame} {meth : Method} {c : Code} {D : va_G} {a : Nat → Nat} {kc : Nat → ClassId} (X : cx 44 p s m args meth c D (tyC kc) a cX6_forbid 3 RX6 none) {F : Nat → Int32} {G : Nat → Int64} {J : Nat → Nat → Int64} {Z : Nat → Nat → Nat → Int32} {If : Nat → Nat → Int32}  {K2 : (Nat → Int32) → Int32 → Int32 → Option ((Nat → Int32))} (kh2 : ∀ (I : Nat → Nat → Int32) (x1 : Int32) (x2 : Int32) (H : Heap) (locs : List Loc) (ls : Array Slot), K2 (I 11) x1 x2 = some (If 11) → (∀ k, k ∉ ([11] : List Nat) → If k = I k) → va_P D vwCl (wC a kc F G I J Z) H → va_S (ad a 44 s.heap.size) s.heap H locs → lv_has ls 3 [(0, .ref (a 22)), (1, .int x1), (2, .int x2)] → W p l e rm_X6_forbid s m args below meth c H locs 0 0 (MQ below (Qv D (wC a kc F G If J Z) (ad a 44 s.heap.size)) args s 0 0 (ad a 44 s.heap.size)) (F0 m 2 ls [])) :
    ∀ (I : Nat → Nat → Int32) (x1 : Int32) (x2 : Int32) (H : Heap) (locs : List Loc) (ls : Array Slot), p_X6_forbid_b2x K2 (I 11) x1 x2 = some (If 11) → (∀ k, k ∉ ([11] : List Nat) → If k = I k) → va_P D vwCl (wC a kc F G I J Z) H → va_S (ad a 44 s.heap.size) s.heap H locs → lv_has ls 3 [(0, .ref (a 22)), (1, .int x1), (2, .int x2)] → W p l e rm_X6_forbid s m args below meth c H locs 0 0 (MQ below (Qv D (wC a kc F G If J Z) (ad a 44 s.heap.size)) args s 0 0 (ad a 44 s.heap.size)) (F0 m 2 ls []) := by
  intro I x1 x2 H locs ls hf hfI hP hS hl
  unfold p_X6_forbid_b2x at hf
  refine lv_iload_n X.1 X.2.1 dX6_forbid_2 rfl (lv_at hl 2 rfl) ?_
  refine lv_bipush (v := 8) X.1 X.2.1 dX6_forbid_3 (by decide) ?_
  refine lv_icmp_ge (tgt := 28) X.1 X.2.1 dX6_forbid_5 (by decide) (fun c5 => ?_) (fun c5 => ?_)
  · have hf := it_s hf c5
    have e0 := o1 hf
    have EI : If = I := frm_eq hfI (frm_c (e0).symm frm_n)
    exact ret_v X hS (by rw [EI]; exact hP) dX6_forbid_28
  · have hf := ie_s hf c5
    refine lv_aload_n X.1 X.2.1 dX6_forbid_8 rfl (lv_at hl 0 rfl) ?_
    refine gC_22_8 X q_1_210 dX6_forbid_9 hP ?_
    refine lv_iload_n X.1 X.2.1 dX6_forbid_12 rfl (lv_at hl 2 rfl) ?_
    refine lv_dup2_11 X.1 X.2.1 dX6_forbid_13 rfl rfl ?_
    obtain ⟨h14, hf⟩ := gd_s hf
    refine lC_26 (I := I) X (f := (I 11)) rfl h14 dX6_forbid_14 hP ?_
    refine lv_iconst (v := 1) X.1 X.2.1 dX6_forbid_15 (by decide) ?_
    refine lv_iload_n X.1 X.2.1 dX6_forbid_16 rfl (lv_at hl 1 rfl) ?_
    refine lv_ishl X.1 X.2.1 dX6_forbid_17 ?_
    refine lv_iconst (v := (-1)) X.1 X.2.1 dX6_forbid_18 (by decide) ?_
    refine lv_ixor X.1 X.2.1 dX6_forbid_19 ?_
    refine lv_iand X.1 X.2.1 dX6_forbid_20 ?_
    obtain ⟨h21, hf⟩ := gd_s hf
    obtain ⟨W_allowed_21, eW_allowed_21, hf⟩ := nm_x hf
    refine sC_26 (I := I) X h21 eW_allowed_21 dX6_forbid_21 hP hS (fun H locs hP hS => ?_)
    obtain ⟨x22, ex22, hf⟩ := nm_x hf
    refine lv_iinc (v := x22) (lv' := [(2, .int x22), (0, .ref (a 22)), (1, .int x1)]) X.1 X.2.1 dX6_forbid_22 hl (k := 2) rfl ex22 (by decide) rfl (fun ls hl => ?_)
    refine lv_goto (tgt := 2) X.1 X.2.1 dX6_forbid_25 (by decide) ?_
    exact kh2 (va_up I 11 W_allowed_21) x1 x22 H locs ls hf (frm_up hfI (by decide)) hP hS (lv_sub hl [1, 2, 0] rfl)
set_option maxRecDepth 100000 in
theorem t_X6_forbid_b2 {p : Program} {l : Launch} {e : Env} {s : State} {m : MethodId} {args : Array Value} {below : List Frame} {meth : Method} {c : Code} {D : va_G} {a : Nat → Nat} {kc : Nat → ClassId} (X : cx 44 p s m args meth c D (tyC kc) a cX6_forbid 3 RX6 none) {F : Nat → Int32} {G : Nat → Int64} {J : Nat → Nat → Int64} {Z : Nat → Nat → Nat → Int32} {If : Nat → Nat → Int32}  :
    ∀ (n : Nat) (I : Nat → Nat → Int32) (x1 : Int32) (x2 : Int32) (H : Heap) (locs : List Loc) (ls : Array Slot), p_X6_forbid_b2 n (I 11) x1 x2 = some (If 11) → (∀ k, k ∉ ([11] : List Nat) → If k = I k) → va_P D vwCl (wC a kc F G I J Z) H → va_S (ad a 44 s.heap.size) s.heap H locs → lv_has ls 3 [(0, .ref (a 22)), (1, .int x1), (2, .int x2)] → W p l e rm_X6_forbid s m args below meth c H locs 0 0 (MQ below (Qv D (wC a kc F G If J Z) (ad a 44 s.heap.size)) args s 0 0 (ad a 44 s.heap.size)) (F0 m 2 ls []) := by
  intro n
  induction n with
  | zero => intro I x1 x2 H locs ls hf hfI hP hS hl; exact (nos hf).elim
  | succ n ih => exact t_X6_forbid_b2x X ih
set_option maxHeartbeats 4000000 in
set_option maxRecDepth 100000 in
theorem t_X6_forbid_b0 {p : Program} {l : Launch} {e : Env} {s : State} {m : MethodId} {args : Array Value} {below : List Frame} {meth : Method} {c : Code} {D : va_G} {a : Nat → Nat} {kc : Nat → ClassId} (X : cx 44 p s m args meth c D (tyC kc) a cX6_forbid 3 RX6 none) {F : Nat → Int32} {G : Nat → Int64} {J : Nat → Nat → Int64} {Z : Nat → Nat → Nat → Int32} {If : Nat → Nat → Int32}  :
    ∀ (I : Nat → Nat → Int32) (x1 : Int32) (H : Heap) (locs : List Loc) (ls : Array Slot), p_X6_forbid_b0 (I 11) x1 = some (If 11) → (∀ k, k ∉ ([11] : List Nat) → If k = I k) → va_P D vwCl (wC a kc F G I J Z) H → va_S (ad a 44 s.heap.size) s.heap H locs → lv_has ls 3 [(0, .ref (a 22)), (1, .int x1)] → W p l e rm_X6_forbid s m args below meth c H locs 0 0 (MQ below (Qv D (wC a kc F G If J Z) (ad a 44 s.heap.size)) args s 0 0 (ad a 44 s.heap.size)) (F0 m 0 ls []) := by
  intro I x1 H locs ls hf hfI hP hS hl
  unfold p_X6_forbid_b0 at hf
  refine lv_iconst (v := 0) X.1 X.2.1 dX6_forbid_0 (by decide) ?_
  refine lv_istore_n (lv' := [(2, .int 0), (0, .ref (a 22)), (1, .int x1)]) X.1 X.2.1 dX6_forbid_1 rfl hl (by decide) rfl (fun ls hl => ?_)
  exact t_X6_forbid_b2 X 4096 I x1 0 H locs ls hf hfI hP hS (lv_sub hl [1, 2, 0] rfl)
set_option maxRecDepth 100000 in
theorem c_X6_forbid {l : Launch} {D : va_G} {a : Nat → Nat} {kc : Nat → ClassId} (F : Nat → Int32) (G : Nat → Int64) (I : Nat → Nat → Int32) (J : Nat → Nat → Int64) (Z : Nat → Nat → Nat → Int32) (hAp : ∀ i j, i < 44 → j < 44 → a i = a j → i = j) (x1 : Int32) {o0 : Nat → Int32} (hf : p_X6_forbid (I 11) x1 = some o0) : Ct 44 l yX6_forbid cX6_forbid 3 none rm_X6_forbid D (tyC kc) a (wC a kc F G I J Z) [.ref (a 22), .int x1] (Qv D (wC a kc F G (va_up I 11 o0) J Z)) :=
  Ct.of (by decide +kernel) hAp (Nat.le_of_ble_eq_true rfl) (fun p e s m args below meth c ls X hP hl => t_X6_forbid_b0 X I x1 _ _ _ hf (frm_ul (fun k _ => rfl) (by decide)) hP va_S.rf hl)
abbrev rm_X6_narrow : Room := { frames := 1, cells := 0, slots := 0, locals := 24 }
set_option maxHeartbeats 4000000 in
set_option maxRecDepth 100000 in
theorem t_X6_narrow_b112 {p : Program} {l : Launch} {e : Env} {s : State} {m : MethodId} {args : Array Value} {below : List Frame} {meth : Method} {c : Code} {D : va_G} {a : Nat → Nat} {kc : Nat → ClassId} (X : cx 44 p s m args meth c D (tyC kc) a cX6_narrow 2 RX6 none) {F : Nat → Int32} {G : Nat → Int64} {J : Nat → Nat → Int64} {Z : Nat → Nat → Nat → Int32} {If : Nat → Nat → Int32}  {K16 : Int32 → Int32 → Int32 → (Nat → Int32) → (Nat → Int32) → (Nat → Int32) → Int32 → Option ((Nat → Int32))} (kh16 : ∀ (I : Nat → Nat → Int32) (x1 : Int32) (H : Heap) (locs : List Loc) (ls : Array Slot), K16 (F 0) (F 2) (F 5) (I 9) (I 10) (I 11) x1 = some (If 11) → (∀ k, k ∉ ([11] : List Nat) → If k = I k) → va_P D vwCl (wC a kc F G I J Z) H → va_S (ad a 44 s.heap.size) s.heap H locs → lv_has ls 2 [(0, .ref (a 22)), (1, .int x1)] → W p l e rm_X6_narrow s m args below meth c H locs 0 0 (MQ below (Qv D (wC a kc F G If J Z) (ad a 44 s.heap.size)) args s 0 0 (ad a 44 s.heap.size)) (F0 m 16 ls [])) :
    ∀ (I : Nat → Nat → Int32) (x1 : Int32) (H : Heap) (locs : List Loc) (ls : Array Slot), p_X6_narrow_b112 K16 (F 0) (F 2) (F 5) (I 9) (I 10) (I 11) x1 = some (If 11) → (∀ k, k ∉ ([11] : List Nat) → If k = I k) → va_P D vwCl (wC a kc F G I J Z) H → va_S (ad a 44 s.heap.size) s.heap H locs → lv_has ls 2 [(0, .ref (a 22)), (1, .int x1)] → W p l e rm_X6_narrow s m args below meth c H locs 0 0 (MQ below (Qv D (wC a kc F G If J Z) (ad a 44 s.heap.size)) args s 0 0 (ad a 44 s.heap.size)) (F0 m 112 ls []) := by
  intro I x1 H locs ls hf hfI hP hS hl
  unfold p_X6_narrow_b112 at hf
  obtain ⟨x112, ex112, hf⟩ := nm_x hf
  refine lv_iinc (v := x112) (lv' := [(1, .int x112), (0, .ref (a 22))]) X.1 X.2.1 dX6_narrow_112 hl (k := 1) rfl ex112 (by decide) rfl (fun ls hl => ?_)
  refine lv_goto (tgt := 16) X.1 X.2.1 dX6_narrow_115 (by decide) ?_
  exact kh16 I x112 H locs ls hf hfI hP hS (lv_sub hl [1, 0] rfl)
set_option maxHeartbeats 4000000 in
set_option maxRecDepth 100000 in
theorem t_X6_narrow_b56 {p : Program} {l : Launch} {e : Env} {s : State} {m : MethodId} {args : Array Value} {below : List Frame} {meth : Method} {c : Code} {D : va_G} {a : Nat → Nat} {kc : Nat → ClassId} (X : cx 44 p s m args meth c D (tyC kc) a cX6_narrow 2 RX6 none) {F : Nat → Int32} {G : Nat → Int64} {J : Nat → Nat → Int64} {Z : Nat → Nat → Nat → Int32} {If : Nat → Nat → Int32}  {K16 : Int32 → Int32 → Int32 → (Nat → Int32) → (Nat → Int32) → (Nat → Int32) → Int32 → Option ((Nat → Int32))} (kh16 : ∀ (I : Nat → Nat → Int32) (x1 : Int32) (H : Heap) (locs : List Loc) (ls : Array Slot), K16 (F 0) (F 2) (F 5) (I 9) (I 10) (I 11) x1 = some (If 11) → (∀ k, k ∉ ([11] : List Nat) → If k = I k) → va_P D vwCl (wC a kc F G I J Z) H → va_S (ad a 44 s.heap.size) s.heap H locs → lv_has ls 2 [(0, .ref (a 22)), (1, .int x1)] → W p l e rm_X6_narrow s m args below meth c H locs 0 0 (MQ below (Qv D (wC a kc F G If J Z) (ad a 44 s.heap.size)) args s 0 0 (ad a 44 s.heap.size)) (F0 m 16 ls [])) :
    ∀ (I : Nat → Nat → Int32) (x1 : Int32) (H : Heap) (locs : List Loc) (ls : Array Slot), p_X6_narrow_b56 K16 (F 0) (F 2) (F 5) (I 9) (I 10) (I 11) x1 = some (If 11) → (∀ k, k ∉ ([11] : List Nat) → If k = I k) → va_P D vwCl (wC a kc F G I J Z) H → va_S (ad a 44 s.heap.size) s.heap H locs → lv_has ls 2 [(0, .ref (a 22)), (1, .int x1)] → W p l e rm_X6_narrow s m args below meth c H locs 0 0 (MQ below (Qv D (wC a kc F G If J Z) (ad a 44 s.heap.size)) args s 0 0 (ad a 44 s.heap.size)) (F0 m 56 ls []) := by
  intro I x1 H locs ls hf hfI hP hS hl
  unfold p_X6_narrow_b56 at hf
  refine lv_aload_n X.1 X.2.1 dX6_narrow_56 rfl (lv_at hl 0 rfl) ?_
  refine gC_22_8 X q_1_210 dX6_narrow_57 hP ?_
  refine lv_iconst (v := 0) X.1 X.2.1 dX6_narrow_60 (by decide) ?_
  obtain ⟨W_allowed_61, eW_allowed_61, hf⟩ := nm_x hf
  refine flC_26 (I := I) (rest := []) X eW_allowed_61 q_3_151 (Nat.le_of_ble_eq_true rfl) (Nat.le_of_ble_eq_true rfl) hl.1 (Nat.le_of_ble_eq_true rfl) dX6_narrow_61 hP hS (fun H locs hP hS => ?_)
  refine lv_goto (tgt := 112) X.1 X.2.1 dX6_narrow_64 (by decide) ?_
  exact t_X6_narrow_b112 X kh16 (va_up I 11 W_allowed_61) x1 H locs ls hf (frm_up hfI (by decide)) hP hS (lv_sub hl [0, 1] rfl)
set_option maxHeartbeats 4000000 in
set_option maxRecDepth 100000 in
theorem t_X6_narrow_b16x {p : Program} {l : Launch} {e : Env} {s : State} {m : MethodId} {args : Array Value} {below : List Frame} {meth : Method} {c : Code} {D : va_G} {a : Nat → Nat} {kc : Nat → ClassId} (X : cx 44 p s m args meth c D (tyC kc) a cX6_narrow 2 RX6 none) {F : Nat → Int32} {G : Nat → Int64} {J : Nat → Nat → Int64} {Z : Nat → Nat → Nat → Int32} {If : Nat → Nat → Int32}  {K16 : Int32 → Int32 → Int32 → (Nat → Int32) → (Nat → Int32) → (Nat → Int32) → Int32 → Option ((Nat → Int32))} (kh16 : ∀ (I : Nat → Nat → Int32) (x1 : Int32) (H : Heap) (locs : List Loc) (ls : Array Slot), K16 (F 0) (F 2) (F 5) (I 9) (I 10) (I 11) x1 = some (If 11) → (∀ k, k ∉ ([11] : List Nat) → If k = I k) → va_P D vwCl (wC a kc F G I J Z) H → va_S (ad a 44 s.heap.size) s.heap H locs → lv_has ls 2 [(0, .ref (a 22)), (1, .int x1)] → W p l e rm_X6_narrow s m args below meth c H locs 0 0 (MQ below (Qv D (wC a kc F G If J Z) (ad a 44 s.heap.size)) args s 0 0 (ad a 44 s.heap.size)) (F0 m 16 ls [])) :
    ∀ (I : Nat → Nat → Int32) (x1 : Int32) (H : Heap) (locs : List Loc) (ls : Array Slot), p_X6_narrow_b16x K16 (F 0) (F 2) (F 5) (I 9) (I 10) (I 11) x1 = some (If 11) → (∀ k, k ∉ ([11] : List Nat) → If k = I k) → va_P D vwCl (wC a kc F G I J Z) H → va_S (ad a 44 s.heap.size) s.heap H locs → lv_has ls 2 [(0, .ref (a 22)), (1, .int x1)] → W p l e rm_X6_narrow s m args below meth c H locs 0 0 (MQ below (Qv D (wC a kc F G If J Z) (ad a 44 s.heap.size)) args s 0 0 (ad a 44 s.heap.size)) (F0 m 16 ls []) := by
  intro I x1 H locs ls hf hfI hP hS hl
  unfold p_X6_narrow_b16x at hf
  refine lv_iload_n X.1 X.2.1 dX6_narrow_16 rfl (lv_at hl 1 rfl) ?_
  refine lv_aload_n X.1 X.2.1 dX6_narrow_17 rfl (lv_at hl 0 rfl) ?_
  refine gC_22_1 (F := F) X (v := (F 5)) rfl q_1_199 dX6_narrow_18 hP ?_
  refine lv_icmp_ge (tgt := 118) X.1 X.2.1 dX6_narrow_21 (by decide) (fun c21 => ?_) (fun c21 => ?_)
  · have hf := it_s hf c21
    have e0 := o1 hf
    have EI : If = I := frm_eq hfI (frm_c (e0).symm frm_n)
    exact ret_v X hS (by rw [EI]; exact hP) dX6_narrow_118
  · have hf := ie_s hf c21
    refine lv_aload_n X.1 X.2.1 dX6_narrow_24 rfl (lv_at hl 0 rfl) ?_
    refine gC_22_6 X q_1_208 dX6_narrow_25 hP ?_
    refine lv_iload_n X.1 X.2.1 dX6_narrow_28 rfl (lv_at hl 1 rfl) ?_
    obtain ⟨h29, hf⟩ := gd_s hf
    refine lC_24 (I := I) X (f := (I 9)) rfl h29 dX6_narrow_29 hP ?_
    refine lv_aload_n X.1 X.2.1 dX6_narrow_30 rfl (lv_at hl 0 rfl) ?_
    refine gC_22_5 X q_1_207 dX6_narrow_31 hP ?_
    refine gC_0_10 (F := F) X (v := (F 2)) rfl q_1_91 dX6_narrow_34 hP ?_
    refine lv_icmp_ge (tgt := 56) X.1 X.2.1 dX6_narrow_37 (by decide) (fun c37 => ?_) (fun c37 => ?_)
    · have hf := it_s hf c37
      exact t_X6_narrow_b56 X kh16 I x1 H locs ls hf hfI hP hS (lv_sub hl [0, 1] rfl)
    · have hf := ie_s hf c37
      refine lv_aload_n X.1 X.2.1 dX6_narrow_40 rfl (lv_at hl 0 rfl) ?_
      refine gC_22_7 X q_1_209 dX6_narrow_41 hP ?_
      refine lv_iload_n X.1 X.2.1 dX6_narrow_44 rfl (lv_at hl 1 rfl) ?_
      obtain ⟨h45, hf⟩ := gd_s hf
      refine lC_25 (I := I) X (f := (I 10)) rfl h45 dX6_narrow_45 hP ?_
      refine lv_aload_n X.1 X.2.1 dX6_narrow_46 rfl (lv_at hl 0 rfl) ?_
      refine gC_22_5 X q_1_207 dX6_narrow_47 hP ?_
      refine gC_0_8 (F := F) X (v := (F 0)) rfl q_1_82 dX6_narrow_50 hP ?_
      refine lv_icmp_lt (tgt := 67) X.1 X.2.1 dX6_narrow_53 (by decide) (fun c53 => ?_) (fun c53 => ?_)
      · have hf := it_s hf c53
        refine lv_aload_n X.1 X.2.1 dX6_narrow_67 rfl (lv_at hl 0 rfl) ?_
        refine gC_22_6 X q_1_208 dX6_narrow_68 hP ?_
        refine lv_iload_n X.1 X.2.1 dX6_narrow_71 rfl (lv_at hl 1 rfl) ?_
        obtain ⟨h72, hf⟩ := gd_s hf
        refine lC_24 (I := I) X (f := (I 9)) rfl h72 dX6_narrow_72 hP ?_
        refine lv_iconst (v := (-1)) X.1 X.2.1 dX6_narrow_73 (by decide) ?_
        refine lv_icmp_ne (tgt := 90) X.1 X.2.1 dX6_narrow_74 (by decide) (fun c74 => ?_) (fun c74 => ?_)
        · have hf := ie_s hf c74
          refine lv_aload_n X.1 X.2.1 dX6_narrow_90 rfl (lv_at hl 0 rfl) ?_
          refine gC_22_8 X q_1_210 dX6_narrow_91 hP ?_
          refine lv_aload_n X.1 X.2.1 dX6_narrow_94 rfl (lv_at hl 0 rfl) ?_
          refine gC_22_6 X q_1_208 dX6_narrow_95 hP ?_
          refine lv_iload_n X.1 X.2.1 dX6_narrow_98 rfl (lv_at hl 1 rfl) ?_
          obtain ⟨h99, hf⟩ := gd_s hf
          refine lC_24 (I := I) X (f := (I 9)) rfl h99 dX6_narrow_99 hP ?_
          refine lv_dup2_11 X.1 X.2.1 dX6_narrow_100 rfl rfl ?_
          obtain ⟨h101, hf⟩ := gd_s hf
          refine lC_26 (I := I) X (f := (I 11)) rfl h101 dX6_narrow_101 hP ?_
          refine lv_iconst (v := 1) X.1 X.2.1 dX6_narrow_102 (by decide) ?_
          refine lv_aload_n X.1 X.2.1 dX6_narrow_103 rfl (lv_at hl 0 rfl) ?_
          refine gC_22_7 X q_1_209 dX6_narrow_104 hP ?_
          refine lv_iload_n X.1 X.2.1 dX6_narrow_107 rfl (lv_at hl 1 rfl) ?_
          obtain ⟨h108, hf⟩ := gd_s hf
          refine lC_25 (I := I) X (f := (I 10)) rfl h108 dX6_narrow_108 hP ?_
          refine lv_ishl X.1 X.2.1 dX6_narrow_109 ?_
          refine lv_iand X.1 X.2.1 dX6_narrow_110 ?_
          obtain ⟨h111, hf⟩ := gd_s hf
          obtain ⟨W_allowed_111, eW_allowed_111, hf⟩ := nm_x hf
          refine sC_26 (I := I) X h111 eW_allowed_111 dX6_narrow_111 hP hS (fun H locs hP hS => ?_)
          exact t_X6_narrow_b112 X kh16 (va_up I 11 W_allowed_111) x1 H locs ls hf (frm_up hfI (by decide)) hP hS (lv_sub hl [0, 1] rfl)
        · have hf := it_s hf c74
          refine lv_aload_n X.1 X.2.1 dX6_narrow_77 rfl (lv_at hl 0 rfl) ?_
          refine lv_aload_n X.1 X.2.1 dX6_narrow_78 rfl (lv_at hl 0 rfl) ?_
          refine gC_22_7 X q_1_209 dX6_narrow_79 hP ?_
          refine lv_iload_n X.1 X.2.1 dX6_narrow_82 rfl (lv_at hl 1 rfl) ?_
          obtain ⟨h83, hf⟩ := gd_s hf
          refine lC_25 (I := I) X (f := (I 10)) rfl h83 dX6_narrow_83 hP ?_
          obtain ⟨W_allowed_84, ho, hf⟩ := b1_s hf
          refine call_vv (rest := []) X (c_X6_forbid F G I J Z X.2.2.2.2.2.2.2.1 ((I 10) x1.toNatClampNeg) ho) q_3_157 q_3_159 qs_yX6_forbid q_1_6 q_3_160 ok_X6_forbid rfl 22 rfl rfl ⟨Nat.le_of_ble_eq_true rfl, Nat.le_of_ble_eq_true rfl⟩ rfl rfl hl.1 rfl (Nat.le_of_ble_eq_true rfl) dX6_narrow_84 hP hS (fun H locs hP hS => ?_)
          refine lv_goto (tgt := 112) X.1 X.2.1 dX6_narrow_87 (by decide) ?_
          exact t_X6_narrow_b112 X kh16 (va_up I 11 W_allowed_84) x1 H locs ls hf (frm_up hfI (by decide)) hP hS (lv_sub hl [0, 1] rfl)
      · have hf := ie_s hf c53
        exact t_X6_narrow_b56 X kh16 I x1 H locs ls hf hfI hP hS (lv_sub hl [0, 1] rfl)
set_option maxRecDepth 100000 in
theorem t_X6_narrow_b16 {p : Program} {l : Launch} {e : Env} {s : State} {m : MethodId} {args : Array Value} {below : List Frame} {meth : Method} {c : Code} {D : va_G} {a : Nat → Nat} {kc : Nat → ClassId} (X : cx 44 p s m args meth c D (tyC kc) a cX6_narrow 2 RX6 none) {F : Nat → Int32} {G : Nat → Int64} {J : Nat → Nat → Int64} {Z : Nat → Nat → Nat → Int32} {If : Nat → Nat → Int32}  :
    ∀ (n : Nat) (I : Nat → Nat → Int32) (x1 : Int32) (H : Heap) (locs : List Loc) (ls : Array Slot), p_X6_narrow_b16 n (F 0) (F 2) (F 5) (I 9) (I 10) (I 11) x1 = some (If 11) → (∀ k, k ∉ ([11] : List Nat) → If k = I k) → va_P D vwCl (wC a kc F G I J Z) H → va_S (ad a 44 s.heap.size) s.heap H locs → lv_has ls 2 [(0, .ref (a 22)), (1, .int x1)] → W p l e rm_X6_narrow s m args below meth c H locs 0 0 (MQ below (Qv D (wC a kc F G If J Z) (ad a 44 s.heap.size)) args s 0 0 (ad a 44 s.heap.size)) (F0 m 16 ls []) := by
  intro n
  induction n with
  | zero => intro I x1 H locs ls hf hfI hP hS hl; exact (nos hf).elim
  | succ n ih => exact t_X6_narrow_b16x X ih
set_option maxHeartbeats 4000000 in
set_option maxRecDepth 100000 in
theorem t_X6_narrow_b0 {p : Program} {l : Launch} {e : Env} {s : State} {m : MethodId} {args : Array Value} {below : List Frame} {meth : Method} {c : Code} {D : va_G} {a : Nat → Nat} {kc : Nat → ClassId} (X : cx 44 p s m args meth c D (tyC kc) a cX6_narrow 2 RX6 none) {F : Nat → Int32} {G : Nat → Int64} {J : Nat → Nat → Int64} {Z : Nat → Nat → Nat → Int32} {If : Nat → Nat → Int32}  :
    ∀ (I : Nat → Nat → Int32)  (H : Heap) (locs : List Loc) (ls : Array Slot), p_X6_narrow_b0 (F 0) (F 2) (F 5) (I 9) (I 10) (I 11)  = some (If 11) → (∀ k, k ∉ ([11] : List Nat) → If k = I k) → va_P D vwCl (wC a kc F G I J Z) H → va_S (ad a 44 s.heap.size) s.heap H locs → lv_has ls 2 [(0, .ref (a 22))] → W p l e rm_X6_narrow s m args below meth c H locs 0 0 (MQ below (Qv D (wC a kc F G If J Z) (ad a 44 s.heap.size)) args s 0 0 (ad a 44 s.heap.size)) (F0 m 0 ls []) := by
  intro I  H locs ls hf hfI hP hS hl
  unfold p_X6_narrow_b0 at hf
  refine lv_aload_n X.1 X.2.1 dX6_narrow_0 rfl (lv_at hl 0 rfl) ?_
  refine gC_22_8 X q_1_210 dX6_narrow_1 hP ?_
  refine lv_aload_n X.1 X.2.1 dX6_narrow_4 rfl (lv_at hl 0 rfl) ?_
  refine gC_22_5 X q_1_207 dX6_narrow_5 hP ?_
  obtain ⟨r8, ho, hf⟩ := b1_s hf
  refine call_vi (rest := [.ref (a 26)]) X (c_X3_allSeats F G I J Z X.2.2.2.2.2.2.2.1  ho) q_3_156 q_2_160 q_2_161 q_1_2 q_2_162 ok_X3_allSeats rfl 0 rfl rfl ⟨Nat.le_of_ble_eq_true rfl, Nat.le_of_ble_eq_true rfl⟩ rfl rfl hl.1 rfl (Nat.le_of_ble_eq_true rfl) dX6_narrow_8 hP hS (fun H locs hP hS => ?_)
  obtain ⟨W_allowed_11, eW_allowed_11, hf⟩ := nm_x hf
  refine flC_26 (I := I) (rest := []) X eW_allowed_11 q_3_151 (Nat.le_of_ble_eq_true rfl) (Nat.le_of_ble_eq_true rfl) hl.1 (Nat.le_of_ble_eq_true rfl) dX6_narrow_11 hP hS (fun H locs hP hS => ?_)
  refine lv_iconst (v := 0) X.1 X.2.1 dX6_narrow_14 (by decide) ?_
  refine lv_istore_n (lv' := [(1, .int 0), (0, .ref (a 22))]) X.1 X.2.1 dX6_narrow_15 rfl hl (by decide) rfl (fun ls hl => ?_)
  exact t_X6_narrow_b16 X 4096 (va_up I 11 W_allowed_11) 0 H locs ls hf (frm_up hfI (by decide)) hP hS (lv_sub hl [1, 0] rfl)
set_option maxRecDepth 100000 in
theorem c_X6_narrow {l : Launch} {D : va_G} {a : Nat → Nat} {kc : Nat → ClassId} (F : Nat → Int32) (G : Nat → Int64) (I : Nat → Nat → Int32) (J : Nat → Nat → Int64) (Z : Nat → Nat → Nat → Int32) (hAp : ∀ i j, i < 44 → j < 44 → a i = a j → i = j)  {o0 : Nat → Int32} (hf : p_X6_narrow (F 0) (F 2) (F 5) (I 9) (I 10) (I 11)  = some o0) : Ct 44 l yX6_narrow cX6_narrow 2 none rm_X6_narrow D (tyC kc) a (wC a kc F G I J Z) [.ref (a 22)] (Qv D (wC a kc F G (va_up I 11 o0) J Z)) :=
  Ct.of (by decide +kernel) hAp (Nat.le_of_ble_eq_true rfl) (fun p e s m args below meth c ls X hP hl => t_X6_narrow_b0 X I  _ _ _ hf (frm_ul (fun k _ => rfl) (by decide)) hP va_S.rf hl)
abbrev rm_X6_spread : Room := { frames := 1, cells := 0, slots := 0, locals := 21 }
set_option maxHeartbeats 4000000 in
set_option maxRecDepth 100000 in
theorem t_X6_spread_b56 {p : Program} {l : Launch} {e : Env} {s : State} {m : MethodId} {args : Array Value} {below : List Frame} {meth : Method} {c : Code} {D : va_G} {a : Nat → Nat} {kc : Nat → ClassId} (X : cx 44 p s m args meth c D (tyC kc) a cX6_spread 7 RX6 none) {F : Nat → Int32} {G : Nat → Int64} {I : Nat → Nat → Int32} {Z : Nat → Nat → Nat → Int32} {Jf : Nat → Nat → Int64}  {K19 : Int32 → (Nat → Int64) → Int32 → Int32 → Int64 → Int32 → Option ((Nat → Int64))} (kh19 : ∀ (J : Nat → Nat → Int64) (x1 : Int32) (x2 : Int32) (x4 : Int64) (x6 : Int32) (H : Heap) (locs : List Loc) (ls : Array Slot), K19 (F 0) (J 8) x1 x2 x4 x6 = some (Jf 8) → (∀ k, k ∉ ([8] : List Nat) → Jf k = J k) → va_P D vwCl (wC a kc F G I J Z) H → va_S (ad a 44 s.heap.size) s.heap H locs → lv_has ls 7 [(0, .ref (a 22)), (1, .int x1), (2, .int x2), (4, .long x4), (6, .int x6)] → W p l e rm_X6_spread s m args below meth c H locs 0 0 (MQ below (Qv D (wC a kc F G I Jf Z) (ad a 44 s.heap.size)) args s 0 0 (ad a 44 s.heap.size)) (F0 m 19 ls [])) :
    ∀ (J : Nat → Nat → Int64) (x1 : Int32) (x2 : Int32) (x4 : Int64) (x6 : Int32) (H : Heap) (locs : List Loc) (ls : Array Slot), p_X6_spread_b56 K19 (F 0) (J 8) x1 x2 x4 x6 = some (Jf 8) → (∀ k, k ∉ ([8] : List Nat) → Jf k = J k) → va_P D vwCl (wC a kc F G I J Z) H → va_S (ad a 44 s.heap.size) s.heap H locs → lv_has ls 7 [(0, .ref (a 22)), (1, .int x1), (2, .int x2), (4, .long x4), (6, .int x6)] → W p l e rm_X6_spread s m args below meth c H locs 0 0 (MQ below (Qv D (wC a kc F G I Jf Z) (ad a 44 s.heap.size)) args s 0 0 (ad a 44 s.heap.size)) (F0 m 56 ls []) := by
  intro J x1 x2 x4 x6 H locs ls hf hfJ hP hS hl
  unfold p_X6_spread_b56 at hf
  obtain ⟨x56, ex56, hf⟩ := nm_x hf
  refine lv_iinc (v := x56) (lv' := [(6, .int x56), (0, .ref (a 22)), (1, .int x1), (2, .int x2), (4, .long x4)]) X.1 X.2.1 dX6_spread_56 hl (k := 4) rfl ex56 (by decide) rfl (fun ls hl => ?_)
  refine lv_goto (tgt := 19) X.1 X.2.1 dX6_spread_59 (by decide) ?_
  exact kh19 J x1 x2 x4 x56 H locs ls hf hfJ hP hS (lv_sub hl [1, 2, 3, 4, 0] rfl)
set_option maxHeartbeats 4000000 in
set_option maxRecDepth 100000 in
theorem t_X6_spread_b19x {p : Program} {l : Launch} {e : Env} {s : State} {m : MethodId} {args : Array Value} {below : List Frame} {meth : Method} {c : Code} {D : va_G} {a : Nat → Nat} {kc : Nat → ClassId} (X : cx 44 p s m args meth c D (tyC kc) a cX6_spread 7 RX6 none) {F : Nat → Int32} {G : Nat → Int64} {I : Nat → Nat → Int32} {Z : Nat → Nat → Nat → Int32} {Jf : Nat → Nat → Int64}  {K19 : Int32 → (Nat → Int64) → Int32 → Int32 → Int64 → Int32 → Option ((Nat → Int64))} (kh19 : ∀ (J : Nat → Nat → Int64) (x1 : Int32) (x2 : Int32) (x4 : Int64) (x6 : Int32) (H : Heap) (locs : List Loc) (ls : Array Slot), K19 (F 0) (J 8) x1 x2 x4 x6 = some (Jf 8) → (∀ k, k ∉ ([8] : List Nat) → Jf k = J k) → va_P D vwCl (wC a kc F G I J Z) H → va_S (ad a 44 s.heap.size) s.heap H locs → lv_has ls 7 [(0, .ref (a 22)), (1, .int x1), (2, .int x2), (4, .long x4), (6, .int x6)] → W p l e rm_X6_spread s m args below meth c H locs 0 0 (MQ below (Qv D (wC a kc F G I Jf Z) (ad a 44 s.heap.size)) args s 0 0 (ad a 44 s.heap.size)) (F0 m 19 ls [])) :
    ∀ (J : Nat → Nat → Int64) (x1 : Int32) (x2 : Int32) (x4 : Int64) (x6 : Int32) (H : Heap) (locs : List Loc) (ls : Array Slot), p_X6_spread_b19x K19 (F 0) (J 8) x1 x2 x4 x6 = some (Jf 8) → (∀ k, k ∉ ([8] : List Nat) → Jf k = J k) → va_P D vwCl (wC a kc F G I J Z) H → va_S (ad a 44 s.heap.size) s.heap H locs → lv_has ls 7 [(0, .ref (a 22)), (1, .int x1), (2, .int x2), (4, .long x4), (6, .int x6)] → W p l e rm_X6_spread s m args below meth c H locs 0 0 (MQ below (Qv D (wC a kc F G I Jf Z) (ad a 44 s.heap.size)) args s 0 0 (ad a 44 s.heap.size)) (F0 m 19 ls []) := by
  intro J x1 x2 x4 x6 H locs ls hf hfJ hP hS hl
  unfold p_X6_spread_b19x at hf
  refine lv_iload X.1 X.2.1 dX6_spread_19 (lv_at hl 4 rfl) ?_
  refine lv_aload_n X.1 X.2.1 dX6_spread_21 rfl (lv_at hl 0 rfl) ?_
  refine gC_22_5 X q_1_207 dX6_spread_22 hP ?_
  refine gC_0_8 (F := F) X (v := (F 0)) rfl q_1_82 dX6_spread_25 hP ?_
  refine lv_icmp_ge (tgt := 62) X.1 X.2.1 dX6_spread_28 (by decide) (fun c28 => ?_) (fun c28 => ?_)
  · have hf := it_s hf c28
    have e0 := o1 hf
    have EJ : Jf = J := frm_eq hfJ (frm_c (e0).symm frm_n)
    exact ret_v X hS (by rw [EJ]; exact hP) dX6_spread_62
  · have hf := ie_s hf c28
    refine lv_iload_n X.1 X.2.1 dX6_spread_31 rfl (lv_at hl 2 rfl) ?_
    refine lv_iload X.1 X.2.1 dX6_spread_32 (lv_at hl 4 rfl) ?_
    obtain ⟨r34, ho, hf⟩ := b1_s hf
    refine call_si (rest := []) X (c_X3_has x2 x6 ho) q_3_177 q_2_178 q_1_2 q_2_179 ok_X3_has rfl ⟨Nat.le_of_ble_eq_true rfl, Nat.le_of_ble_eq_true rfl⟩ rfl rfl hl.1 rfl (Nat.le_of_ble_eq_true rfl) dX6_spread_34 hP hS (fun H locs hP hS => ?_)
    refine lv_if_eq (tgt := 56) X.1 X.2.1 dX6_spread_37 (by decide) (fun c37 => ?_) (fun c37 => ?_)
    · have hf := it_s hf c37
      exact t_X6_spread_b56 X kh19 J x1 x2 x4 x6 H locs ls hf hfJ hP hS (lv_sub hl [0, 1, 2, 3, 4] rfl)
    · have hf := ie_s hf c37
      refine lv_aload_n X.1 X.2.1 dX6_spread_40 rfl (lv_at hl 0 rfl) ?_
      refine gC_22_11 X q_1_213 dX6_spread_41 hP ?_
      refine lv_iload_n X.1 X.2.1 dX6_spread_44 rfl (lv_at hl 1 rfl) ?_
      refine lv_iconst (v := 1) X.1 X.2.1 dX6_spread_45 (by decide) ?_
      refine lv_iload X.1 X.2.1 dX6_spread_46 (lv_at hl 4 rfl) ?_
      refine lv_ishl X.1 X.2.1 dX6_spread_48 ?_
      refine lv_ior X.1 X.2.1 dX6_spread_49 ?_
      refine lv_dup2_11 X.1 X.2.1 dX6_spread_50 rfl rfl ?_
      obtain ⟨h51, hf⟩ := gd_s hf
      refine lC_29 (J := J) X (f := (J 8)) rfl h51 dX6_spread_51 hP ?_
      refine lv_lload X.1 X.2.1 dX6_spread_52 (lv_at hl 3 rfl) ?_
      refine lv_ladd X.1 X.2.1 dX6_spread_54 ?_
      obtain ⟨h55, hf⟩ := gd_s hf
      obtain ⟨W_reach_55, eW_reach_55, hf⟩ := nm_x hf
      refine sC_29 (J := J) X h55 eW_reach_55 dX6_spread_55 hP hS (fun H locs hP hS => ?_)
      exact t_X6_spread_b56 X kh19 (va_up J 8 W_reach_55) x1 x2 x4 x6 H locs ls hf (frm_up hfJ (by decide)) hP hS (lv_sub hl [0, 1, 2, 3, 4] rfl)
set_option maxRecDepth 100000 in
theorem t_X6_spread_b19 {p : Program} {l : Launch} {e : Env} {s : State} {m : MethodId} {args : Array Value} {below : List Frame} {meth : Method} {c : Code} {D : va_G} {a : Nat → Nat} {kc : Nat → ClassId} (X : cx 44 p s m args meth c D (tyC kc) a cX6_spread 7 RX6 none) {F : Nat → Int32} {G : Nat → Int64} {I : Nat → Nat → Int32} {Z : Nat → Nat → Nat → Int32} {Jf : Nat → Nat → Int64}  :
    ∀ (n : Nat) (J : Nat → Nat → Int64) (x1 : Int32) (x2 : Int32) (x4 : Int64) (x6 : Int32) (H : Heap) (locs : List Loc) (ls : Array Slot), p_X6_spread_b19 n (F 0) (J 8) x1 x2 x4 x6 = some (Jf 8) → (∀ k, k ∉ ([8] : List Nat) → Jf k = J k) → va_P D vwCl (wC a kc F G I J Z) H → va_S (ad a 44 s.heap.size) s.heap H locs → lv_has ls 7 [(0, .ref (a 22)), (1, .int x1), (2, .int x2), (4, .long x4), (6, .int x6)] → W p l e rm_X6_spread s m args below meth c H locs 0 0 (MQ below (Qv D (wC a kc F G I Jf Z) (ad a 44 s.heap.size)) args s 0 0 (ad a 44 s.heap.size)) (F0 m 19 ls []) := by
  intro n
  induction n with
  | zero => intro J x1 x2 x4 x6 H locs ls hf hfJ hP hS hl; exact (nos hf).elim
  | succ n ih => exact t_X6_spread_b19x X ih
set_option maxHeartbeats 4000000 in
set_option maxRecDepth 100000 in
theorem t_X6_spread_b0 {p : Program} {l : Launch} {e : Env} {s : State} {m : MethodId} {args : Array Value} {below : List Frame} {meth : Method} {c : Code} {D : va_G} {a : Nat → Nat} {kc : Nat → ClassId} (X : cx 44 p s m args meth c D (tyC kc) a cX6_spread 7 RX6 none) {F : Nat → Int32} {G : Nat → Int64} {I : Nat → Nat → Int32} {Z : Nat → Nat → Nat → Int32} {Jf : Nat → Nat → Int64}  :
    ∀ (J : Nat → Nat → Int64) (x1 : Int32) (x2 : Int32) (x3 : Int32) (H : Heap) (locs : List Loc) (ls : Array Slot), p_X6_spread_b0 (F 0) (J 8) x1 x2 x3 = some (Jf 8) → (∀ k, k ∉ ([8] : List Nat) → Jf k = J k) → va_P D vwCl (wC a kc F G I J Z) H → va_S (ad a 44 s.heap.size) s.heap H locs → lv_has ls 7 [(0, .ref (a 22)), (1, .int x1), (2, .int x2), (3, .int x3)] → W p l e rm_X6_spread s m args below meth c H locs 0 0 (MQ below (Qv D (wC a kc F G I Jf Z) (ad a 44 s.heap.size)) args s 0 0 (ad a 44 s.heap.size)) (F0 m 0 ls []) := by
  intro J x1 x2 x3 H locs ls hf hfJ hP hS hl
  unfold p_X6_spread_b0 at hf
  refine lv_iload_n X.1 X.2.1 dX6_spread_0 rfl (lv_at hl 3 rfl) ?_
  refine lv_if_ne (tgt := 5) X.1 X.2.1 dX6_spread_1 (by decide) (fun c1 => ?_) (fun c1 => ?_)
  · have hf := ie_s hf c1
    refine lv_aload_n X.1 X.2.1 dX6_spread_5 rfl (lv_at hl 0 rfl) ?_
    refine gC_22_11 X q_1_213 dX6_spread_6 hP ?_
    refine lv_iload_n X.1 X.2.1 dX6_spread_9 rfl (lv_at hl 1 rfl) ?_
    obtain ⟨h10, hf⟩ := gd_s hf
    refine lC_29 (J := J) X (f := (J 8)) rfl h10 dX6_spread_10 hP ?_
    refine lv_iload_n X.1 X.2.1 dX6_spread_11 rfl (lv_at hl 3 rfl) ?_
    refine lv_i2l X.1 X.2.1 dX6_spread_12 rfl ?_
    obtain ⟨h13, hf⟩ := gd_s hf
    refine lv_ldiv X.1 X.2.1 dX6_spread_13 (of_decide_eq_true h13) ?_
    refine nm_l hf (fun x14 hf => ?_)
    refine lv_lstore (lv' := [(4, .long x14), (0, .ref (a 22)), (1, .int x1), (2, .int x2), (3, .int x3)]) X.1 X.2.1 dX6_spread_14 hl (by decide) rfl (fun ls hl => ?_)
    refine lv_iconst (v := 0) X.1 X.2.1 dX6_spread_16 (by decide) ?_
    refine lv_istore (lv' := [(6, .int 0), (4, .long x14), (0, .ref (a 22)), (1, .int x1), (2, .int x2), (3, .int x3)]) X.1 X.2.1 dX6_spread_17 hl (by decide) rfl (fun ls hl => ?_)
    exact t_X6_spread_b19 X 4096 J x1 x2 x14 0 H locs ls hf hfJ hP hS (lv_sub hl [2, 3, 4, 1, 0] rfl)
  · have hf := it_s hf c1
    have e0 := o1 hf
    have EJ : Jf = J := frm_eq hfJ (frm_c (e0).symm frm_n)
    exact ret_v X hS (by rw [EJ]; exact hP) dX6_spread_4
set_option maxRecDepth 100000 in
theorem c_X6_spread {l : Launch} {D : va_G} {a : Nat → Nat} {kc : Nat → ClassId} (F : Nat → Int32) (G : Nat → Int64) (I : Nat → Nat → Int32) (J : Nat → Nat → Int64) (Z : Nat → Nat → Nat → Int32) (hAp : ∀ i j, i < 44 → j < 44 → a i = a j → i = j) (x1 : Int32) (x2 : Int32) (x3 : Int32) {o0 : Nat → Int64} (hf : p_X6_spread (F 0) (J 8) x1 x2 x3 = some o0) : Ct 44 l yX6_spread cX6_spread 7 none rm_X6_spread D (tyC kc) a (wC a kc F G I J Z) [.ref (a 22), .int x1, .int x2, .int x3] (Qv D (wC a kc F G I (va_up J 8 o0) Z)) :=
  Ct.of (by decide +kernel) hAp (Nat.le_of_ble_eq_true rfl) (fun p e s m args below meth c ls X hP hl => t_X6_spread_b0 X J x1 x2 x3 _ _ _ hf (frm_ul (fun k _ => rfl) (by decide)) hP va_S.rf hl)
abbrev rm_X6_walkForward : Room := { frames := 2, cells := 0, slots := 0, locals := 50 }
set_option maxHeartbeats 4000000 in
set_option maxRecDepth 100000 in
theorem t_X6_walkForward_b103 {p : Program} {l : Launch} {e : Env} {s : State} {m : MethodId} {args : Array Value} {below : List Frame} {meth : Method} {c : Code} {D : va_G} {a : Nat → Nat} {kc : Nat → ClassId} (X : cx 44 p s m args meth c D (tyC kc) a cX6_walkForward 5 RX6 none) {F : Nat → Int32} {G : Nat → Int64} {I : Nat → Nat → Int32} {Z : Nat → Nat → Nat → Int32} {Jf : Nat → Nat → Int64}  {K27 : Int32 → Int32 → (Nat → Int32) → (Nat → Int32) → (Nat → Int32) → (Nat → Int32) → (Nat → Int32) → (Nat → Int64) → Int32 → Int32 → Option ((Nat → Int64))} (kh27 : ∀ (J : Nat → Nat → Int64) (x1 : Int32) (x2 : Int32) (H : Heap) (locs : List Loc) (ls : Array Slot), K27 (F 0) (F 2) (I 2) (I 4) (I 5) (I 11) (I 12) (J 8) x1 x2 = some (Jf 8) → (∀ k, k ∉ ([8] : List Nat) → Jf k = J k) → va_P D vwCl (wC a kc F G I J Z) H → va_S (ad a 44 s.heap.size) s.heap H locs → lv_has ls 5 [(0, .ref (a 22)), (1, .int x1), (2, .int x2)] → W p l e rm_X6_walkForward s m args below meth c H locs 0 0 (MQ below (Qv D (wC a kc F G I Jf Z) (ad a 44 s.heap.size)) args s 0 0 (ad a 44 s.heap.size)) (F0 m 27 ls [])) :
    ∀ (J : Nat → Nat → Int64) (x1 : Int32) (x2 : Int32) (H : Heap) (locs : List Loc) (ls : Array Slot), p_X6_walkForward_b103 K27 (F 0) (F 2) (I 2) (I 4) (I 5) (I 11) (I 12) (J 8) x1 x2 = some (Jf 8) → (∀ k, k ∉ ([8] : List Nat) → Jf k = J k) → va_P D vwCl (wC a kc F G I J Z) H → va_S (ad a 44 s.heap.size) s.heap H locs → lv_has ls 5 [(0, .ref (a 22)), (1, .int x1), (2, .int x2)] → W p l e rm_X6_walkForward s m args below meth c H locs 0 0 (MQ below (Qv D (wC a kc F G I Jf Z) (ad a 44 s.heap.size)) args s 0 0 (ad a 44 s.heap.size)) (F0 m 103 ls []) := by
  intro J x1 x2 H locs ls hf hfJ hP hS hl
  unfold p_X6_walkForward_b103 at hf
  obtain ⟨x103, ex103, hf⟩ := nm_x hf
  refine lv_iinc (v := x103) (lv' := [(2, .int x103), (0, .ref (a 22)), (1, .int x1)]) X.1 X.2.1 dX6_walkForward_103 hl (k := 2) rfl ex103 (by decide) rfl (fun ls hl => ?_)
  refine lv_goto (tgt := 27) X.1 X.2.1 dX6_walkForward_106 (by decide) ?_
  exact kh27 J x1 x103 H locs ls hf hfJ hP hS (lv_sub hl [1, 2, 0] rfl)
set_option maxHeartbeats 4000000 in
set_option maxRecDepth 100000 in
theorem t_X6_walkForward_b27x {p : Program} {l : Launch} {e : Env} {s : State} {m : MethodId} {args : Array Value} {below : List Frame} {meth : Method} {c : Code} {D : va_G} {a : Nat → Nat} {kc : Nat → ClassId} (X : cx 44 p s m args meth c D (tyC kc) a cX6_walkForward 5 RX6 none) {F : Nat → Int32} {G : Nat → Int64} {I : Nat → Nat → Int32} {Z : Nat → Nat → Nat → Int32} {Jf : Nat → Nat → Int64}  {K27 : Int32 → Int32 → (Nat → Int32) → (Nat → Int32) → (Nat → Int32) → (Nat → Int32) → (Nat → Int32) → (Nat → Int64) → Int32 → Int32 → Option ((Nat → Int64))} (kh27 : ∀ (J : Nat → Nat → Int64) (x1 : Int32) (x2 : Int32) (H : Heap) (locs : List Loc) (ls : Array Slot), K27 (F 0) (F 2) (I 2) (I 4) (I 5) (I 11) (I 12) (J 8) x1 x2 = some (Jf 8) → (∀ k, k ∉ ([8] : List Nat) → Jf k = J k) → va_P D vwCl (wC a kc F G I J Z) H → va_S (ad a 44 s.heap.size) s.heap H locs → lv_has ls 5 [(0, .ref (a 22)), (1, .int x1), (2, .int x2)] → W p l e rm_X6_walkForward s m args below meth c H locs 0 0 (MQ below (Qv D (wC a kc F G I Jf Z) (ad a 44 s.heap.size)) args s 0 0 (ad a 44 s.heap.size)) (F0 m 27 ls [])) :
    ∀ (J : Nat → Nat → Int64) (x1 : Int32) (x2 : Int32) (H : Heap) (locs : List Loc) (ls : Array Slot), p_X6_walkForward_b27x K27 (F 0) (F 2) (I 2) (I 4) (I 5) (I 11) (I 12) (J 8) x1 x2 = some (Jf 8) → (∀ k, k ∉ ([8] : List Nat) → Jf k = J k) → va_P D vwCl (wC a kc F G I J Z) H → va_S (ad a 44 s.heap.size) s.heap H locs → lv_has ls 5 [(0, .ref (a 22)), (1, .int x1), (2, .int x2)] → W p l e rm_X6_walkForward s m args below meth c H locs 0 0 (MQ below (Qv D (wC a kc F G I Jf Z) (ad a 44 s.heap.size)) args s 0 0 (ad a 44 s.heap.size)) (F0 m 27 ls []) := by
  intro J x1 x2 H locs ls hf hfJ hP hS hl
  unfold p_X6_walkForward_b27x at hf
  refine lv_iload_n X.1 X.2.1 dX6_walkForward_27 rfl (lv_at hl 2 rfl) ?_
  refine lv_iload_n X.1 X.2.1 dX6_walkForward_28 rfl (lv_at hl 1 rfl) ?_
  refine lv_icmp_gt (tgt := 109) X.1 X.2.1 dX6_walkForward_29 (by decide) (fun c29 => ?_) (fun c29 => ?_)
  · have hf := it_s hf c29
    have e0 := o1 hf
    have EJ : Jf = J := frm_eq hfJ (frm_c (e0).symm frm_n)
    exact ret_v X hS (by rw [EJ]; exact hP) dX6_walkForward_109
  · have hf := ie_s hf c29
    refine lv_iload_n X.1 X.2.1 dX6_walkForward_32 rfl (lv_at hl 2 rfl) ?_
    obtain ⟨r33, ho, hf⟩ := b1_s hf
    refine call_si (rest := []) X (c_J6_bitCount_0f7a4 x2 ho) q_3_171 q_2_164 q_1_11 q_2_165 ok_J6_bitCount_0f7a4 rfl ⟨Nat.le_of_ble_eq_true rfl, Nat.le_of_ble_eq_true rfl⟩ rfl rfl hl.1 rfl (Nat.le_of_ble_eq_true rfl) dX6_walkForward_33 hP hS (fun H locs hP hS => ?_)
    refine lv_istore_n (lv' := [(3, .int r33), (0, .ref (a 22)), (1, .int x1), (2, .int x2)]) X.1 X.2.1 dX6_walkForward_36 rfl hl (by decide) rfl (fun ls hl => ?_)
    refine lv_aload_n X.1 X.2.1 dX6_walkForward_37 rfl (lv_at hl 1 rfl) ?_
    refine gC_22_11 X q_1_213 dX6_walkForward_38 hP ?_
    refine lv_iload_n X.1 X.2.1 dX6_walkForward_41 rfl (lv_at hl 3 rfl) ?_
    obtain ⟨h42, hf⟩ := gd_s hf
    refine lC_29 (J := J) X (f := (J 8)) rfl h42 dX6_walkForward_42 hP ?_
    refine lv_lconst (v := 0) X.1 X.2.1 dX6_walkForward_43 (by decide) ?_
    refine W.lcmp X.1 X.2.1 dX6_walkForward_44 ?_
    refine lv_if_eq (tgt := 103) X.1 X.2.1 dX6_walkForward_45 (by decide) (fun c45 => ?_) (fun c45 => ?_)
    · have hf := it_s hf c45
      exact t_X6_walkForward_b103 X kh27 J x1 x2 H locs ls hf hfJ hP hS (lv_sub hl [1, 2, 3] rfl)
    · have hf := ie_s hf c45
      refine lv_iload_n X.1 X.2.1 dX6_walkForward_48 rfl (lv_at hl 0 rfl) ?_
      refine lv_aload_n X.1 X.2.1 dX6_walkForward_49 rfl (lv_at hl 1 rfl) ?_
      refine gC_22_5 X q_1_207 dX6_walkForward_50 hP ?_
      refine gC_0_10 (F := F) X (v := (F 2)) rfl q_1_91 dX6_walkForward_53 hP ?_
      refine lv_icmp_ge (tgt := 103) X.1 X.2.1 dX6_walkForward_56 (by decide) (fun c56 => ?_) (fun c56 => ?_)
      · have hf := it_s hf c56
        exact t_X6_walkForward_b103 X kh27 J x1 x2 H locs ls hf hfJ hP hS (lv_sub hl [1, 2, 3] rfl)
      · have hf := ie_s hf c56
        refine lv_aload_n X.1 X.2.1 dX6_walkForward_59 rfl (lv_at hl 1 rfl) ?_
        refine gC_22_5 X q_1_207 dX6_walkForward_60 hP ?_
        refine lv_iload_n X.1 X.2.1 dX6_walkForward_63 rfl (lv_at hl 3 rfl) ?_
        refine lv_aload_n X.1 X.2.1 dX6_walkForward_64 rfl (lv_at hl 1 rfl) ?_
        refine gC_22_5 X q_1_207 dX6_walkForward_65 hP ?_
        refine gC_0_6 X q_1_71 dX6_walkForward_68 hP ?_
        refine lv_iload_n X.1 X.2.1 dX6_walkForward_71 rfl (lv_at hl 0 rfl) ?_
        obtain ⟨h72, hf⟩ := gd_s hf
        refine lC_9 (I := I) X (f := (I 5)) rfl h72 dX6_walkForward_72 hP ?_
        refine lv_aload_n X.1 X.2.1 dX6_walkForward_73 rfl (lv_at hl 1 rfl) ?_
        refine gC_22_9 X q_1_211 dX6_walkForward_74 hP ?_
        refine lv_iload_n X.1 X.2.1 dX6_walkForward_77 rfl (lv_at hl 0 rfl) ?_
        obtain ⟨h78, hf⟩ := gd_s hf
        refine lC_27 (I := I) X (f := (I 12)) rfl h78 dX6_walkForward_78 hP ?_
        obtain ⟨r79, ho, hf⟩ := b1_s hf
        refine call_vi (rest := []) X (c_X3_choices F G I J Z X.2.2.2.2.2.2.2.1 x2 ((I 5) r33.toNatClampNeg) ((I 12) r33.toNatClampNeg) ho) q_3_172 q_2_181 q_2_182 q_1_2 q_2_183 ok_X3_choices rfl 0 rfl rfl ⟨Nat.le_of_ble_eq_true rfl, Nat.le_of_ble_eq_true rfl⟩ rfl rfl hl.1 rfl (Nat.le_of_ble_eq_true rfl) dX6_walkForward_79 hP hS (fun H locs hP hS => ?_)
        refine lv_istore (lv' := [(4, .int r79), (3, .int r33), (0, .ref (a 22)), (1, .int x1), (2, .int x2)]) X.1 X.2.1 dX6_walkForward_82 hl (by decide) rfl (fun ls hl => ?_)
        refine lv_aload_n X.1 X.2.1 dX6_walkForward_84 rfl (lv_at hl 2 rfl) ?_
        refine lv_iload_n X.1 X.2.1 dX6_walkForward_85 rfl (lv_at hl 4 rfl) ?_
        refine lv_iload X.1 X.2.1 dX6_walkForward_86 (lv_at hl 0 rfl) ?_
        refine lv_aload_n X.1 X.2.1 dX6_walkForward_88 rfl (lv_at hl 2 rfl) ?_
        refine gC_22_8 X q_1_210 dX6_walkForward_89 hP ?_
        refine lv_iload_n X.1 X.2.1 dX6_walkForward_92 rfl (lv_at hl 1 rfl) ?_
        obtain ⟨h93, hf⟩ := gd_s hf
        refine lC_26 (I := I) X (f := (I 11)) rfl h93 dX6_walkForward_93 hP ?_
        refine lv_iand X.1 X.2.1 dX6_walkForward_94 ?_
        refine lv_iload X.1 X.2.1 dX6_walkForward_95 (lv_at hl 0 rfl) ?_
        obtain ⟨r97, ho, hf⟩ := b1_s hf
        refine call_si (rest := [.int (r79 &&& ((I 11) r33.toNatClampNeg)), .int x2, .ref (a 22)]) X (c_J6_bitCount_0f7a4 r79 ho) q_3_171 q_2_164 q_1_11 q_2_165 ok_J6_bitCount_0f7a4 rfl ⟨Nat.le_of_ble_eq_true rfl, Nat.le_of_ble_eq_true rfl⟩ rfl rfl hl.1 rfl (Nat.le_of_ble_eq_true rfl) dX6_walkForward_97 hP hS (fun H locs hP hS => ?_)
        obtain ⟨W_reach_100, ho, hf⟩ := b1_s hf
        refine call_vv (rest := []) X (c_X6_spread F G I J Z X.2.2.2.2.2.2.2.1 x2 (r79 &&& ((I 11) r33.toNatClampNeg)) r97 ho) q_3_173 q_3_175 qs_yX6_spread q_1_6 q_3_176 ok_X6_spread rfl 22 rfl rfl ⟨Nat.le_of_ble_eq_true rfl, Nat.le_of_ble_eq_true rfl⟩ rfl rfl hl.1 rfl (Nat.le_of_ble_eq_true rfl) dX6_walkForward_100 hP hS (fun H locs hP hS => ?_)
        exact t_X6_walkForward_b103 X kh27 (va_up J 8 W_reach_100) x1 x2 H locs ls hf (frm_up hfJ (by decide)) hP hS (lv_sub hl [2, 3, 4] rfl)
set_option maxRecDepth 100000 in
theorem t_X6_walkForward_b27 {p : Program} {l : Launch} {e : Env} {s : State} {m : MethodId} {args : Array Value} {below : List Frame} {meth : Method} {c : Code} {D : va_G} {a : Nat → Nat} {kc : Nat → ClassId} (X : cx 44 p s m args meth c D (tyC kc) a cX6_walkForward 5 RX6 none) {F : Nat → Int32} {G : Nat → Int64} {I : Nat → Nat → Int32} {Z : Nat → Nat → Nat → Int32} {Jf : Nat → Nat → Int64}  :
    ∀ (n : Nat) (J : Nat → Nat → Int64) (x1 : Int32) (x2 : Int32) (H : Heap) (locs : List Loc) (ls : Array Slot), p_X6_walkForward_b27 n (F 0) (F 2) (I 2) (I 4) (I 5) (I 11) (I 12) (J 8) x1 x2 = some (Jf 8) → (∀ k, k ∉ ([8] : List Nat) → Jf k = J k) → va_P D vwCl (wC a kc F G I J Z) H → va_S (ad a 44 s.heap.size) s.heap H locs → lv_has ls 5 [(0, .ref (a 22)), (1, .int x1), (2, .int x2)] → W p l e rm_X6_walkForward s m args below meth c H locs 0 0 (MQ below (Qv D (wC a kc F G I Jf Z) (ad a 44 s.heap.size)) args s 0 0 (ad a 44 s.heap.size)) (F0 m 27 ls []) := by
  intro n
  induction n with
  | zero => intro J x1 x2 H locs ls hf hfJ hP hS hl; exact (nos hf).elim
  | succ n ih => exact t_X6_walkForward_b27x X ih
set_option maxHeartbeats 4000000 in
set_option maxRecDepth 100000 in
theorem t_X6_walkForward_b0 {p : Program} {l : Launch} {e : Env} {s : State} {m : MethodId} {args : Array Value} {below : List Frame} {meth : Method} {c : Code} {D : va_G} {a : Nat → Nat} {kc : Nat → ClassId} (X : cx 44 p s m args meth c D (tyC kc) a cX6_walkForward 5 RX6 none) {F : Nat → Int32} {G : Nat → Int64} {I : Nat → Nat → Int32} {Z : Nat → Nat → Nat → Int32} {Jf : Nat → Nat → Int64}  :
    ∀ (J : Nat → Nat → Int64)  (H : Heap) (locs : List Loc) (ls : Array Slot), p_X6_walkForward_b0 (F 0) (F 2) (I 2) (I 4) (I 5) (I 11) (I 12) (J 8)  = some (Jf 8) → (∀ k, k ∉ ([8] : List Nat) → Jf k = J k) → va_P D vwCl (wC a kc F G I J Z) H → va_S (ad a 44 s.heap.size) s.heap H locs → lv_has ls 5 [(0, .ref (a 22))] → W p l e rm_X6_walkForward s m args below meth c H locs 0 0 (MQ below (Qv D (wC a kc F G I Jf Z) (ad a 44 s.heap.size)) args s 0 0 (ad a 44 s.heap.size)) (F0 m 0 ls []) := by
  intro J  H locs ls hf hfJ hP hS hl
  unfold p_X6_walkForward_b0 at hf
  refine lv_aload_n X.1 X.2.1 dX6_walkForward_0 rfl (lv_at hl 0 rfl) ?_
  refine gC_22_11 X q_1_213 dX6_walkForward_1 hP ?_
  refine lv_lconst (v := 0) X.1 X.2.1 dX6_walkForward_4 (by decide) ?_
  obtain ⟨W_reach_5, eW_reach_5, hf⟩ := nm_x hf
  refine flC_29 (J := J) (rest := []) X eW_reach_5 q_3_150 (Nat.le_of_ble_eq_true rfl) (Nat.le_of_ble_eq_true rfl) hl.1 (Nat.le_of_ble_eq_true rfl) dX6_walkForward_5 hP hS (fun H locs hP hS => ?_)
  refine lv_aload_n X.1 X.2.1 dX6_walkForward_8 rfl (lv_at hl 0 rfl) ?_
  refine gC_22_11 X q_1_213 dX6_walkForward_9 hP ?_
  refine lv_iconst (v := 0) X.1 X.2.1 dX6_walkForward_12 (by decide) ?_
  refine lv_ldc2 (v := 182891520000) X.1 X.2.1 X.2.2.2.2.1 (X.2.2.2.2.2.1 _ q_3_170) dX6_walkForward_13 ?_
  obtain ⟨h16, hf⟩ := gd_s hf
  obtain ⟨W_reach_16, eW_reach_16, hf⟩ := nm_x hf
  refine sC_29 (J := (va_up J 8 W_reach_5)) X h16 eW_reach_16 dX6_walkForward_16 hP hS (fun H locs hP hS => ?_)
  refine lv_aload_n X.1 X.2.1 dX6_walkForward_17 rfl (lv_at hl 0 rfl) ?_
  refine gC_22_5 X q_1_207 dX6_walkForward_18 hP ?_
  obtain ⟨r21, ho, hf⟩ := b1_s hf
  refine call_vi (rest := []) X (c_X3_allSeats F G I (va_up (va_up J 8 W_reach_5) 8 W_reach_16) Z X.2.2.2.2.2.2.2.1  ho) q_3_156 q_2_160 q_2_161 q_1_2 q_2_162 ok_X3_allSeats rfl 0 rfl rfl ⟨Nat.le_of_ble_eq_true rfl, Nat.le_of_ble_eq_true rfl⟩ rfl rfl hl.1 rfl (Nat.le_of_ble_eq_true rfl) dX6_walkForward_21 hP hS (fun H locs hP hS => ?_)
  refine lv_istore_n (lv' := [(1, .int r21), (0, .ref (a 22))]) X.1 X.2.1 dX6_walkForward_24 rfl hl (by decide) rfl (fun ls hl => ?_)
  refine lv_iconst (v := 0) X.1 X.2.1 dX6_walkForward_25 (by decide) ?_
  refine lv_istore_n (lv' := [(2, .int 0), (1, .int r21), (0, .ref (a 22))]) X.1 X.2.1 dX6_walkForward_26 rfl hl (by decide) rfl (fun ls hl => ?_)
  exact t_X6_walkForward_b27 X 4096 (va_up (va_up J 8 W_reach_5) 8 W_reach_16) r21 0 H locs ls hf (frm_up (frm_up hfJ (by decide)) (by decide)) hP hS (lv_sub hl [2, 1, 0] rfl)
set_option maxRecDepth 100000 in
theorem c_X6_walkForward {l : Launch} {D : va_G} {a : Nat → Nat} {kc : Nat → ClassId} (F : Nat → Int32) (G : Nat → Int64) (I : Nat → Nat → Int32) (J : Nat → Nat → Int64) (Z : Nat → Nat → Nat → Int32) (hAp : ∀ i j, i < 44 → j < 44 → a i = a j → i = j)  {o0 : Nat → Int64} (hf : p_X6_walkForward (F 0) (F 2) (I 2) (I 4) (I 5) (I 11) (I 12) (J 8)  = some o0) : Ct 44 l yX6_walkForward cX6_walkForward 5 none rm_X6_walkForward D (tyC kc) a (wC a kc F G I J Z) [.ref (a 22)] (Qv D (wC a kc F G I (va_up J 8 o0) Z)) :=
  Ct.of (by decide +kernel) hAp (Nat.le_of_ble_eq_true rfl) (fun p e s m args below meth c ls X hP hl => t_X6_walkForward_b0 X J  _ _ _ hf (frm_ul (fun k _ => rfl) (by decide)) hP va_S.rf hl)
