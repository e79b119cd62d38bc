abbrev rm_X8_looks : Room := { frames := 5, cells := 0, slots := 0, locals := 126 }
set_option maxHeartbeats 4000000 in
set_option maxRecDepth 100000 in
theorem t_X8_looks_b24 {p : Program} {l : Launch} {e : Env} {s : State} {m : MethodId} {args : Array Value} {below : List Frame} {meth : Method} {c : Code} {D : va_G} {a : Nat → Nat} {kc : Nat → ClassId} (X : cx 21 p s m args meth c D (tyM kc) a cX8_looks 2 RX8 (some .long))  {Ff : Nat → Int32} {Gf : Nat → Int64} {If : Nat → Nat → Int32} {Jf : Nat → Nat → Int64} {r : Int64} :
    ∀ (F : Nat → Int32) (G : Nat → Int64) (I : Nat → Nat → Int32) (J : Nat → Nat → Int64) (t0 : Int64) (H : Heap) (locs : List Loc) (ls : Array Slot), p_X8_looks_b24 (F 1) (F 2) (F 3) (F 4) (F 5) (F 6) (F 7) (F 8) (G 0) (I 4) (I 5) (I 6) (I 7) (I 8) (I 9) (I 10) (J 0) (J 1) t0 = some (r, (Ff 1), (Ff 2), (Ff 3), (Ff 4), (Ff 5), (Ff 6), (Ff 8), (Gf 0), (If 6), (If 7), (If 8), (If 9), (If 10), (Jf 0), (Jf 1)) → (∀ k, k ∉ ([1, 2, 3, 4, 5, 6, 8] : List Nat) → Ff k = F k) → (∀ k, k ∉ ([0] : List Nat) → Gf k = G k) → (∀ k, k ∉ ([6, 7, 8, 9, 10] : List Nat) → If k = I k) → (∀ k, k ∉ ([0, 1] : List Nat) → Jf k = J k) → va_P D vwCl (wM a kc F G I J) H → va_S (ad a 21 s.heap.size) s.heap H locs → lv_has ls 2 [(0, .ref (a 0))] → W p l e rm_X8_looks s m args below meth c H locs 0 0 (MQ below (Ql D (wM a kc Ff Gf If Jf) r (ad a 21 s.heap.size)) args s 0 0 (ad a 21 s.heap.size)) (F0 m 24 ls [.long t0]) := by
  intro F G I J t0 H locs ls hf hfF hfG hfI hfJ hP hS hl
  unfold p_X8_looks_b24 at hf
  obtain ⟨e0, hf⟩ := o2 hf
  obtain ⟨e1, hf⟩ := o2 hf
  obtain ⟨e2, hf⟩ := o2 hf
  obtain ⟨e3, hf⟩ := o2 hf
  obtain ⟨e4, hf⟩ := o2 hf
  obtain ⟨e5, hf⟩ := o2 hf
  obtain ⟨e6, hf⟩ := o2 hf
  obtain ⟨e7, hf⟩ := o2 hf
  obtain ⟨e8, hf⟩ := o2 hf
  obtain ⟨e9, hf⟩ := o2 hf
  obtain ⟨e10, hf⟩ := o2 hf
  obtain ⟨e11, hf⟩ := o2 hf
  obtain ⟨e12, hf⟩ := o2 hf
  obtain ⟨e13, hf⟩ := o2 hf
  obtain ⟨e14, hf⟩ := o2 hf
  have e15 := o1 hf
  have EF : Ff = F := frm_eq hfF (frm_c (e1).symm (frm_c (e2).symm (frm_c (e3).symm (frm_c (e4).symm (frm_c (e5).symm (frm_c (e6).symm (frm_c (e7).symm frm_n)))))))
  have EG : Gf = G := frm_eq hfG (frm_c (e8).symm frm_n)
  have EI : If = I := frm_eq hfI (frm_c (e9).symm (frm_c (e10).symm (frm_c (e11).symm (frm_c (e12).symm (frm_c (e13).symm frm_n)))))
  have EJ : Jf = J := frm_eq hfJ (frm_c (e14).symm (frm_c (e15).symm frm_n))
  exact ret_l X hS (by rw [EF, EG, EI, EJ]; exact hP) e0 dX8_looks_24
set_option maxHeartbeats 4000000 in
set_option maxRecDepth 100000 in
theorem t_X8_looks_b0 {p : Program} {l : Launch} {e : Env} {s : State} {m : MethodId} {args : Array Value} {below : List Frame} {meth : Method} {c : Code} {D : va_G} {a : Nat → Nat} {kc : Nat → ClassId} (X : cx 21 p s m args meth c D (tyM kc) a cX8_looks 2 RX8 (some .long))  {Ff : Nat → Int32} {Gf : Nat → Int64} {If : Nat → Nat → Int32} {Jf : Nat → Nat → Int64} {r : Int64} :
    ∀ (F : Nat → Int32) (G : Nat → Int64) (I : Nat → Nat → Int32) (J : Nat → Nat → Int64) (x1 : Int32) (H : Heap) (locs : List Loc) (ls : Array Slot), p_X8_looks_b0 (F 1) (F 2) (F 3) (F 4) (F 5) (F 6) (F 7) (F 8) (G 0) (I 4) (I 5) (I 6) (I 7) (I 8) (I 9) (I 10) (J 0) (J 1) x1 = some (r, (Ff 1), (Ff 2), (Ff 3), (Ff 4), (Ff 5), (Ff 6), (Ff 8), (Gf 0), (If 6), (If 7), (If 8), (If 9), (If 10), (Jf 0), (Jf 1)) → (∀ k, k ∉ ([1, 2, 3, 4, 5, 6, 8] : List Nat) → Ff k = F k) → (∀ k, k ∉ ([0] : List Nat) → Gf k = G k) → (∀ k, k ∉ ([6, 7, 8, 9, 10] : List Nat) → If k = I k) → (∀ k, k ∉ ([0, 1] : List Nat) → Jf k = J k) → va_P D vwCl (wM a kc F G I J) H → va_S (ad a 21 s.heap.size) s.heap H locs → lv_has ls 2 [(0, .ref (a 0)), (1, .int x1)] → W p l e rm_X8_looks s m args below meth c H locs 0 0 (MQ below (Ql D (wM a kc Ff Gf If Jf) r (ad a 21 s.heap.size)) args s 0 0 (ad a 21 s.heap.size)) (F0 m 0 ls []) := by
  intro F G I J x1 H locs ls hf hfF hfG hfI hfJ hP hS hl
  unfold p_X8_looks_b0 at hf
  refine lv_aload_n X.1 X.2.1 dX8_looks_0 rfl (lv_at hl 0 rfl) ?_
  obtain ⟨m_at_1, m_seats_1, m_rows_1, m_people_1, m_sorts_1, m_rowOf_1, m_own_1, m_kinds_1, ho, hf⟩ := b8_s hf
  refine call_vv (rest := []) X (c_X8_find F G I J X.2.2.2.2.2.2.2.1  ho) q_5_69 q_5_71 qs_yX8_find q_1_10 q_5_72 ok_X8_find rfl 0 rfl rfl ⟨Nat.le_of_ble_eq_true rfl, Nat.le_of_ble_eq_true rfl⟩ rfl rfl hl.1 rfl (Nat.le_of_ble_eq_true rfl) dX8_looks_1 hP hS (fun H locs hP hS => ?_)
  refine lv_iload_n X.1 X.2.1 dX8_looks_4 rfl (lv_at hl 1 rfl) ?_
  obtain ⟨r5, ho, hf⟩ := b1_s hf
  refine call_si (rest := []) X (c_X8_isTwo x1 ho) q_5_22 q_5_23 q_1_10 q_5_24 ok_X8_isTwo rfl ⟨Nat.le_of_ble_eq_true rfl, Nat.le_of_ble_eq_true rfl⟩ rfl rfl hl.1 rfl (Nat.le_of_ble_eq_true rfl) dX8_looks_5 hP hS (fun H locs hP hS => ?_)
  refine lv_if_eq (tgt := 19) X.1 X.2.1 dX8_looks_8 (by decide) (fun c8 => ?_) (fun c8 => ?_)
  · have hf := it_s hf c8
    refine lv_bipush (v := (-2)) X.1 X.2.1 dX8_looks_19 (by decide) ?_
    obtain ⟨r21, ho, hf⟩ := b1_s hf
    refine call_sl (rest := []) X (c_X8_no (-2) ho) q_5_158 q_5_159 q_1_10 q_5_160 ok_X8_no rfl ⟨Nat.le_of_ble_eq_true rfl, Nat.le_of_ble_eq_true rfl⟩ rfl rfl hl.1 rfl (Nat.le_of_ble_eq_true rfl) dX8_looks_21 hP hS (fun H locs hP hS => ?_)
    exact t_X8_looks_b24 X (va_up (va_up (va_up (va_up F 1 m_at_1) 2 m_seats_1) 3 m_rows_1) 4 m_people_1) G (va_up (va_up (va_up (va_up I 6 m_sorts_1) 7 m_rowOf_1) 8 m_own_1) 9 m_kinds_1) J r21 H locs ls hf (frm_up (frm_up (frm_up (frm_up hfF (by decide)) (by decide)) (by decide)) (by decide)) hfG (frm_up (frm_up (frm_up (frm_up hfI (by decide)) (by decide)) (by decide)) (by decide)) hfJ hP hS (lv_sub hl [0] rfl)
  · have hf := ie_s hf c8
    refine lv_aload_n X.1 X.2.1 dX8_looks_11 rfl (lv_at hl 0 rfl) ?_
    refine lv_iload_n X.1 X.2.1 dX8_looks_12 rfl (lv_at hl 1 rfl) ?_
    obtain ⟨r13, m_loser_13, m_onlyWho_13, m_keptFree_13, m_all_13, m_keptSeat_13, m_ways_13, m_next_13, ho, hf⟩ := b8_s hf
    refine call_vl (rest := []) X (c_X8_looksNow (va_up (va_up (va_up (va_up F 1 m_at_1) 2 m_seats_1) 3 m_rows_1) 4 m_people_1) G (va_up (va_up (va_up (va_up I 6 m_sorts_1) 7 m_rowOf_1) 8 m_own_1) 9 m_kinds_1) J X.2.2.2.2.2.2.2.1 x1 ho) q_5_203 q_5_205 qs_yX8_looksNow q_1_10 q_5_206 ok_X8_looksNow rfl 0 rfl rfl ⟨Nat.le_of_ble_eq_true rfl, Nat.le_of_ble_eq_true rfl⟩ rfl rfl hl.1 rfl (Nat.le_of_ble_eq_true rfl) dX8_looks_13 hP hS (fun H locs hP hS => ?_)
    refine lv_goto (tgt := 24) X.1 X.2.1 dX8_looks_16 (by decide) ?_
    exact t_X8_looks_b24 X (va_up (va_up (va_up (va_up (va_up (va_up (va_up F 1 m_at_1) 2 m_seats_1) 3 m_rows_1) 4 m_people_1) 5 m_loser_13) 6 m_onlyWho_13) 8 m_keptFree_13) (va_up G 0 m_all_13) (va_up (va_up (va_up (va_up (va_up I 6 m_sorts_1) 7 m_rowOf_1) 8 m_own_1) 9 m_kinds_1) 10 m_keptSeat_13) (va_up (va_up J 0 m_ways_13) 1 m_next_13) r13 H locs ls hf (frm_up (frm_up (frm_up (frm_up (frm_up (frm_up (frm_up hfF (by decide)) (by decide)) (by decide)) (by decide)) (by decide)) (by decide)) (by decide)) (frm_up hfG (by decide)) (frm_up (frm_up (frm_up (frm_up (frm_up hfI (by decide)) (by decide)) (by decide)) (by decide)) (by decide)) (frm_up (frm_up hfJ (by decide)) (by decide)) hP hS (lv_sub hl [0] rfl)
set_option maxRecDepth 100000 in
theorem c_X8_looks {l : Launch} {D : va_G} {a : Nat → Nat} {kc : Nat → ClassId} (F : Nat → Int32) (G : Nat → Int64) (I : Nat → Nat → Int32) (J : Nat → Nat → Int64) (hAp : ∀ i j, i < 21 → j < 21 → a i = a j → i = j) (x1 : Int32) {o0 : Int64} {o1 : Int32} {o2 : Int32} {o3 : Int32} {o4 : Int32} {o5 : Int32} {o6 : Int32} {o7 : Int32} {o8 : Int64} {o9 : Nat → Int32} {o10 : Nat → Int32} {o11 : Nat → Int32} {o12 : Nat → Int32} {o13 : Nat → Int32} {o14 : Nat → Int64} {o15 : Nat → Int64} (hf : p_X8_looks (F 1) (F 2) (F 3) (F 4) (F 5) (F 6) (F 7) (F 8) (G 0) (I 4) (I 5) (I 6) (I 7) (I 8) (I 9) (I 10) (J 0) (J 1) x1 = some (o0, o1, o2, o3, o4, o5, o6, o7, o8, o9, o10, o11, o12, o13, o14, o15)) : Ct 21 l yX8_looks cX8_looks 2 (some .long) rm_X8_looks D (tyM kc) a (wM a kc F G I J) [.ref (a 0), .int x1] (Ql D (wM a kc (va_up (va_up (va_up (va_up (va_up (va_up (va_up F 1 o1) 2 o2) 3 o3) 4 o4) 5 o5) 6 o6) 8 o7) (va_up G 0 o8) (va_up (va_up (va_up (va_up (va_up I 6 o9) 7 o10) 8 o11) 9 o12) 10 o13) (va_up (va_up J 0 o14) 1 o15)) o0) :=
  Ct.of (by decide +kernel) hAp (Nat.le_of_ble_eq_true rfl) (fun p e s m args below meth c ls X hP hl => t_X8_looks_b0 X F G I J x1 _ _ _ hf (frm_ul (frm_ul (frm_ul (frm_ul (frm_ul (frm_ul (frm_ul (fun k _ => rfl) (by decide)) (by decide)) (by decide)) (by decide)) (by decide)) (by decide)) (by decide)) (frm_ul (fun k _ => rfl) (by decide)) (frm_ul (frm_ul (frm_ul (frm_ul (frm_ul (fun k _ => rfl) (by decide)) (by decide)) (by decide)) (by decide)) (by decide)) (frm_ul (frm_ul (fun k _ => rfl) (by decide)) (by decide)) hP va_S.rf hl)
abbrev rm_X8_noSitting : Room := { frames := 3, cells := 0, slots := 0, locals := 67 }
set_option maxHeartbeats 4000000 in
set_option maxRecDepth 100000 in
theorem t_X8_noSitting_b48 {p : Program} {l : Launch} {e : Env} {s : State} {m : MethodId} {args : Array Value} {below : List Frame} {meth : Method} {c : Code} {D : va_G} {a : Nat → Nat} {kc : Nat → ClassId} (X : cx 21 p s m args meth c D (tyM kc) a cX8_noSitting 2 RX8 (some .int)) {G : Nat → Int64} {J : Nat → Nat → Int64} {Ff : Nat → Int32} {If : Nat → Nat → Int32} {r : Int32} :
    ∀ (F : Nat → Int32) (I : Nat → Nat → Int32) (t0 : Int32) (H : Heap) (locs : List Loc) (ls : Array Slot), p_X8_noSitting_b48 (F 0) (F 1) (F 2) (F 3) (F 4) (I 0) (I 1) (I 4) (I 5) (I 6) (I 7) (I 8) (I 9) t0 = some (r, (Ff 0), (Ff 1), (Ff 2), (Ff 3), (Ff 4), (If 6), (If 7), (If 8), (If 9)) → (∀ k, k ∉ ([0, 1, 2, 3, 4] : List Nat) → Ff k = F k) → (∀ k, k ∉ ([6, 7, 8, 9] : List Nat) → If k = I k) → va_P D vwCl (wM a kc F G I J) H → va_S (ad a 21 s.heap.size) s.heap H locs → lv_has ls 2 [(0, .ref (a 0))] → W p l e rm_X8_noSitting s m args below meth c H locs 0 0 (MQ below (Qi D (wM a kc Ff G If J) r (ad a 21 s.heap.size)) args s 0 0 (ad a 21 s.heap.size)) (F0 m 48 ls [.int t0]) := by
  intro F I t0 H locs ls hf hfF hfI hP hS hl
  unfold p_X8_noSitting_b48 at hf
  obtain ⟨e0, hf⟩ := o2 hf
  obtain ⟨e1, hf⟩ := o2 hf
  obtain ⟨e2, hf⟩ := o2 hf
  obtain ⟨e3, hf⟩ := o2 hf
  obtain ⟨e4, hf⟩ := o2 hf
  obtain ⟨e5, hf⟩ := o2 hf
  obtain ⟨e6, hf⟩ := o2 hf
  obtain ⟨e7, hf⟩ := o2 hf
  obtain ⟨e8, hf⟩ := o2 hf
  have e9 := o1 hf
  have EF : Ff = F := frm_eq hfF (frm_c (e1).symm (frm_c (e2).symm (frm_c (e3).symm (frm_c (e4).symm (frm_c (e5).symm frm_n)))))
  have EI : If = I := frm_eq hfI (frm_c (e6).symm (frm_c (e7).symm (frm_c (e8).symm (frm_c (e9).symm frm_n))))
  exact ret_i X hS (by rw [EF, EI]; exact hP) e0 dX8_noSitting_48
set_option maxHeartbeats 4000000 in
set_option maxRecDepth 100000 in
theorem t_X8_noSitting_b0 {p : Program} {l : Launch} {e : Env} {s : State} {m : MethodId} {args : Array Value} {below : List Frame} {meth : Method} {c : Code} {D : va_G} {a : Nat → Nat} {kc : Nat → ClassId} (X : cx 21 p s m args meth c D (tyM kc) a cX8_noSitting 2 RX8 (some .int)) {G : Nat → Int64} {J : Nat → Nat → Int64} {Ff : Nat → Int32} {If : Nat → Nat → Int32} {r : Int32} :
    ∀ (F : Nat → Int32) (I : Nat → Nat → Int32) (x1 : Int32) (H : Heap) (locs : List Loc) (ls : Array Slot), p_X8_noSitting_b0 (F 0) (F 1) (F 2) (F 3) (F 4) (I 0) (I 1) (I 4) (I 5) (I 6) (I 7) (I 8) (I 9) x1 = some (r, (Ff 0), (Ff 1), (Ff 2), (Ff 3), (Ff 4), (If 6), (If 7), (If 8), (If 9)) → (∀ k, k ∉ ([0, 1, 2, 3, 4] : List Nat) → Ff k = F k) → (∀ k, k ∉ ([6, 7, 8, 9] : List Nat) → If k = I k) → va_P D vwCl (wM a kc F G I J) H → va_S (ad a 21 s.heap.size) s.heap H locs → lv_has ls 2 [(0, .ref (a 0)), (1, .int x1)] → W p l e rm_X8_noSitting s m args below meth c H locs 0 0 (MQ below (Qi D (wM a kc Ff G If J) r (ad a 21 s.heap.size)) args s 0 0 (ad a 21 s.heap.size)) (F0 m 0 ls []) := by
  intro F I x1 H locs ls hf hfF hfI hP hS hl
  unfold p_X8_noSitting_b0 at hf
  refine lv_iload_n X.1 X.2.1 dX8_noSitting_0 rfl (lv_at hl 1 rfl) ?_
  obtain ⟨r1, ho, hf⟩ := b1_s hf
  refine call_si (rest := []) X (c_X8_isSheet x1 ho) q_4_222 q_4_223 q_1_10 q_4_224 ok_X8_isSheet rfl ⟨Nat.le_of_ble_eq_true rfl, Nat.le_of_ble_eq_true rfl⟩ rfl rfl hl.1 rfl (Nat.le_of_ble_eq_true rfl) dX8_noSitting_1 hP hS (fun H locs hP hS => ?_)
  refine lv_if_ne (tgt := 10) X.1 X.2.1 dX8_noSitting_4 (by decide) (fun c4 => ?_) (fun c4 => ?_)
  · have hf := ie_s hf c4
    refine lv_aload_n X.1 X.2.1 dX8_noSitting_10 rfl (lv_at hl 0 rfl) ?_
    refine gM_0_0 X q_4_109 dX8_noSitting_11 hP ?_
    refine lv_iload_n X.1 X.2.1 dX8_noSitting_14 rfl (lv_at hl 1 rfl) ?_
    obtain ⟨h15, hf⟩ := gd_s hf
    refine lM_1 (I := I) X (f := (I 0)) rfl h15 dX8_noSitting_15 hP ?_
    refine lv_if_ge (tgt := 25) X.1 X.2.1 dX8_noSitting_16 (by decide) (fun c16 => ?_) (fun c16 => ?_)
    · have hf := it_s hf c16
      refine lv_aload_n X.1 X.2.1 dX8_noSitting_25 rfl (lv_at hl 0 rfl) ?_
      obtain ⟨m_at_26, m_seats_26, m_rows_26, m_people_26, m_sorts_26, m_rowOf_26, m_own_26, m_kinds_26, ho, hf⟩ := b8_s hf
      refine call_vv (rest := []) X (c_X8_find F G I J X.2.2.2.2.2.2.2.1  ho) q_5_69 q_5_71 qs_yX8_find q_1_10 q_5_72 ok_X8_find rfl 0 rfl rfl ⟨Nat.le_of_ble_eq_true rfl, Nat.le_of_ble_eq_true rfl⟩ rfl rfl hl.1 rfl (Nat.le_of_ble_eq_true rfl) dX8_noSitting_26 hP hS (fun H locs hP hS => ?_)
      refine lv_aload_n X.1 X.2.1 dX8_noSitting_29 rfl (lv_at hl 0 rfl) ?_
      refine gM_0_1 X q_4_110 dX8_noSitting_30 hP ?_
      refine lv_iload_n X.1 X.2.1 dX8_noSitting_33 rfl (lv_at hl 1 rfl) ?_
      obtain ⟨h34, hf⟩ := gd_s hf
      refine lM_2 (I := (va_up (va_up (va_up (va_up I 6 m_sorts_26) 7 m_rowOf_26) 8 m_own_26) 9 m_kinds_26)) X (f := (I 1)) rfl h34 dX8_noSitting_34 hP ?_
      refine lv_aload_n X.1 X.2.1 dX8_noSitting_35 rfl (lv_at hl 0 rfl) ?_
      refine gM_0_12 (F := (va_up (va_up (va_up (va_up F 1 m_at_26) 2 m_seats_26) 3 m_rows_26) 4 m_people_26)) X (v := m_people_26) rfl q_4_121 dX8_noSitting_36 hP ?_
      refine lv_icmp_ge (tgt := 47) X.1 X.2.1 dX8_noSitting_39 (by decide) (fun c39 => ?_) (fun c39 => ?_)
      · have hf := it_s hf c39
        refine lv_iconst (v := 0) X.1 X.2.1 dX8_noSitting_47 (by decide) ?_
        exact t_X8_noSitting_b48 X (va_up (va_up (va_up (va_up F 1 m_at_26) 2 m_seats_26) 3 m_rows_26) 4 m_people_26) (va_up (va_up (va_up (va_up I 6 m_sorts_26) 7 m_rowOf_26) 8 m_own_26) 9 m_kinds_26) 0 H locs ls hf (frm_up (frm_up (frm_up (frm_up hfF (by decide)) (by decide)) (by decide)) (by decide)) (frm_up (frm_up (frm_up (frm_up hfI (by decide)) (by decide)) (by decide)) (by decide)) hP hS (lv_sub hl [0] rfl)
      · have hf := ie_s hf c39
        refine lv_bipush (v := (-3)) X.1 X.2.1 dX8_noSitting_42 (by decide) ?_
        refine lv_goto (tgt := 48) X.1 X.2.1 dX8_noSitting_44 (by decide) ?_
        exact t_X8_noSitting_b48 X (va_up (va_up (va_up (va_up F 1 m_at_26) 2 m_seats_26) 3 m_rows_26) 4 m_people_26) (va_up (va_up (va_up (va_up I 6 m_sorts_26) 7 m_rowOf_26) 8 m_own_26) 9 m_kinds_26) (-3) H locs ls hf (frm_up (frm_up (frm_up (frm_up hfF (by decide)) (by decide)) (by decide)) (by decide)) (frm_up (frm_up (frm_up (frm_up hfI (by decide)) (by decide)) (by decide)) (by decide)) hP hS (lv_sub hl [0] rfl)
    · have hf := ie_s hf c16
      refine lv_aload_n X.1 X.2.1 dX8_noSitting_19 rfl (lv_at hl 0 rfl) ?_
      refine lv_iconst (v := 1) X.1 X.2.1 dX8_noSitting_20 (by decide) ?_
      obtain ⟨r21, m_latest_21, ho, hf⟩ := b2_s hf
      refine call_vi (rest := []) X (c_X8_met F G I J X.2.2.2.2.2.2.2.1 1 ho) q_4_230 q_4_232 qs_yX8_met q_1_10 q_4_233 ok_X8_met rfl 0 rfl rfl ⟨Nat.le_of_ble_eq_true rfl, Nat.le_of_ble_eq_true rfl⟩ rfl rfl hl.1 rfl (Nat.le_of_ble_eq_true rfl) dX8_noSitting_21 hP hS (fun H locs hP hS => ?_)
      obtain ⟨e0, hf⟩ := o2 hf
      obtain ⟨e1, hf⟩ := o2 hf
      obtain ⟨e2, hf⟩ := o2 hf
      obtain ⟨e3, hf⟩ := o2 hf
      obtain ⟨e4, hf⟩ := o2 hf
      obtain ⟨e5, hf⟩ := o2 hf
      obtain ⟨e6, hf⟩ := o2 hf
      obtain ⟨e7, hf⟩ := o2 hf
      obtain ⟨e8, hf⟩ := o2 hf
      have e9 := o1 hf
      have EF : Ff = (va_up F 0 m_latest_21) := frm_eq (frm_up hfF (by decide)) (frm_c (e1).symm (frm_c (e2).symm (frm_c (e3).symm (frm_c (e4).symm (frm_c (e5).symm frm_n)))))
      have EI : If = I := frm_eq hfI (frm_c (e6).symm (frm_c (e7).symm (frm_c (e8).symm (frm_c (e9).symm frm_n))))
      exact ret_i X hS (by rw [EF, EI]; exact hP) e0 dX8_noSitting_24
  · have hf := it_s hf c4
    refine lv_bipush (v := (-2)) X.1 X.2.1 dX8_noSitting_7 (by decide) ?_
    obtain ⟨e0, hf⟩ := o2 hf
    obtain ⟨e1, hf⟩ := o2 hf
    obtain ⟨e2, hf⟩ := o2 hf
    obtain ⟨e3, hf⟩ := o2 hf
    obtain ⟨e4, hf⟩ := o2 hf
    obtain ⟨e5, hf⟩ := o2 hf
    obtain ⟨e6, hf⟩ := o2 hf
    obtain ⟨e7, hf⟩ := o2 hf
    obtain ⟨e8, hf⟩ := o2 hf
    have e9 := o1 hf
    have EF : Ff = F := frm_eq hfF (frm_c (e1).symm (frm_c (e2).symm (frm_c (e3).symm (frm_c (e4).symm (frm_c (e5).symm frm_n)))))
    have EI : If = I := frm_eq hfI (frm_c (e6).symm (frm_c (e7).symm (frm_c (e8).symm (frm_c (e9).symm frm_n))))
    exact ret_i X hS (by rw [EF, EI]; exact hP) e0 dX8_noSitting_9
set_option maxRecDepth 100000 in
theorem c_X8_noSitting {l : Launch} {D : va_G} {a : Nat → Nat} {kc : Nat → ClassId} (F : Nat → Int32) (G : Nat → Int64) (I : Nat → Nat → Int32) (J : Nat → Nat → Int64) (hAp : ∀ i j, i < 21 → j < 21 → a i = a j → i = j) (x1 : Int32) {o0 : Int32} {o1 : Int32} {o2 : Int32} {o3 : Int32} {o4 : Int32} {o5 : Int32} {o6 : Nat → Int32} {o7 : Nat → Int32} {o8 : Nat → Int32} {o9 : Nat → Int32} (hf : p_X8_noSitting (F 0) (F 1) (F 2) (F 3) (F 4) (I 0) (I 1) (I 4) (I 5) (I 6) (I 7) (I 8) (I 9) x1 = some (o0, o1, o2, o3, o4, o5, o6, o7, o8, o9)) : Ct 21 l yX8_noSitting cX8_noSitting 2 (some .int) rm_X8_noSitting D (tyM kc) a (wM a kc F G I J) [.ref (a 0), .int x1] (Qi D (wM a kc (va_up (va_up (va_up (va_up (va_up F 0 o1) 1 o2) 2 o3) 3 o4) 4 o5) G (va_up (va_up (va_up (va_up I 6 o6) 7 o7) 8 o8) 9 o9) J) o0) :=
  Ct.of (by decide +kernel) hAp (Nat.le_of_ble_eq_true rfl) (fun p e s m args below meth c ls X hP hl => t_X8_noSitting_b0 X F I x1 _ _ _ hf (frm_ul (frm_ul (frm_ul (frm_ul (frm_ul (fun k _ => rfl) (by decide)) (by decide)) (by decide)) (by decide)) (by decide)) (frm_ul (frm_ul (frm_ul (frm_ul (fun k _ => rfl) (by decide)) (by decide)) (by decide)) (by decide)) hP va_S.rf hl)
abbrev rm_X8_isSeatNow : Room := { frames := 1, cells := 0, slots := 0, locals := 25 }
set_option maxHeartbeats 4000000 in
set_option maxRecDepth 100000 in
theorem t_X8_isSeatNow_b0 {p : Program} {l : Launch} {e : Env} {s : State} {m : MethodId} {args : Array Value} {below : List Frame} {meth : Method} {c : Code} {D : va_G} {a : Nat → Nat} {kc : Nat → ClassId} (X : cx 21 p s m args meth c D (tyM kc) a cX8_isSeatNow 2 RX8 (some .boolean)) {F : Nat → Int32} {G : Nat → Int64} {I : Nat → Nat → Int32} {J : Nat → Nat → Int64}  {r : Int32} :
    ∀  (x1 : Int32) (H : Heap) (locs : List Loc) (ls : Array Slot), p_X8_isSeatNow_b0 (F 2) x1 = some r → va_P D vwCl (wM a kc F G I J) H → va_S (ad a 21 s.heap.size) s.heap H locs → lv_has ls 2 [(0, .ref (a 0)), (1, .int x1)] → W p l e rm_X8_isSeatNow s m args below meth c H locs 0 0 (MQ below (Qi D (wM a kc F G I J) r (ad a 21 s.heap.size)) args s 0 0 (ad a 21 s.heap.size)) (F0 m 0 ls []) := by
  intro  x1 H locs ls hf  hP hS hl
  unfold p_X8_isSeatNow_b0 at hf
  refine lv_iload_n X.1 X.2.1 dX8_isSeatNow_0 rfl (lv_at hl 1 rfl) ?_
  refine lv_i2l X.1 X.2.1 dX8_isSeatNow_1 rfl ?_
  refine lv_lconst (v := 0) X.1 X.2.1 dX8_isSeatNow_2 (by decide) ?_
  refine lv_aload_n X.1 X.2.1 dX8_isSeatNow_3 rfl (lv_at hl 0 rfl) ?_
  refine gM_0_8 (F := F) X (v := (F 2)) rfl q_4_117 dX8_isSeatNow_4 hP ?_
  refine lv_iconst (v := 1) X.1 X.2.1 dX8_isSeatNow_7 (by decide) ?_
  refine lv_isub X.1 X.2.1 dX8_isSeatNow_8 ?_
  refine lv_i2l X.1 X.2.1 dX8_isSeatNow_9 rfl ?_
  obtain ⟨r10, ho, hf⟩ := b1_s hf
  refine call_si (rest := []) X (c_X8_in x1.toInt64 0 (((F 2) - 1).toInt64) ho) q_4_226 q_4_227 q_1_10 q_4_228 ok_X8_in rfl ⟨Nat.le_of_ble_eq_true rfl, Nat.le_of_ble_eq_true rfl⟩ rfl rfl hl.1 rfl (Nat.le_of_ble_eq_true rfl) dX8_isSeatNow_10 hP hS (fun H locs hP hS => ?_)
  obtain ⟨h13, hf⟩ := gd_s hf
  have e0 := o1 hf
  exact ret_z X hS hP e0 h13 dX8_isSeatNow_13
set_option maxRecDepth 100000 in
theorem c_X8_isSeatNow {l : Launch} {D : va_G} {a : Nat → Nat} {kc : Nat → ClassId} (F : Nat → Int32) (G : Nat → Int64) (I : Nat → Nat → Int32) (J : Nat → Nat → Int64) (hAp : ∀ i j, i < 21 → j < 21 → a i = a j → i = j) (x1 : Int32) {o0 : Int32} (hf : p_X8_isSeatNow (F 2) x1 = some o0) : Ct 21 l yX8_isSeatNow cX8_isSeatNow 2 (some .boolean) rm_X8_isSeatNow D (tyM kc) a (wM a kc F G I J) [.ref (a 0), .int x1] (Qi D (wM a kc F G I J) o0) :=
  Ct.of (by decide +kernel) hAp (Nat.le_of_ble_eq_true rfl) (fun p e s m args below meth c ls X hP hl => t_X8_isSeatNow_b0 X  x1 _ _ _ hf  hP va_S.rf hl)
abbrev rm_X8_judged : Room := { frames := 4, cells := 0, slots := 0, locals := 88 }
set_option maxHeartbeats 4000000 in
set_option maxRecDepth 100000 in
theorem t_X8_judged_b71 {p : Program} {l : Launch} {e : Env} {s : State} {m : MethodId} {args : Array Value} {below : List Frame} {meth : Method} {c : Code} {D : va_G} {a : Nat → Nat} {kc : Nat → ClassId} (X : cx 21 p s m args meth c D (tyM kc) a cX8_judged 6 RX8 (some .int)) {G : Nat → Int64} {J : Nat → Nat → Int64} {Ff : Nat → Int32} {If : Nat → Nat → Int32} {r : Int32} :
    ∀ (F : Nat → Int32) (I : Nat → Nat → Int32) (x4 : Int32) (H : Heap) (locs : List Loc) (ls : Array Slot), p_X8_judged_b71 (F 0) (F 1) (F 2) (F 3) (F 4) (I 0) (I 1) (I 2) (I 4) (I 5) (I 6) (I 7) (I 8) (I 9) x4 = some (r, (Ff 0), (Ff 1), (Ff 2), (Ff 3), (Ff 4), (If 6), (If 7), (If 8), (If 9)) → (∀ k, k ∉ ([0, 1, 2, 3, 4] : List Nat) → Ff k = F k) → (∀ k, k ∉ ([6, 7, 8, 9] : List Nat) → If k = I k) → va_P D vwCl (wM a kc F G I J) H → va_S (ad a 21 s.heap.size) s.heap H locs → lv_has ls 6 [(0, .ref (a 0)), (4, .int x4)] → W p l e rm_X8_judged s m args below meth c H locs 0 0 (MQ below (Qi D (wM a kc Ff G If J) r (ad a 21 s.heap.size)) args s 0 0 (ad a 21 s.heap.size)) (F0 m 71 ls []) := by
  intro F I x4 H locs ls hf hfF hfI hP hS hl
  unfold p_X8_judged_b71 at hf
  refine lv_iload X.1 X.2.1 dX8_judged_71 (lv_at hl 1 rfl) ?_
  obtain ⟨e0, hf⟩ := o2 hf
  obtain ⟨e1, hf⟩ := o2 hf
  obtain ⟨e2, hf⟩ := o2 hf
  obtain ⟨e3, hf⟩ := o2 hf
  obtain ⟨e4, hf⟩ := o2 hf
  obtain ⟨e5, hf⟩ := o2 hf
  obtain ⟨e6, hf⟩ := o2 hf
  obtain ⟨e7, hf⟩ := o2 hf
  obtain ⟨e8, hf⟩ := o2 hf
  have e9 := o1 hf
  have EF : Ff = F := frm_eq hfF (frm_c (e1).symm (frm_c (e2).symm (frm_c (e3).symm (frm_c (e4).symm (frm_c (e5).symm frm_n)))))
  have EI : If = I := frm_eq hfI (frm_c (e6).symm (frm_c (e7).symm (frm_c (e8).symm (frm_c (e9).symm frm_n))))
  exact ret_i X hS (by rw [EF, EI]; exact hP) e0 dX8_judged_73
set_option maxHeartbeats 4000000 in
set_option maxRecDepth 100000 in
theorem t_X8_judged_b17x {p : Program} {l : Launch} {e : Env} {s : State} {m : MethodId} {args : Array Value} {below : List Frame} {meth : Method} {c : Code} {D : va_G} {a : Nat → Nat} {kc : Nat → ClassId} (X : cx 21 p s m args meth c D (tyM kc) a cX8_judged 6 RX8 (some .int)) {G : Nat → Int64} {J : Nat → Nat → Int64} {Ff : Nat → Int32} {If : Nat → Nat → Int32} {r : Int32} {K17 : Int32 → Int32 → Int32 → Int32 → Int32 → (Nat → Int32) → (Nat → Int32) → (Nat → Int32) → (Nat → Int32) → (Nat → Int32) → (Nat → Int32) → (Nat → Int32) → (Nat → Int32) → (Nat → Int32) → Int32 → Int32 → Int32 → Option (Int32 × Int32 × Int32 × Int32 × Int32 × Int32 × (Nat → Int32) × (Nat → Int32) × (Nat → Int32) × (Nat → Int32))} (kh17 : ∀ (F : Nat → Int32) (I : Nat → Nat → Int32) (x1 : Int32) (x3 : Int32) (x4 : Int32) (H : Heap) (locs : List Loc) (ls : Array Slot), K17 (F 0) (F 1) (F 2) (F 3) (F 4) (I 0) (I 1) (I 2) (I 4) (I 5) (I 6) (I 7) (I 8) (I 9) x1 x3 x4 = some (r, (Ff 0), (Ff 1), (Ff 2), (Ff 3), (Ff 4), (If 6), (If 7), (If 8), (If 9)) → (∀ k, k ∉ ([0, 1, 2, 3, 4] : List Nat) → Ff k = F k) → (∀ k, k ∉ ([6, 7, 8, 9] : List Nat) → If k = I k) → va_P D vwCl (wM a kc F G I J) H → va_S (ad a 21 s.heap.size) s.heap H locs → lv_has ls 6 [(0, .ref (a 0)), (1, .int x1), (3, .int x3), (4, .int x4)] → W p l e rm_X8_judged s m args below meth c H locs 0 0 (MQ below (Qi D (wM a kc Ff G If J) r (ad a 21 s.heap.size)) args s 0 0 (ad a 21 s.heap.size)) (F0 m 17 ls [])) :
    ∀ (F : Nat → Int32) (I : Nat → Nat → Int32) (x1 : Int32) (x3 : Int32) (x4 : Int32) (H : Heap) (locs : List Loc) (ls : Array Slot), p_X8_judged_b17x K17 (F 0) (F 1) (F 2) (F 3) (F 4) (I 0) (I 1) (I 2) (I 4) (I 5) (I 6) (I 7) (I 8) (I 9) x1 x3 x4 = some (r, (Ff 0), (Ff 1), (Ff 2), (Ff 3), (Ff 4), (If 6), (If 7), (If 8), (If 9)) → (∀ k, k ∉ ([0, 1, 2, 3, 4] : List Nat) → Ff k = F k) → (∀ k, k ∉ ([6, 7, 8, 9] : List Nat) → If k = I k) → va_P D vwCl (wM a kc F G I J) H → va_S (ad a 21 s.heap.size) s.heap H locs → lv_has ls 6 [(0, .ref (a 0)), (1, .int x1), (3, .int x3), (4, .int x4)] → W p l e rm_X8_judged s m args below meth c H locs 0 0 (MQ below (Qi D (wM a kc Ff G If J) r (ad a 21 s.heap.size)) args s 0 0 (ad a 21 s.heap.size)) (F0 m 17 ls []) := by
  intro F I x1 x3 x4 H locs ls hf hfF hfI hP hS hl
  unfold p_X8_judged_b17x at hf
  refine lv_iload X.1 X.2.1 dX8_judged_17 (lv_at hl 3 rfl) ?_
  refine lv_aload_n X.1 X.2.1 dX8_judged_19 rfl (lv_at hl 0 rfl) ?_
  refine gM_0_12 (F := F) X (v := (F 4)) rfl q_4_121 dX8_judged_20 hP ?_
  refine lv_icmp_ge (tgt := 87) X.1 X.2.1 dX8_judged_23 (by decide) (fun c23 => ?_) (fun c23 => ?_)
  · have hf := it_s hf c23
    refine lv_iconst (v := (-1)) X.1 X.2.1 dX8_judged_87 (by decide) ?_
    obtain ⟨e0, hf⟩ := o2 hf
    obtain ⟨e1, hf⟩ := o2 hf
    obtain ⟨e2, hf⟩ := o2 hf
    obtain ⟨e3, hf⟩ := o2 hf
    obtain ⟨e4, hf⟩ := o2 hf
    obtain ⟨e5, hf⟩ := o2 hf
    obtain ⟨e6, hf⟩ := o2 hf
    obtain ⟨e7, hf⟩ := o2 hf
    obtain ⟨e8, hf⟩ := o2 hf
    have e9 := o1 hf
    have EF : Ff = F := frm_eq hfF (frm_c (e1).symm (frm_c (e2).symm (frm_c (e3).symm (frm_c (e4).symm (frm_c (e5).symm frm_n)))))
    have EI : If = I := frm_eq hfI (frm_c (e6).symm (frm_c (e7).symm (frm_c (e8).symm (frm_c (e9).symm frm_n))))
    exact ret_i X hS (by rw [EF, EI]; exact hP) e0 dX8_judged_88
  · have hf := ie_s hf c23
    refine lv_aload_n X.1 X.2.1 dX8_judged_26 rfl (lv_at hl 0 rfl) ?_
    refine gM_0_2 X q_4_111 dX8_judged_27 hP ?_
    refine lv_bipush (v := 60) X.1 X.2.1 dX8_judged_30 (by decide) ?_
    refine lv_iload_n X.1 X.2.1 dX8_judged_32 rfl (lv_at hl 1 rfl) ?_
    refine lv_imul X.1 X.2.1 dX8_judged_33 ?_
    refine lv_iload X.1 X.2.1 dX8_judged_34 (lv_at hl 3 rfl) ?_
    refine lv_iadd X.1 X.2.1 dX8_judged_36 ?_
    obtain ⟨h37, hf⟩ := gd_s hf
    refine lM_3 (I := I) X (f := (I 2)) rfl h37 dX8_judged_37 hP ?_
    refine nm_i hf (fun x38 hf => ?_)
    refine lv_istore (lv' := [(5, .int x38), (0, .ref (a 0)), (1, .int x1), (3, .int x3), (4, .int x4)]) X.1 X.2.1 dX8_judged_38 hl (by decide) rfl (fun ls hl => ?_)
    refine lv_aload_n X.1 X.2.1 dX8_judged_40 rfl (lv_at hl 1 rfl) ?_
    refine lv_iload X.1 X.2.1 dX8_judged_41 (lv_at hl 0 rfl) ?_
    obtain ⟨r43, ho, hf⟩ := b1_s hf
    refine call_vi (rest := []) X (c_X8_isSeatNow F G I J X.2.2.2.2.2.2.2.1 x38 ho) q_5_215 q_5_217 qs_yX8_isSeatNow q_1_10 q_5_218 ok_X8_isSeatNow rfl 0 rfl rfl ⟨Nat.le_of_ble_eq_true rfl, Nat.le_of_ble_eq_true rfl⟩ rfl rfl hl.1 rfl (Nat.le_of_ble_eq_true rfl) dX8_judged_43 hP hS (fun H locs hP hS => ?_)
    refine lv_if_eq (tgt := 71) X.1 X.2.1 dX8_judged_46 (by decide) (fun c46 => ?_) (fun c46 => ?_)
    · have hf := it_s hf c46
      exact t_X8_judged_b71 X F I x4 H locs ls hf hfF hfI hP hS (lv_sub hl [1, 4] rfl)
    · have hf := ie_s hf c46
      refine lv_aload_n X.1 X.2.1 dX8_judged_49 rfl (lv_at hl 1 rfl) ?_
      refine lv_iload X.1 X.2.1 dX8_judged_50 (lv_at hl 4 rfl) ?_
      refine lv_aload_n X.1 X.2.1 dX8_judged_52 rfl (lv_at hl 1 rfl) ?_
      refine gM_0_14 X q_4_123 dX8_judged_53 hP ?_
      refine lv_iload X.1 X.2.1 dX8_judged_56 (lv_at hl 4 rfl) ?_
      obtain ⟨h58, hf⟩ := gd_s hf
      refine lM_10 (I := I) X (f := (I 9)) rfl h58 dX8_judged_58 hP ?_
      refine lv_iload_n X.1 X.2.1 dX8_judged_59 rfl (lv_at hl 3 rfl) ?_
      obtain ⟨r60, ho, hf⟩ := b1_s hf
      refine call_vi (rest := []) X (c_X8_choices F G I J X.2.2.2.2.2.2.2.1 x4 ((I 9) x4.toNatClampNeg) x3 ho) q_5_129 q_5_131 qs_yX8_choices q_1_10 q_5_132 ok_X8_choices rfl 0 rfl rfl ⟨Nat.le_of_ble_eq_true rfl, Nat.le_of_ble_eq_true rfl⟩ rfl rfl hl.1 rfl (Nat.le_of_ble_eq_true rfl) dX8_judged_60 hP hS (fun H locs hP hS => ?_)
      refine lv_iload X.1 X.2.1 dX8_judged_63 (lv_at hl 0 rfl) ?_
      obtain ⟨r65, ho, hf⟩ := b1_s hf
      refine call_si (rest := []) X (c_X8_isIn r60 x38 ho) q_5_133 q_5_134 q_1_10 q_5_135 ok_X8_isIn rfl ⟨Nat.le_of_ble_eq_true rfl, Nat.le_of_ble_eq_true rfl⟩ rfl rfl hl.1 rfl (Nat.le_of_ble_eq_true rfl) dX8_judged_65 hP hS (fun H locs hP hS => ?_)
      refine lv_if_ne (tgt := 74) X.1 X.2.1 dX8_judged_68 (by decide) (fun c68 => ?_) (fun c68 => ?_)
      · have hf := ie_s hf c68
        refine lv_iload_n X.1 X.2.1 dX8_judged_74 rfl (lv_at hl 3 rfl) ?_
        refine lv_iconst (v := 1) X.1 X.2.1 dX8_judged_75 (by decide) ?_
        refine lv_iload X.1 X.2.1 dX8_judged_76 (lv_at hl 0 rfl) ?_
        refine lv_ishl X.1 X.2.1 dX8_judged_78 ?_
        refine lv_ior X.1 X.2.1 dX8_judged_79 ?_
        refine nm_i hf (fun x80 hf => ?_)
        refine lv_istore_n (lv' := [(3, .int x80), (5, .int x38), (0, .ref (a 0)), (1, .int x1), (4, .int x4)]) X.1 X.2.1 dX8_judged_80 rfl hl (by decide) rfl (fun ls hl => ?_)
        obtain ⟨x81, ex81, hf⟩ := nm_x hf
        refine lv_iinc (v := x81) (lv' := [(4, .int x81), (3, .int x80), (5, .int x38), (0, .ref (a 0)), (1, .int x1)]) X.1 X.2.1 dX8_judged_81 hl (k := 4) rfl ex81 (by decide) rfl (fun ls hl => ?_)
        refine lv_goto (tgt := 17) X.1 X.2.1 dX8_judged_84 (by decide) ?_
        exact kh17 F I x1 x80 x81 H locs ls hf hfF hfI hP hS (lv_sub hl [3, 4, 1, 0] rfl)
      · have hf := it_s hf c68
        exact t_X8_judged_b71 X F I x4 H locs ls hf hfF hfI hP hS (lv_sub hl [1, 4] rfl)
set_option maxRecDepth 100000 in
theorem t_X8_judged_b17 {p : Program} {l : Launch} {e : Env} {s : State} {m : MethodId} {args : Array Value} {below : List Frame} {meth : Method} {c : Code} {D : va_G} {a : Nat → Nat} {kc : Nat → ClassId} (X : cx 21 p s m args meth c D (tyM kc) a cX8_judged 6 RX8 (some .int)) {G : Nat → Int64} {J : Nat → Nat → Int64} {Ff : Nat → Int32} {If : Nat → Nat → Int32} {r : Int32} :
    ∀ (n : Nat) (F : Nat → Int32) (I : Nat → Nat → Int32) (x1 : Int32) (x3 : Int32) (x4 : Int32) (H : Heap) (locs : List Loc) (ls : Array Slot), p_X8_judged_b17 n (F 0) (F 1) (F 2) (F 3) (F 4) (I 0) (I 1) (I 2) (I 4) (I 5) (I 6) (I 7) (I 8) (I 9) x1 x3 x4 = some (r, (Ff 0), (Ff 1), (Ff 2), (Ff 3), (Ff 4), (If 6), (If 7), (If 8), (If 9)) → (∀ k, k ∉ ([0, 1, 2, 3, 4] : List Nat) → Ff k = F k) → (∀ k, k ∉ ([6, 7, 8, 9] : List Nat) → If k = I k) → va_P D vwCl (wM a kc F G I J) H → va_S (ad a 21 s.heap.size) s.heap H locs → lv_has ls 6 [(0, .ref (a 0)), (1, .int x1), (3, .int x3), (4, .int x4)] → W p l e rm_X8_judged s m args below meth c H locs 0 0 (MQ below (Qi D (wM a kc Ff G If J) r (ad a 21 s.heap.size)) args s 0 0 (ad a 21 s.heap.size)) (F0 m 17 ls []) := by
  intro n
  induction n with
  | zero => intro F I x1 x3 x4 H locs ls hf hfF hfI hP hS hl; exact (nos hf).elim
  | succ n ih => exact t_X8_judged_b17x X ih
set_option maxHeartbeats 4000000 in
set_option maxRecDepth 100000 in
theorem t_X8_judged_b0 {p : Program} {l : Launch} {e : Env} {s : State} {m : MethodId} {args : Array Value} {below : List Frame} {meth : Method} {c : Code} {D : va_G} {a : Nat → Nat} {kc : Nat → ClassId} (X : cx 21 p s m args meth c D (tyM kc) a cX8_judged 6 RX8 (some .int)) {G : Nat → Int64} {J : Nat → Nat → Int64} {Ff : Nat → Int32} {If : Nat → Nat → Int32} {r : Int32} :
    ∀ (F : Nat → Int32) (I : Nat → Nat → Int32) (x1 : Int32) (H : Heap) (locs : List Loc) (ls : Array Slot), p_X8_judged_b0 (F 0) (F 1) (F 2) (F 3) (F 4) (I 0) (I 1) (I 2) (I 4) (I 5) (I 6) (I 7) (I 8) (I 9) x1 = some (r, (Ff 0), (Ff 1), (Ff 2), (Ff 3), (Ff 4), (If 6), (If 7), (If 8), (If 9)) → (∀ k, k ∉ ([0, 1, 2, 3, 4] : List Nat) → Ff k = F k) → (∀ k, k ∉ ([6, 7, 8, 9] : List Nat) → If k = I k) → va_P D vwCl (wM a kc F G I J) H → va_S (ad a 21 s.heap.size) s.heap H locs → lv_has ls 6 [(0, .ref (a 0)), (1, .int x1)] → W p l e rm_X8_judged s m args below meth c H locs 0 0 (MQ below (Qi D (wM a kc Ff G If J) r (ad a 21 s.heap.size)) args s 0 0 (ad a 21 s.heap.size)) (F0 m 0 ls []) := by
  intro F I x1 H locs ls hf hfF hfI hP hS hl
  unfold p_X8_judged_b0 at hf
  refine lv_aload_n X.1 X.2.1 dX8_judged_0 rfl (lv_at hl 0 rfl) ?_
  refine lv_iload_n X.1 X.2.1 dX8_judged_1 rfl (lv_at hl 1 rfl) ?_
  obtain ⟨r2, m_latest_2, m_at_2, m_seats_2, m_rows_2, m_people_2, m_sorts_2, m_rowOf_2, m_own_2, m_kinds_2, ho, hf⟩ := b10_s hf
  refine call_vi (rest := []) X (c_X8_noSitting F G I J X.2.2.2.2.2.2.2.1 x1 ho) q_5_211 q_5_213 qs_yX8_noSitting q_1_10 q_5_214 ok_X8_noSitting rfl 0 rfl rfl ⟨Nat.le_of_ble_eq_true rfl, Nat.le_of_ble_eq_true rfl⟩ rfl rfl hl.1 rfl (Nat.le_of_ble_eq_true rfl) dX8_judged_2 hP hS (fun H locs hP hS => ?_)
  refine lv_istore_n (lv' := [(2, .int r2), (0, .ref (a 0)), (1, .int x1)]) X.1 X.2.1 dX8_judged_5 rfl hl (by decide) rfl (fun ls hl => ?_)
  refine lv_iload_n X.1 X.2.1 dX8_judged_6 rfl (lv_at hl 0 rfl) ?_
  refine lv_if_eq (tgt := 12) X.1 X.2.1 dX8_judged_7 (by decide) (fun c7 => ?_) (fun c7 => ?_)
  · have hf := it_s hf c7
    refine lv_iconst (v := 0) X.1 X.2.1 dX8_judged_12 (by decide) ?_
    refine lv_istore_n (lv' := [(3, .int 0), (2, .int r2), (0, .ref (a 0)), (1, .int x1)]) X.1 X.2.1 dX8_judged_13 rfl hl (by decide) rfl (fun ls hl => ?_)
    refine lv_iconst (v := 0) X.1 X.2.1 dX8_judged_14 (by decide) ?_
    refine lv_istore (lv' := [(4, .int 0), (3, .int 0), (2, .int r2), (0, .ref (a 0)), (1, .int x1)]) X.1 X.2.1 dX8_judged_15 hl (by decide) rfl (fun ls hl => ?_)
    exact t_X8_judged_b17 X 4096 (va_up (va_up (va_up (va_up (va_up F 0 m_latest_2) 1 m_at_2) 2 m_seats_2) 3 m_rows_2) 4 m_people_2) (va_up (va_up (va_up (va_up I 6 m_sorts_2) 7 m_rowOf_2) 8 m_own_2) 9 m_kinds_2) x1 0 0 H locs ls hf (frm_up (frm_up (frm_up (frm_up (frm_up hfF (by decide)) (by decide)) (by decide)) (by decide)) (by decide)) (frm_up (frm_up (frm_up (frm_up hfI (by decide)) (by decide)) (by decide)) (by decide)) hP hS (lv_sub hl [3, 4, 1, 0] rfl)
  · have hf := ie_s hf c7
    refine lv_iload_n X.1 X.2.1 dX8_judged_10 rfl (lv_at hl 0 rfl) ?_
    obtain ⟨e0, hf⟩ := o2 hf
    obtain ⟨e1, hf⟩ := o2 hf
    obtain ⟨e2, hf⟩ := o2 hf
    obtain ⟨e3, hf⟩ := o2 hf
    obtain ⟨e4, hf⟩ := o2 hf
    obtain ⟨e5, hf⟩ := o2 hf
    obtain ⟨e6, hf⟩ := o2 hf
    obtain ⟨e7, hf⟩ := o2 hf
    obtain ⟨e8, hf⟩ := o2 hf
    have e9 := o1 hf
    have EF : Ff = (va_up (va_up (va_up (va_up (va_up F 0 m_latest_2) 1 m_at_2) 2 m_seats_2) 3 m_rows_2) 4 m_people_2) := frm_eq (frm_up (frm_up (frm_up (frm_up (frm_up hfF (by decide)) (by decide)) (by decide)) (by decide)) (by decide)) (frm_c (e1).symm (frm_c (e2).symm (frm_c (e3).symm (frm_c (e4).symm (frm_c (e5).symm frm_n)))))
    have EI : If = (va_up (va_up (va_up (va_up I 6 m_sorts_2) 7 m_rowOf_2) 8 m_own_2) 9 m_kinds_2) := frm_eq (frm_up (frm_up (frm_up (frm_up hfI (by decide)) (by decide)) (by decide)) (by decide)) (frm_c (e6).symm (frm_c (e7).symm (frm_c (e8).symm (frm_c (e9).symm frm_n))))
    exact ret_i X hS (by rw [EF, EI]; exact hP) e0 dX8_judged_11
set_option maxRecDepth 100000 in
theorem c_X8_judged {l : Launch} {D : va_G} {a : Nat → Nat} {kc : Nat → ClassId} (F : Nat → Int32) (G : Nat → Int64) (I : Nat → Nat → Int32) (J : Nat → Nat → Int64) (hAp : ∀ i j, i < 21 → j < 21 → a i = a j → i = j) (x1 : Int32) {o0 : Int32} {o1 : Int32} {o2 : Int32} {o3 : Int32} {o4 : Int32} {o5 : Int32} {o6 : Nat → Int32} {o7 : Nat → Int32} {o8 : Nat → Int32} {o9 : Nat → Int32} (hf : p_X8_judged (F 0) (F 1) (F 2) (F 3) (F 4) (I 0) (I 1) (I 2) (I 4) (I 5) (I 6) (I 7) (I 8) (I 9) x1 = some (o0, o1, o2, o3, o4, o5, o6, o7, o8, o9)) : Ct 21 l yX8_judged cX8_judged 6 (some .int) rm_X8_judged D (tyM kc) a (wM a kc F G I J) [.ref (a 0), .int x1] (Qi D (wM a kc (va_up (va_up (va_up (va_up (va_up F 0 o1) 1 o2) 2 o3) 3 o4) 4 o5) G (va_up (va_up (va_up (va_up I 6 o6) 7 o7) 8 o8) 9 o9) J) o0) :=
  Ct.of (by decide +kernel) hAp (Nat.le_of_ble_eq_true rfl) (fun p e s m args below meth c ls X hP hl => t_X8_judged_b0 X F I x1 _ _ _ hf (frm_ul (frm_ul (frm_ul (frm_ul (frm_ul (fun k _ => rfl) (by decide)) (by decide)) (by decide)) (by decide)) (by decide)) (frm_ul (frm_ul (frm_ul (frm_ul (fun k _ => rfl) (by decide)) (by decide)) (by decide)) (by decide)) hP va_S.rf hl)
abbrev rm_X8_sittingOf : Room := { frames := 3, cells := 0, slots := 0, locals := 69 }
set_option maxHeartbeats 4000000 in
set_option maxRecDepth 100000 in
theorem t_X8_sittingOf_b110 {p : Program} {l : Launch} {e : Env} {s : State} {m : MethodId} {args : Array Value} {below : List Frame} {meth : Method} {c : Code} {D : va_G} {a : Nat → Nat} {kc : Nat → ClassId} (X : cx 21 p s m args meth c D (tyM kc) a cX8_sittingOf 9 RX8 (some .long)) {F : Nat → Int32} {G : Nat → Int64} {I : Nat → Nat → Int32} {J : Nat → Nat → Int64}  {r : Int64} :
    ∀  (t0 : Int64) (H : Heap) (locs : List Loc) (ls : Array Slot), p_X8_sittingOf_b110 (F 2) (F 4) (I 2) (I 6) (I 8) (I 9) t0 = some r → va_P D vwCl (wM a kc F G I J) H → va_S (ad a 21 s.heap.size) s.heap H locs → lv_has ls 9 [(0, .ref (a 0))] → W p l e rm_X8_sittingOf s m args below meth c H locs 0 0 (MQ below (Ql D (wM a kc F G I J) r (ad a 21 s.heap.size)) args s 0 0 (ad a 21 s.heap.size)) (F0 m 110 ls [.long t0]) := by
  intro  t0 H locs ls hf  hP hS hl
  unfold p_X8_sittingOf_b110 at hf
  have e0 := o1 hf
  exact ret_l X hS hP e0 dX8_sittingOf_110
set_option maxHeartbeats 4000000 in
set_option maxRecDepth 100000 in
theorem t_X8_sittingOf_b75 {p : Program} {l : Launch} {e : Env} {s : State} {m : MethodId} {args : Array Value} {below : List Frame} {meth : Method} {c : Code} {D : va_G} {a : Nat → Nat} {kc : Nat → ClassId} (X : cx 21 p s m args meth c D (tyM kc) a cX8_sittingOf 9 RX8 (some .long)) {F : Nat → Int32} {G : Nat → Int64} {I : Nat → Nat → Int32} {J : Nat → Nat → Int64}  {r : Int64} :
    ∀  (t0 : Int64) (H : Heap) (locs : List Loc) (ls : Array Slot), p_X8_sittingOf_b75 (F 2) (F 4) (I 2) (I 6) (I 8) (I 9) t0 = some r → va_P D vwCl (wM a kc F G I J) H → va_S (ad a 21 s.heap.size) s.heap H locs → lv_has ls 9 [(0, .ref (a 0))] → W p l e rm_X8_sittingOf s m args below meth c H locs 0 0 (MQ below (Ql D (wM a kc F G I J) r (ad a 21 s.heap.size)) args s 0 0 (ad a 21 s.heap.size)) (F0 m 75 ls [.long t0]) := by
  intro  t0 H locs ls hf  hP hS hl
  unfold p_X8_sittingOf_b75 at hf
  have e0 := o1 hf
  exact ret_l X hS hP e0 dX8_sittingOf_75
set_option maxHeartbeats 4000000 in
set_option maxRecDepth 100000 in
theorem t_X8_sittingOf_b66 {p : Program} {l : Launch} {e : Env} {s : State} {m : MethodId} {args : Array Value} {below : List Frame} {meth : Method} {c : Code} {D : va_G} {a : Nat → Nat} {kc : Nat → ClassId} (X : cx 21 p s m args meth c D (tyM kc) a cX8_sittingOf 9 RX8 (some .long)) {F : Nat → Int32} {G : Nat → Int64} {I : Nat → Nat → Int32} {J : Nat → Nat → Int64}  {r : Int64} :
    ∀  (x2 : Int32) (H : Heap) (locs : List Loc) (ls : Array Slot), p_X8_sittingOf_b66 (F 2) (F 4) (I 2) (I 6) (I 8) (I 9) x2 = some r → va_P D vwCl (wM a kc F G I J) H → va_S (ad a 21 s.heap.size) s.heap H locs → lv_has ls 9 [(0, .ref (a 0)), (2, .int x2)] → W p l e rm_X8_sittingOf s m args below meth c H locs 0 0 (MQ below (Ql D (wM a kc F G I J) r (ad a 21 s.heap.size)) args s 0 0 (ad a 21 s.heap.size)) (F0 m 66 ls []) := by
  intro  x2 H locs ls hf  hP hS hl
  unfold p_X8_sittingOf_b66 at hf
  refine lv_iload_n X.1 X.2.1 dX8_sittingOf_66 rfl (lv_at hl 1 rfl) ?_
  refine lv_if_ne (tgt := 74) X.1 X.2.1 dX8_sittingOf_67 (by decide) (fun c67 => ?_) (fun c67 => ?_)
  · have hf := ie_s hf c67
    refine lv_lconst (v := 1) X.1 X.2.1 dX8_sittingOf_74 (by decide) ?_
    exact t_X8_sittingOf_b75 X  1 H locs ls hf  hP hS (lv_sub hl [0] rfl)
  · have hf := it_s hf c67
    refine lv_lconst (v := 0) X.1 X.2.1 dX8_sittingOf_70 (by decide) ?_
    refine lv_goto (tgt := 75) X.1 X.2.1 dX8_sittingOf_71 (by decide) ?_
    exact t_X8_sittingOf_b75 X  0 H locs ls hf  hP hS (lv_sub hl [0] rfl)
set_option maxHeartbeats 4000000 in
set_option maxRecDepth 100000 in
theorem t_X8_sittingOf_b8x {p : Program} {l : Launch} {e : Env} {s : State} {m : MethodId} {args : Array Value} {below : List Frame} {meth : Method} {c : Code} {D : va_G} {a : Nat → Nat} {kc : Nat → ClassId} (X : cx 21 p s m args meth c D (tyM kc) a cX8_sittingOf 9 RX8 (some .long)) {F : Nat → Int32} {G : Nat → Int64} {I : Nat → Nat → Int32} {J : Nat → Nat → Int64}  {r : Int64} {K8 : Int32 → Int32 → (Nat → Int32) → (Nat → Int32) → (Nat → Int32) → (Nat → Int32) → Int32 → Int32 → Int32 → Int64 → Int32 → Option (Int64)} (kh8 : ∀  (x1 : Int32) (x2 : Int32) (x3 : Int32) (x4 : Int64) (x6 : Int32) (H : Heap) (locs : List Loc) (ls : Array Slot), K8 (F 2) (F 4) (I 2) (I 6) (I 8) (I 9) x1 x2 x3 x4 x6 = some r → va_P D vwCl (wM a kc F G I J) H → va_S (ad a 21 s.heap.size) s.heap H locs → lv_has ls 9 [(0, .ref (a 0)), (1, .int x1), (2, .int x2), (3, .int x3), (4, .long x4), (6, .int x6)] → W p l e rm_X8_sittingOf s m args below meth c H locs 0 0 (MQ below (Ql D (wM a kc F G I J) r (ad a 21 s.heap.size)) args s 0 0 (ad a 21 s.heap.size)) (F0 m 8 ls [])) :
    ∀  (x1 : Int32) (x2 : Int32) (x3 : Int32) (x4 : Int64) (x6 : Int32) (H : Heap) (locs : List Loc) (ls : Array Slot), p_X8_sittingOf_b8x K8 (F 2) (F 4) (I 2) (I 6) (I 8) (I 9) x1 x2 x3 x4 x6 = some r → va_P D vwCl (wM a kc F G I J) H → va_S (ad a 21 s.heap.size) s.heap H locs → lv_has ls 9 [(0, .ref (a 0)), (1, .int x1), (2, .int x2), (3, .int x3), (4, .long x4), (6, .int x6)] → W p l e rm_X8_sittingOf s m args below meth c H locs 0 0 (MQ below (Ql D (wM a kc F G I J) r (ad a 21 s.heap.size)) args s 0 0 (ad a 21 s.heap.size)) (F0 m 8 ls []) := by
  intro  x1 x2 x3 x4 x6 H locs ls hf  hP hS hl
  unfold p_X8_sittingOf_b8x at hf
  refine lv_iload X.1 X.2.1 dX8_sittingOf_8 (lv_at hl 5 rfl) ?_
  refine lv_aload_n X.1 X.2.1 dX8_sittingOf_10 rfl (lv_at hl 0 rfl) ?_
  refine gM_0_12 (F := F) X (v := (F 4)) rfl q_4_121 dX8_sittingOf_11 hP ?_
  refine lv_icmp_ge (tgt := 100) X.1 X.2.1 dX8_sittingOf_14 (by decide) (fun c14 => ?_) (fun c14 => ?_)
  · have hf := it_s hf c14
    refine lv_iload_n X.1 X.2.1 dX8_sittingOf_100 rfl (lv_at hl 2 rfl) ?_
    refine lv_if_ne (tgt := 108) X.1 X.2.1 dX8_sittingOf_101 (by decide) (fun c101 => ?_) (fun c101 => ?_)
    · have hf := ie_s hf c101
      refine lv_lload X.1 X.2.1 dX8_sittingOf_108 (lv_at hl 4 rfl) ?_
      exact t_X8_sittingOf_b110 X  x4 H locs ls hf  hP hS (lv_sub hl [0] rfl)
    · have hf := it_s hf c101
      refine lv_lconst (v := 1) X.1 X.2.1 dX8_sittingOf_104 (by decide) ?_
      refine lv_goto (tgt := 110) X.1 X.2.1 dX8_sittingOf_105 (by decide) ?_
      exact t_X8_sittingOf_b110 X  1 H locs ls hf  hP hS (lv_sub hl [0] rfl)
  · have hf := ie_s hf c14
    refine lv_aload_n X.1 X.2.1 dX8_sittingOf_17 rfl (lv_at hl 0 rfl) ?_
    refine gM_0_2 X q_4_111 dX8_sittingOf_18 hP ?_
    refine lv_bipush (v := 60) X.1 X.2.1 dX8_sittingOf_21 (by decide) ?_
    refine lv_iload_n X.1 X.2.1 dX8_sittingOf_23 rfl (lv_at hl 1 rfl) ?_
    refine lv_imul X.1 X.2.1 dX8_sittingOf_24 ?_
    refine lv_iload X.1 X.2.1 dX8_sittingOf_25 (lv_at hl 5 rfl) ?_
    refine lv_iadd X.1 X.2.1 dX8_sittingOf_27 ?_
    obtain ⟨h28, hf⟩ := gd_s hf
    refine lM_3 (I := I) X (f := (I 2)) rfl h28 dX8_sittingOf_28 hP ?_
    refine nm_i hf (fun x29 hf => ?_)
    refine lv_istore (lv' := [(7, .int x29), (0, .ref (a 0)), (1, .int x1), (2, .int x2), (3, .int x3), (4, .long x4), (6, .int x6)]) X.1 X.2.1 dX8_sittingOf_29 hl (by decide) rfl (fun ls hl => ?_)
    refine lv_aload_n X.1 X.2.1 dX8_sittingOf_31 rfl (lv_at hl 1 rfl) ?_
    refine lv_iload X.1 X.2.1 dX8_sittingOf_32 (lv_at hl 6 rfl) ?_
    refine lv_aload_n X.1 X.2.1 dX8_sittingOf_34 rfl (lv_at hl 1 rfl) ?_
    refine gM_0_14 X q_4_123 dX8_sittingOf_35 hP ?_
    refine lv_iload X.1 X.2.1 dX8_sittingOf_38 (lv_at hl 6 rfl) ?_
    obtain ⟨h40, hf⟩ := gd_s hf
    refine lM_10 (I := I) X (f := (I 9)) rfl h40 dX8_sittingOf_40 hP ?_
    refine lv_iload_n X.1 X.2.1 dX8_sittingOf_41 rfl (lv_at hl 4 rfl) ?_
    obtain ⟨r42, ho, hf⟩ := b1_s hf
    refine call_vi (rest := []) X (c_X8_choices F G I J X.2.2.2.2.2.2.2.1 x6 ((I 9) x6.toNatClampNeg) x3 ho) q_5_129 q_5_131 qs_yX8_choices q_1_10 q_5_132 ok_X8_choices rfl 0 rfl rfl ⟨Nat.le_of_ble_eq_true rfl, Nat.le_of_ble_eq_true rfl⟩ rfl rfl hl.1 rfl (Nat.le_of_ble_eq_true rfl) dX8_sittingOf_42 hP hS (fun H locs hP hS => ?_)
    refine lv_istore (lv' := [(8, .int r42), (7, .int x29), (0, .ref (a 0)), (1, .int x1), (2, .int x2), (3, .int x3), (4, .long x4), (6, .int x6)]) X.1 X.2.1 dX8_sittingOf_45 hl (by decide) rfl (fun ls hl => ?_)
    refine lv_aload_n X.1 X.2.1 dX8_sittingOf_47 rfl (lv_at hl 2 rfl) ?_
    refine lv_iload X.1 X.2.1 dX8_sittingOf_48 (lv_at hl 1 rfl) ?_
    obtain ⟨r50, ho, hf⟩ := b1_s hf
    refine call_vi (rest := []) X (c_X8_isSeatNow F G I J X.2.2.2.2.2.2.2.1 x29 ho) q_5_215 q_5_217 qs_yX8_isSeatNow q_1_10 q_5_218 ok_X8_isSeatNow rfl 0 rfl rfl ⟨Nat.le_of_ble_eq_true rfl, Nat.le_of_ble_eq_true rfl⟩ rfl rfl hl.1 rfl (Nat.le_of_ble_eq_true rfl) dX8_sittingOf_50 hP hS (fun H locs hP hS => ?_)
    refine lv_if_eq (tgt := 66) X.1 X.2.1 dX8_sittingOf_53 (by decide) (fun c53 => ?_) (fun c53 => ?_)
    · have hf := it_s hf c53
      exact t_X8_sittingOf_b66 X  x2 H locs ls hf  hP hS (lv_sub hl [2, 4] rfl)
    · have hf := ie_s hf c53
      refine lv_iload X.1 X.2.1 dX8_sittingOf_56 (lv_at hl 0 rfl) ?_
      refine lv_iload X.1 X.2.1 dX8_sittingOf_58 (lv_at hl 1 rfl) ?_
      obtain ⟨r60, ho, hf⟩ := b1_s hf
      refine call_si (rest := []) X (c_X8_isIn r42 x29 ho) q_5_133 q_5_134 q_1_10 q_5_135 ok_X8_isIn rfl ⟨Nat.le_of_ble_eq_true rfl, Nat.le_of_ble_eq_true rfl⟩ rfl rfl hl.1 rfl (Nat.le_of_ble_eq_true rfl) dX8_sittingOf_60 hP hS (fun H locs hP hS => ?_)
      refine lv_if_ne (tgt := 76) X.1 X.2.1 dX8_sittingOf_63 (by decide) (fun c63 => ?_) (fun c63 => ?_)
      · have hf := ie_s hf c63
        refine lv_lload X.1 X.2.1 dX8_sittingOf_76 (lv_at hl 6 rfl) ?_
        refine lv_iload X.1 X.2.1 dX8_sittingOf_78 (lv_at hl 0 rfl) ?_
        obtain ⟨r80, ho, hf⟩ := b1_s hf
        refine call_si (rest := [.long x4]) X (c_X8_ones r42 ho) q_5_144 q_5_145 q_1_10 q_5_146 ok_X8_ones rfl ⟨Nat.le_of_ble_eq_true rfl, Nat.le_of_ble_eq_true rfl⟩ rfl rfl hl.1 rfl (Nat.le_of_ble_eq_true rfl) dX8_sittingOf_80 hP hS (fun H locs hP hS => ?_)
        refine lv_i2l X.1 X.2.1 dX8_sittingOf_83 rfl ?_
        refine lv_lmul X.1 X.2.1 dX8_sittingOf_84 ?_
        refine nm_l hf (fun x85 hf => ?_)
        refine lv_lstore (lv' := [(4, .long x85), (8, .int r42), (7, .int x29), (0, .ref (a 0)), (1, .int x1), (2, .int x2), (3, .int x3), (6, .int x6)]) X.1 X.2.1 dX8_sittingOf_85 hl (by decide) rfl (fun ls hl => ?_)
        refine lv_iload_n X.1 X.2.1 dX8_sittingOf_87 rfl (lv_at hl 6 rfl) ?_
        refine lv_iconst (v := 1) X.1 X.2.1 dX8_sittingOf_88 (by decide) ?_
        refine lv_iload X.1 X.2.1 dX8_sittingOf_89 (lv_at hl 2 rfl) ?_
        refine lv_ishl X.1 X.2.1 dX8_sittingOf_91 ?_
        refine lv_ior X.1 X.2.1 dX8_sittingOf_92 ?_
        refine nm_i hf (fun x93 hf => ?_)
        refine lv_istore_n (lv' := [(3, .int x93), (4, .long x85), (8, .int r42), (7, .int x29), (0, .ref (a 0)), (1, .int x1), (2, .int x2), (6, .int x6)]) X.1 X.2.1 dX8_sittingOf_93 rfl hl (by decide) rfl (fun ls hl => ?_)
        obtain ⟨x94, ex94, hf⟩ := nm_x hf
        refine lv_iinc (v := x94) (lv' := [(6, .int x94), (3, .int x93), (4, .long x85), (8, .int r42), (7, .int x29), (0, .ref (a 0)), (1, .int x1), (2, .int x2)]) X.1 X.2.1 dX8_sittingOf_94 hl (k := 7) rfl ex94 (by decide) rfl (fun ls hl => ?_)
        refine lv_goto (tgt := 8) X.1 X.2.1 dX8_sittingOf_97 (by decide) ?_
        exact kh8  x1 x2 x93 x85 x94 H locs ls hf  hP hS (lv_sub hl [5, 6, 7, 1, 2, 0] rfl)
      · have hf := it_s hf c63
        exact t_X8_sittingOf_b66 X  x2 H locs ls hf  hP hS (lv_sub hl [2, 4] rfl)
set_option maxRecDepth 100000 in
theorem t_X8_sittingOf_b8 {p : Program} {l : Launch} {e : Env} {s : State} {m : MethodId} {args : Array Value} {below : List Frame} {meth : Method} {c : Code} {D : va_G} {a : Nat → Nat} {kc : Nat → ClassId} (X : cx 21 p s m args meth c D (tyM kc) a cX8_sittingOf 9 RX8 (some .long)) {F : Nat → Int32} {G : Nat → Int64} {I : Nat → Nat → Int32} {J : Nat → Nat → Int64}  {r : Int64} :
    ∀ (n : Nat)  (x1 : Int32) (x2 : Int32) (x3 : Int32) (x4 : Int64) (x6 : Int32) (H : Heap) (locs : List Loc) (ls : Array Slot), p_X8_sittingOf_b8 n (F 2) (F 4) (I 2) (I 6) (I 8) (I 9) x1 x2 x3 x4 x6 = some r → va_P D vwCl (wM a kc F G I J) H → va_S (ad a 21 s.heap.size) s.heap H locs → lv_has ls 9 [(0, .ref (a 0)), (1, .int x1), (2, .int x2), (3, .int x3), (4, .long x4), (6, .int x6)] → W p l e rm_X8_sittingOf s m args below meth c H locs 0 0 (MQ below (Ql D (wM a kc F G I J) r (ad a 21 s.heap.size)) args s 0 0 (ad a 21 s.heap.size)) (F0 m 8 ls []) := by
  intro n
  induction n with
  | zero => intro  x1 x2 x3 x4 x6 H locs ls hf  hP hS hl; exact (nos hf).elim
  | succ n ih => exact t_X8_sittingOf_b8x X ih
set_option maxHeartbeats 4000000 in
set_option maxRecDepth 100000 in
theorem t_X8_sittingOf_b0 {p : Program} {l : Launch} {e : Env} {s : State} {m : MethodId} {args : Array Value} {below : List Frame} {meth : Method} {c : Code} {D : va_G} {a : Nat → Nat} {kc : Nat → ClassId} (X : cx 21 p s m args meth c D (tyM kc) a cX8_sittingOf 9 RX8 (some .long)) {F : Nat → Int32} {G : Nat → Int64} {I : Nat → Nat → Int32} {J : Nat → Nat → Int64}  {r : Int64} :
    ∀  (x1 : Int32) (x2 : Int32) (H : Heap) (locs : List Loc) (ls : Array Slot), p_X8_sittingOf_b0 (F 2) (F 4) (I 2) (I 6) (I 8) (I 9) x1 x2 = some r → va_P D vwCl (wM a kc F G I J) H → va_S (ad a 21 s.heap.size) s.heap H locs → lv_has ls 9 [(0, .ref (a 0)), (1, .int x1), (2, .int x2)] → W p l e rm_X8_sittingOf s m args below meth c H locs 0 0 (MQ below (Ql D (wM a kc F G I J) r (ad a 21 s.heap.size)) args s 0 0 (ad a 21 s.heap.size)) (F0 m 0 ls []) := by
  intro  x1 x2 H locs ls hf  hP hS hl
  unfold p_X8_sittingOf_b0 at hf
  refine lv_iconst (v := 0) X.1 X.2.1 dX8_sittingOf_0 (by decide) ?_
  refine lv_istore_n (lv' := [(3, .int 0), (0, .ref (a 0)), (1, .int x1), (2, .int x2)]) X.1 X.2.1 dX8_sittingOf_1 rfl hl (by decide) rfl (fun ls hl => ?_)
  refine lv_lconst (v := 1) X.1 X.2.1 dX8_sittingOf_2 (by decide) ?_
  refine lv_lstore (lv' := [(4, .long 1), (3, .int 0), (0, .ref (a 0)), (1, .int x1), (2, .int x2)]) X.1 X.2.1 dX8_sittingOf_3 hl (by decide) rfl (fun ls hl => ?_)
  refine lv_iconst (v := 0) X.1 X.2.1 dX8_sittingOf_5 (by decide) ?_
  refine lv_istore (lv' := [(6, .int 0), (4, .long 1), (3, .int 0), (0, .ref (a 0)), (1, .int x1), (2, .int x2)]) X.1 X.2.1 dX8_sittingOf_6 hl (by decide) rfl (fun ls hl => ?_)
  exact t_X8_sittingOf_b8 X 4096  x1 x2 0 1 0 H locs ls hf  hP hS (lv_sub hl [3, 4, 5, 2, 1, 0] rfl)
set_option maxRecDepth 100000 in
theorem c_X8_sittingOf {l : Launch} {D : va_G} {a : Nat → Nat} {kc : Nat → ClassId} (F : Nat → Int32) (G : Nat → Int64) (I : Nat → Nat → Int32) (J : Nat → Nat → Int64) (hAp : ∀ i j, i < 21 → j < 21 → a i = a j → i = j) (x1 : Int32) (x2 : Int32) {o0 : Int64} (hf : p_X8_sittingOf (F 2) (F 4) (I 2) (I 6) (I 8) (I 9) x1 x2 = some o0) : Ct 21 l yX8_sittingOf cX8_sittingOf 9 (some .long) rm_X8_sittingOf D (tyM kc) a (wM a kc F G I J) [.ref (a 0), .int x1, .int x2] (Ql D (wM a kc F G I J) o0) :=
  Ct.of (by decide +kernel) hAp (Nat.le_of_ble_eq_true rfl) (fun p e s m args below meth c ls X hP hl => t_X8_sittingOf_b0 X  x1 x2 _ _ _ hf  hP va_S.rf hl)
abbrev rm_X8_sitting : Room := { frames := 4, cells := 0, slots := 0, locals := 97 }
set_option maxHeartbeats 4000000 in
set_option maxRecDepth 100000 in
theorem t_X8_sitting_b14 {p : Program} {l : Launch} {e : Env} {s : State} {m : MethodId} {args : Array Value} {below : List Frame} {meth : Method} {c : Code} {D : va_G} {a : Nat → Nat} {kc : Nat → ClassId} (X : cx 21 p s m args meth c D (tyM kc) a cX8_sitting 4 RX8 (some .long)) {G : Nat → Int64} {J : Nat → Nat → Int64} {Ff : Nat → Int32} {If : Nat → Nat → Int32} {r : Int64} :
    ∀ (F : Nat → Int32) (I : Nat → Nat → Int32)  (H : Heap) (locs : List Loc) (ls : Array Slot), p_X8_sitting_b14 (F 0) (F 1) (F 2) (F 3) (F 4) (I 0) (I 1) (I 2) (I 4) (I 5) (I 6) (I 7) (I 8) (I 9)  = some (r, (Ff 0), (Ff 1), (Ff 2), (Ff 3), (Ff 4), (If 6), (If 7), (If 8), (If 9)) → (∀ k, k ∉ ([0, 1, 2, 3, 4] : List Nat) → Ff k = F k) → (∀ k, k ∉ ([6, 7, 8, 9] : List Nat) → If k = I k) → va_P D vwCl (wM a kc F G I J) H → va_S (ad a 21 s.heap.size) s.heap H locs → lv_has ls 4 [(0, .ref (a 0))] → W p l e rm_X8_sitting s m args below meth c H locs 0 0 (MQ below (Ql D (wM a kc Ff G If J) r (ad a 21 s.heap.size)) args s 0 0 (ad a 21 s.heap.size)) (F0 m 14 ls []) := by
  intro F I  H locs ls hf hfF hfI hP hS hl
  unfold p_X8_sitting_b14 at hf
  refine lv_bipush (v := (-2)) X.1 X.2.1 dX8_sitting_14 (by decide) ?_
  obtain ⟨r16, ho, hf⟩ := b1_s hf
  refine call_sl (rest := []) X (c_X8_no (-2) ho) q_5_158 q_5_159 q_1_10 q_5_160 ok_X8_no rfl ⟨Nat.le_of_ble_eq_true rfl, Nat.le_of_ble_eq_true rfl⟩ rfl rfl hl.1 rfl (Nat.le_of_ble_eq_true rfl) dX8_sitting_16 hP hS (fun H locs hP hS => ?_)
  obtain ⟨e0, hf⟩ := o2 hf
  obtain ⟨e1, hf⟩ := o2 hf
  obtain ⟨e2, hf⟩ := o2 hf
  obtain ⟨e3, hf⟩ := o2 hf
  obtain ⟨e4, hf⟩ := o2 hf
  obtain ⟨e5, hf⟩ := o2 hf
  obtain ⟨e6, hf⟩ := o2 hf
  obtain ⟨e7, hf⟩ := o2 hf
  obtain ⟨e8, hf⟩ := o2 hf
  have e9 := o1 hf
  have EF : Ff = F := frm_eq hfF (frm_c (e1).symm (frm_c (e2).symm (frm_c (e3).symm (frm_c (e4).symm (frm_c (e5).symm frm_n)))))
  have EI : If = I := frm_eq hfI (frm_c (e6).symm (frm_c (e7).symm (frm_c (e8).symm (frm_c (e9).symm frm_n))))
  exact ret_l X hS (by rw [EF, EI]; exact hP) e0 dX8_sitting_19
set_option maxHeartbeats 4000000 in
set_option maxRecDepth 100000 in
theorem t_X8_sitting_b43 {p : Program} {l : Launch} {e : Env} {s : State} {m : MethodId} {args : Array Value} {below : List Frame} {meth : Method} {c : Code} {D : va_G} {a : Nat → Nat} {kc : Nat → ClassId} (X : cx 21 p s m args meth c D (tyM kc) a cX8_sitting 4 RX8 (some .long)) {G : Nat → Int64} {J : Nat → Nat → Int64} {Ff : Nat → Int32} {If : Nat → Nat → Int32} {r : Int64} :
    ∀ (F : Nat → Int32) (I : Nat → Nat → Int32) (t0 : Int64) (H : Heap) (locs : List Loc) (ls : Array Slot), p_X8_sitting_b43 (F 0) (F 1) (F 2) (F 3) (F 4) (I 0) (I 1) (I 2) (I 4) (I 5) (I 6) (I 7) (I 8) (I 9) t0 = some (r, (Ff 0), (Ff 1), (Ff 2), (Ff 3), (Ff 4), (If 6), (If 7), (If 8), (If 9)) → (∀ k, k ∉ ([0, 1, 2, 3, 4] : List Nat) → Ff k = F k) → (∀ k, k ∉ ([6, 7, 8, 9] : List Nat) → If k = I k) → va_P D vwCl (wM a kc F G I J) H → va_S (ad a 21 s.heap.size) s.heap H locs → lv_has ls 4 [(0, .ref (a 0))] → W p l e rm_X8_sitting s m args below meth c H locs 0 0 (MQ below (Ql D (wM a kc Ff G If J) r (ad a 21 s.heap.size)) args s 0 0 (ad a 21 s.heap.size)) (F0 m 43 ls [.long t0]) := by
  intro F I t0 H locs ls hf hfF hfI hP hS hl
  unfold p_X8_sitting_b43 at hf
  obtain ⟨e0, hf⟩ := o2 hf
  obtain ⟨e1, hf⟩ := o2 hf
  obtain ⟨e2, hf⟩ := o2 hf
  obtain ⟨e3, hf⟩ := o2 hf
  obtain ⟨e4, hf⟩ := o2 hf
  obtain ⟨e5, hf⟩ := o2 hf
  obtain ⟨e6, hf⟩ := o2 hf
  obtain ⟨e7, hf⟩ := o2 hf
  obtain ⟨e8, hf⟩ := o2 hf
  have e9 := o1 hf
  have EF : Ff = F := frm_eq hfF (frm_c (e1).symm (frm_c (e2).symm (frm_c (e3).symm (frm_c (e4).symm (frm_c (e5).symm frm_n)))))
  have EI : If = I := frm_eq hfI (frm_c (e6).symm (frm_c (e7).symm (frm_c (e8).symm (frm_c (e9).symm frm_n))))
  exact ret_l X hS (by rw [EF, EI]; exact hP) e0 dX8_sitting_43
set_option maxHeartbeats 4000000 in
set_option maxRecDepth 100000 in
theorem t_X8_sitting_b0 {p : Program} {l : Launch} {e : Env} {s : State} {m : MethodId} {args : Array Value} {below : List Frame} {meth : Method} {c : Code} {D : va_G} {a : Nat → Nat} {kc : Nat → ClassId} (X : cx 21 p s m args meth c D (tyM kc) a cX8_sitting 4 RX8 (some .long)) {G : Nat → Int64} {J : Nat → Nat → Int64} {Ff : Nat → Int32} {If : Nat → Nat → Int32} {r : Int64} :
    ∀ (F : Nat → Int32) (I : Nat → Nat → Int32) (x1 : Int32) (x2 : Int32) (H : Heap) (locs : List Loc) (ls : Array Slot), p_X8_sitting_b0 (F 0) (F 1) (F 2) (F 3) (F 4) (I 0) (I 1) (I 2) (I 4) (I 5) (I 6) (I 7) (I 8) (I 9) x1 x2 = some (r, (Ff 0), (Ff 1), (Ff 2), (Ff 3), (Ff 4), (If 6), (If 7), (If 8), (If 9)) → (∀ k, k ∉ ([0, 1, 2, 3, 4] : List Nat) → Ff k = F k) → (∀ k, k ∉ ([6, 7, 8, 9] : List Nat) → If k = I k) → va_P D vwCl (wM a kc F G I J) H → va_S (ad a 21 s.heap.size) s.heap H locs → lv_has ls 4 [(0, .ref (a 0)), (1, .int x1), (2, .int x2)] → W p l e rm_X8_sitting s m args below meth c H locs 0 0 (MQ below (Ql D (wM a kc Ff G If J) r (ad a 21 s.heap.size)) args s 0 0 (ad a 21 s.heap.size)) (F0 m 0 ls []) := by
  intro F I x1 x2 H locs ls hf hfF hfI hP hS hl
  unfold p_X8_sitting_b0 at hf
  refine lv_iload_n X.1 X.2.1 dX8_sitting_0 rfl (lv_at hl 1 rfl) ?_
  obtain ⟨r1, ho, hf⟩ := b1_s hf
  refine call_si (rest := []) X (c_X8_isSheet x1 ho) q_4_222 q_4_223 q_1_10 q_4_224 ok_X8_isSheet rfl ⟨Nat.le_of_ble_eq_true rfl, Nat.le_of_ble_eq_true rfl⟩ rfl rfl hl.1 rfl (Nat.le_of_ble_eq_true rfl) dX8_sitting_1 hP hS (fun H locs hP hS => ?_)
  refine lv_if_eq (tgt := 14) X.1 X.2.1 dX8_sitting_4 (by decide) (fun c4 => ?_) (fun c4 => ?_)
  · have hf := it_s hf c4
    exact t_X8_sitting_b14 X F I  H locs ls hf hfF hfI hP hS (lv_sub hl [0] rfl)
  · have hf := ie_s hf c4
    refine lv_iload_n X.1 X.2.1 dX8_sitting_7 rfl (lv_at hl 2 rfl) ?_
    obtain ⟨r8, ho, hf⟩ := b1_s hf
    refine call_si (rest := []) X (c_X8_isTwo x2 ho) q_5_22 q_5_23 q_1_10 q_5_24 ok_X8_isTwo rfl ⟨Nat.le_of_ble_eq_true rfl, Nat.le_of_ble_eq_true rfl⟩ rfl rfl hl.1 rfl (Nat.le_of_ble_eq_true rfl) dX8_sitting_8 hP hS (fun H locs hP hS => ?_)
    refine lv_if_ne (tgt := 20) X.1 X.2.1 dX8_sitting_11 (by decide) (fun c11 => ?_) (fun c11 => ?_)
    · have hf := ie_s hf c11
      refine lv_aload_n X.1 X.2.1 dX8_sitting_20 rfl (lv_at hl 0 rfl) ?_
      refine lv_iload_n X.1 X.2.1 dX8_sitting_21 rfl (lv_at hl 1 rfl) ?_
      obtain ⟨r22, m_latest_22, m_at_22, m_seats_22, m_rows_22, m_people_22, m_sorts_22, m_rowOf_22, m_own_22, m_kinds_22, ho, hf⟩ := b10_s hf
      refine call_vi (rest := []) X (c_X8_noSitting F G I J X.2.2.2.2.2.2.2.1 x1 ho) q_5_211 q_5_213 qs_yX8_noSitting q_1_10 q_5_214 ok_X8_noSitting rfl 0 rfl rfl ⟨Nat.le_of_ble_eq_true rfl, Nat.le_of_ble_eq_true rfl⟩ rfl rfl hl.1 rfl (Nat.le_of_ble_eq_true rfl) dX8_sitting_22 hP hS (fun H locs hP hS => ?_)
      refine lv_istore_n (lv' := [(3, .int r22), (0, .ref (a 0)), (1, .int x1), (2, .int x2)]) X.1 X.2.1 dX8_sitting_25 rfl hl (by decide) rfl (fun ls hl => ?_)
      refine lv_iload_n X.1 X.2.1 dX8_sitting_26 rfl (lv_at hl 0 rfl) ?_
      refine lv_if_eq (tgt := 37) X.1 X.2.1 dX8_sitting_27 (by decide) (fun c27 => ?_) (fun c27 => ?_)
      · have hf := it_s hf c27
        refine lv_aload_n X.1 X.2.1 dX8_sitting_37 rfl (lv_at hl 1 rfl) ?_
        refine lv_iload_n X.1 X.2.1 dX8_sitting_38 rfl (lv_at hl 2 rfl) ?_
        refine lv_iload_n X.1 X.2.1 dX8_sitting_39 rfl (lv_at hl 3 rfl) ?_
        obtain ⟨r40, ho, hf⟩ := b1_s hf
        refine call_vl (rest := []) X (c_X8_sittingOf (va_up (va_up (va_up (va_up (va_up F 0 m_latest_22) 1 m_at_22) 2 m_seats_22) 3 m_rows_22) 4 m_people_22) G (va_up (va_up (va_up (va_up I 6 m_sorts_22) 7 m_rowOf_22) 8 m_own_22) 9 m_kinds_22) J X.2.2.2.2.2.2.2.1 x1 x2 ho) q_5_223 q_5_225 qs_yX8_sittingOf q_1_10 q_5_226 ok_X8_sittingOf rfl 0 rfl rfl ⟨Nat.le_of_ble_eq_true rfl, Nat.le_of_ble_eq_true rfl⟩ rfl rfl hl.1 rfl (Nat.le_of_ble_eq_true rfl) dX8_sitting_40 hP hS (fun H locs hP hS => ?_)
        exact t_X8_sitting_b43 X (va_up (va_up (va_up (va_up (va_up F 0 m_latest_22) 1 m_at_22) 2 m_seats_22) 3 m_rows_22) 4 m_people_22) (va_up (va_up (va_up (va_up I 6 m_sorts_22) 7 m_rowOf_22) 8 m_own_22) 9 m_kinds_22) r40 H locs ls hf (frm_up (frm_up (frm_up (frm_up (frm_up hfF (by decide)) (by decide)) (by decide)) (by decide)) (by decide)) (frm_up (frm_up (frm_up (frm_up hfI (by decide)) (by decide)) (by decide)) (by decide)) hP hS (lv_sub hl [1] rfl)
      · have hf := ie_s hf c27
        refine lv_iload_n X.1 X.2.1 dX8_sitting_30 rfl (lv_at hl 0 rfl) ?_
        obtain ⟨r31, ho, hf⟩ := b1_s hf
        refine call_sl (rest := []) X (c_X8_no r22 ho) q_5_158 q_5_159 q_1_10 q_5_160 ok_X8_no rfl ⟨Nat.le_of_ble_eq_true rfl, Nat.le_of_ble_eq_true rfl⟩ rfl rfl hl.1 rfl (Nat.le_of_ble_eq_true rfl) dX8_sitting_31 hP hS (fun H locs hP hS => ?_)
        refine lv_goto (tgt := 43) X.1 X.2.1 dX8_sitting_34 (by decide) ?_
        exact t_X8_sitting_b43 X (va_up (va_up (va_up (va_up (va_up F 0 m_latest_22) 1 m_at_22) 2 m_seats_22) 3 m_rows_22) 4 m_people_22) (va_up (va_up (va_up (va_up I 6 m_sorts_22) 7 m_rowOf_22) 8 m_own_22) 9 m_kinds_22) r31 H locs ls hf (frm_up (frm_up (frm_up (frm_up (frm_up hfF (by decide)) (by decide)) (by decide)) (by decide)) (by decide)) (frm_up (frm_up (frm_up (frm_up hfI (by decide)) (by decide)) (by decide)) (by decide)) hP hS (lv_sub hl [1] rfl)
    · have hf := it_s hf c11
      exact t_X8_sitting_b14 X F I  H locs ls hf hfF hfI hP hS (lv_sub hl [0] rfl)
set_option maxRecDepth 100000 in
theorem c_X8_sitting {l : Launch} {D : va_G} {a : Nat → Nat} {kc : Nat → ClassId} (F : Nat → Int32) (G : Nat → Int64) (I : Nat → Nat → Int32) (J : Nat → Nat → Int64) (hAp : ∀ i j, i < 21 → j < 21 → a i = a j → i = j) (x1 : Int32) (x2 : Int32) {o0 : Int64} {o1 : Int32} {o2 : Int32} {o3 : Int32} {o4 : Int32} {o5 : Int32} {o6 : Nat → Int32} {o7 : Nat → Int32} {o8 : Nat → Int32} {o9 : Nat → Int32} (hf : p_X8_sitting (F 0) (F 1) (F 2) (F 3) (F 4) (I 0) (I 1) (I 2) (I 4) (I 5) (I 6) (I 7) (I 8) (I 9) x1 x2 = some (o0, o1, o2, o3, o4, o5, o6, o7, o8, o9)) : Ct 21 l yX8_sitting cX8_sitting 4 (some .long) rm_X8_sitting D (tyM kc) a (wM a kc F G I J) [.ref (a 0), .int x1, .int x2] (Ql D (wM a kc (va_up (va_up (va_up (va_up (va_up F 0 o1) 1 o2) 2 o3) 3 o4) 4 o5) G (va_up (va_up (va_up (va_up I 6 o6) 7 o7) 8 o8) 9 o9) J) o0) :=
  Ct.of (by decide +kernel) hAp (Nat.le_of_ble_eq_true rfl) (fun p e s m args below meth c ls X hP hl => t_X8_sitting_b0 X F I x1 x2 _ _ _ hf (frm_ul (frm_ul (frm_ul (frm_ul (frm_ul (fun k _ => rfl) (by decide)) (by decide)) (by decide)) (by decide)) (by decide)) (frm_ul (frm_ul (frm_ul (frm_ul (fun k _ => rfl) (by decide)) (by decide)) (by decide)) (by decide)) hP va_S.rf hl)
abbrev rm_X8_swaps : Room := { frames := 0, cells := 0, slots := 0, locals := 0 }
set_option maxHeartbeats 4000000 in
set_option maxRecDepth 100000 in
theorem t_X8_swaps_b0 {p : Program} {l : Launch} {e : Env} {s : State} {m : MethodId} {args : Array Value} {below : List Frame} {meth : Method} {c : Code} {D : va_G} {a : Nat → Nat} {kc : Nat → ClassId} (X : cx 21 p s m args meth c D (tyM kc) a cX8_swaps 4 RX8 none) {F : Nat → Int32} {G : Nat → Int64} {J : Nat → Nat → Int64} {If : Nat → Nat → Int32}  :
    ∀ (I : Nat → Nat → Int32) (x1 : Int32) (x2 : Int32) (H : Heap) (locs : List Loc) (ls : Array Slot), p_X8_swaps_b0 (I 11) x1 x2 = some (If 11) → (∀ k, k ∉ ([11] : List Nat) → If k = I k) → va_P D vwCl (wM a kc F G I J) H → va_S (ad a 21 s.heap.size) s.heap H locs → lv_has ls 4 [(0, .ref (a 0)), (1, .int x1), (2, .int x2)] → W p l e rm_X8_swaps s m args below meth c H locs 0 0 (MQ below (Qv D (wM a kc F G If J) (ad a 21 s.heap.size)) args s 0 0 (ad a 21 s.heap.size)) (F0 m 0 ls []) := by
  intro I x1 x2 H locs ls hf hfI hP hS hl
  unfold p_X8_swaps_b0 at hf
  refine lv_aload_n X.1 X.2.1 dX8_swaps_0 rfl (lv_at hl 0 rfl) ?_
  refine gM_0_23 X q_4_132 dX8_swaps_1 hP ?_
  refine lv_iload_n X.1 X.2.1 dX8_swaps_4 rfl (lv_at hl 1 rfl) ?_
  obtain ⟨h5, hf⟩ := gd_s hf
  refine lM_14 (I := I) X (f := (I 11)) rfl h5 dX8_swaps_5 hP ?_
  refine nm_i hf (fun x6 hf => ?_)
  refine lv_istore_n (lv' := [(3, .int x6), (0, .ref (a 0)), (1, .int x1), (2, .int x2)]) X.1 X.2.1 dX8_swaps_6 rfl hl (by decide) rfl (fun ls hl => ?_)
  refine lv_aload_n X.1 X.2.1 dX8_swaps_7 rfl (lv_at hl 1 rfl) ?_
  refine gM_0_23 X q_4_132 dX8_swaps_8 hP ?_
  refine lv_iload_n X.1 X.2.1 dX8_swaps_11 rfl (lv_at hl 2 rfl) ?_
  refine lv_aload_n X.1 X.2.1 dX8_swaps_12 rfl (lv_at hl 1 rfl) ?_
  refine gM_0_23 X q_4_132 dX8_swaps_13 hP ?_
  refine lv_iload_n X.1 X.2.1 dX8_swaps_16 rfl (lv_at hl 3 rfl) ?_
  obtain ⟨h17, hf⟩ := gd_s hf
  refine lM_14 (I := I) X (f := (I 11)) rfl h17 dX8_swaps_17 hP ?_
  obtain ⟨h18, hf⟩ := gd_s hf
  obtain ⟨m_order_18, em_order_18, hf⟩ := nm_x hf
  refine sM_14 (I := I) X h18 em_order_18 dX8_swaps_18 hP hS (fun H locs hP hS => ?_)
  refine lv_aload_n X.1 X.2.1 dX8_swaps_19 rfl (lv_at hl 1 rfl) ?_
  refine gM_0_23 X q_4_132 dX8_swaps_20 hP ?_
  refine lv_iload_n X.1 X.2.1 dX8_swaps_23 rfl (lv_at hl 3 rfl) ?_
  refine lv_iload_n X.1 X.2.1 dX8_swaps_24 rfl (lv_at hl 0 rfl) ?_
  obtain ⟨h25, hf⟩ := gd_s hf
  obtain ⟨m_order_25, em_order_25, hf⟩ := nm_x hf
  refine sM_14 (I := (va_up I 11 m_order_18)) X h25 em_order_25 dX8_swaps_25 hP hS (fun H locs hP hS => ?_)
  have e0 := o1 hf
  have EI : If = (va_up (va_up I 11 m_order_18) 11 m_order_25) := frm_eq (frm_up (frm_up hfI (by decide)) (by decide)) (frm_c (e0).symm frm_n)
  exact ret_v X hS (by rw [EI]; exact hP) dX8_swaps_26
set_option maxRecDepth 100000 in
theorem c_X8_swaps {l : Launch} {D : va_G} {a : Nat → Nat} {kc : Nat → ClassId} (F : Nat → Int32) (G : Nat → Int64) (I : Nat → Nat → Int32) (J : Nat → Nat → Int64) (hAp : ∀ i j, i < 21 → j < 21 → a i = a j → i = j) (x1 : Int32) (x2 : Int32) {o0 : Nat → Int32} (hf : p_X8_swaps (I 11) x1 x2 = some o0) : Ct 21 l yX8_swaps cX8_swaps 4 none rm_X8_swaps D (tyM kc) a (wM a kc F G I J) [.ref (a 0), .int x1, .int x2] (Qv D (wM a kc F G (va_up I 11 o0) J)) :=
  Ct.of (by decide +kernel) hAp (Nat.le_of_ble_eq_true rfl) (fun p e s m args below meth c ls X hP hl => t_X8_swaps_b0 X I x1 x2 _ _ _ hf (frm_ul (fun k _ => rfl) (by decide)) hP va_S.rf hl)
abbrev rm_X8_goesOn : Room := { frames := 1, cells := 0, slots := 0, locals := 23 }
set_option maxHeartbeats 4000000 in
set_option maxRecDepth 100000 in
theorem t_X8_goesOn_b78x {p : Program} {l : Launch} {e : Env} {s : State} {m : MethodId} {args : Array Value} {below : List Frame} {meth : Method} {c : Code} {D : va_G} {a : Nat → Nat} {kc : Nat → ClassId} (X : cx 21 p s m args meth c D (tyM kc) a cX8_goesOn 6 RX8 (some .boolean)) {F : Nat → Int32} {G : Nat → Int64} {J : Nat → Nat → Int64} {If : Nat → Nat → Int32} {r : Int32} {K78 : (Nat → Int32) → Int32 → Int32 → Option (Int32 × (Nat → Int32))} (kh78 : ∀ (I : Nat → Nat → Int32) (x4 : Int32) (x5 : Int32) (H : Heap) (locs : List Loc) (ls : Array Slot), K78 (I 11) x4 x5 = some (r, (If 11)) → (∀ k, k ∉ ([11] : List Nat) → If k = I k) → va_P D vwCl (wM a kc F G I J) H → va_S (ad a 21 s.heap.size) s.heap H locs → lv_has ls 6 [(0, .ref (a 0)), (4, .int x4), (5, .int x5)] → W p l e rm_X8_goesOn s m args below meth c H locs 0 0 (MQ below (Qi D (wM a kc F G If J) r (ad a 21 s.heap.size)) args s 0 0 (ad a 21 s.heap.size)) (F0 m 78 ls [])) :
    ∀ (I : Nat → Nat → Int32) (x4 : Int32) (x5 : Int32) (H : Heap) (locs : List Loc) (ls : Array Slot), p_X8_goesOn_b78x K78 (I 11) x4 x5 = some (r, (If 11)) → (∀ k, k ∉ ([11] : List Nat) → If k = I k) → va_P D vwCl (wM a kc F G I J) H → va_S (ad a 21 s.heap.size) s.heap H locs → lv_has ls 6 [(0, .ref (a 0)), (4, .int x4), (5, .int x5)] → W p l e rm_X8_goesOn s m args below meth c H locs 0 0 (MQ below (Qi D (wM a kc F G If J) r (ad a 21 s.heap.size)) args s 0 0 (ad a 21 s.heap.size)) (F0 m 78 ls []) := by
  intro I x4 x5 H locs ls hf hfI hP hS hl
  unfold p_X8_goesOn_b78x at hf
  refine lv_iload X.1 X.2.1 dX8_goesOn_78 (lv_at hl 1 rfl) ?_
  refine lv_iload X.1 X.2.1 dX8_goesOn_80 (lv_at hl 2 rfl) ?_
  refine lv_icmp_ge (tgt := 102) X.1 X.2.1 dX8_goesOn_82 (by decide) (fun c82 => ?_) (fun c82 => ?_)
  · have hf := it_s hf c82
    refine lv_iconst (v := 1) X.1 X.2.1 dX8_goesOn_102 (by decide) ?_
    obtain ⟨e0, hf⟩ := o2 hf
    have e1 := o1 hf
    have EI : If = I := frm_eq hfI (frm_c (e1).symm frm_n)
    exact ret_z X hS (by rw [EI]; exact hP) e0 (by decide) dX8_goesOn_103
  · have hf := ie_s hf c82
    refine lv_aload_n X.1 X.2.1 dX8_goesOn_85 rfl (lv_at hl 0 rfl) ?_
    refine lv_iload X.1 X.2.1 dX8_goesOn_86 (lv_at hl 1 rfl) ?_
    refine lv_iload X.1 X.2.1 dX8_goesOn_88 (lv_at hl 2 rfl) ?_
    obtain ⟨m_order_90, ho, hf⟩ := b1_s hf
    refine call_vv (rest := []) X (c_X8_swaps F G I J X.2.2.2.2.2.2.2.1 x4 x5 ho) q_5_239 q_6_1 qs_yX8_swaps q_1_10 q_6_2 ok_X8_swaps rfl 0 rfl rfl ⟨Nat.le_of_ble_eq_true rfl, Nat.le_of_ble_eq_true rfl⟩ rfl rfl hl.1 rfl (Nat.le_of_ble_eq_true rfl) dX8_goesOn_90 hP hS (fun H locs hP hS => ?_)
    obtain ⟨x93, ex93, hf⟩ := nm_x hf
    refine lv_iinc (v := x93) (lv' := [(4, .int x93), (0, .ref (a 0)), (5, .int x5)]) X.1 X.2.1 dX8_goesOn_93 hl (k := 1) rfl ex93 (by decide) rfl (fun ls hl => ?_)
    obtain ⟨x96, ex96, hf⟩ := nm_x hf
    refine lv_iinc (v := x96) (lv' := [(5, .int x96), (4, .int x93), (0, .ref (a 0))]) X.1 X.2.1 dX8_goesOn_96 hl (k := 2) rfl ex96 (by decide) rfl (fun ls hl => ?_)
    refine lv_goto (tgt := 78) X.1 X.2.1 dX8_goesOn_99 (by decide) ?_
    exact kh78 (va_up I 11 m_order_90) x93 x96 H locs ls hf (frm_up hfI (by decide)) hP hS (lv_sub hl [2, 1, 0] rfl)
set_option maxRecDepth 100000 in
theorem t_X8_goesOn_b78 {p : Program} {l : Launch} {e : Env} {s : State} {m : MethodId} {args : Array Value} {below : List Frame} {meth : Method} {c : Code} {D : va_G} {a : Nat → Nat} {kc : Nat → ClassId} (X : cx 21 p s m args meth c D (tyM kc) a cX8_goesOn 6 RX8 (some .boolean)) {F : Nat → Int32} {G : Nat → Int64} {J : Nat → Nat → Int64} {If : Nat → Nat → Int32} {r : Int32} :
    ∀ (n : Nat) (I : Nat → Nat → Int32) (x4 : Int32) (x5 : Int32) (H : Heap) (locs : List Loc) (ls : Array Slot), p_X8_goesOn_b78 n (I 11) x4 x5 = some (r, (If 11)) → (∀ k, k ∉ ([11] : List Nat) → If k = I k) → va_P D vwCl (wM a kc F G I J) H → va_S (ad a 21 s.heap.size) s.heap H locs → lv_has ls 6 [(0, .ref (a 0)), (4, .int x4), (5, .int x5)] → W p l e rm_X8_goesOn s m args below meth c H locs 0 0 (MQ below (Qi D (wM a kc F G If J) r (ad a 21 s.heap.size)) args s 0 0 (ad a 21 s.heap.size)) (F0 m 78 ls []) := by
  intro n
  induction n with
  | zero => intro I x4 x5 H locs ls hf hfI hP hS hl; exact (nos hf).elim
  | succ n ih => exact t_X8_goesOn_b78x X ih
set_option maxHeartbeats 4000000 in
set_option maxRecDepth 100000 in
theorem t_X8_goesOn_b41x {p : Program} {l : Launch} {e : Env} {s : State} {m : MethodId} {args : Array Value} {below : List Frame} {meth : Method} {c : Code} {D : va_G} {a : Nat → Nat} {kc : Nat → ClassId} (X : cx 21 p s m args meth c D (tyM kc) a cX8_goesOn 6 RX8 (some .boolean)) {F : Nat → Int32} {G : Nat → Int64} {J : Nat → Nat → Int64} {If : Nat → Nat → Int32} {r : Int32} {K41 : (Nat → Int32) → Int32 → Int32 → Int32 → Option (Int32 × (Nat → Int32))} (kh41 : ∀ (I : Nat → Nat → Int32) (x1 : Int32) (x2 : Int32) (x3 : Int32) (H : Heap) (locs : List Loc) (ls : Array Slot), K41 (I 11) x1 x2 x3 = some (r, (If 11)) → (∀ k, k ∉ ([11] : List Nat) → If k = I k) → va_P D vwCl (wM a kc F G I J) H → va_S (ad a 21 s.heap.size) s.heap H locs → lv_has ls 6 [(0, .ref (a 0)), (1, .int x1), (2, .int x2), (3, .int x3)] → W p l e rm_X8_goesOn s m args below meth c H locs 0 0 (MQ below (Qi D (wM a kc F G If J) r (ad a 21 s.heap.size)) args s 0 0 (ad a 21 s.heap.size)) (F0 m 41 ls [])) :
    ∀ (I : Nat → Nat → Int32) (x1 : Int32) (x2 : Int32) (x3 : Int32) (H : Heap) (locs : List Loc) (ls : Array Slot), p_X8_goesOn_b41x K41 (I 11) x1 x2 x3 = some (r, (If 11)) → (∀ k, k ∉ ([11] : List Nat) → If k = I k) → va_P D vwCl (wM a kc F G I J) H → va_S (ad a 21 s.heap.size) s.heap H locs → lv_has ls 6 [(0, .ref (a 0)), (1, .int x1), (2, .int x2), (3, .int x3)] → W p l e rm_X8_goesOn s m args below meth c H locs 0 0 (MQ below (Qi D (wM a kc F G If J) r (ad a 21 s.heap.size)) args s 0 0 (ad a 21 s.heap.size)) (F0 m 41 ls []) := by
  intro I x1 x2 x3 H locs ls hf hfI hP hS hl
  unfold p_X8_goesOn_b41x at hf
  refine lv_aload_n X.1 X.2.1 dX8_goesOn_41 rfl (lv_at hl 0 rfl) ?_
  refine gM_0_23 X q_4_132 dX8_goesOn_42 hP ?_
  refine lv_iload_n X.1 X.2.1 dX8_goesOn_45 rfl (lv_at hl 3 rfl) ?_
  obtain ⟨h46, hf⟩ := gd_s hf
  refine lM_14 (I := I) X (f := (I 11)) rfl h46 dX8_goesOn_46 hP ?_
  refine lv_aload_n X.1 X.2.1 dX8_goesOn_47 rfl (lv_at hl 0 rfl) ?_
  refine gM_0_23 X q_4_132 dX8_goesOn_48 hP ?_
  refine lv_iload_n X.1 X.2.1 dX8_goesOn_51 rfl (lv_at hl 2 rfl) ?_
  obtain ⟨h52, hf⟩ := gd_s hf
  refine lM_14 (I := I) X (f := (I 11)) rfl h52 dX8_goesOn_52 hP ?_
  refine lv_icmp_ge (tgt := 62) X.1 X.2.1 dX8_goesOn_53 (by decide) (fun c53 => ?_) (fun c53 => ?_)
  · have hf := it_s hf c53
    refine lv_aload_n X.1 X.2.1 dX8_goesOn_62 rfl (lv_at hl 0 rfl) ?_
    refine lv_iload_n X.1 X.2.1 dX8_goesOn_63 rfl (lv_at hl 2 rfl) ?_
    refine lv_iload_n X.1 X.2.1 dX8_goesOn_64 rfl (lv_at hl 3 rfl) ?_
    obtain ⟨m_order_65, ho, hf⟩ := b1_s hf
    refine call_vv (rest := []) X (c_X8_swaps F G I J X.2.2.2.2.2.2.2.1 x2 x3 ho) q_5_239 q_6_1 qs_yX8_swaps q_1_10 q_6_2 ok_X8_swaps rfl 0 rfl rfl ⟨Nat.le_of_ble_eq_true rfl, Nat.le_of_ble_eq_true rfl⟩ rfl rfl hl.1 rfl (Nat.le_of_ble_eq_true rfl) dX8_goesOn_65 hP hS (fun H locs hP hS => ?_)
    refine lv_iload_n X.1 X.2.1 dX8_goesOn_68 rfl (lv_at hl 2 rfl) ?_
    refine lv_iconst (v := 1) X.1 X.2.1 dX8_goesOn_69 (by decide) ?_
    refine lv_iadd X.1 X.2.1 dX8_goesOn_70 ?_
    refine nm_i hf (fun x71 hf => ?_)
    refine lv_istore (lv' := [(4, .int x71), (0, .ref (a 0)), (1, .int x1), (2, .int x2), (3, .int x3)]) X.1 X.2.1 dX8_goesOn_71 hl (by decide) rfl (fun ls hl => ?_)
    refine lv_iload_n X.1 X.2.1 dX8_goesOn_73 rfl (lv_at hl 2 rfl) ?_
    refine lv_iconst (v := 1) X.1 X.2.1 dX8_goesOn_74 (by decide) ?_
    refine lv_isub X.1 X.2.1 dX8_goesOn_75 ?_
    refine nm_i hf (fun x76 hf => ?_)
    refine lv_istore (lv' := [(5, .int x76), (4, .int x71), (0, .ref (a 0)), (1, .int x1), (2, .int x2), (3, .int x3)]) X.1 X.2.1 dX8_goesOn_76 hl (by decide) rfl (fun ls hl => ?_)
    exact t_X8_goesOn_b78 X 4096 (va_up I 11 m_order_65) x71 x76 H locs ls hf (frm_up hfI (by decide)) hP hS (lv_sub hl [2, 1, 0] rfl)
  · have hf := ie_s hf c53
    obtain ⟨x56, ex56, hf⟩ := nm_x hf
    refine lv_iinc (v := x56) (lv' := [(3, .int x56), (0, .ref (a 0)), (1, .int x1), (2, .int x2)]) X.1 X.2.1 dX8_goesOn_56 hl (k := 3) rfl ex56 (by decide) rfl (fun ls hl => ?_)
    refine lv_goto (tgt := 41) X.1 X.2.1 dX8_goesOn_59 (by decide) ?_
    exact kh41 I x1 x2 x56 H locs ls hf hfI hP hS (lv_sub hl [1, 2, 3, 0] rfl)
set_option maxRecDepth 100000 in
theorem t_X8_goesOn_b41 {p : Program} {l : Launch} {e : Env} {s : State} {m : MethodId} {args : Array Value} {below : List Frame} {meth : Method} {c : Code} {D : va_G} {a : Nat → Nat} {kc : Nat → ClassId} (X : cx 21 p s m args meth c D (tyM kc) a cX8_goesOn 6 RX8 (some .boolean)) {F : Nat → Int32} {G : Nat → Int64} {J : Nat → Nat → Int64} {If : Nat → Nat → Int32} {r : Int32} :
    ∀ (n : Nat) (I : Nat → Nat → Int32) (x1 : Int32) (x2 : Int32) (x3 : Int32) (H : Heap) (locs : List Loc) (ls : Array Slot), p_X8_goesOn_b41 n (I 11) x1 x2 x3 = some (r, (If 11)) → (∀ k, k ∉ ([11] : List Nat) → If k = I k) → va_P D vwCl (wM a kc F G I J) H → va_S (ad a 21 s.heap.size) s.heap H locs → lv_has ls 6 [(0, .ref (a 0)), (1, .int x1), (2, .int x2), (3, .int x3)] → W p l e rm_X8_goesOn s m args below meth c H locs 0 0 (MQ below (Qi D (wM a kc F G If J) r (ad a 21 s.heap.size)) args s 0 0 (ad a 21 s.heap.size)) (F0 m 41 ls []) := by
  intro n
  induction n with
  | zero => intro I x1 x2 x3 H locs ls hf hfI hP hS hl; exact (nos hf).elim
  | succ n ih => exact t_X8_goesOn_b41x X ih
set_option maxHeartbeats 4000000 in
set_option maxRecDepth 100000 in
theorem t_X8_goesOn_b31 {p : Program} {l : Launch} {e : Env} {s : State} {m : MethodId} {args : Array Value} {below : List Frame} {meth : Method} {c : Code} {D : va_G} {a : Nat → Nat} {kc : Nat → ClassId} (X : cx 21 p s m args meth c D (tyM kc) a cX8_goesOn 6 RX8 (some .boolean)) {F : Nat → Int32} {G : Nat → Int64} {J : Nat → Nat → Int64} {If : Nat → Nat → Int32} {r : Int32} :
    ∀ (I : Nat → Nat → Int32) (x1 : Int32) (x2 : Int32) (H : Heap) (locs : List Loc) (ls : Array Slot), p_X8_goesOn_b31 (I 11) x1 x2 = some (r, (If 11)) → (∀ k, k ∉ ([11] : List Nat) → If k = I k) → va_P D vwCl (wM a kc F G I J) H → va_S (ad a 21 s.heap.size) s.heap H locs → lv_has ls 6 [(0, .ref (a 0)), (1, .int x1), (2, .int x2)] → W p l e rm_X8_goesOn s m args below meth c H locs 0 0 (MQ below (Qi D (wM a kc F G If J) r (ad a 21 s.heap.size)) args s 0 0 (ad a 21 s.heap.size)) (F0 m 31 ls []) := by
  intro I x1 x2 H locs ls hf hfI hP hS hl
  unfold p_X8_goesOn_b31 at hf
  refine lv_iload_n X.1 X.2.1 dX8_goesOn_31 rfl (lv_at hl 2 rfl) ?_
  refine lv_if_ge (tgt := 37) X.1 X.2.1 dX8_goesOn_32 (by decide) (fun c32 => ?_) (fun c32 => ?_)
  · have hf := it_s hf c32
    refine lv_iload_n X.1 X.2.1 dX8_goesOn_37 rfl (lv_at hl 1 rfl) ?_
    refine lv_iconst (v := 1) X.1 X.2.1 dX8_goesOn_38 (by decide) ?_
    refine lv_isub X.1 X.2.1 dX8_goesOn_39 ?_
    refine nm_i hf (fun x40 hf => ?_)
    refine lv_istore_n (lv' := [(3, .int x40), (0, .ref (a 0)), (1, .int x1), (2, .int x2)]) X.1 X.2.1 dX8_goesOn_40 rfl hl (by decide) rfl (fun ls hl => ?_)
    exact t_X8_goesOn_b41 X 4096 I x1 x2 x40 H locs ls hf hfI hP hS (lv_sub hl [1, 2, 3, 0] rfl)
  · have hf := ie_s hf c32
    refine lv_iconst (v := 0) X.1 X.2.1 dX8_goesOn_35 (by decide) ?_
    obtain ⟨e0, hf⟩ := o2 hf
    have e1 := o1 hf
    have EI : If = I := frm_eq hfI (frm_c (e1).symm frm_n)
    exact ret_z X hS (by rw [EI]; exact hP) e0 (by decide) dX8_goesOn_36
set_option maxHeartbeats 4000000 in
set_option maxRecDepth 100000 in
theorem t_X8_goesOn_b4x {p : Program} {l : Launch} {e : Env} {s : State} {m : MethodId} {args : Array Value} {below : List Frame} {meth : Method} {c : Code} {D : va_G} {a : Nat → Nat} {kc : Nat → ClassId} (X : cx 21 p s m args meth c D (tyM kc) a cX8_goesOn 6 RX8 (some .boolean)) {F : Nat → Int32} {G : Nat → Int64} {J : Nat → Nat → Int64} {If : Nat → Nat → Int32} {r : Int32} {K4 : (Nat → Int32) → Int32 → Int32 → Option (Int32 × (Nat → Int32))} (kh4 : ∀ (I : Nat → Nat → Int32) (x1 : Int32) (x2 : Int32) (H : Heap) (locs : List Loc) (ls : Array Slot), K4 (I 11) x1 x2 = some (r, (If 11)) → (∀ k, k ∉ ([11] : List Nat) → If k = I k) → va_P D vwCl (wM a kc F G I J) H → va_S (ad a 21 s.heap.size) s.heap H locs → lv_has ls 6 [(0, .ref (a 0)), (1, .int x1), (2, .int x2)] → W p l e rm_X8_goesOn s m args below meth c H locs 0 0 (MQ below (Qi D (wM a kc F G If J) r (ad a 21 s.heap.size)) args s 0 0 (ad a 21 s.heap.size)) (F0 m 4 ls [])) :
    ∀ (I : Nat → Nat → Int32) (x1 : Int32) (x2 : Int32) (H : Heap) (locs : List Loc) (ls : Array Slot), p_X8_goesOn_b4x K4 (I 11) x1 x2 = some (r, (If 11)) → (∀ k, k ∉ ([11] : List Nat) → If k = I k) → va_P D vwCl (wM a kc F G I J) H → va_S (ad a 21 s.heap.size) s.heap H locs → lv_has ls 6 [(0, .ref (a 0)), (1, .int x1), (2, .int x2)] → W p l e rm_X8_goesOn s m args below meth c H locs 0 0 (MQ below (Qi D (wM a kc F G If J) r (ad a 21 s.heap.size)) args s 0 0 (ad a 21 s.heap.size)) (F0 m 4 ls []) := by
  intro I x1 x2 H locs ls hf hfI hP hS hl
  unfold p_X8_goesOn_b4x at hf
  refine lv_iload_n X.1 X.2.1 dX8_goesOn_4 rfl (lv_at hl 2 rfl) ?_
  refine lv_if_lt (tgt := 31) X.1 X.2.1 dX8_goesOn_5 (by decide) (fun c5 => ?_) (fun c5 => ?_)
  · have hf := it_s hf c5
    exact t_X8_goesOn_b31 X I x1 x2 H locs ls hf hfI hP hS (lv_sub hl [0, 1, 2] rfl)
  · have hf := ie_s hf c5
    refine lv_aload_n X.1 X.2.1 dX8_goesOn_8 rfl (lv_at hl 0 rfl) ?_
    refine gM_0_23 X q_4_132 dX8_goesOn_9 hP ?_
    refine lv_iload_n X.1 X.2.1 dX8_goesOn_12 rfl (lv_at hl 2 rfl) ?_
    obtain ⟨h13, hf⟩ := gd_s hf
    refine lM_14 (I := I) X (f := (I 11)) rfl h13 dX8_goesOn_13 hP ?_
    refine lv_aload_n X.1 X.2.1 dX8_goesOn_14 rfl (lv_at hl 0 rfl) ?_
    refine gM_0_23 X q_4_132 dX8_goesOn_15 hP ?_
    refine lv_iload_n X.1 X.2.1 dX8_goesOn_18 rfl (lv_at hl 2 rfl) ?_
    refine lv_iconst (v := 1) X.1 X.2.1 dX8_goesOn_19 (by decide) ?_
    refine lv_iadd X.1 X.2.1 dX8_goesOn_20 ?_
    obtain ⟨h21, hf⟩ := gd_s hf
    refine lM_14 (I := I) X (f := (I 11)) rfl h21 dX8_goesOn_21 hP ?_
    refine lv_icmp_le (tgt := 31) X.1 X.2.1 dX8_goesOn_22 (by decide) (fun c22 => ?_) (fun c22 => ?_)
    · have hf := it_s hf c22
      exact t_X8_goesOn_b31 X I x1 x2 H locs ls hf hfI hP hS (lv_sub hl [0, 1, 2] rfl)
    · have hf := ie_s hf c22
      obtain ⟨x25, ex25, hf⟩ := nm_x hf
      refine lv_iinc (v := x25) (lv' := [(2, .int x25), (0, .ref (a 0)), (1, .int x1)]) X.1 X.2.1 dX8_goesOn_25 hl (k := 2) rfl ex25 (by decide) rfl (fun ls hl => ?_)
      refine lv_goto (tgt := 4) X.1 X.2.1 dX8_goesOn_28 (by decide) ?_
      exact kh4 I x1 x25 H locs ls hf hfI hP hS (lv_sub hl [1, 2, 0] rfl)
set_option maxRecDepth 100000 in
theorem t_X8_goesOn_b4 {p : Program} {l : Launch} {e : Env} {s : State} {m : MethodId} {args : Array Value} {below : List Frame} {meth : Method} {c : Code} {D : va_G} {a : Nat → Nat} {kc : Nat → ClassId} (X : cx 21 p s m args meth c D (tyM kc) a cX8_goesOn 6 RX8 (some .boolean)) {F : Nat → Int32} {G : Nat → Int64} {J : Nat → Nat → Int64} {If : Nat → Nat → Int32} {r : Int32} :
    ∀ (n : Nat) (I : Nat → Nat → Int32) (x1 : Int32) (x2 : Int32) (H : Heap) (locs : List Loc) (ls : Array Slot), p_X8_goesOn_b4 n (I 11) x1 x2 = some (r, (If 11)) → (∀ k, k ∉ ([11] : List Nat) → If k = I k) → va_P D vwCl (wM a kc F G I J) H → va_S (ad a 21 s.heap.size) s.heap H locs → lv_has ls 6 [(0, .ref (a 0)), (1, .int x1), (2, .int x2)] → W p l e rm_X8_goesOn s m args below meth c H locs 0 0 (MQ below (Qi D (wM a kc F G If J) r (ad a 21 s.heap.size)) args s 0 0 (ad a 21 s.heap.size)) (F0 m 4 ls []) := by
  intro n
  induction n with
  | zero => intro I x1 x2 H locs ls hf hfI hP hS hl; exact (nos hf).elim
  | succ n ih => exact t_X8_goesOn_b4x X ih
set_option maxHeartbeats 4000000 in
set_option maxRecDepth 100000 in
theorem t_X8_goesOn_b0 {p : Program} {l : Launch} {e : Env} {s : State} {m : MethodId} {args : Array Value} {below : List Frame} {meth : Method} {c : Code} {D : va_G} {a : Nat → Nat} {kc : Nat → ClassId} (X : cx 21 p s m args meth c D (tyM kc) a cX8_goesOn 6 RX8 (some .boolean)) {F : Nat → Int32} {G : Nat → Int64} {J : Nat → Nat → Int64} {If : Nat → Nat → Int32} {r : Int32} :
    ∀ (I : Nat → Nat → Int32) (x1 : Int32) (H : Heap) (locs : List Loc) (ls : Array Slot), p_X8_goesOn_b0 (I 11) x1 = some (r, (If 11)) → (∀ k, k ∉ ([11] : List Nat) → If k = I k) → va_P D vwCl (wM a kc F G I J) H → va_S (ad a 21 s.heap.size) s.heap H locs → lv_has ls 6 [(0, .ref (a 0)), (1, .int x1)] → W p l e rm_X8_goesOn s m args below meth c H locs 0 0 (MQ below (Qi D (wM a kc F G If J) r (ad a 21 s.heap.size)) args s 0 0 (ad a 21 s.heap.size)) (F0 m 0 ls []) := by
  intro I x1 H locs ls hf hfI hP hS hl
  unfold p_X8_goesOn_b0 at hf
  refine lv_iload_n X.1 X.2.1 dX8_goesOn_0 rfl (lv_at hl 1 rfl) ?_
  refine lv_iconst (v := 2) X.1 X.2.1 dX8_goesOn_1 (by decide) ?_
  refine lv_isub X.1 X.2.1 dX8_goesOn_2 ?_
  refine nm_i hf (fun x3 hf => ?_)
  refine lv_istore_n (lv' := [(2, .int x3), (0, .ref (a 0)), (1, .int x1)]) X.1 X.2.1 dX8_goesOn_3 rfl hl (by decide) rfl (fun ls hl => ?_)
  exact t_X8_goesOn_b4 X 4096 I x1 x3 H locs ls hf hfI hP hS (lv_sub hl [1, 2, 0] rfl)
set_option maxRecDepth 100000 in
theorem c_X8_goesOn {l : Launch} {D : va_G} {a : Nat → Nat} {kc : Nat → ClassId} (F : Nat → Int32) (G : Nat → Int64) (I : Nat → Nat → Int32) (J : Nat → Nat → Int64) (hAp : ∀ i j, i < 21 → j < 21 → a i = a j → i = j) (x1 : Int32) {o0 : Int32} {o1 : Nat → Int32} (hf : p_X8_goesOn (I 11) x1 = some (o0, o1)) : Ct 21 l yX8_goesOn cX8_goesOn 6 (some .boolean) rm_X8_goesOn D (tyM kc) a (wM a kc F G I J) [.ref (a 0), .int x1] (Qi D (wM a kc F G (va_up I 11 o1) J) o0) :=
  Ct.of (by decide +kernel) hAp (Nat.le_of_ble_eq_true rfl) (fun p e s m args below meth c ls X hP hl => t_X8_goesOn_b0 X I x1 _ _ _ hf (frm_ul (fun k _ => rfl) (by decide)) hP va_S.rf hl)
abbrev rm_X8_findOrder : Room := { frames := 5, cells := 0, slots := 0, locals := 125 }
set_option maxHeartbeats 4000000 in
set_option maxRecDepth 100000 in
theorem t_X8_findOrder_b72 {p : Program} {l : Launch} {e : Env} {s : State} {m : MethodId} {args : Array Value} {below : List Frame} {meth : Method} {c : Code} {D : va_G} {a : Nat → Nat} {kc : Nat → ClassId} (X : cx 21 p s m args meth c D (tyM kc) a cX8_findOrder 5 RX8 none)  {Ff : Nat → Int32} {Gf : Nat → Int64} {If : Nat → Nat → Int32} {Jf : Nat → Nat → Int64}  {K13 : Int32 → Int32 → Int32 → Int32 → Int32 → Int32 → Int64 → Int64 → (Nat → Int32) → (Nat → Int32) → (Nat → Int32) → (Nat → Int32) → (Nat → Int32) → (Nat → Int32) → (Nat → Int64) → (Nat → Int64) → Int32 → Option (Int32 × Int32 × Int32 × Int64 × Int64 × (Nat → Int32) × (Nat → Int32) × (Nat → Int32) × (Nat → Int64) × (Nat → Int64))} (kh13 : ∀ (F : Nat → Int32) (G : Nat → Int64) (I : Nat → Nat → Int32) (J : Nat → Nat → Int64) (x1 : Int32) (H : Heap) (locs : List Loc) (ls : Array Slot), K13 (F 2) (F 4) (F 5) (F 6) (F 7) (F 8) (G 0) (G 1) (I 6) (I 8) (I 9) (I 10) (I 11) (I 12) (J 0) (J 1) x1 = some ((Ff 5), (Ff 6), (Ff 8), (Gf 0), (Gf 1), (If 10), (If 11), (If 12), (Jf 0), (Jf 1)) → (∀ k, k ∉ ([5, 6, 8] : List Nat) → Ff k = F k) → (∀ k, k ∉ ([0, 1] : List Nat) → Gf k = G k) → (∀ k, k ∉ ([10, 11, 12] : List Nat) → If k = I k) → (∀ k, k ∉ ([0, 1] : List Nat) → Jf k = J k) → va_P D vwCl (wM a kc F G I J) H → va_S (ad a 21 s.heap.size) s.heap H locs → lv_has ls 5 [(0, .ref (a 0)), (1, .int x1)] → W p l e rm_X8_findOrder s m args below meth c H locs 0 0 (MQ below (Qv D (wM a kc Ff Gf If Jf) (ad a 21 s.heap.size)) args s 0 0 (ad a 21 s.heap.size)) (F0 m 13 ls [])) :
    ∀ (F : Nat → Int32) (G : Nat → Int64) (I : Nat → Nat → Int32) (J : Nat → Nat → Int64)  (H : Heap) (locs : List Loc) (ls : Array Slot), p_X8_findOrder_b72 K13 (F 2) (F 4) (F 5) (F 6) (F 7) (F 8) (G 0) (G 1) (I 6) (I 8) (I 9) (I 10) (I 11) (I 12) (J 0) (J 1)  = some ((Ff 5), (Ff 6), (Ff 8), (Gf 0), (Gf 1), (If 10), (If 11), (If 12), (Jf 0), (Jf 1)) → (∀ k, k ∉ ([5, 6, 8] : List Nat) → Ff k = F k) → (∀ k, k ∉ ([0, 1] : List Nat) → Gf k = G k) → (∀ k, k ∉ ([10, 11, 12] : List Nat) → If k = I k) → (∀ k, k ∉ ([0, 1] : List Nat) → Jf k = J k) → va_P D vwCl (wM a kc F G I J) H → va_S (ad a 21 s.heap.size) s.heap H locs → lv_has ls 5 [(0, .ref (a 0))] → W p l e rm_X8_findOrder s m args below meth c H locs 0 0 (MQ below (Qv D (wM a kc Ff Gf If Jf) (ad a 21 s.heap.size)) args s 0 0 (ad a 21 s.heap.size)) (F0 m 72 ls []) := by
  intro F G I J  H locs ls hf hfF hfG hfI hfJ hP hS hl
  unfold p_X8_findOrder_b72 at hf
  refine lv_aload_n X.1 X.2.1 dX8_findOrder_72 rfl (lv_at hl 0 rfl) ?_
  refine lv_aload_n X.1 X.2.1 dX8_findOrder_73 rfl (lv_at hl 0 rfl) ?_
  refine gM_0_12 (F := F) X (v := (F 4)) rfl q_4_121 dX8_findOrder_74 hP ?_
  obtain ⟨r77, m_order_77, ho, hf⟩ := b2_s hf
  refine call_vi (rest := []) X (c_X8_goesOn F G I J X.2.2.2.2.2.2.2.1 (F 4) ho) q_5_235 q_5_237 qs_yX8_goesOn q_1_10 q_5_238 ok_X8_goesOn rfl 0 rfl rfl ⟨Nat.le_of_ble_eq_true rfl, Nat.le_of_ble_eq_true rfl⟩ rfl rfl hl.1 rfl (Nat.le_of_ble_eq_true rfl) dX8_findOrder_77 hP hS (fun H locs hP hS => ?_)
  refine lv_istore_n (lv' := [(1, .int r77), (0, .ref (a 0))]) X.1 X.2.1 dX8_findOrder_80 rfl hl (by decide) rfl (fun ls hl => ?_)
  refine lv_goto (tgt := 13) X.1 X.2.1 dX8_findOrder_81 (by decide) ?_
  exact kh13 F G (va_up I 11 m_order_77) J r77 H locs ls hf hfF hfG (frm_up hfI (by decide)) hfJ hP hS (lv_sub hl [1, 0] rfl)
set_option maxHeartbeats 4000000 in
set_option maxRecDepth 100000 in
theorem t_X8_findOrder_b43x {p : Program} {l : Launch} {e : Env} {s : State} {m : MethodId} {args : Array Value} {below : List Frame} {meth : Method} {c : Code} {D : va_G} {a : Nat → Nat} {kc : Nat → ClassId} (X : cx 21 p s m args meth c D (tyM kc) a cX8_findOrder 5 RX8 none)  {Ff : Nat → Int32} {Gf : Nat → Int64} {If : Nat → Nat → Int32} {Jf : Nat → Nat → Int64}  {K13 : Int32 → Int32 → Int32 → Int32 → Int32 → Int32 → Int64 → Int64 → (Nat → Int32) → (Nat → Int32) → (Nat → Int32) → (Nat → Int32) → (Nat → Int32) → (Nat → Int32) → (Nat → Int64) → (Nat → Int64) → Int32 → Option (Int32 × Int32 × Int32 × Int64 × Int64 × (Nat → Int32) × (Nat → Int32) × (Nat → Int32) × (Nat → Int64) × (Nat → Int64))} (kh13 : ∀ (F : Nat → Int32) (G : Nat → Int64) (I : Nat → Nat → Int32) (J : Nat → Nat → Int64) (x1 : Int32) (H : Heap) (locs : List Loc) (ls : Array Slot), K13 (F 2) (F 4) (F 5) (F 6) (F 7) (F 8) (G 0) (G 1) (I 6) (I 8) (I 9) (I 10) (I 11) (I 12) (J 0) (J 1) x1 = some ((Ff 5), (Ff 6), (Ff 8), (Gf 0), (Gf 1), (If 10), (If 11), (If 12), (Jf 0), (Jf 1)) → (∀ k, k ∉ ([5, 6, 8] : List Nat) → Ff k = F k) → (∀ k, k ∉ ([0, 1] : List Nat) → Gf k = G k) → (∀ k, k ∉ ([10, 11, 12] : List Nat) → If k = I k) → (∀ k, k ∉ ([0, 1] : List Nat) → Jf k = J k) → va_P D vwCl (wM a kc F G I J) H → va_S (ad a 21 s.heap.size) s.heap H locs → lv_has ls 5 [(0, .ref (a 0)), (1, .int x1)] → W p l e rm_X8_findOrder s m args below meth c H locs 0 0 (MQ below (Qv D (wM a kc Ff Gf If Jf) (ad a 21 s.heap.size)) args s 0 0 (ad a 21 s.heap.size)) (F0 m 13 ls [])) {K43 : Int32 → Int32 → Int32 → Int32 → Int32 → Int32 → Int64 → Int64 → (Nat → Int32) → (Nat → Int32) → (Nat → Int32) → (Nat → Int32) → (Nat → Int32) → (Nat → Int32) → (Nat → Int64) → (Nat → Int64) → Int32 → Option (Int32 × Int32 × Int32 × Int64 × Int64 × (Nat → Int32) × (Nat → Int32) × (Nat → Int32) × (Nat → Int64) × (Nat → Int64))} (kh43 : ∀ (F : Nat → Int32) (G : Nat → Int64) (I : Nat → Nat → Int32) (J : Nat → Nat → Int64) (x4 : Int32) (H : Heap) (locs : List Loc) (ls : Array Slot), K43 (F 2) (F 4) (F 5) (F 6) (F 7) (F 8) (G 0) (G 1) (I 6) (I 8) (I 9) (I 10) (I 11) (I 12) (J 0) (J 1) x4 = some ((Ff 5), (Ff 6), (Ff 8), (Gf 0), (Gf 1), (If 10), (If 11), (If 12), (Jf 0), (Jf 1)) → (∀ k, k ∉ ([5, 6, 8] : List Nat) → Ff k = F k) → (∀ k, k ∉ ([0, 1] : List Nat) → Gf k = G k) → (∀ k, k ∉ ([10, 11, 12] : List Nat) → If k = I k) → (∀ k, k ∉ ([0, 1] : List Nat) → Jf k = J k) → va_P D vwCl (wM a kc F G I J) H → va_S (ad a 21 s.heap.size) s.heap H locs → lv_has ls 5 [(0, .ref (a 0)), (4, .int x4)] → W p l e rm_X8_findOrder s m args below meth c H locs 0 0 (MQ below (Qv D (wM a kc Ff Gf If Jf) (ad a 21 s.heap.size)) args s 0 0 (ad a 21 s.heap.size)) (F0 m 43 ls [])) :
    ∀ (F : Nat → Int32) (G : Nat → Int64) (I : Nat → Nat → Int32) (J : Nat → Nat → Int64) (x4 : Int32) (H : Heap) (locs : List Loc) (ls : Array Slot), p_X8_findOrder_b43x K13 K43 (F 2) (F 4) (F 5) (F 6) (F 7) (F 8) (G 0) (G 1) (I 6) (I 8) (I 9) (I 10) (I 11) (I 12) (J 0) (J 1) x4 = some ((Ff 5), (Ff 6), (Ff 8), (Gf 0), (Gf 1), (If 10), (If 11), (If 12), (Jf 0), (Jf 1)) → (∀ k, k ∉ ([5, 6, 8] : List Nat) → Ff k = F k) → (∀ k, k ∉ ([0, 1] : List Nat) → Gf k = G k) → (∀ k, k ∉ ([10, 11, 12] : List Nat) → If k = I k) → (∀ k, k ∉ ([0, 1] : List Nat) → Jf k = J k) → va_P D vwCl (wM a kc F G I J) H → va_S (ad a 21 s.heap.size) s.heap H locs → lv_has ls 5 [(0, .ref (a 0)), (4, .int x4)] → W p l e rm_X8_findOrder s m args below meth c H locs 0 0 (MQ below (Qv D (wM a kc Ff Gf If Jf) (ad a 21 s.heap.size)) args s 0 0 (ad a 21 s.heap.size)) (F0 m 43 ls []) := by
  intro F G I J x4 H locs ls hf hfF hfG hfI hfJ hP hS hl
  unfold p_X8_findOrder_b43x at hf
  refine lv_iload X.1 X.2.1 dX8_findOrder_43 (lv_at hl 1 rfl) ?_
  refine lv_aload_n X.1 X.2.1 dX8_findOrder_45 rfl (lv_at hl 0 rfl) ?_
  refine gM_0_12 (F := F) X (v := (F 4)) rfl q_4_121 dX8_findOrder_46 hP ?_
  refine lv_icmp_ge (tgt := 72) X.1 X.2.1 dX8_findOrder_49 (by decide) (fun c49 => ?_) (fun c49 => ?_)
  · have hf := it_s hf c49
    exact t_X8_findOrder_b72 X kh13 F G I J  H locs ls hf hfF hfG hfI hfJ hP hS (lv_sub hl [0] rfl)
  · have hf := ie_s hf c49
    refine lv_aload_n X.1 X.2.1 dX8_findOrder_52 rfl (lv_at hl 0 rfl) ?_
    refine gM_0_24 X q_4_133 dX8_findOrder_53 hP ?_
    refine lv_iload X.1 X.2.1 dX8_findOrder_56 (lv_at hl 1 rfl) ?_
    refine lv_aload_n X.1 X.2.1 dX8_findOrder_58 rfl (lv_at hl 0 rfl) ?_
    refine gM_0_23 X q_4_132 dX8_findOrder_59 hP ?_
    refine lv_iload X.1 X.2.1 dX8_findOrder_62 (lv_at hl 1 rfl) ?_
    obtain ⟨h64, hf⟩ := gd_s hf
    refine lM_14 (I := I) X (f := (I 11)) rfl h64 dX8_findOrder_64 hP ?_
    obtain ⟨h65, hf⟩ := gd_s hf
    obtain ⟨m_bestOrder_65, em_bestOrder_65, hf⟩ := nm_x hf
    refine sM_15 (I := I) X h65 em_bestOrder_65 dX8_findOrder_65 hP hS (fun H locs hP hS => ?_)
    obtain ⟨x66, ex66, hf⟩ := nm_x hf
    refine lv_iinc (v := x66) (lv' := [(4, .int x66), (0, .ref (a 0))]) X.1 X.2.1 dX8_findOrder_66 hl (k := 1) rfl ex66 (by decide) rfl (fun ls hl => ?_)
    refine lv_goto (tgt := 43) X.1 X.2.1 dX8_findOrder_69 (by decide) ?_
    exact kh43 F G (va_up I 12 m_bestOrder_65) J x66 H locs ls hf hfF hfG (frm_up hfI (by decide)) hfJ hP hS (lv_sub hl [1, 0] rfl)
set_option maxRecDepth 100000 in
theorem t_X8_findOrder_b43 {p : Program} {l : Launch} {e : Env} {s : State} {m : MethodId} {args : Array Value} {below : List Frame} {meth : Method} {c : Code} {D : va_G} {a : Nat → Nat} {kc : Nat → ClassId} (X : cx 21 p s m args meth c D (tyM kc) a cX8_findOrder 5 RX8 none)  {Ff : Nat → Int32} {Gf : Nat → Int64} {If : Nat → Nat → Int32} {Jf : Nat → Nat → Int64}  {K13 : Int32 → Int32 → Int32 → Int32 → Int32 → Int32 → Int64 → Int64 → (Nat → Int32) → (Nat → Int32) → (Nat → Int32) → (Nat → Int32) → (Nat → Int32) → (Nat → Int32) → (Nat → Int64) → (Nat → Int64) → Int32 → Option (Int32 × Int32 × Int32 × Int64 × Int64 × (Nat → Int32) × (Nat → Int32) × (Nat → Int32) × (Nat → Int64) × (Nat → Int64))} (kh13 : ∀ (F : Nat → Int32) (G : Nat → Int64) (I : Nat → Nat → Int32) (J : Nat → Nat → Int64) (x1 : Int32) (H : Heap) (locs : List Loc) (ls : Array Slot), K13 (F 2) (F 4) (F 5) (F 6) (F 7) (F 8) (G 0) (G 1) (I 6) (I 8) (I 9) (I 10) (I 11) (I 12) (J 0) (J 1) x1 = some ((Ff 5), (Ff 6), (Ff 8), (Gf 0), (Gf 1), (If 10), (If 11), (If 12), (Jf 0), (Jf 1)) → (∀ k, k ∉ ([5, 6, 8] : List Nat) → Ff k = F k) → (∀ k, k ∉ ([0, 1] : List Nat) → Gf k = G k) → (∀ k, k ∉ ([10, 11, 12] : List Nat) → If k = I k) → (∀ k, k ∉ ([0, 1] : List Nat) → Jf k = J k) → va_P D vwCl (wM a kc F G I J) H → va_S (ad a 21 s.heap.size) s.heap H locs → lv_has ls 5 [(0, .ref (a 0)), (1, .int x1)] → W p l e rm_X8_findOrder s m args below meth c H locs 0 0 (MQ below (Qv D (wM a kc Ff Gf If Jf) (ad a 21 s.heap.size)) args s 0 0 (ad a 21 s.heap.size)) (F0 m 13 ls [])) :
    ∀ (n : Nat) (F : Nat → Int32) (G : Nat → Int64) (I : Nat → Nat → Int32) (J : Nat → Nat → Int64) (x4 : Int32) (H : Heap) (locs : List Loc) (ls : Array Slot), p_X8_findOrder_b43 K13 n (F 2) (F 4) (F 5) (F 6) (F 7) (F 8) (G 0) (G 1) (I 6) (I 8) (I 9) (I 10) (I 11) (I 12) (J 0) (J 1) x4 = some ((Ff 5), (Ff 6), (Ff 8), (Gf 0), (Gf 1), (If 10), (If 11), (If 12), (Jf 0), (Jf 1)) → (∀ k, k ∉ ([5, 6, 8] : List Nat) → Ff k = F k) → (∀ k, k ∉ ([0, 1] : List Nat) → Gf k = G k) → (∀ k, k ∉ ([10, 11, 12] : List Nat) → If k = I k) → (∀ k, k ∉ ([0, 1] : List Nat) → Jf k = J k) → va_P D vwCl (wM a kc F G I J) H → va_S (ad a 21 s.heap.size) s.heap H locs → lv_has ls 5 [(0, .ref (a 0)), (4, .int x4)] → W p l e rm_X8_findOrder s m args below meth c H locs 0 0 (MQ below (Qv D (wM a kc Ff Gf If Jf) (ad a 21 s.heap.size)) args s 0 0 (ad a 21 s.heap.size)) (F0 m 43 ls []) := by
  intro n
  induction n with
  | zero => intro F G I J x4 H locs ls hf hfF hfG hfI hfJ hP hS hl; exact (nos hf).elim
  | succ n ih => exact t_X8_findOrder_b43x X kh13 ih
set_option maxHeartbeats 4000000 in
set_option maxRecDepth 100000 in
theorem t_X8_findOrder_b13x {p : Program} {l : Launch} {e : Env} {s : State} {m : MethodId} {args : Array Value} {below : List Frame} {meth : Method} {c : Code} {D : va_G} {a : Nat → Nat} {kc : Nat → ClassId} (X : cx 21 p s m args meth c D (tyM kc) a cX8_findOrder 5 RX8 none)  {Ff : Nat → Int32} {Gf : Nat → Int64} {If : Nat → Nat → Int32} {Jf : Nat → Nat → Int64}  {K13 : Int32 → Int32 → Int32 → Int32 → Int32 → Int32 → Int64 → Int64 → (Nat → Int32) → (Nat → Int32) → (Nat → Int32) → (Nat → Int32) → (Nat → Int32) → (Nat → Int32) → (Nat → Int64) → (Nat → Int64) → Int32 → Option (Int32 × Int32 × Int32 × Int64 × Int64 × (Nat → Int32) × (Nat → Int32) × (Nat → Int32) × (Nat → Int64) × (Nat → Int64))} (kh13 : ∀ (F : Nat → Int32) (G : Nat → Int64) (I : Nat → Nat → Int32) (J : Nat → Nat → Int64) (x1 : Int32) (H : Heap) (locs : List Loc) (ls : Array Slot), K13 (F 2) (F 4) (F 5) (F 6) (F 7) (F 8) (G 0) (G 1) (I 6) (I 8) (I 9) (I 10) (I 11) (I 12) (J 0) (J 1) x1 = some ((Ff 5), (Ff 6), (Ff 8), (Gf 0), (Gf 1), (If 10), (If 11), (If 12), (Jf 0), (Jf 1)) → (∀ k, k ∉ ([5, 6, 8] : List Nat) → Ff k = F k) → (∀ k, k ∉ ([0, 1] : List Nat) → Gf k = G k) → (∀ k, k ∉ ([10, 11, 12] : List Nat) → If k = I k) → (∀ k, k ∉ ([0, 1] : List Nat) → Jf k = J k) → va_P D vwCl (wM a kc F G I J) H → va_S (ad a 21 s.heap.size) s.heap H locs → lv_has ls 5 [(0, .ref (a 0)), (1, .int x1)] → W p l e rm_X8_findOrder s m args below meth c H locs 0 0 (MQ below (Qv D (wM a kc Ff Gf If Jf) (ad a 21 s.heap.size)) args s 0 0 (ad a 21 s.heap.size)) (F0 m 13 ls [])) :
    ∀ (F : Nat → Int32) (G : Nat → Int64) (I : Nat → Nat → Int32) (J : Nat → Nat → Int64) (x1 : Int32) (H : Heap) (locs : List Loc) (ls : Array Slot), p_X8_findOrder_b13x K13 (F 2) (F 4) (F 5) (F 6) (F 7) (F 8) (G 0) (G 1) (I 6) (I 8) (I 9) (I 10) (I 11) (I 12) (J 0) (J 1) x1 = some ((Ff 5), (Ff 6), (Ff 8), (Gf 0), (Gf 1), (If 10), (If 11), (If 12), (Jf 0), (Jf 1)) → (∀ k, k ∉ ([5, 6, 8] : List Nat) → Ff k = F k) → (∀ k, k ∉ ([0, 1] : List Nat) → Gf k = G k) → (∀ k, k ∉ ([10, 11, 12] : List Nat) → If k = I k) → (∀ k, k ∉ ([0, 1] : List Nat) → Jf k = J k) → va_P D vwCl (wM a kc F G I J) H → va_S (ad a 21 s.heap.size) s.heap H locs → lv_has ls 5 [(0, .ref (a 0)), (1, .int x1)] → W p l e rm_X8_findOrder s m args below meth c H locs 0 0 (MQ below (Qv D (wM a kc Ff Gf If Jf) (ad a 21 s.heap.size)) args s 0 0 (ad a 21 s.heap.size)) (F0 m 13 ls []) := by
  intro F G I J x1 H locs ls hf hfF hfG hfI hfJ hP hS hl
  unfold p_X8_findOrder_b13x at hf
  refine lv_iload_n X.1 X.2.1 dX8_findOrder_13 rfl (lv_at hl 1 rfl) ?_
  refine lv_if_eq (tgt := 84) X.1 X.2.1 dX8_findOrder_14 (by decide) (fun c14 => ?_) (fun c14 => ?_)
  · have hf := it_s hf c14
    obtain ⟨e0, hf⟩ := o2 hf
    obtain ⟨e1, hf⟩ := o2 hf
    obtain ⟨e2, hf⟩ := o2 hf
    obtain ⟨e3, hf⟩ := o2 hf
    obtain ⟨e4, hf⟩ := o2 hf
    obtain ⟨e5, hf⟩ := o2 hf
    obtain ⟨e6, hf⟩ := o2 hf
    obtain ⟨e7, hf⟩ := o2 hf
    obtain ⟨e8, hf⟩ := o2 hf
    have e9 := o1 hf
    have EF : Ff = F := frm_eq hfF (frm_c (e0).symm (frm_c (e1).symm (frm_c (e2).symm frm_n)))
    have EG : Gf = G := frm_eq hfG (frm_c (e3).symm (frm_c (e4).symm frm_n))
    have EI : If = I := frm_eq hfI (frm_c (e5).symm (frm_c (e6).symm (frm_c (e7).symm frm_n)))
    have EJ : Jf = J := frm_eq hfJ (frm_c (e8).symm (frm_c (e9).symm frm_n))
    exact ret_v X hS (by rw [EF, EG, EI, EJ]; exact hP) dX8_findOrder_84
  · have hf := ie_s hf c14
    refine lv_aload_n X.1 X.2.1 dX8_findOrder_17 rfl (lv_at hl 0 rfl) ?_
    refine lv_aload_n X.1 X.2.1 dX8_findOrder_18 rfl (lv_at hl 0 rfl) ?_
    refine gM_0_12 (F := F) X (v := (F 4)) rfl q_4_121 dX8_findOrder_19 hP ?_
    obtain ⟨r22, m_loser_22, m_onlyWho_22, m_keptFree_22, m_all_22, m_keptSeat_22, m_ways_22, m_next_22, ho, hf⟩ := b8_s hf
    refine call_vl (rest := []) X (c_X8_rightByOrder F G I J X.2.2.2.2.2.2.2.1 (F 4) ho) q_5_183 q_5_185 qs_yX8_rightByOrder q_1_10 q_5_186 ok_X8_rightByOrder rfl 0 rfl rfl ⟨Nat.le_of_ble_eq_true rfl, Nat.le_of_ble_eq_true rfl⟩ rfl rfl hl.1 rfl (Nat.le_of_ble_eq_true rfl) dX8_findOrder_22 hP hS (fun H locs hP hS => ?_)
    refine lv_lstore_n (lv' := [(2, .long r22), (0, .ref (a 0)), (1, .int x1)]) X.1 X.2.1 dX8_findOrder_25 rfl hl (by decide) rfl (fun ls hl => ?_)
    refine lv_lload_n X.1 X.2.1 dX8_findOrder_26 rfl (lv_at hl 0 rfl) ?_
    refine lv_aload_n X.1 X.2.1 dX8_findOrder_27 rfl (lv_at hl 1 rfl) ?_
    refine gM_0_27 (G := (va_up G 0 m_all_22)) X (v := (G 1)) rfl q_4_136 dX8_findOrder_28 hP ?_
    refine W.lcmp X.1 X.2.1 dX8_findOrder_31 ?_
    refine lv_if_le (tgt := 72) X.1 X.2.1 dX8_findOrder_32 (by decide) (fun c32 => ?_) (fun c32 => ?_)
    · have hf := it_s hf c32
      exact t_X8_findOrder_b72 X kh13 (va_up (va_up (va_up F 5 m_loser_22) 6 m_onlyWho_22) 8 m_keptFree_22) (va_up G 0 m_all_22) (va_up I 10 m_keptSeat_22) (va_up (va_up J 0 m_ways_22) 1 m_next_22)  H locs ls hf (frm_up (frm_up (frm_up hfF (by decide)) (by decide)) (by decide)) (frm_up hfG (by decide)) (frm_up hfI (by decide)) (frm_up (frm_up hfJ (by decide)) (by decide)) hP hS (lv_sub hl [1] rfl)
    · have hf := ie_s hf c32
      refine lv_aload_n X.1 X.2.1 dX8_findOrder_35 rfl (lv_at hl 1 rfl) ?_
      refine lv_lload_n X.1 X.2.1 dX8_findOrder_36 rfl (lv_at hl 0 rfl) ?_
      refine pM_0_27 X q_4_136 dX8_findOrder_37 hP hS (fun H locs hP hS => ?_)
      refine lv_iconst (v := 0) X.1 X.2.1 dX8_findOrder_40 (by decide) ?_
      refine lv_istore (lv' := [(4, .int 0), (2, .long r22), (0, .ref (a 0)), (1, .int x1)]) X.1 X.2.1 dX8_findOrder_41 hl (by decide) rfl (fun ls hl => ?_)
      exact t_X8_findOrder_b43 X kh13 4096 (va_up (va_up (va_up F 5 m_loser_22) 6 m_onlyWho_22) 8 m_keptFree_22) (va_up (va_up G 0 m_all_22) 1 r22) (va_up I 10 m_keptSeat_22) (va_up (va_up J 0 m_ways_22) 1 m_next_22) 0 H locs ls hf (frm_up (frm_up (frm_up hfF (by decide)) (by decide)) (by decide)) (frm_up (frm_up hfG (by decide)) (by decide)) (frm_up hfI (by decide)) (frm_up (frm_up hfJ (by decide)) (by decide)) hP hS (lv_sub hl [2, 0] rfl)
set_option maxRecDepth 100000 in
theorem t_X8_findOrder_b13 {p : Program} {l : Launch} {e : Env} {s : State} {m : MethodId} {args : Array Value} {below : List Frame} {meth : Method} {c : Code} {D : va_G} {a : Nat → Nat} {kc : Nat → ClassId} (X : cx 21 p s m args meth c D (tyM kc) a cX8_findOrder 5 RX8 none)  {Ff : Nat → Int32} {Gf : Nat → Int64} {If : Nat → Nat → Int32} {Jf : Nat → Nat → Int64}  :
    ∀ (n : Nat) (F : Nat → Int32) (G : Nat → Int64) (I : Nat → Nat → Int32) (J : Nat → Nat → Int64) (x1 : Int32) (H : Heap) (locs : List Loc) (ls : Array Slot), p_X8_findOrder_b13 n (F 2) (F 4) (F 5) (F 6) (F 7) (F 8) (G 0) (G 1) (I 6) (I 8) (I 9) (I 10) (I 11) (I 12) (J 0) (J 1) x1 = some ((Ff 5), (Ff 6), (Ff 8), (Gf 0), (Gf 1), (If 10), (If 11), (If 12), (Jf 0), (Jf 1)) → (∀ k, k ∉ ([5, 6, 8] : List Nat) → Ff k = F k) → (∀ k, k ∉ ([0, 1] : List Nat) → Gf k = G k) → (∀ k, k ∉ ([10, 11, 12] : List Nat) → If k = I k) → (∀ k, k ∉ ([0, 1] : List Nat) → Jf k = J k) → va_P D vwCl (wM a kc F G I J) H → va_S (ad a 21 s.heap.size) s.heap H locs → lv_has ls 5 [(0, .ref (a 0)), (1, .int x1)] → W p l e rm_X8_findOrder s m args below meth c H locs 0 0 (MQ below (Qv D (wM a kc Ff Gf If Jf) (ad a 21 s.heap.size)) args s 0 0 (ad a 21 s.heap.size)) (F0 m 13 ls []) := by
  intro n
  induction n with
  | zero => intro F G I J x1 H locs ls hf hfF hfG hfI hfJ hP hS hl; exact (nos hf).elim
  | succ n ih => exact t_X8_findOrder_b13x X ih
set_option maxHeartbeats 4000000 in
set_option maxRecDepth 100000 in
theorem t_X8_findOrder_b0 {p : Program} {l : Launch} {e : Env} {s : State} {m : MethodId} {args : Array Value} {below : List Frame} {meth : Method} {c : Code} {D : va_G} {a : Nat → Nat} {kc : Nat → ClassId} (X : cx 21 p s m args meth c D (tyM kc) a cX8_findOrder 5 RX8 none)  {Ff : Nat → Int32} {Gf : Nat → Int64} {If : Nat → Nat → Int32} {Jf : Nat → Nat → Int64}  :
    ∀ (F : Nat → Int32) (G : Nat → Int64) (I : Nat → Nat → Int32) (J : Nat → Nat → Int64)  (H : Heap) (locs : List Loc) (ls : Array Slot), p_X8_findOrder_b0 (F 2) (F 4) (F 5) (F 6) (F 7) (F 8) (G 0) (G 1) (I 6) (I 8) (I 9) (I 10) (I 11) (I 12) (J 0) (J 1)  = some ((Ff 5), (Ff 6), (Ff 8), (Gf 0), (Gf 1), (If 10), (If 11), (If 12), (Jf 0), (Jf 1)) → (∀ k, k ∉ ([5, 6, 8] : List Nat) → Ff k = F k) → (∀ k, k ∉ ([0, 1] : List Nat) → Gf k = G k) → (∀ k, k ∉ ([10, 11, 12] : List Nat) → If k = I k) → (∀ k, k ∉ ([0, 1] : List Nat) → Jf k = J k) → va_P D vwCl (wM a kc F G I J) H → va_S (ad a 21 s.heap.size) s.heap H locs → lv_has ls 5 [(0, .ref (a 0))] → W p l e rm_X8_findOrder s m args below meth c H locs 0 0 (MQ below (Qv D (wM a kc Ff Gf If Jf) (ad a 21 s.heap.size)) args s 0 0 (ad a 21 s.heap.size)) (F0 m 0 ls []) := by
  intro F G I J  H locs ls hf hfF hfG hfI hfJ hP hS hl
  unfold p_X8_findOrder_b0 at hf
  refine lv_aload_n X.1 X.2.1 dX8_findOrder_0 rfl (lv_at hl 0 rfl) ?_
  obtain ⟨m_order_1, ho, hf⟩ := b1_s hf
  refine call_vv (rest := []) X (c_X8_asTheyCome F G I J X.2.2.2.2.2.2.2.1  ho) q_5_179 q_5_181 qs_yX8_asTheyCome q_1_10 q_5_182 ok_X8_asTheyCome rfl 0 rfl rfl ⟨Nat.le_of_ble_eq_true rfl, Nat.le_of_ble_eq_true rfl⟩ rfl rfl hl.1 rfl (Nat.le_of_ble_eq_true rfl) dX8_findOrder_1 hP hS (fun H locs hP hS => ?_)
  refine lv_aload_n X.1 X.2.1 dX8_findOrder_4 rfl (lv_at hl 0 rfl) ?_
  refine lv_ldc2 (v := (-1)) X.1 X.2.1 X.2.2.2.2.1 (X.2.2.2.2.2.1 _ q_5_174) dX8_findOrder_5 ?_
  refine pM_0_27 X q_4_136 dX8_findOrder_8 hP hS (fun H locs hP hS => ?_)
  refine lv_iconst (v := 1) X.1 X.2.1 dX8_findOrder_11 (by decide) ?_
  refine lv_istore_n (lv' := [(1, .int 1), (0, .ref (a 0))]) X.1 X.2.1 dX8_findOrder_12 rfl hl (by decide) rfl (fun ls hl => ?_)
  exact t_X8_findOrder_b13 X 4096 F (va_up G 1 (-1)) (va_up I 11 m_order_1) J 1 H locs ls hf hfF (frm_up hfG (by decide)) (frm_up hfI (by decide)) hfJ hP hS (lv_sub hl [1, 0] rfl)
set_option maxRecDepth 100000 in
theorem c_X8_findOrder {l : Launch} {D : va_G} {a : Nat → Nat} {kc : Nat → ClassId} (F : Nat → Int32) (G : Nat → Int64) (I : Nat → Nat → Int32) (J : Nat → Nat → Int64) (hAp : ∀ i j, i < 21 → j < 21 → a i = a j → i = j)  {o0 : Int32} {o1 : Int32} {o2 : Int32} {o3 : Int64} {o4 : Int64} {o5 : Nat → Int32} {o6 : Nat → Int32} {o7 : Nat → Int32} {o8 : Nat → Int64} {o9 : Nat → Int64} (hf : p_X8_findOrder (F 2) (F 4) (F 5) (F 6) (F 7) (F 8) (G 0) (G 1) (I 6) (I 8) (I 9) (I 10) (I 11) (I 12) (J 0) (J 1)  = some (o0, o1, o2, o3, o4, o5, o6, o7, o8, o9)) : Ct 21 l yX8_findOrder cX8_findOrder 5 none rm_X8_findOrder D (tyM kc) a (wM a kc F G I J) [.ref (a 0)] (Qv D (wM a kc (va_up (va_up (va_up F 5 o0) 6 o1) 8 o2) (va_up (va_up G 0 o3) 1 o4) (va_up (va_up (va_up I 10 o5) 11 o6) 12 o7) (va_up (va_up J 0 o8) 1 o9))) :=
  Ct.of (by decide +kernel) hAp (Nat.le_of_ble_eq_true rfl) (fun p e s m args below meth c ls X hP hl => t_X8_findOrder_b0 X F G I J  _ _ _ hf (frm_ul (frm_ul (frm_ul (fun k _ => rfl) (by decide)) (by decide)) (by decide)) (frm_ul (frm_ul (fun k _ => rfl) (by decide)) (by decide)) (frm_ul (frm_ul (frm_ul (fun k _ => rfl) (by decide)) (by decide)) (by decide)) (frm_ul (frm_ul (fun k _ => rfl) (by decide)) (by decide)) hP va_S.rf hl)
abbrev rm_X8_order : Room := { frames := 6, cells := 0, slots := 0, locals := 149 }
set_option maxHeartbeats 4000000 in
set_option maxRecDepth 100000 in
theorem t_X8_order_b20 {p : Program} {l : Launch} {e : Env} {s : State} {m : MethodId} {args : Array Value} {below : List Frame} {meth : Method} {c : Code} {D : va_G} {a : Nat → Nat} {kc : Nat → ClassId} (X : cx 21 p s m args meth c D (tyM kc) a cX8_order 2 RX8 (some .int))  {Ff : Nat → Int32} {Gf : Nat → Int64} {If : Nat → Nat → Int32} {Jf : Nat → Nat → Int64} {r : Int32} :
    ∀ (F : Nat → Int32) (G : Nat → Int64) (I : Nat → Nat → Int32) (J : Nat → Nat → Int64) (x1 : Int32) (H : Heap) (locs : List Loc) (ls : Array Slot), p_X8_order_b20 (F 1) (F 2) (F 3) (F 4) (F 5) (F 6) (F 7) (F 8) (G 0) (G 1) (I 4) (I 5) (I 6) (I 7) (I 8) (I 9) (I 10) (I 11) (I 12) (J 0) (J 1) x1 = some (r, (Ff 1), (Ff 2), (Ff 3), (Ff 4), (Ff 5), (Ff 6), (Ff 8), (Gf 0), (Gf 1), (If 6), (If 7), (If 8), (If 9), (If 10), (If 11), (If 12), (Jf 0), (Jf 1)) → (∀ k, k ∉ ([1, 2, 3, 4, 5, 6, 8] : List Nat) → Ff k = F k) → (∀ k, k ∉ ([0, 1] : List Nat) → Gf k = G k) → (∀ k, k ∉ ([6, 7, 8, 9, 10, 11, 12] : List Nat) → If k = I k) → (∀ k, k ∉ ([0, 1] : List Nat) → Jf k = J k) → va_P D vwCl (wM a kc F G I J) H → va_S (ad a 21 s.heap.size) s.heap H locs → lv_has ls 2 [(0, .ref (a 0)), (1, .int x1)] → W p l e rm_X8_order s m args below meth c H locs 0 0 (MQ below (Qi D (wM a kc Ff Gf If Jf) r (ad a 21 s.heap.size)) args s 0 0 (ad a 21 s.heap.size)) (F0 m 20 ls []) := by
  intro F G I J x1 H locs ls hf hfF hfG hfI hfJ hP hS hl
  unfold p_X8_order_b20 at hf
  refine lv_iload_n X.1 X.2.1 dX8_order_20 rfl (lv_at hl 1 rfl) ?_
  refine lv_i2l X.1 X.2.1 dX8_order_21 rfl ?_
  refine lv_lconst (v := 0) X.1 X.2.1 dX8_order_22 (by decide) ?_
  refine lv_aload_n X.1 X.2.1 dX8_order_23 rfl (lv_at hl 0 rfl) ?_
  refine gM_0_12 (F := F) X (v := (F 4)) rfl q_4_121 dX8_order_24 hP ?_
  refine lv_iconst (v := 1) X.1 X.2.1 dX8_order_27 (by decide) ?_
  refine lv_isub X.1 X.2.1 dX8_order_28 ?_
  refine lv_i2l X.1 X.2.1 dX8_order_29 rfl ?_
  obtain ⟨r30, ho, hf⟩ := b1_s hf
  refine call_si (rest := []) X (c_X8_in x1.toInt64 0 (((F 4) - 1).toInt64) ho) q_4_226 q_4_227 q_1_10 q_4_228 ok_X8_in rfl ⟨Nat.le_of_ble_eq_true rfl, Nat.le_of_ble_eq_true rfl⟩ rfl rfl hl.1 rfl (Nat.le_of_ble_eq_true rfl) dX8_order_30 hP hS (fun H locs hP hS => ?_)
  refine lv_if_ne (tgt := 39) X.1 X.2.1 dX8_order_33 (by decide) (fun c33 => ?_) (fun c33 => ?_)
  · have hf := ie_s hf c33
    refine lv_aload_n X.1 X.2.1 dX8_order_39 rfl (lv_at hl 0 rfl) ?_
    obtain ⟨m_loser_40, m_onlyWho_40, m_keptFree_40, m_all_40, m_bestRight_40, m_keptSeat_40, m_order_40, m_bestOrder_40, m_ways_40, m_next_40, ho, hf⟩ := b10_s hf
    refine call_vv (rest := []) X (c_X8_findOrder F G I J X.2.2.2.2.2.2.2.1  ho) q_5_231 q_5_233 qs_yX8_findOrder q_1_10 q_5_234 ok_X8_findOrder rfl 0 rfl rfl ⟨Nat.le_of_ble_eq_true rfl, Nat.le_of_ble_eq_true rfl⟩ rfl rfl hl.1 rfl (Nat.le_of_ble_eq_true rfl) dX8_order_40 hP hS (fun H locs hP hS => ?_)
    refine lv_aload_n X.1 X.2.1 dX8_order_43 rfl (lv_at hl 0 rfl) ?_
    refine gM_0_24 X q_4_133 dX8_order_44 hP ?_
    refine lv_iload_n X.1 X.2.1 dX8_order_47 rfl (lv_at hl 1 rfl) ?_
    obtain ⟨h48, hf⟩ := gd_s hf
    refine lM_15 (I := (va_up (va_up (va_up I 10 m_keptSeat_40) 11 m_order_40) 12 m_bestOrder_40)) X (f := m_bestOrder_40) rfl h48 dX8_order_48 hP ?_
    obtain ⟨e0, hf⟩ := o2 hf
    obtain ⟨e1, hf⟩ := o2 hf
    obtain ⟨e2, hf⟩ := o2 hf
    obtain ⟨e3, hf⟩ := o2 hf
    obtain ⟨e4, hf⟩ := o2 hf
    obtain ⟨e5, hf⟩ := o2 hf
    obtain ⟨e6, hf⟩ := o2 hf
    obtain ⟨e7, hf⟩ := o2 hf
    obtain ⟨e8, hf⟩ := o2 hf
    obtain ⟨e9, hf⟩ := o2 hf
    obtain ⟨e10, hf⟩ := o2 hf
    obtain ⟨e11, hf⟩ := o2 hf
    obtain ⟨e12, hf⟩ := o2 hf
    obtain ⟨e13, hf⟩ := o2 hf
    obtain ⟨e14, hf⟩ := o2 hf
    obtain ⟨e15, hf⟩ := o2 hf
    obtain ⟨e16, hf⟩ := o2 hf
    obtain ⟨e17, hf⟩ := o2 hf
    have e18 := o1 hf
    have EF : Ff = (va_up (va_up (va_up F 5 m_loser_40) 6 m_onlyWho_40) 8 m_keptFree_40) := frm_eq (frm_up (frm_up (frm_up hfF (by decide)) (by decide)) (by decide)) (frm_c (e1).symm (frm_c (e2).symm (frm_c (e3).symm (frm_c (e4).symm (frm_c (e5).symm (frm_c (e6).symm (frm_c (e7).symm frm_n)))))))
    have EG : Gf = (va_up (va_up G 0 m_all_40) 1 m_bestRight_40) := frm_eq (frm_up (frm_up hfG (by decide)) (by decide)) (frm_c (e8).symm (frm_c (e9).symm frm_n))
    have EI : If = (va_up (va_up (va_up I 10 m_keptSeat_40) 11 m_order_40) 12 m_bestOrder_40) := frm_eq (frm_up (frm_up (frm_up hfI (by decide)) (by decide)) (by decide)) (frm_c (e10).symm (frm_c (e11).symm (frm_c (e12).symm (frm_c (e13).symm (frm_c (e14).symm (frm_c (e15).symm (frm_c (e16).symm frm_n)))))))
    have EJ : Jf = (va_up (va_up J 0 m_ways_40) 1 m_next_40) := frm_eq (frm_up (frm_up hfJ (by decide)) (by decide)) (frm_c (e17).symm (frm_c (e18).symm frm_n))
    exact ret_i X hS (by rw [EF, EG, EI, EJ]; exact hP) e0 dX8_order_49
  · have hf := it_s hf c33
    refine lv_bipush (v := (-2)) X.1 X.2.1 dX8_order_36 (by decide) ?_
    obtain ⟨e0, hf⟩ := o2 hf
    obtain ⟨e1, hf⟩ := o2 hf
    obtain ⟨e2, hf⟩ := o2 hf
    obtain ⟨e3, hf⟩ := o2 hf
    obtain ⟨e4, hf⟩ := o2 hf
    obtain ⟨e5, hf⟩ := o2 hf
    obtain ⟨e6, hf⟩ := o2 hf
    obtain ⟨e7, hf⟩ := o2 hf
    obtain ⟨e8, hf⟩ := o2 hf
    obtain ⟨e9, hf⟩ := o2 hf
    obtain ⟨e10, hf⟩ := o2 hf
    obtain ⟨e11, hf⟩ := o2 hf
    obtain ⟨e12, hf⟩ := o2 hf
    obtain ⟨e13, hf⟩ := o2 hf
    obtain ⟨e14, hf⟩ := o2 hf
    obtain ⟨e15, hf⟩ := o2 hf
    obtain ⟨e16, hf⟩ := o2 hf
    obtain ⟨e17, hf⟩ := o2 hf
    have e18 := o1 hf
    have EF : Ff = F := frm_eq hfF (frm_c (e1).symm (frm_c (e2).symm (frm_c (e3).symm (frm_c (e4).symm (frm_c (e5).symm (frm_c (e6).symm (frm_c (e7).symm frm_n)))))))
    have EG : Gf = G := frm_eq hfG (frm_c (e8).symm (frm_c (e9).symm frm_n))
    have EI : If = I := frm_eq hfI (frm_c (e10).symm (frm_c (e11).symm (frm_c (e12).symm (frm_c (e13).symm (frm_c (e14).symm (frm_c (e15).symm (frm_c (e16).symm frm_n)))))))
    have EJ : Jf = J := frm_eq hfJ (frm_c (e17).symm (frm_c (e18).symm frm_n))
    exact ret_i X hS (by rw [EF, EG, EI, EJ]; exact hP) e0 dX8_order_38
set_option maxHeartbeats 4000000 in
set_option maxRecDepth 100000 in
theorem t_X8_order_b0 {p : Program} {l : Launch} {e : Env} {s : State} {m : MethodId} {args : Array Value} {below : List Frame} {meth : Method} {c : Code} {D : va_G} {a : Nat → Nat} {kc : Nat → ClassId} (X : cx 21 p s m args meth c D (tyM kc) a cX8_order 2 RX8 (some .int))  {Ff : Nat → Int32} {Gf : Nat → Int64} {If : Nat → Nat → Int32} {Jf : Nat → Nat → Int64} {r : Int32} :
    ∀ (F : Nat → Int32) (G : Nat → Int64) (I : Nat → Nat → Int32) (J : Nat → Nat → Int64) (x1 : Int32) (H : Heap) (locs : List Loc) (ls : Array Slot), p_X8_order_b0 (F 1) (F 2) (F 3) (F 4) (F 5) (F 6) (F 7) (F 8) (G 0) (G 1) (I 4) (I 5) (I 6) (I 7) (I 8) (I 9) (I 10) (I 11) (I 12) (J 0) (J 1) x1 = some (r, (Ff 1), (Ff 2), (Ff 3), (Ff 4), (Ff 5), (Ff 6), (Ff 8), (Gf 0), (Gf 1), (If 6), (If 7), (If 8), (If 9), (If 10), (If 11), (If 12), (Jf 0), (Jf 1)) → (∀ k, k ∉ ([1, 2, 3, 4, 5, 6, 8] : List Nat) → Ff k = F k) → (∀ k, k ∉ ([0, 1] : List Nat) → Gf k = G k) → (∀ k, k ∉ ([6, 7, 8, 9, 10, 11, 12] : List Nat) → If k = I k) → (∀ k, k ∉ ([0, 1] : List Nat) → Jf k = J k) → va_P D vwCl (wM a kc F G I J) H → va_S (ad a 21 s.heap.size) s.heap H locs → lv_has ls 2 [(0, .ref (a 0)), (1, .int x1)] → W p l e rm_X8_order s m args below meth c H locs 0 0 (MQ below (Qi D (wM a kc Ff Gf If Jf) r (ad a 21 s.heap.size)) args s 0 0 (ad a 21 s.heap.size)) (F0 m 0 ls []) := by
  intro F G I J x1 H locs ls hf hfF hfG hfI hfJ hP hS hl
  unfold p_X8_order_b0 at hf
  refine lv_aload_n X.1 X.2.1 dX8_order_0 rfl (lv_at hl 0 rfl) ?_
  obtain ⟨m_at_1, m_seats_1, m_rows_1, m_people_1, m_sorts_1, m_rowOf_1, m_own_1, m_kinds_1, ho, hf⟩ := b8_s hf
  refine call_vv (rest := []) X (c_X8_find F G I J X.2.2.2.2.2.2.2.1  ho) q_5_69 q_5_71 qs_yX8_find q_1_10 q_5_72 ok_X8_find rfl 0 rfl rfl ⟨Nat.le_of_ble_eq_true rfl, Nat.le_of_ble_eq_true rfl⟩ rfl rfl hl.1 rfl (Nat.le_of_ble_eq_true rfl) dX8_order_1 hP hS (fun H locs hP hS => ?_)
  refine lv_aload_n X.1 X.2.1 dX8_order_4 rfl (lv_at hl 0 rfl) ?_
  refine gM_0_12 (F := (va_up (va_up (va_up (va_up F 1 m_at_1) 2 m_seats_1) 3 m_rows_1) 4 m_people_1)) X (v := m_people_1) rfl q_4_121 dX8_order_5 hP ?_
  refine lv_bipush (v := 6) X.1 X.2.1 dX8_order_8 (by decide) ?_
  refine lv_icmp_le (tgt := 20) X.1 X.2.1 dX8_order_10 (by decide) (fun c10 => ?_) (fun c10 => ?_)
  · have hf := it_s hf c10
    exact t_X8_order_b20 X (va_up (va_up (va_up (va_up F 1 m_at_1) 2 m_seats_1) 3 m_rows_1) 4 m_people_1) G (va_up (va_up (va_up (va_up I 6 m_sorts_1) 7 m_rowOf_1) 8 m_own_1) 9 m_kinds_1) J x1 H locs ls hf (frm_up (frm_up (frm_up (frm_up hfF (by decide)) (by decide)) (by decide)) (by decide)) hfG (frm_up (frm_up (frm_up (frm_up hfI (by decide)) (by decide)) (by decide)) (by decide)) hfJ hP hS (lv_sub hl [0, 1] rfl)
  · have hf := ie_s hf c10
    refine lv_iload_n X.1 X.2.1 dX8_order_13 rfl (lv_at hl 1 rfl) ?_
    refine lv_if_lt (tgt := 20) X.1 X.2.1 dX8_order_14 (by decide) (fun c14 => ?_) (fun c14 => ?_)
    · have hf := it_s hf c14
      exact t_X8_order_b20 X (va_up (va_up (va_up (va_up F 1 m_at_1) 2 m_seats_1) 3 m_rows_1) 4 m_people_1) G (va_up (va_up (va_up (va_up I 6 m_sorts_1) 7 m_rowOf_1) 8 m_own_1) 9 m_kinds_1) J x1 H locs ls hf (frm_up (frm_up (frm_up (frm_up hfF (by decide)) (by decide)) (by decide)) (by decide)) hfG (frm_up (frm_up (frm_up (frm_up hfI (by decide)) (by decide)) (by decide)) (by decide)) hfJ hP hS (lv_sub hl [0, 1] rfl)
    · have hf := ie_s hf c14
      refine lv_bipush (v := (-4)) X.1 X.2.1 dX8_order_17 (by decide) ?_
      obtain ⟨e0, hf⟩ := o2 hf
      obtain ⟨e1, hf⟩ := o2 hf
      obtain ⟨e2, hf⟩ := o2 hf
      obtain ⟨e3, hf⟩ := o2 hf
      obtain ⟨e4, hf⟩ := o2 hf
      obtain ⟨e5, hf⟩ := o2 hf
      obtain ⟨e6, hf⟩ := o2 hf
      obtain ⟨e7, hf⟩ := o2 hf
      obtain ⟨e8, hf⟩ := o2 hf
      obtain ⟨e9, hf⟩ := o2 hf
      obtain ⟨e10, hf⟩ := o2 hf
      obtain ⟨e11, hf⟩ := o2 hf
      obtain ⟨e12, hf⟩ := o2 hf
      obtain ⟨e13, hf⟩ := o2 hf
      obtain ⟨e14, hf⟩ := o2 hf
      obtain ⟨e15, hf⟩ := o2 hf
      obtain ⟨e16, hf⟩ := o2 hf
      obtain ⟨e17, hf⟩ := o2 hf
      have e18 := o1 hf
      have EF : Ff = (va_up (va_up (va_up (va_up F 1 m_at_1) 2 m_seats_1) 3 m_rows_1) 4 m_people_1) := frm_eq (frm_up (frm_up (frm_up (frm_up hfF (by decide)) (by decide)) (by decide)) (by decide)) (frm_c (e1).symm (frm_c (e2).symm (frm_c (e3).symm (frm_c (e4).symm (frm_c (e5).symm (frm_c (e6).symm (frm_c (e7).symm frm_n)))))))
      have EG : Gf = G := frm_eq hfG (frm_c (e8).symm (frm_c (e9).symm frm_n))
      have EI : If = (va_up (va_up (va_up (va_up I 6 m_sorts_1) 7 m_rowOf_1) 8 m_own_1) 9 m_kinds_1) := frm_eq (frm_up (frm_up (frm_up (frm_up hfI (by decide)) (by decide)) (by decide)) (by decide)) (frm_c (e10).symm (frm_c (e11).symm (frm_c (e12).symm (frm_c (e13).symm (frm_c (e14).symm (frm_c (e15).symm (frm_c (e16).symm frm_n)))))))
      have EJ : Jf = J := frm_eq hfJ (frm_c (e17).symm (frm_c (e18).symm frm_n))
      exact ret_i X hS (by rw [EF, EG, EI, EJ]; exact hP) e0 dX8_order_19
set_option maxRecDepth 100000 in
theorem c_X8_order {l : Launch} {D : va_G} {a : Nat → Nat} {kc : Nat → ClassId} (F : Nat → Int32) (G : Nat → Int64) (I : Nat → Nat → Int32) (J : Nat → Nat → Int64) (hAp : ∀ i j, i < 21 → j < 21 → a i = a j → i = j) (x1 : Int32) {o0 : Int32} {o1 : Int32} {o2 : Int32} {o3 : Int32} {o4 : Int32} {o5 : Int32} {o6 : Int32} {o7 : Int32} {o8 : Int64} {o9 : Int64} {o10 : Nat → Int32} {o11 : Nat → Int32} {o12 : Nat → Int32} {o13 : Nat → Int32} {o14 : Nat → Int32} {o15 : Nat → Int32} {o16 : Nat → Int32} {o17 : Nat → Int64} {o18 : Nat → Int64} (hf : p_X8_order (F 1) (F 2) (F 3) (F 4) (F 5) (F 6) (F 7) (F 8) (G 0) (G 1) (I 4) (I 5) (I 6) (I 7) (I 8) (I 9) (I 10) (I 11) (I 12) (J 0) (J 1) x1 = some (o0, o1, o2, o3, o4, o5, o6, o7, o8, o9, o10, o11, o12, o13, o14, o15, o16, o17, o18)) : Ct 21 l yX8_order cX8_order 2 (some .int) rm_X8_order D (tyM kc) a (wM a kc F G I J) [.ref (a 0), .int x1] (Qi D (wM a kc (va_up (va_up (va_up (va_up (va_up (va_up (va_up F 1 o1) 2 o2) 3 o3) 4 o4) 5 o5) 6 o6) 8 o7) (va_up (va_up G 0 o8) 1 o9) (va_up (va_up (va_up (va_up (va_up (va_up (va_up I 6 o10) 7 o11) 8 o12) 9 o13) 10 o14) 11 o15) 12 o16) (va_up (va_up J 0 o17) 1 o18)) o0) :=
  Ct.of (by decide +kernel) hAp (Nat.le_of_ble_eq_true rfl) (fun p e s m args below meth c ls X hP hl => t_X8_order_b0 X F G I J x1 _ _ _ hf (frm_ul (frm_ul (frm_ul (frm_ul (frm_ul (frm_ul (frm_ul (fun k _ => rfl) (by decide)) (by decide)) (by decide)) (by decide)) (by decide)) (by decide)) (by decide)) (frm_ul (frm_ul (fun k _ => rfl) (by decide)) (by decide)) (frm_ul (frm_ul (frm_ul (frm_ul (frm_ul (frm_ul (frm_ul (fun k _ => rfl) (by decide)) (by decide)) (by decide)) (by decide)) (by decide)) (by decide)) (by decide)) (frm_ul (frm_ul (fun k _ => rfl) (by decide)) (by decide)) hP va_S.rf hl)
abbrev rm_X8_bestOf : Room := { frames := 6, cells := 0, slots := 0, locals := 149 }
set_option maxHeartbeats 4000000 in
set_option maxRecDepth 100000 in
theorem t_X8_bestOf_b0 {p : Program} {l : Launch} {e : Env} {s : State} {m : MethodId} {args : Array Value} {below : List Frame} {meth : Method} {c : Code} {D : va_G} {a : Nat → Nat} {kc : Nat → ClassId} (X : cx 21 p s m args meth c D (tyM kc) a cX8_bestOf 2 RX8 (some .long))  {Ff : Nat → Int32} {Gf : Nat → Int64} {If : Nat → Nat → Int32} {Jf : Nat → Nat → Int64} {r : Int64} :
    ∀ (F : Nat → Int32) (G : Nat → Int64) (I : Nat → Nat → Int32) (J : Nat → Nat → Int64) (x1 : Int32) (H : Heap) (locs : List Loc) (ls : Array Slot), p_X8_bestOf_b0 (F 2) (F 4) (F 5) (F 6) (F 7) (F 8) (G 0) (G 1) (I 6) (I 8) (I 9) (I 10) (I 11) (I 12) (J 0) (J 1) x1 = some (r, (Ff 5), (Ff 6), (Ff 8), (Gf 0), (Gf 1), (If 10), (If 11), (If 12), (Jf 0), (Jf 1)) → (∀ k, k ∉ ([5, 6, 8] : List Nat) → Ff k = F k) → (∀ k, k ∉ ([0, 1] : List Nat) → Gf k = G k) → (∀ k, k ∉ ([10, 11, 12] : List Nat) → If k = I k) → (∀ k, k ∉ ([0, 1] : List Nat) → Jf k = J k) → va_P D vwCl (wM a kc F G I J) H → va_S (ad a 21 s.heap.size) s.heap H locs → lv_has ls 2 [(0, .ref (a 0)), (1, .int x1)] → W p l e rm_X8_bestOf s m args below meth c H locs 0 0 (MQ below (Ql D (wM a kc Ff Gf If Jf) r (ad a 21 s.heap.size)) args s 0 0 (ad a 21 s.heap.size)) (F0 m 0 ls []) := by
  intro F G I J x1 H locs ls hf hfF hfG hfI hfJ hP hS hl
  unfold p_X8_bestOf_b0 at hf
  refine lv_aload_n X.1 X.2.1 dX8_bestOf_0 rfl (lv_at hl 0 rfl) ?_
  refine gM_0_12 (F := F) X (v := (F 4)) rfl q_4_121 dX8_bestOf_1 hP ?_
  refine lv_bipush (v := 6) X.1 X.2.1 dX8_bestOf_4 (by decide) ?_
  refine lv_icmp_le (tgt := 15) X.1 X.2.1 dX8_bestOf_6 (by decide) (fun c6 => ?_) (fun c6 => ?_)
  · have hf := it_s hf c6
    refine lv_aload_n X.1 X.2.1 dX8_bestOf_15 rfl (lv_at hl 0 rfl) ?_
    obtain ⟨m_loser_16, m_onlyWho_16, m_keptFree_16, m_all_16, m_bestRight_16, m_keptSeat_16, m_order_16, m_bestOrder_16, m_ways_16, m_next_16, ho, hf⟩ := b10_s hf
    refine call_vv (rest := []) X (c_X8_findOrder F G I J X.2.2.2.2.2.2.2.1  ho) q_5_231 q_5_233 qs_yX8_findOrder q_1_10 q_5_234 ok_X8_findOrder rfl 0 rfl rfl ⟨Nat.le_of_ble_eq_true rfl, Nat.le_of_ble_eq_true rfl⟩ rfl rfl hl.1 rfl (Nat.le_of_ble_eq_true rfl) dX8_bestOf_16 hP hS (fun H locs hP hS => ?_)
    refine lv_aload_n X.1 X.2.1 dX8_bestOf_19 rfl (lv_at hl 0 rfl) ?_
    refine gM_0_12 (F := (va_up (va_up (va_up F 5 m_loser_16) 6 m_onlyWho_16) 8 m_keptFree_16)) X (v := (F 4)) rfl q_4_121 dX8_bestOf_20 hP ?_
    refine lv_i2l X.1 X.2.1 dX8_bestOf_23 rfl ?_
    refine lv_aload_n X.1 X.2.1 dX8_bestOf_24 rfl (lv_at hl 0 rfl) ?_
    refine gM_0_17 (G := (va_up (va_up G 0 m_all_16) 1 m_bestRight_16)) X (v := m_all_16) rfl q_4_126 dX8_bestOf_25 hP ?_
    refine lv_lmul X.1 X.2.1 dX8_bestOf_28 ?_
    refine lv_aload_n X.1 X.2.1 dX8_bestOf_29 rfl (lv_at hl 0 rfl) ?_
    refine gM_0_27 (G := (va_up (va_up G 0 m_all_16) 1 m_bestRight_16)) X (v := m_bestRight_16) rfl q_4_136 dX8_bestOf_30 hP ?_
    refine lv_lsub X.1 X.2.1 dX8_bestOf_33 ?_
    refine lv_aload_n X.1 X.2.1 dX8_bestOf_34 rfl (lv_at hl 0 rfl) ?_
    refine gM_0_17 (G := (va_up (va_up G 0 m_all_16) 1 m_bestRight_16)) X (v := m_all_16) rfl q_4_126 dX8_bestOf_35 hP ?_
    refine lv_iload_n X.1 X.2.1 dX8_bestOf_38 rfl (lv_at hl 1 rfl) ?_
    obtain ⟨r39, ho, hf⟩ := b1_s hf
    refine call_sl (rest := []) X (c_X8_part (((F 4).toInt64 * m_all_16) - m_bestRight_16) m_all_16 x1 ho) q_5_155 q_5_156 q_1_10 q_5_157 ok_X8_part rfl ⟨Nat.le_of_ble_eq_true rfl, Nat.le_of_ble_eq_true rfl⟩ rfl rfl hl.1 rfl (Nat.le_of_ble_eq_true rfl) dX8_bestOf_39 hP hS (fun H locs hP hS => ?_)
    obtain ⟨e0, hf⟩ := o2 hf
    obtain ⟨e1, hf⟩ := o2 hf
    obtain ⟨e2, hf⟩ := o2 hf
    obtain ⟨e3, hf⟩ := o2 hf
    obtain ⟨e4, hf⟩ := o2 hf
    obtain ⟨e5, hf⟩ := o2 hf
    obtain ⟨e6, hf⟩ := o2 hf
    obtain ⟨e7, hf⟩ := o2 hf
    obtain ⟨e8, hf⟩ := o2 hf
    obtain ⟨e9, hf⟩ := o2 hf
    have e10 := o1 hf
    have EF : Ff = (va_up (va_up (va_up F 5 m_loser_16) 6 m_onlyWho_16) 8 m_keptFree_16) := frm_eq (frm_up (frm_up (frm_up hfF (by decide)) (by decide)) (by decide)) (frm_c (e1).symm (frm_c (e2).symm (frm_c (e3).symm frm_n)))
    have EG : Gf = (va_up (va_up G 0 m_all_16) 1 m_bestRight_16) := frm_eq (frm_up (frm_up hfG (by decide)) (by decide)) (frm_c (e4).symm (frm_c (e5).symm frm_n))
    have EI : If = (va_up (va_up (va_up I 10 m_keptSeat_16) 11 m_order_16) 12 m_bestOrder_16) := frm_eq (frm_up (frm_up (frm_up hfI (by decide)) (by decide)) (by decide)) (frm_c (e6).symm (frm_c (e7).symm (frm_c (e8).symm frm_n)))
    have EJ : Jf = (va_up (va_up J 0 m_ways_16) 1 m_next_16) := frm_eq (frm_up (frm_up hfJ (by decide)) (by decide)) (frm_c (e9).symm (frm_c (e10).symm frm_n))
    exact ret_l X hS (by rw [EF, EG, EI, EJ]; exact hP) e0 dX8_bestOf_42
  · have hf := ie_s hf c6
    refine lv_bipush (v := (-4)) X.1 X.2.1 dX8_bestOf_9 (by decide) ?_
    obtain ⟨r11, ho, hf⟩ := b1_s hf
    refine call_sl (rest := []) X (c_X8_no (-4) ho) q_5_158 q_5_159 q_1_10 q_5_160 ok_X8_no rfl ⟨Nat.le_of_ble_eq_true rfl, Nat.le_of_ble_eq_true rfl⟩ rfl rfl hl.1 rfl (Nat.le_of_ble_eq_true rfl) dX8_bestOf_11 hP hS (fun H locs hP hS => ?_)
    obtain ⟨e0, hf⟩ := o2 hf
    obtain ⟨e1, hf⟩ := o2 hf
    obtain ⟨e2, hf⟩ := o2 hf
    obtain ⟨e3, hf⟩ := o2 hf
    obtain ⟨e4, hf⟩ := o2 hf
    obtain ⟨e5, hf⟩ := o2 hf
    obtain ⟨e6, hf⟩ := o2 hf
    obtain ⟨e7, hf⟩ := o2 hf
    obtain ⟨e8, hf⟩ := o2 hf
    obtain ⟨e9, hf⟩ := o2 hf
    have e10 := o1 hf
    have EF : Ff = F := frm_eq hfF (frm_c (e1).symm (frm_c (e2).symm (frm_c (e3).symm frm_n)))
    have EG : Gf = G := frm_eq hfG (frm_c (e4).symm (frm_c (e5).symm frm_n))
    have EI : If = I := frm_eq hfI (frm_c (e6).symm (frm_c (e7).symm (frm_c (e8).symm frm_n)))
    have EJ : Jf = J := frm_eq hfJ (frm_c (e9).symm (frm_c (e10).symm frm_n))
    exact ret_l X hS (by rw [EF, EG, EI, EJ]; exact hP) e0 dX8_bestOf_14
set_option maxRecDepth 100000 in
theorem c_X8_bestOf {l : Launch} {D : va_G} {a : Nat → Nat} {kc : Nat → ClassId} (F : Nat → Int32) (G : Nat → Int64) (I : Nat → Nat → Int32) (J : Nat → Nat → Int64) (hAp : ∀ i j, i < 21 → j < 21 → a i = a j → i = j) (x1 : Int32) {o0 : Int64} {o1 : Int32} {o2 : Int32} {o3 : Int32} {o4 : Int64} {o5 : Int64} {o6 : Nat → Int32} {o7 : Nat → Int32} {o8 : Nat → Int32} {o9 : Nat → Int64} {o10 : Nat → Int64} (hf : p_X8_bestOf (F 2) (F 4) (F 5) (F 6) (F 7) (F 8) (G 0) (G 1) (I 6) (I 8) (I 9) (I 10) (I 11) (I 12) (J 0) (J 1) x1 = some (o0, o1, o2, o3, o4, o5, o6, o7, o8, o9, o10)) : Ct 21 l yX8_bestOf cX8_bestOf 2 (some .long) rm_X8_bestOf D (tyM kc) a (wM a kc F G I J) [.ref (a 0), .int x1] (Ql D (wM a kc (va_up (va_up (va_up F 5 o1) 6 o2) 8 o3) (va_up (va_up G 0 o4) 1 o5) (va_up (va_up (va_up I 10 o6) 11 o7) 12 o8) (va_up (va_up J 0 o9) 1 o10)) o0) :=
  Ct.of (by decide +kernel) hAp (Nat.le_of_ble_eq_true rfl) (fun p e s m args below meth c ls X hP hl => t_X8_bestOf_b0 X F G I J x1 _ _ _ hf (frm_ul (frm_ul (frm_ul (fun k _ => rfl) (by decide)) (by decide)) (by decide)) (frm_ul (frm_ul (fun k _ => rfl) (by decide)) (by decide)) (frm_ul (frm_ul (frm_ul (fun k _ => rfl) (by decide)) (by decide)) (by decide)) (frm_ul (frm_ul (fun k _ => rfl) (by decide)) (by decide)) hP va_S.rf hl)
abbrev rm_X8_best : Room := { frames := 7, cells := 0, slots := 0, locals := 170 }
set_option maxHeartbeats 4000000 in
set_option maxRecDepth 100000 in
theorem t_X8_best_b24 {p : Program} {l : Launch} {e : Env} {s : State} {m : MethodId} {args : Array Value} {below : List Frame} {meth : Method} {c : Code} {D : va_G} {a : Nat → Nat} {kc : Nat → ClassId} (X : cx 21 p s m args meth c D (tyM kc) a cX8_best 2 RX8 (some .long))  {Ff : Nat → Int32} {Gf : Nat → Int64} {If : Nat → Nat → Int32} {Jf : Nat → Nat → Int64} {r : Int64} :
    ∀ (F : Nat → Int32) (G : Nat → Int64) (I : Nat → Nat → Int32) (J : Nat → Nat → Int64) (t0 : Int64) (H : Heap) (locs : List Loc) (ls : Array Slot), p_X8_best_b24 (F 1) (F 2) (F 3) (F 4) (F 5) (F 6) (F 7) (F 8) (G 0) (G 1) (I 4) (I 5) (I 6) (I 7) (I 8) (I 9) (I 10) (I 11) (I 12) (J 0) (J 1) t0 = some (r, (Ff 1), (Ff 2), (Ff 3), (Ff 4), (Ff 5), (Ff 6), (Ff 8), (Gf 0), (Gf 1), (If 6), (If 7), (If 8), (If 9), (If 10), (If 11), (If 12), (Jf 0), (Jf 1)) → (∀ k, k ∉ ([1, 2, 3, 4, 5, 6, 8] : List Nat) → Ff k = F k) → (∀ k, k ∉ ([0, 1] : List Nat) → Gf k = G k) → (∀ k, k ∉ ([6, 7, 8, 9, 10, 11, 12] : List Nat) → If k = I k) → (∀ k, k ∉ ([0, 1] : List Nat) → Jf k = J k) → va_P D vwCl (wM a kc F G I J) H → va_S (ad a 21 s.heap.size) s.heap H locs → lv_has ls 2 [(0, .ref (a 0))] → W p l e rm_X8_best s m args below meth c H locs 0 0 (MQ below (Ql D (wM a kc Ff Gf If Jf) r (ad a 21 s.heap.size)) args s 0 0 (ad a 21 s.heap.size)) (F0 m 24 ls [.long t0]) := by
  intro F G I J t0 H locs ls hf hfF hfG hfI hfJ hP hS hl
  unfold p_X8_best_b24 at hf
  obtain ⟨e0, hf⟩ := o2 hf
  obtain ⟨e1, hf⟩ := o2 hf
  obtain ⟨e2, hf⟩ := o2 hf
  obtain ⟨e3, hf⟩ := o2 hf
  obtain ⟨e4, hf⟩ := o2 hf
  obtain ⟨e5, hf⟩ := o2 hf
  obtain ⟨e6, hf⟩ := o2 hf
  obtain ⟨e7, hf⟩ := o2 hf
  obtain ⟨e8, hf⟩ := o2 hf
  obtain ⟨e9, hf⟩ := o2 hf
  obtain ⟨e10, hf⟩ := o2 hf
  obtain ⟨e11, hf⟩ := o2 hf
  obtain ⟨e12, hf⟩ := o2 hf
  obtain ⟨e13, hf⟩ := o2 hf
  obtain ⟨e14, hf⟩ := o2 hf
  obtain ⟨e15, hf⟩ := o2 hf
  obtain ⟨e16, hf⟩ := o2 hf
  obtain ⟨e17, hf⟩ := o2 hf
  have e18 := o1 hf
  have EF : Ff = F := frm_eq hfF (frm_c (e1).symm (frm_c (e2).symm (frm_c (e3).symm (frm_c (e4).symm (frm_c (e5).symm (frm_c (e6).symm (frm_c (e7).symm frm_n)))))))
  have EG : Gf = G := frm_eq hfG (frm_c (e8).symm (frm_c (e9).symm frm_n))
  have EI : If = I := frm_eq hfI (frm_c (e10).symm (frm_c (e11).symm (frm_c (e12).symm (frm_c (e13).symm (frm_c (e14).symm (frm_c (e15).symm (frm_c (e16).symm frm_n)))))))
  have EJ : Jf = J := frm_eq hfJ (frm_c (e17).symm (frm_c (e18).symm frm_n))
  exact ret_l X hS (by rw [EF, EG, EI, EJ]; exact hP) e0 dX8_best_24
set_option maxHeartbeats 4000000 in
set_option maxRecDepth 100000 in
theorem t_X8_best_b0 {p : Program} {l : Launch} {e : Env} {s : State} {m : MethodId} {args : Array Value} {below : List Frame} {meth : Method} {c : Code} {D : va_G} {a : Nat → Nat} {kc : Nat → ClassId} (X : cx 21 p s m args meth c D (tyM kc) a cX8_best 2 RX8 (some .long))  {Ff : Nat → Int32} {Gf : Nat → Int64} {If : Nat → Nat → Int32} {Jf : Nat → Nat → Int64} {r : Int64} :
    ∀ (F : Nat → Int32) (G : Nat → Int64) (I : Nat → Nat → Int32) (J : Nat → Nat → Int64) (x1 : Int32) (H : Heap) (locs : List Loc) (ls : Array Slot), p_X8_best_b0 (F 1) (F 2) (F 3) (F 4) (F 5) (F 6) (F 7) (F 8) (G 0) (G 1) (I 4) (I 5) (I 6) (I 7) (I 8) (I 9) (I 10) (I 11) (I 12) (J 0) (J 1) x1 = some (r, (Ff 1), (Ff 2), (Ff 3), (Ff 4), (Ff 5), (Ff 6), (Ff 8), (Gf 0), (Gf 1), (If 6), (If 7), (If 8), (If 9), (If 10), (If 11), (If 12), (Jf 0), (Jf 1)) → (∀ k, k ∉ ([1, 2, 3, 4, 5, 6, 8] : List Nat) → Ff k = F k) → (∀ k, k ∉ ([0, 1] : List Nat) → Gf k = G k) → (∀ k, k ∉ ([6, 7, 8, 9, 10, 11, 12] : List Nat) → If k = I k) → (∀ k, k ∉ ([0, 1] : List Nat) → Jf k = J k) → va_P D vwCl (wM a kc F G I J) H → va_S (ad a 21 s.heap.size) s.heap H locs → lv_has ls 2 [(0, .ref (a 0)), (1, .int x1)] → W p l e rm_X8_best s m args below meth c H locs 0 0 (MQ below (Ql D (wM a kc Ff Gf If Jf) r (ad a 21 s.heap.size)) args s 0 0 (ad a 21 s.heap.size)) (F0 m 0 ls []) := by
  intro F G I J x1 H locs ls hf hfF hfG hfI hfJ hP hS hl
  unfold p_X8_best_b0 at hf
  refine lv_aload_n X.1 X.2.1 dX8_best_0 rfl (lv_at hl 0 rfl) ?_
  obtain ⟨m_at_1, m_seats_1, m_rows_1, m_people_1, m_sorts_1, m_rowOf_1, m_own_1, m_kinds_1, ho, hf⟩ := b8_s hf
  refine call_vv (rest := []) X (c_X8_find F G I J X.2.2.2.2.2.2.2.1  ho) q_5_69 q_5_71 qs_yX8_find q_1_10 q_5_72 ok_X8_find rfl 0 rfl rfl ⟨Nat.le_of_ble_eq_true rfl, Nat.le_of_ble_eq_true rfl⟩ rfl rfl hl.1 rfl (Nat.le_of_ble_eq_true rfl) dX8_best_1 hP hS (fun H locs hP hS => ?_)
  refine lv_iload_n X.1 X.2.1 dX8_best_4 rfl (lv_at hl 1 rfl) ?_
  obtain ⟨r5, ho, hf⟩ := b1_s hf
  refine call_si (rest := []) X (c_X8_isTwo x1 ho) q_5_22 q_5_23 q_1_10 q_5_24 ok_X8_isTwo rfl ⟨Nat.le_of_ble_eq_true rfl, Nat.le_of_ble_eq_true rfl⟩ rfl rfl hl.1 rfl (Nat.le_of_ble_eq_true rfl) dX8_best_5 hP hS (fun H locs hP hS => ?_)
  refine lv_if_eq (tgt := 19) X.1 X.2.1 dX8_best_8 (by decide) (fun c8 => ?_) (fun c8 => ?_)
  · have hf := it_s hf c8
    refine lv_bipush (v := (-2)) X.1 X.2.1 dX8_best_19 (by decide) ?_
    obtain ⟨r21, ho, hf⟩ := b1_s hf
    refine call_sl (rest := []) X (c_X8_no (-2) ho) q_5_158 q_5_159 q_1_10 q_5_160 ok_X8_no rfl ⟨Nat.le_of_ble_eq_true rfl, Nat.le_of_ble_eq_true rfl⟩ rfl rfl hl.1 rfl (Nat.le_of_ble_eq_true rfl) dX8_best_21 hP hS (fun H locs hP hS => ?_)
    exact t_X8_best_b24 X (va_up (va_up (va_up (va_up F 1 m_at_1) 2 m_seats_1) 3 m_rows_1) 4 m_people_1) G (va_up (va_up (va_up (va_up I 6 m_sorts_1) 7 m_rowOf_1) 8 m_own_1) 9 m_kinds_1) J r21 H locs ls hf (frm_up (frm_up (frm_up (frm_up hfF (by decide)) (by decide)) (by decide)) (by decide)) hfG (frm_up (frm_up (frm_up (frm_up hfI (by decide)) (by decide)) (by decide)) (by decide)) hfJ hP hS (lv_sub hl [0] rfl)
  · have hf := ie_s hf c8
    refine lv_aload_n X.1 X.2.1 dX8_best_11 rfl (lv_at hl 0 rfl) ?_
    refine lv_iload_n X.1 X.2.1 dX8_best_12 rfl (lv_at hl 1 rfl) ?_
    obtain ⟨r13, m_loser_13, m_onlyWho_13, m_keptFree_13, m_all_13, m_bestRight_13, m_keptSeat_13, m_order_13, m_bestOrder_13, m_ways_13, m_next_13, ho, hf⟩ := b11_s hf
    refine call_vl (rest := []) X (c_X8_bestOf (va_up (va_up (va_up (va_up F 1 m_at_1) 2 m_seats_1) 3 m_rows_1) 4 m_people_1) G (va_up (va_up (va_up (va_up I 6 m_sorts_1) 7 m_rowOf_1) 8 m_own_1) 9 m_kinds_1) J X.2.2.2.2.2.2.2.1 x1 ho) q_6_7 q_6_9 qs_yX8_bestOf q_1_10 q_6_10 ok_X8_bestOf rfl 0 rfl rfl ⟨Nat.le_of_ble_eq_true rfl, Nat.le_of_ble_eq_true rfl⟩ rfl rfl hl.1 rfl (Nat.le_of_ble_eq_true rfl) dX8_best_13 hP hS (fun H locs hP hS => ?_)
    refine lv_goto (tgt := 24) X.1 X.2.1 dX8_best_16 (by decide) ?_
    exact t_X8_best_b24 X (va_up (va_up (va_up (va_up (va_up (va_up (va_up F 1 m_at_1) 2 m_seats_1) 3 m_rows_1) 4 m_people_1) 5 m_loser_13) 6 m_onlyWho_13) 8 m_keptFree_13) (va_up (va_up G 0 m_all_13) 1 m_bestRight_13) (va_up (va_up (va_up (va_up (va_up (va_up (va_up I 6 m_sorts_1) 7 m_rowOf_1) 8 m_own_1) 9 m_kinds_1) 10 m_keptSeat_13) 11 m_order_13) 12 m_bestOrder_13) (va_up (va_up J 0 m_ways_13) 1 m_next_13) r13 H locs ls hf (frm_up (frm_up (frm_up (frm_up (frm_up (frm_up (frm_up hfF (by decide)) (by decide)) (by decide)) (by decide)) (by decide)) (by decide)) (by decide)) (frm_up (frm_up hfG (by decide)) (by decide)) (frm_up (frm_up (frm_up (frm_up (frm_up (frm_up (frm_up hfI (by decide)) (by decide)) (by decide)) (by decide)) (by decide)) (by decide)) (by decide)) (frm_up (frm_up hfJ (by decide)) (by decide)) hP hS (lv_sub hl [0] rfl)
set_option maxRecDepth 100000 in
theorem c_X8_best {l : Launch} {D : va_G} {a : Nat → Nat} {kc : Nat → ClassId} (F : Nat → Int32) (G : Nat → Int64) (I : Nat → Nat → Int32) (J : Nat → Nat → Int64) (hAp : ∀ i j, i < 21 → j < 21 → a i = a j → i = j) (x1 : Int32) {o0 : Int64} {o1 : Int32} {o2 : Int32} {o3 : Int32} {o4 : Int32} {o5 : Int32} {o6 : Int32} {o7 : Int32} {o8 : Int64} {o9 : Int64} {o10 : Nat → Int32} {o11 : Nat → Int32} {o12 : Nat → Int32} {o13 : Nat → Int32} {o14 : Nat → Int32} {o15 : Nat → Int32} {o16 : Nat → Int32} {o17 : Nat → Int64} {o18 : Nat → Int64} (hf : p_X8_best (F 1) (F 2) (F 3) (F 4) (F 5) (F 6) (F 7) (F 8) (G 0) (G 1) (I 4) (I 5) (I 6) (I 7) (I 8) (I 9) (I 10) (I 11) (I 12) (J 0) (J 1) x1 = some (o0, o1, o2, o3, o4, o5, o6, o7, o8, o9, o10, o11, o12, o13, o14, o15, o16, o17, o18)) : Ct 21 l yX8_best cX8_best 2 (some .long) rm_X8_best D (tyM kc) a (wM a kc F G I J) [.ref (a 0), .int x1] (Ql D (wM a kc (va_up (va_up (va_up (va_up (va_up (va_up (va_up F 1 o1) 2 o2) 3 o3) 4 o4) 5 o5) 6 o6) 8 o7) (va_up (va_up G 0 o8) 1 o9) (va_up (va_up (va_up (va_up (va_up (va_up (va_up I 6 o10) 7 o11) 8 o12) 9 o13) 10 o14) 11 o15) 12 o16) (va_up (va_up J 0 o17) 1 o18)) o0) :=
  Ct.of (by decide +kernel) hAp (Nat.le_of_ble_eq_true rfl) (fun p e s m args below meth c ls X hP hl => t_X8_best_b0 X F G I J x1 _ _ _ hf (frm_ul (frm_ul (frm_ul (frm_ul (frm_ul (frm_ul (frm_ul (fun k _ => rfl) (by decide)) (by decide)) (by decide)) (by decide)) (by decide)) (by decide)) (by decide)) (frm_ul (frm_ul (fun k _ => rfl) (by decide)) (by decide)) (frm_ul (frm_ul (frm_ul (frm_ul (frm_ul (frm_ul (frm_ul (fun k _ => rfl) (by decide)) (by decide)) (by decide)) (by decide)) (by decide)) (by decide)) (by decide)) (frm_ul (frm_ul (fun k _ => rfl) (by decide)) (by decide)) hP va_S.rf hl)
abbrev rm_X8_sitter : Room := { frames := 0, cells := 0, slots := 0, locals := 0 }
set_option maxHeartbeats 4000000 in
set_option maxRecDepth 100000 in
theorem t_X8_sitter_b36 {p : Program} {l : Launch} {e : Env} {s : State} {m : MethodId} {args : Array Value} {below : List Frame} {meth : Method} {c : Code} {D : va_G} {a : Nat → Nat} {kc : Nat → ClassId} (X : cx 21 p s m args meth c D (tyM kc) a cX8_sitter 5 RX8 (some .int)) {F : Nat → Int32} {G : Nat → Int64} {I : Nat → Nat → Int32} {J : Nat → Nat → Int64}  {r : Int32} {K5 : Int32 → (Nat → Int32) → Int32 → Int32 → Int32 → Int32 → Option (Int32)} (kh5 : ∀  (x1 : Int32) (x2 : Int32) (x3 : Int32) (x4 : Int32) (H : Heap) (locs : List Loc) (ls : Array Slot), K5 (F 4) (I 2) x1 x2 x3 x4 = some r → va_P D vwCl (wM a kc F G I J) H → va_S (ad a 21 s.heap.size) s.heap H locs → lv_has ls 5 [(0, .ref (a 0)), (1, .int x1), (2, .int x2), (3, .int x3), (4, .int x4)] → W p l e rm_X8_sitter s m args below meth c H locs 0 0 (MQ below (Qi D (wM a kc F G I J) r (ad a 21 s.heap.size)) args s 0 0 (ad a 21 s.heap.size)) (F0 m 5 ls [])) :
    ∀  (t0 : Int32) (x1 : Int32) (x2 : Int32) (x4 : Int32) (H : Heap) (locs : List Loc) (ls : Array Slot), p_X8_sitter_b36 K5 (F 4) (I 2) t0 x1 x2 x4 = some r → va_P D vwCl (wM a kc F G I J) H → va_S (ad a 21 s.heap.size) s.heap H locs → lv_has ls 5 [(0, .ref (a 0)), (1, .int x1), (2, .int x2), (4, .int x4)] → W p l e rm_X8_sitter s m args below meth c H locs 0 0 (MQ below (Qi D (wM a kc F G I J) r (ad a 21 s.heap.size)) args s 0 0 (ad a 21 s.heap.size)) (F0 m 36 ls [.int t0]) := by
  intro  t0 x1 x2 x4 H locs ls hf  hP hS hl
  unfold p_X8_sitter_b36 at hf
  refine lv_istore_n (lv' := [(3, .int t0), (0, .ref (a 0)), (1, .int x1), (2, .int x2), (4, .int x4)]) X.1 X.2.1 dX8_sitter_36 rfl hl (by decide) rfl (fun ls hl => ?_)
  obtain ⟨x37, ex37, hf⟩ := nm_x hf
  refine lv_iinc (v := x37) (lv' := [(4, .int x37), (3, .int t0), (0, .ref (a 0)), (1, .int x1), (2, .int x2)]) X.1 X.2.1 dX8_sitter_37 hl (k := 4) rfl ex37 (by decide) rfl (fun ls hl => ?_)
  refine lv_goto (tgt := 5) X.1 X.2.1 dX8_sitter_40 (by decide) ?_
  exact kh5  x1 x2 t0 x37 H locs ls hf  hP hS (lv_sub hl [2, 3, 4, 1, 0] rfl)
set_option maxHeartbeats 4000000 in
set_option maxRecDepth 100000 in
theorem t_X8_sitter_b5x {p : Program} {l : Launch} {e : Env} {s : State} {m : MethodId} {args : Array Value} {below : List Frame} {meth : Method} {c : Code} {D : va_G} {a : Nat → Nat} {kc : Nat → ClassId} (X : cx 21 p s m args meth c D (tyM kc) a cX8_sitter 5 RX8 (some .int)) {F : Nat → Int32} {G : Nat → Int64} {I : Nat → Nat → Int32} {J : Nat → Nat → Int64}  {r : Int32} {K5 : Int32 → (Nat → Int32) → Int32 → Int32 → Int32 → Int32 → Option (Int32)} (kh5 : ∀  (x1 : Int32) (x2 : Int32) (x3 : Int32) (x4 : Int32) (H : Heap) (locs : List Loc) (ls : Array Slot), K5 (F 4) (I 2) x1 x2 x3 x4 = some r → va_P D vwCl (wM a kc F G I J) H → va_S (ad a 21 s.heap.size) s.heap H locs → lv_has ls 5 [(0, .ref (a 0)), (1, .int x1), (2, .int x2), (3, .int x3), (4, .int x4)] → W p l e rm_X8_sitter s m args below meth c H locs 0 0 (MQ below (Qi D (wM a kc F G I J) r (ad a 21 s.heap.size)) args s 0 0 (ad a 21 s.heap.size)) (F0 m 5 ls [])) :
    ∀  (x1 : Int32) (x2 : Int32) (x3 : Int32) (x4 : Int32) (H : Heap) (locs : List Loc) (ls : Array Slot), p_X8_sitter_b5x K5 (F 4) (I 2) x1 x2 x3 x4 = some r → va_P D vwCl (wM a kc F G I J) H → va_S (ad a 21 s.heap.size) s.heap H locs → lv_has ls 5 [(0, .ref (a 0)), (1, .int x1), (2, .int x2), (3, .int x3), (4, .int x4)] → W p l e rm_X8_sitter s m args below meth c H locs 0 0 (MQ below (Qi D (wM a kc F G I J) r (ad a 21 s.heap.size)) args s 0 0 (ad a 21 s.heap.size)) (F0 m 5 ls []) := by
  intro  x1 x2 x3 x4 H locs ls hf  hP hS hl
  unfold p_X8_sitter_b5x at hf
  refine lv_iload X.1 X.2.1 dX8_sitter_5 (lv_at hl 4 rfl) ?_
  refine lv_aload_n X.1 X.2.1 dX8_sitter_7 rfl (lv_at hl 0 rfl) ?_
  refine gM_0_12 (F := F) X (v := (F 4)) rfl q_4_121 dX8_sitter_8 hP ?_
  refine lv_icmp_ge (tgt := 43) X.1 X.2.1 dX8_sitter_11 (by decide) (fun c11 => ?_) (fun c11 => ?_)
  · have hf := it_s hf c11
    refine lv_iload_n X.1 X.2.1 dX8_sitter_43 rfl (lv_at hl 3 rfl) ?_
    have e0 := o1 hf
    exact ret_i X hS hP e0 dX8_sitter_44
  · have hf := ie_s hf c11
    refine lv_aload_n X.1 X.2.1 dX8_sitter_14 rfl (lv_at hl 0 rfl) ?_
    refine gM_0_2 X q_4_111 dX8_sitter_15 hP ?_
    refine lv_bipush (v := 60) X.1 X.2.1 dX8_sitter_18 (by decide) ?_
    refine lv_iload_n X.1 X.2.1 dX8_sitter_20 rfl (lv_at hl 1 rfl) ?_
    refine lv_imul X.1 X.2.1 dX8_sitter_21 ?_
    refine lv_iload X.1 X.2.1 dX8_sitter_22 (lv_at hl 4 rfl) ?_
    refine lv_iadd X.1 X.2.1 dX8_sitter_24 ?_
    obtain ⟨h25, hf⟩ := gd_s hf
    refine lM_3 (I := I) X (f := (I 2)) rfl h25 dX8_sitter_25 hP ?_
    refine lv_iload_n X.1 X.2.1 dX8_sitter_26 rfl (lv_at hl 2 rfl) ?_
    refine lv_icmp_ne (tgt := 35) X.1 X.2.1 dX8_sitter_27 (by decide) (fun c27 => ?_) (fun c27 => ?_)
    · have hf := ie_s hf c27
      refine lv_iload_n X.1 X.2.1 dX8_sitter_35 rfl (lv_at hl 3 rfl) ?_
      exact t_X8_sitter_b36 X kh5  x3 x1 x2 x4 H locs ls hf  hP hS (lv_sub hl [0, 1, 2, 4] rfl)
    · have hf := it_s hf c27
      refine lv_iload X.1 X.2.1 dX8_sitter_30 (lv_at hl 4 rfl) ?_
      refine lv_goto (tgt := 36) X.1 X.2.1 dX8_sitter_32 (by decide) ?_
      exact t_X8_sitter_b36 X kh5  x4 x1 x2 x4 H locs ls hf  hP hS (lv_sub hl [0, 1, 2, 4] rfl)
set_option maxRecDepth 100000 in
theorem t_X8_sitter_b5 {p : Program} {l : Launch} {e : Env} {s : State} {m : MethodId} {args : Array Value} {below : List Frame} {meth : Method} {c : Code} {D : va_G} {a : Nat → Nat} {kc : Nat → ClassId} (X : cx 21 p s m args meth c D (tyM kc) a cX8_sitter 5 RX8 (some .int)) {F : Nat → Int32} {G : Nat → Int64} {I : Nat → Nat → Int32} {J : Nat → Nat → Int64}  {r : Int32} :
    ∀ (n : Nat)  (x1 : Int32) (x2 : Int32) (x3 : Int32) (x4 : Int32) (H : Heap) (locs : List Loc) (ls : Array Slot), p_X8_sitter_b5 n (F 4) (I 2) x1 x2 x3 x4 = some r → va_P D vwCl (wM a kc F G I J) H → va_S (ad a 21 s.heap.size) s.heap H locs → lv_has ls 5 [(0, .ref (a 0)), (1, .int x1), (2, .int x2), (3, .int x3), (4, .int x4)] → W p l e rm_X8_sitter s m args below meth c H locs 0 0 (MQ below (Qi D (wM a kc F G I J) r (ad a 21 s.heap.size)) args s 0 0 (ad a 21 s.heap.size)) (F0 m 5 ls []) := by
  intro n
  induction n with
  | zero => intro  x1 x2 x3 x4 H locs ls hf  hP hS hl; exact (nos hf).elim
  | succ n ih => exact t_X8_sitter_b5x X ih
set_option maxHeartbeats 4000000 in
set_option maxRecDepth 100000 in
theorem t_X8_sitter_b0 {p : Program} {l : Launch} {e : Env} {s : State} {m : MethodId} {args : Array Value} {below : List Frame} {meth : Method} {c : Code} {D : va_G} {a : Nat → Nat} {kc : Nat → ClassId} (X : cx 21 p s m args meth c D (tyM kc) a cX8_sitter 5 RX8 (some .int)) {F : Nat → Int32} {G : Nat → Int64} {I : Nat → Nat → Int32} {J : Nat → Nat → Int64}  {r : Int32} :
    ∀  (x1 : Int32) (x2 : Int32) (H : Heap) (locs : List Loc) (ls : Array Slot), p_X8_sitter_b0 (F 4) (I 2) x1 x2 = some r → va_P D vwCl (wM a kc F G I J) H → va_S (ad a 21 s.heap.size) s.heap H locs → lv_has ls 5 [(0, .ref (a 0)), (1, .int x1), (2, .int x2)] → W p l e rm_X8_sitter s m args below meth c H locs 0 0 (MQ below (Qi D (wM a kc F G I J) r (ad a 21 s.heap.size)) args s 0 0 (ad a 21 s.heap.size)) (F0 m 0 ls []) := by
  intro  x1 x2 H locs ls hf  hP hS hl
  unfold p_X8_sitter_b0 at hf
  refine lv_iconst (v := 0) X.1 X.2.1 dX8_sitter_0 (by decide) ?_
  refine lv_istore_n (lv' := [(3, .int 0), (0, .ref (a 0)), (1, .int x1), (2, .int x2)]) X.1 X.2.1 dX8_sitter_1 rfl hl (by decide) rfl (fun ls hl => ?_)
  refine lv_iconst (v := 0) X.1 X.2.1 dX8_sitter_2 (by decide) ?_
  refine lv_istore (lv' := [(4, .int 0), (3, .int 0), (0, .ref (a 0)), (1, .int x1), (2, .int x2)]) X.1 X.2.1 dX8_sitter_3 hl (by decide) rfl (fun ls hl => ?_)
  exact t_X8_sitter_b5 X 4096  x1 x2 0 0 H locs ls hf  hP hS (lv_sub hl [2, 3, 4, 1, 0] rfl)
set_option maxRecDepth 100000 in
theorem c_X8_sitter {l : Launch} {D : va_G} {a : Nat → Nat} {kc : Nat → ClassId} (F : Nat → Int32) (G : Nat → Int64) (I : Nat → Nat → Int32) (J : Nat → Nat → Int64) (hAp : ∀ i j, i < 21 → j < 21 → a i = a j → i = j) (x1 : Int32) (x2 : Int32) {o0 : Int32} (hf : p_X8_sitter (F 4) (I 2) x1 x2 = some o0) : Ct 21 l yX8_sitter cX8_sitter 5 (some .int) rm_X8_sitter D (tyM kc) a (wM a kc F G I J) [.ref (a 0), .int x1, .int x2] (Qi D (wM a kc F G I J) o0) :=
  Ct.of (by decide +kernel) hAp (Nat.le_of_ble_eq_true rfl) (fun p e s m args below meth c ls X hP hl => t_X8_sitter_b0 X  x1 x2 _ _ _ hf  hP va_S.rf hl)
abbrev rm_X8_findRings : Room := { frames := 2, cells := 0, slots := 0, locals := 46 }
set_option maxHeartbeats 4000000 in
set_option maxRecDepth 100000 in
theorem t_X8_findRings_b95 {p : Program} {l : Launch} {e : Env} {s : State} {m : MethodId} {args : Array Value} {below : List Frame} {meth : Method} {c : Code} {D : va_G} {a : Nat → Nat} {kc : Nat → ClassId} (X : cx 21 p s m args meth c D (tyM kc) a cX8_findRings 8 RX8 (some .boolean)) {G : Nat → Int64} {I : Nat → Nat → Int32} {J : Nat → Nat → Int64} {Ff : Nat → Int32} {r : Int32} :
    ∀ (F : Nat → Int32)  (H : Heap) (locs : List Loc) (ls : Array Slot), p_X8_findRings_b95 (F 2) (F 4) (F 9) (F 10) (F 11) (I 2) (I 8)  = some (r, (Ff 9), (Ff 10), (Ff 11)) → (∀ k, k ∉ ([9, 10, 11] : List Nat) → Ff k = F k) → va_P D vwCl (wM a kc F G I J) H → va_S (ad a 21 s.heap.size) s.heap H locs → lv_has ls 8 [(0, .ref (a 0))] → W p l e rm_X8_findRings s m args below meth c H locs 0 0 (MQ below (Qi D (wM a kc Ff G I J) r (ad a 21 s.heap.size)) args s 0 0 (ad a 21 s.heap.size)) (F0 m 95 ls []) := by
  intro F  H locs ls hf hfF hP hS hl
  unfold p_X8_findRings_b95 at hf
  refine lv_iconst (v := 0) X.1 X.2.1 dX8_findRings_95 (by decide) ?_
  obtain ⟨e0, hf⟩ := o2 hf
  obtain ⟨e1, hf⟩ := o2 hf
  obtain ⟨e2, hf⟩ := o2 hf
  have e3 := o1 hf
  have EF : Ff = F := frm_eq hfF (frm_c (e1).symm (frm_c (e2).symm (frm_c (e3).symm frm_n)))
  exact ret_z X hS (by rw [EF]; exact hP) e0 (by decide) dX8_findRings_96
set_option maxHeartbeats 4000000 in
set_option maxRecDepth 100000 in
theorem t_X8_findRings_b233 {p : Program} {l : Launch} {e : Env} {s : State} {m : MethodId} {args : Array Value} {below : List Frame} {meth : Method} {c : Code} {D : va_G} {a : Nat → Nat} {kc : Nat → ClassId} (X : cx 21 p s m args meth c D (tyM kc) a cX8_findRings 8 RX8 (some .boolean)) {G : Nat → Int64} {I : Nat → Nat → Int32} {J : Nat → Nat → Int64} {Ff : Nat → Int32} {r : Int32} {K118 : Int32 → Int32 → Int32 → Int32 → Int32 → (Nat → Int32) → (Nat → Int32) → Int32 → Int32 → Int32 → Option (Int32 × Int32 × Int32 × Int32)} (kh118 : ∀ (F : Nat → Int32) (x1 : Int32) (x4 : Int32) (x5 : Int32) (H : Heap) (locs : List Loc) (ls : Array Slot), K118 (F 2) (F 4) (F 9) (F 10) (F 11) (I 2) (I 8) x1 x4 x5 = some (r, (Ff 9), (Ff 10), (Ff 11)) → (∀ k, k ∉ ([9, 10, 11] : List Nat) → Ff k = F k) → va_P D vwCl (wM a kc F G I J) H → va_S (ad a 21 s.heap.size) s.heap H locs → lv_has ls 8 [(0, .ref (a 0)), (1, .int x1), (4, .int x4), (5, .int x5)] → W p l e rm_X8_findRings s m args below meth c H locs 0 0 (MQ below (Qi D (wM a kc Ff G I J) r (ad a 21 s.heap.size)) args s 0 0 (ad a 21 s.heap.size)) (F0 m 118 ls [])) :
    ∀ (F : Nat → Int32) (t1 : Int32) (x1 : Int32) (x4 : Int32) (x5 : Int32) (H : Heap) (locs : List Loc) (ls : Array Slot), p_X8_findRings_b233 K118 (F 2) (F 4) (F 9) (F 10) (F 11) (I 2) (I 8) t1 x1 x4 x5 = some (r, (Ff 9), (Ff 10), (Ff 11)) → (∀ k, k ∉ ([9, 10, 11] : List Nat) → Ff k = F k) → va_P D vwCl (wM a kc F G I J) H → va_S (ad a 21 s.heap.size) s.heap H locs → lv_has ls 8 [(0, .ref (a 0)), (1, .int x1), (4, .int x4), (5, .int x5)] → W p l e rm_X8_findRings s m args below meth c H locs 0 0 (MQ below (Qi D (wM a kc Ff G I J) r (ad a 21 s.heap.size)) args s 0 0 (ad a 21 s.heap.size)) (F0 m 233 ls [.int t1, .ref (a 0)]) := by
  intro F t1 x1 x4 x5 H locs ls hf hfF hP hS hl
  unfold p_X8_findRings_b233 at hf
  obtain ⟨h233, hf⟩ := gd_s hf
  refine pM_0_30 X h233 q_4_139 dX8_findRings_233 hP hS (fun H locs hP hS => ?_)
  obtain ⟨x236, ex236, hf⟩ := nm_x hf
  refine lv_iinc (v := x236) (lv' := [(5, .int x236), (0, .ref (a 0)), (1, .int x1), (4, .int x4)]) X.1 X.2.1 dX8_findRings_236 hl (k := 3) rfl ex236 (by decide) rfl (fun ls hl => ?_)
  refine lv_goto (tgt := 118) X.1 X.2.1 dX8_findRings_239 (by decide) ?_
  exact kh118 (va_up F 11 t1) x1 x4 x236 H locs ls hf (frm_up hfF (by decide)) hP hS (lv_sub hl [1, 2, 3, 0] rfl)
set_option maxHeartbeats 4000000 in
set_option maxRecDepth 100000 in
theorem t_X8_findRings_b228 {p : Program} {l : Launch} {e : Env} {s : State} {m : MethodId} {args : Array Value} {below : List Frame} {meth : Method} {c : Code} {D : va_G} {a : Nat → Nat} {kc : Nat → ClassId} (X : cx 21 p s m args meth c D (tyM kc) a cX8_findRings 8 RX8 (some .boolean)) {G : Nat → Int64} {I : Nat → Nat → Int32} {J : Nat → Nat → Int64} {Ff : Nat → Int32} {r : Int32} {K118 : Int32 → Int32 → Int32 → Int32 → Int32 → (Nat → Int32) → (Nat → Int32) → Int32 → Int32 → Int32 → Option (Int32 × Int32 × Int32 × Int32)} (kh118 : ∀ (F : Nat → Int32) (x1 : Int32) (x4 : Int32) (x5 : Int32) (H : Heap) (locs : List Loc) (ls : Array Slot), K118 (F 2) (F 4) (F 9) (F 10) (F 11) (I 2) (I 8) x1 x4 x5 = some (r, (Ff 9), (Ff 10), (Ff 11)) → (∀ k, k ∉ ([9, 10, 11] : List Nat) → Ff k = F k) → va_P D vwCl (wM a kc F G I J) H → va_S (ad a 21 s.heap.size) s.heap H locs → lv_has ls 8 [(0, .ref (a 0)), (1, .int x1), (4, .int x4), (5, .int x5)] → W p l e rm_X8_findRings s m args below meth c H locs 0 0 (MQ below (Qi D (wM a kc Ff G I J) r (ad a 21 s.heap.size)) args s 0 0 (ad a 21 s.heap.size)) (F0 m 118 ls [])) :
    ∀ (F : Nat → Int32) (x1 : Int32) (x4 : Int32) (x5 : Int32) (H : Heap) (locs : List Loc) (ls : Array Slot), p_X8_findRings_b228 K118 (F 2) (F 4) (F 9) (F 10) (F 11) (I 2) (I 8) x1 x4 x5 = some (r, (Ff 9), (Ff 10), (Ff 11)) → (∀ k, k ∉ ([9, 10, 11] : List Nat) → Ff k = F k) → va_P D vwCl (wM a kc F G I J) H → va_S (ad a 21 s.heap.size) s.heap H locs → lv_has ls 8 [(0, .ref (a 0)), (1, .int x1), (4, .int x4), (5, .int x5)] → W p l e rm_X8_findRings s m args below meth c H locs 0 0 (MQ below (Qi D (wM a kc Ff G I J) r (ad a 21 s.heap.size)) args s 0 0 (ad a 21 s.heap.size)) (F0 m 228 ls [.ref (a 0)]) := by
  intro F x1 x4 x5 H locs ls hf hfF hP hS hl
  unfold p_X8_findRings_b228 at hf
  refine lv_iconst (v := 1) X.1 X.2.1 dX8_findRings_228 (by decide) ?_
  refine lv_goto (tgt := 233) X.1 X.2.1 dX8_findRings_229 (by decide) ?_
  exact t_X8_findRings_b233 X kh118 F 1 x1 x4 x5 H locs ls hf hfF hP hS (lv_sub hl [0, 1, 2, 3] rfl)
set_option maxHeartbeats 4000000 in
set_option maxRecDepth 100000 in
theorem t_X8_findRings_b210 {p : Program} {l : Launch} {e : Env} {s : State} {m : MethodId} {args : Array Value} {below : List Frame} {meth : Method} {c : Code} {D : va_G} {a : Nat → Nat} {kc : Nat → ClassId} (X : cx 21 p s m args meth c D (tyM kc) a cX8_findRings 8 RX8 (some .boolean)) {G : Nat → Int64} {I : Nat → Nat → Int32} {J : Nat → Nat → Int64} {Ff : Nat → Int32} {r : Int32} {K118 : Int32 → Int32 → Int32 → Int32 → Int32 → (Nat → Int32) → (Nat → Int32) → Int32 → Int32 → Int32 → Option (Int32 × Int32 × Int32 × Int32)} (kh118 : ∀ (F : Nat → Int32) (x1 : Int32) (x4 : Int32) (x5 : Int32) (H : Heap) (locs : List Loc) (ls : Array Slot), K118 (F 2) (F 4) (F 9) (F 10) (F 11) (I 2) (I 8) x1 x4 x5 = some (r, (Ff 9), (Ff 10), (Ff 11)) → (∀ k, k ∉ ([9, 10, 11] : List Nat) → Ff k = F k) → va_P D vwCl (wM a kc F G I J) H → va_S (ad a 21 s.heap.size) s.heap H locs → lv_has ls 8 [(0, .ref (a 0)), (1, .int x1), (4, .int x4), (5, .int x5)] → W p l e rm_X8_findRings s m args below meth c H locs 0 0 (MQ below (Qi D (wM a kc Ff G I J) r (ad a 21 s.heap.size)) args s 0 0 (ad a 21 s.heap.size)) (F0 m 118 ls [])) :
    ∀ (F : Nat → Int32) (t1 : Int32) (t2 : Int32) (x1 : Int32) (x4 : Int32) (x5 : Int32) (x6 : Int32) (H : Heap) (locs : List Loc) (ls : Array Slot), p_X8_findRings_b210 K118 (F 2) (F 4) (F 9) (F 10) (F 11) (I 2) (I 8) t1 t2 x1 x4 x5 x6 = some (r, (Ff 9), (Ff 10), (Ff 11)) → (∀ k, k ∉ ([9, 10, 11] : List Nat) → Ff k = F k) → va_P D vwCl (wM a kc F G I J) H → va_S (ad a 21 s.heap.size) s.heap H locs → lv_has ls 8 [(0, .ref (a 0)), (1, .int x1), (4, .int x4), (5, .int x5), (6, .int x6)] → W p l e rm_X8_findRings s m args below meth c H locs 0 0 (MQ below (Qi D (wM a kc Ff G I J) r (ad a 21 s.heap.size)) args s 0 0 (ad a 21 s.heap.size)) (F0 m 210 ls [.int t2, .int t1, .ref (a 0)]) := by
  intro F t1 t2 x1 x4 x5 x6 H locs ls hf hfF hP hS hl
  unfold p_X8_findRings_b210 at hf
  refine lv_iadd X.1 X.2.1 dX8_findRings_210 ?_
  refine nm_i hf (fun m_wrongOnes_211 hf => ?_)
  refine pM_0_29 X q_4_138 dX8_findRings_211 hP hS (fun H locs hP hS => ?_)
  refine lv_aload_n X.1 X.2.1 dX8_findRings_214 rfl (lv_at hl 0 rfl) ?_
  refine lv_aload_n X.1 X.2.1 dX8_findRings_215 rfl (lv_at hl 0 rfl) ?_
  refine gM_0_30 (F := (va_up F 10 m_wrongOnes_211)) X (v := (F 11)) rfl q_4_139 dX8_findRings_216 hP ?_
  refine lv_if_ne (tgt := 228) X.1 X.2.1 dX8_findRings_219 (by decide) (fun c219 => ?_) (fun c219 => ?_)
  · have hf := ie_s hf c219
    exact t_X8_findRings_b228 X kh118 (va_up F 10 m_wrongOnes_211) x1 x4 x5 H locs ls hf (frm_up hfF (by decide)) hP hS (lv_sub hl [0, 1, 2, 3] rfl)
  · have hf := it_s hf c219
    refine lv_iload X.1 X.2.1 dX8_findRings_222 (lv_at hl 4 rfl) ?_
    refine lv_iconst (v := 2) X.1 X.2.1 dX8_findRings_224 (by decide) ?_
    refine lv_icmp_le (tgt := 232) X.1 X.2.1 dX8_findRings_225 (by decide) (fun c225 => ?_) (fun c225 => ?_)
    · have hf := it_s hf c225
      refine lv_iconst (v := 0) X.1 X.2.1 dX8_findRings_232 (by decide) ?_
      exact t_X8_findRings_b233 X kh118 (va_up F 10 m_wrongOnes_211) 0 x1 x4 x5 H locs ls hf (frm_up hfF (by decide)) hP hS (lv_sub hl [0, 1, 2, 3] rfl)
    · have hf := ie_s hf c225
      exact t_X8_findRings_b228 X kh118 (va_up F 10 m_wrongOnes_211) x1 x4 x5 H locs ls hf (frm_up hfF (by decide)) hP hS (lv_sub hl [0, 1, 2, 3] rfl)
set_option maxHeartbeats 4000000 in
set_option maxRecDepth 100000 in
theorem t_X8_findRings_b189 {p : Program} {l : Launch} {e : Env} {s : State} {m : MethodId} {args : Array Value} {below : List Frame} {meth : Method} {c : Code} {D : va_G} {a : Nat → Nat} {kc : Nat → ClassId} (X : cx 21 p s m args meth c D (tyM kc) a cX8_findRings 8 RX8 (some .boolean)) {G : Nat → Int64} {I : Nat → Nat → Int32} {J : Nat → Nat → Int64} {Ff : Nat → Int32} {r : Int32} {K118 : Int32 → Int32 → Int32 → Int32 → Int32 → (Nat → Int32) → (Nat → Int32) → Int32 → Int32 → Int32 → Option (Int32 × Int32 × Int32 × Int32)} (kh118 : ∀ (F : Nat → Int32) (x1 : Int32) (x4 : Int32) (x5 : Int32) (H : Heap) (locs : List Loc) (ls : Array Slot), K118 (F 2) (F 4) (F 9) (F 10) (F 11) (I 2) (I 8) x1 x4 x5 = some (r, (Ff 9), (Ff 10), (Ff 11)) → (∀ k, k ∉ ([9, 10, 11] : List Nat) → Ff k = F k) → va_P D vwCl (wM a kc F G I J) H → va_S (ad a 21 s.heap.size) s.heap H locs → lv_has ls 8 [(0, .ref (a 0)), (1, .int x1), (4, .int x4), (5, .int x5)] → W p l e rm_X8_findRings s m args below meth c H locs 0 0 (MQ below (Qi D (wM a kc Ff G I J) r (ad a 21 s.heap.size)) args s 0 0 (ad a 21 s.heap.size)) (F0 m 118 ls [])) :
    ∀ (F : Nat → Int32) (t1 : Int32) (t2 : Int32) (x1 : Int32) (x4 : Int32) (x5 : Int32) (x6 : Int32) (H : Heap) (locs : List Loc) (ls : Array Slot), p_X8_findRings_b189 K118 (F 2) (F 4) (F 9) (F 10) (F 11) (I 2) (I 8) t1 t2 x1 x4 x5 x6 = some (r, (Ff 9), (Ff 10), (Ff 11)) → (∀ k, k ∉ ([9, 10, 11] : List Nat) → Ff k = F k) → va_P D vwCl (wM a kc F G I J) H → va_S (ad a 21 s.heap.size) s.heap H locs → lv_has ls 8 [(0, .ref (a 0)), (1, .int x1), (4, .int x4), (5, .int x5), (6, .int x6)] → W p l e rm_X8_findRings s m args below meth c H locs 0 0 (MQ below (Qi D (wM a kc Ff G I J) r (ad a 21 s.heap.size)) args s 0 0 (ad a 21 s.heap.size)) (F0 m 189 ls [.int t2, .int t1, .ref (a 0)]) := by
  intro F t1 t2 x1 x4 x5 x6 H locs ls hf hfF hP hS hl
  unfold p_X8_findRings_b189 at hf
  refine lv_iadd X.1 X.2.1 dX8_findRings_189 ?_
  refine nm_i hf (fun m_rings_190 hf => ?_)
  refine pM_0_28 X q_4_137 dX8_findRings_190 hP hS (fun H locs hP hS => ?_)
  refine lv_aload_n X.1 X.2.1 dX8_findRings_193 rfl (lv_at hl 0 rfl) ?_
  refine lv_dup X.1 X.2.1 dX8_findRings_194 rfl ?_
  refine gM_0_29 (F := (va_up F 9 m_rings_190)) X (v := (F 10)) rfl q_4_138 dX8_findRings_195 hP ?_
  refine lv_iload X.1 X.2.1 dX8_findRings_198 (lv_at hl 4 rfl) ?_
  refine lv_iconst (v := 1) X.1 X.2.1 dX8_findRings_200 (by decide) ?_
  refine lv_icmp_le (tgt := 209) X.1 X.2.1 dX8_findRings_201 (by decide) (fun c201 => ?_) (fun c201 => ?_)
  · have hf := it_s hf c201
    refine lv_iconst (v := 0) X.1 X.2.1 dX8_findRings_209 (by decide) ?_
    exact t_X8_findRings_b210 X kh118 (va_up F 9 m_rings_190) (F 10) 0 x1 x4 x5 x6 H locs ls hf (frm_up hfF (by decide)) hP hS (lv_sub hl [0, 1, 2, 3, 4] rfl)
  · have hf := ie_s hf c201
    refine lv_iload X.1 X.2.1 dX8_findRings_204 (lv_at hl 4 rfl) ?_
    refine lv_goto (tgt := 210) X.1 X.2.1 dX8_findRings_206 (by decide) ?_
    exact t_X8_findRings_b210 X kh118 (va_up F 9 m_rings_190) (F 10) x6 x1 x4 x5 x6 H locs ls hf (frm_up hfF (by decide)) hP hS (lv_sub hl [0, 1, 2, 3, 4] rfl)
set_option maxHeartbeats 4000000 in
set_option maxRecDepth 100000 in
theorem t_X8_findRings_b134x {p : Program} {l : Launch} {e : Env} {s : State} {m : MethodId} {args : Array Value} {below : List Frame} {meth : Method} {c : Code} {D : va_G} {a : Nat → Nat} {kc : Nat → ClassId} (X : cx 21 p s m args meth c D (tyM kc) a cX8_findRings 8 RX8 (some .boolean)) {G : Nat → Int64} {I : Nat → Nat → Int32} {J : Nat → Nat → Int64} {Ff : Nat → Int32} {r : Int32} {K118 : Int32 → Int32 → Int32 → Int32 → Int32 → (Nat → Int32) → (Nat → Int32) → Int32 → Int32 → Int32 → Option (Int32 × Int32 × Int32 × Int32)} (kh118 : ∀ (F : Nat → Int32) (x1 : Int32) (x4 : Int32) (x5 : Int32) (H : Heap) (locs : List Loc) (ls : Array Slot), K118 (F 2) (F 4) (F 9) (F 10) (F 11) (I 2) (I 8) x1 x4 x5 = some (r, (Ff 9), (Ff 10), (Ff 11)) → (∀ k, k ∉ ([9, 10, 11] : List Nat) → Ff k = F k) → va_P D vwCl (wM a kc F G I J) H → va_S (ad a 21 s.heap.size) s.heap H locs → lv_has ls 8 [(0, .ref (a 0)), (1, .int x1), (4, .int x4), (5, .int x5)] → W p l e rm_X8_findRings s m args below meth c H locs 0 0 (MQ below (Qi D (wM a kc Ff G I J) r (ad a 21 s.heap.size)) args s 0 0 (ad a 21 s.heap.size)) (F0 m 118 ls [])) {K134 : Int32 → Int32 → Int32 → Int32 → Int32 → (Nat → Int32) → (Nat → Int32) → Int32 → Int32 → Int32 → Int32 → Int32 → Option (Int32 × Int32 × Int32 × Int32)} (kh134 : ∀ (F : Nat → Int32) (x1 : Int32) (x4 : Int32) (x5 : Int32) (x6 : Int32) (x7 : Int32) (H : Heap) (locs : List Loc) (ls : Array Slot), K134 (F 2) (F 4) (F 9) (F 10) (F 11) (I 2) (I 8) x1 x4 x5 x6 x7 = some (r, (Ff 9), (Ff 10), (Ff 11)) → (∀ k, k ∉ ([9, 10, 11] : List Nat) → Ff k = F k) → va_P D vwCl (wM a kc F G I J) H → va_S (ad a 21 s.heap.size) s.heap H locs → lv_has ls 8 [(0, .ref (a 0)), (1, .int x1), (4, .int x4), (5, .int x5), (6, .int x6), (7, .int x7)] → W p l e rm_X8_findRings s m args below meth c H locs 0 0 (MQ below (Qi D (wM a kc Ff G I J) r (ad a 21 s.heap.size)) args s 0 0 (ad a 21 s.heap.size)) (F0 m 134 ls [])) :
    ∀ (F : Nat → Int32) (x1 : Int32) (x4 : Int32) (x5 : Int32) (x6 : Int32) (x7 : Int32) (H : Heap) (locs : List Loc) (ls : Array Slot), p_X8_findRings_b134x K118 K134 (F 2) (F 4) (F 9) (F 10) (F 11) (I 2) (I 8) x1 x4 x5 x6 x7 = some (r, (Ff 9), (Ff 10), (Ff 11)) → (∀ k, k ∉ ([9, 10, 11] : List Nat) → Ff k = F k) → va_P D vwCl (wM a kc F G I J) H → va_S (ad a 21 s.heap.size) s.heap H locs → lv_has ls 8 [(0, .ref (a 0)), (1, .int x1), (4, .int x4), (5, .int x5), (6, .int x6), (7, .int x7)] → W p l e rm_X8_findRings s m args below meth c H locs 0 0 (MQ below (Qi D (wM a kc Ff G I J) r (ad a 21 s.heap.size)) args s 0 0 (ad a 21 s.heap.size)) (F0 m 134 ls []) := by
  intro F x1 x4 x5 x6 x7 H locs ls hf hfF hP hS hl
  unfold p_X8_findRings_b134x at hf
  refine lv_iload X.1 X.2.1 dX8_findRings_134 (lv_at hl 2 rfl) ?_
  refine lv_iload X.1 X.2.1 dX8_findRings_136 (lv_at hl 5 rfl) ?_
  obtain ⟨r138, ho, hf⟩ := b1_s hf
  refine call_si (rest := []) X (c_X8_isIn x4 x7 ho) q_5_133 q_5_134 q_1_10 q_5_135 ok_X8_isIn rfl ⟨Nat.le_of_ble_eq_true rfl, Nat.le_of_ble_eq_true rfl⟩ rfl rfl hl.1 rfl (Nat.le_of_ble_eq_true rfl) dX8_findRings_138 hP hS (fun H locs hP hS => ?_)
  refine lv_if_ne (tgt := 173) X.1 X.2.1 dX8_findRings_141 (by decide) (fun c141 => ?_) (fun c141 => ?_)
  · have hf := ie_s hf c141
    refine lv_aload_n X.1 X.2.1 dX8_findRings_173 rfl (lv_at hl 0 rfl) ?_
    refine lv_dup X.1 X.2.1 dX8_findRings_174 rfl ?_
    refine gM_0_28 (F := F) X (v := (F 9)) rfl q_4_137 dX8_findRings_175 hP ?_
    refine lv_iload X.1 X.2.1 dX8_findRings_178 (lv_at hl 4 rfl) ?_
    refine lv_iconst (v := 1) X.1 X.2.1 dX8_findRings_180 (by decide) ?_
    refine lv_icmp_le (tgt := 188) X.1 X.2.1 dX8_findRings_181 (by decide) (fun c181 => ?_) (fun c181 => ?_)
    · have hf := it_s hf c181
      refine lv_iconst (v := 0) X.1 X.2.1 dX8_findRings_188 (by decide) ?_
      exact t_X8_findRings_b189 X kh118 F (F 9) 0 x1 x4 x5 x6 H locs ls hf hfF hP hS (lv_sub hl [0, 1, 2, 3, 4] rfl)
    · have hf := ie_s hf c181
      refine lv_iconst (v := 1) X.1 X.2.1 dX8_findRings_184 (by decide) ?_
      refine lv_goto (tgt := 189) X.1 X.2.1 dX8_findRings_185 (by decide) ?_
      exact t_X8_findRings_b189 X kh118 F (F 9) 1 x1 x4 x5 x6 H locs ls hf hfF hP hS (lv_sub hl [0, 1, 2, 3, 4] rfl)
  · have hf := it_s hf c141
    refine lv_iload X.1 X.2.1 dX8_findRings_144 (lv_at hl 2 rfl) ?_
    refine lv_iconst (v := 1) X.1 X.2.1 dX8_findRings_146 (by decide) ?_
    refine lv_iload X.1 X.2.1 dX8_findRings_147 (lv_at hl 5 rfl) ?_
    refine lv_ishl X.1 X.2.1 dX8_findRings_149 ?_
    refine lv_ior X.1 X.2.1 dX8_findRings_150 ?_
    refine nm_i hf (fun x151 hf => ?_)
    refine lv_istore (lv' := [(4, .int x151), (0, .ref (a 0)), (1, .int x1), (5, .int x5), (6, .int x6), (7, .int x7)]) X.1 X.2.1 dX8_findRings_151 hl (by decide) rfl (fun ls hl => ?_)
    obtain ⟨x153, ex153, hf⟩ := nm_x hf
    refine lv_iinc (v := x153) (lv' := [(6, .int x153), (4, .int x151), (0, .ref (a 0)), (1, .int x1), (5, .int x5), (7, .int x7)]) X.1 X.2.1 dX8_findRings_153 hl (k := 4) rfl ex153 (by decide) rfl (fun ls hl => ?_)
    refine lv_aload_n X.1 X.2.1 dX8_findRings_156 rfl (lv_at hl 2 rfl) ?_
    refine lv_iload_n X.1 X.2.1 dX8_findRings_157 rfl (lv_at hl 3 rfl) ?_
    refine lv_aload_n X.1 X.2.1 dX8_findRings_158 rfl (lv_at hl 2 rfl) ?_
    refine gM_0_13 X q_4_122 dX8_findRings_159 hP ?_
    refine lv_iload X.1 X.2.1 dX8_findRings_162 (lv_at hl 5 rfl) ?_
    obtain ⟨h164, hf⟩ := gd_s hf
    refine lM_9 (I := I) X (f := (I 8)) rfl h164 dX8_findRings_164 hP ?_
    obtain ⟨r165, ho, hf⟩ := b1_s hf
    refine call_vi (rest := []) X (c_X8_sitter F G I J X.2.2.2.2.2.2.2.1 x1 ((I 8) x7.toNatClampNeg) ho) q_6_19 q_6_21 qs_yX8_sitter q_1_10 q_6_22 ok_X8_sitter rfl 0 rfl rfl ⟨Nat.le_of_ble_eq_true rfl, Nat.le_of_ble_eq_true rfl⟩ rfl rfl hl.1 rfl (Nat.le_of_ble_eq_true rfl) dX8_findRings_165 hP hS (fun H locs hP hS => ?_)
    refine lv_istore (lv' := [(7, .int r165), (6, .int x153), (4, .int x151), (0, .ref (a 0)), (1, .int x1), (5, .int x5)]) X.1 X.2.1 dX8_findRings_168 hl (by decide) rfl (fun ls hl => ?_)
    refine lv_goto (tgt := 134) X.1 X.2.1 dX8_findRings_170 (by decide) ?_
    exact kh134 F x1 x151 x5 x153 r165 H locs ls hf hfF hP hS (lv_sub hl [3, 4, 2, 5, 1, 0] rfl)
set_option maxRecDepth 100000 in
theorem t_X8_findRings_b134 {p : Program} {l : Launch} {e : Env} {s : State} {m : MethodId} {args : Array Value} {below : List Frame} {meth : Method} {c : Code} {D : va_G} {a : Nat → Nat} {kc : Nat → ClassId} (X : cx 21 p s m args meth c D (tyM kc) a cX8_findRings 8 RX8 (some .boolean)) {G : Nat → Int64} {I : Nat → Nat → Int32} {J : Nat → Nat → Int64} {Ff : Nat → Int32} {r : Int32} {K118 : Int32 → Int32 → Int32 → Int32 → Int32 → (Nat → Int32) → (Nat → Int32) → Int32 → Int32 → Int32 → Option (Int32 × Int32 × Int32 × Int32)} (kh118 : ∀ (F : Nat → Int32) (x1 : Int32) (x4 : Int32) (x5 : Int32) (H : Heap) (locs : List Loc) (ls : Array Slot), K118 (F 2) (F 4) (F 9) (F 10) (F 11) (I 2) (I 8) x1 x4 x5 = some (r, (Ff 9), (Ff 10), (Ff 11)) → (∀ k, k ∉ ([9, 10, 11] : List Nat) → Ff k = F k) → va_P D vwCl (wM a kc F G I J) H → va_S (ad a 21 s.heap.size) s.heap H locs → lv_has ls 8 [(0, .ref (a 0)), (1, .int x1), (4, .int x4), (5, .int x5)] → W p l e rm_X8_findRings s m args below meth c H locs 0 0 (MQ below (Qi D (wM a kc Ff G I J) r (ad a 21 s.heap.size)) args s 0 0 (ad a 21 s.heap.size)) (F0 m 118 ls [])) :
    ∀ (n : Nat) (F : Nat → Int32) (x1 : Int32) (x4 : Int32) (x5 : Int32) (x6 : Int32) (x7 : Int32) (H : Heap) (locs : List Loc) (ls : Array Slot), p_X8_findRings_b134 K118 n (F 2) (F 4) (F 9) (F 10) (F 11) (I 2) (I 8) x1 x4 x5 x6 x7 = some (r, (Ff 9), (Ff 10), (Ff 11)) → (∀ k, k ∉ ([9, 10, 11] : List Nat) → Ff k = F k) → va_P D vwCl (wM a kc F G I J) H → va_S (ad a 21 s.heap.size) s.heap H locs → lv_has ls 8 [(0, .ref (a 0)), (1, .int x1), (4, .int x4), (5, .int x5), (6, .int x6), (7, .int x7)] → W p l e rm_X8_findRings s m args below meth c H locs 0 0 (MQ below (Qi D (wM a kc Ff G I J) r (ad a 21 s.heap.size)) args s 0 0 (ad a 21 s.heap.size)) (F0 m 134 ls []) := by
  intro n
  induction n with
  | zero => intro F x1 x4 x5 x6 x7 H locs ls hf hfF hP hS hl; exact (nos hf).elim
  | succ n ih => exact t_X8_findRings_b134x X kh118 ih
set_option maxHeartbeats 4000000 in
set_option maxRecDepth 100000 in
theorem t_X8_findRings_b118x {p : Program} {l : Launch} {e : Env} {s : State} {m : MethodId} {args : Array Value} {below : List Frame} {meth : Method} {c : Code} {D : va_G} {a : Nat → Nat} {kc : Nat → ClassId} (X : cx 21 p s m args meth c D (tyM kc) a cX8_findRings 8 RX8 (some .boolean)) {G : Nat → Int64} {I : Nat → Nat → Int32} {J : Nat → Nat → Int64} {Ff : Nat → Int32} {r : Int32} {K118 : Int32 → Int32 → Int32 → Int32 → Int32 → (Nat → Int32) → (Nat → Int32) → Int32 → Int32 → Int32 → Option (Int32 × Int32 × Int32 × Int32)} (kh118 : ∀ (F : Nat → Int32) (x1 : Int32) (x4 : Int32) (x5 : Int32) (H : Heap) (locs : List Loc) (ls : Array Slot), K118 (F 2) (F 4) (F 9) (F 10) (F 11) (I 2) (I 8) x1 x4 x5 = some (r, (Ff 9), (Ff 10), (Ff 11)) → (∀ k, k ∉ ([9, 10, 11] : List Nat) → Ff k = F k) → va_P D vwCl (wM a kc F G I J) H → va_S (ad a 21 s.heap.size) s.heap H locs → lv_has ls 8 [(0, .ref (a 0)), (1, .int x1), (4, .int x4), (5, .int x5)] → W p l e rm_X8_findRings s m args below meth c H locs 0 0 (MQ below (Qi D (wM a kc Ff G I J) r (ad a 21 s.heap.size)) args s 0 0 (ad a 21 s.heap.size)) (F0 m 118 ls [])) :
    ∀ (F : Nat → Int32) (x1 : Int32) (x4 : Int32) (x5 : Int32) (H : Heap) (locs : List Loc) (ls : Array Slot), p_X8_findRings_b118x K118 (F 2) (F 4) (F 9) (F 10) (F 11) (I 2) (I 8) x1 x4 x5 = some (r, (Ff 9), (Ff 10), (Ff 11)) → (∀ k, k ∉ ([9, 10, 11] : List Nat) → Ff k = F k) → va_P D vwCl (wM a kc F G I J) H → va_S (ad a 21 s.heap.size) s.heap H locs → lv_has ls 8 [(0, .ref (a 0)), (1, .int x1), (4, .int x4), (5, .int x5)] → W p l e rm_X8_findRings s m args below meth c H locs 0 0 (MQ below (Qi D (wM a kc Ff G I J) r (ad a 21 s.heap.size)) args s 0 0 (ad a 21 s.heap.size)) (F0 m 118 ls []) := by
  intro F x1 x4 x5 H locs ls hf hfF hP hS hl
  unfold p_X8_findRings_b118x at hf
  refine lv_iload X.1 X.2.1 dX8_findRings_118 (lv_at hl 3 rfl) ?_
  refine lv_aload_n X.1 X.2.1 dX8_findRings_120 rfl (lv_at hl 0 rfl) ?_
  refine gM_0_12 (F := F) X (v := (F 4)) rfl q_4_121 dX8_findRings_121 hP ?_
  refine lv_icmp_ge (tgt := 242) X.1 X.2.1 dX8_findRings_124 (by decide) (fun c124 => ?_) (fun c124 => ?_)
  · have hf := it_s hf c124
    refine lv_iconst (v := 1) X.1 X.2.1 dX8_findRings_242 (by decide) ?_
    obtain ⟨e0, hf⟩ := o2 hf
    obtain ⟨e1, hf⟩ := o2 hf
    obtain ⟨e2, hf⟩ := o2 hf
    have e3 := o1 hf
    have EF : Ff = F := frm_eq hfF (frm_c (e1).symm (frm_c (e2).symm (frm_c (e3).symm frm_n)))
    exact ret_z X hS (by rw [EF]; exact hP) e0 (by decide) dX8_findRings_243
  · have hf := ie_s hf c124
    refine lv_iconst (v := 0) X.1 X.2.1 dX8_findRings_127 (by decide) ?_
    refine lv_istore (lv' := [(6, .int 0), (0, .ref (a 0)), (1, .int x1), (4, .int x4), (5, .int x5)]) X.1 X.2.1 dX8_findRings_128 hl (by decide) rfl (fun ls hl => ?_)
    refine lv_iload X.1 X.2.1 dX8_findRings_130 (lv_at hl 4 rfl) ?_
    refine lv_istore (lv' := [(7, .int x5), (6, .int 0), (0, .ref (a 0)), (1, .int x1), (4, .int x4), (5, .int x5)]) X.1 X.2.1 dX8_findRings_132 hl (by decide) rfl (fun ls hl => ?_)
    exact t_X8_findRings_b134 X kh118 4096 F x1 x4 x5 0 x5 H locs ls hf hfF hP hS (lv_sub hl [2, 3, 4, 5, 1, 0] rfl)
set_option maxRecDepth 100000 in
theorem t_X8_findRings_b118 {p : Program} {l : Launch} {e : Env} {s : State} {m : MethodId} {args : Array Value} {below : List Frame} {meth : Method} {c : Code} {D : va_G} {a : Nat → Nat} {kc : Nat → ClassId} (X : cx 21 p s m args meth c D (tyM kc) a cX8_findRings 8 RX8 (some .boolean)) {G : Nat → Int64} {I : Nat → Nat → Int32} {J : Nat → Nat → Int64} {Ff : Nat → Int32} {r : Int32} :
    ∀ (n : Nat) (F : Nat → Int32) (x1 : Int32) (x4 : Int32) (x5 : Int32) (H : Heap) (locs : List Loc) (ls : Array Slot), p_X8_findRings_b118 n (F 2) (F 4) (F 9) (F 10) (F 11) (I 2) (I 8) x1 x4 x5 = some (r, (Ff 9), (Ff 10), (Ff 11)) → (∀ k, k ∉ ([9, 10, 11] : List Nat) → Ff k = F k) → va_P D vwCl (wM a kc F G I J) H → va_S (ad a 21 s.heap.size) s.heap H locs → lv_has ls 8 [(0, .ref (a 0)), (1, .int x1), (4, .int x4), (5, .int x5)] → W p l e rm_X8_findRings s m args below meth c H locs 0 0 (MQ below (Qi D (wM a kc Ff G I J) r (ad a 21 s.heap.size)) args s 0 0 (ad a 21 s.heap.size)) (F0 m 118 ls []) := by
  intro n
  induction n with
  | zero => intro F x1 x4 x5 H locs ls hf hfF hP hS hl; exact (nos hf).elim
  | succ n ih => exact t_X8_findRings_b118x X ih
set_option maxHeartbeats 4000000 in
set_option maxRecDepth 100000 in
theorem t_X8_findRings_b48 {p : Program} {l : Launch} {e : Env} {s : State} {m : MethodId} {args : Array Value} {below : List Frame} {meth : Method} {c : Code} {D : va_G} {a : Nat → Nat} {kc : Nat → ClassId} (X : cx 21 p s m args meth c D (tyM kc) a cX8_findRings 8 RX8 (some .boolean)) {G : Nat → Int64} {I : Nat → Nat → Int32} {J : Nat → Nat → Int64} {Ff : Nat → Int32} {r : Int32} {K7 : Int32 → Int32 → Int32 → Int32 → Int32 → (Nat → Int32) → (Nat → Int32) → Int32 → Int32 → Int32 → Int32 → Option (Int32 × Int32 × Int32 × Int32)} (kh7 : ∀ (F : Nat → Int32) (x1 : Int32) (x2 : Int32) (x3 : Int32) (x4 : Int32) (H : Heap) (locs : List Loc) (ls : Array Slot), K7 (F 2) (F 4) (F 9) (F 10) (F 11) (I 2) (I 8) x1 x2 x3 x4 = some (r, (Ff 9), (Ff 10), (Ff 11)) → (∀ k, k ∉ ([9, 10, 11] : List Nat) → Ff k = F k) → va_P D vwCl (wM a kc F G I J) H → va_S (ad a 21 s.heap.size) s.heap H locs → lv_has ls 8 [(0, .ref (a 0)), (1, .int x1), (2, .int x2), (3, .int x3), (4, .int x4)] → W p l e rm_X8_findRings s m args below meth c H locs 0 0 (MQ below (Qi D (wM a kc Ff G I J) r (ad a 21 s.heap.size)) args s 0 0 (ad a 21 s.heap.size)) (F0 m 7 ls [])) :
    ∀ (F : Nat → Int32) (t0 : Int32) (t1 : Int32) (x1 : Int32) (x3 : Int32) (x4 : Int32) (H : Heap) (locs : List Loc) (ls : Array Slot), p_X8_findRings_b48 K7 (F 2) (F 4) (F 9) (F 10) (F 11) (I 2) (I 8) t0 t1 x1 x3 x4 = some (r, (Ff 9), (Ff 10), (Ff 11)) → (∀ k, k ∉ ([9, 10, 11] : List Nat) → Ff k = F k) → va_P D vwCl (wM a kc F G I J) H → va_S (ad a 21 s.heap.size) s.heap H locs → lv_has ls 8 [(0, .ref (a 0)), (1, .int x1), (3, .int x3), (4, .int x4)] → W p l e rm_X8_findRings s m args below meth c H locs 0 0 (MQ below (Qi D (wM a kc Ff G I J) r (ad a 21 s.heap.size)) args s 0 0 (ad a 21 s.heap.size)) (F0 m 48 ls [.int t1, .int t0]) := by
  intro F t0 t1 x1 x3 x4 H locs ls hf hfF hP hS hl
  unfold p_X8_findRings_b48 at hf
  refine lv_ior X.1 X.2.1 dX8_findRings_48 ?_
  refine nm_i hf (fun x49 hf => ?_)
  refine lv_istore_n (lv' := [(2, .int x49), (0, .ref (a 0)), (1, .int x1), (3, .int x3), (4, .int x4)]) X.1 X.2.1 dX8_findRings_49 rfl hl (by decide) rfl (fun ls hl => ?_)
  refine lv_iload_n X.1 X.2.1 dX8_findRings_50 rfl (lv_at hl 3 rfl) ?_
  refine lv_iconst (v := 1) X.1 X.2.1 dX8_findRings_51 (by decide) ?_
  refine lv_aload_n X.1 X.2.1 dX8_findRings_52 rfl (lv_at hl 1 rfl) ?_
  refine gM_0_13 X q_4_122 dX8_findRings_53 hP ?_
  refine lv_iload X.1 X.2.1 dX8_findRings_56 (lv_at hl 4 rfl) ?_
  obtain ⟨h58, hf⟩ := gd_s hf
  refine lM_9 (I := I) X (f := (I 8)) rfl h58 dX8_findRings_58 hP ?_
  refine lv_ishl X.1 X.2.1 dX8_findRings_59 ?_
  refine lv_ior X.1 X.2.1 dX8_findRings_60 ?_
  refine nm_i hf (fun x61 hf => ?_)
  refine lv_istore_n (lv' := [(3, .int x61), (2, .int x49), (0, .ref (a 0)), (1, .int x1), (4, .int x4)]) X.1 X.2.1 dX8_findRings_61 rfl hl (by decide) rfl (fun ls hl => ?_)
  obtain ⟨x62, ex62, hf⟩ := nm_x hf
  refine lv_iinc (v := x62) (lv' := [(4, .int x62), (3, .int x61), (2, .int x49), (0, .ref (a 0)), (1, .int x1)]) X.1 X.2.1 dX8_findRings_62 hl (k := 4) rfl ex62 (by decide) rfl (fun ls hl => ?_)
  refine lv_goto (tgt := 7) X.1 X.2.1 dX8_findRings_65 (by decide) ?_
  exact kh7 F x1 x49 x61 x62 H locs ls hf hfF hP hS (lv_sub hl [3, 4, 2, 1, 0] rfl)
set_option maxHeartbeats 4000000 in
set_option maxRecDepth 100000 in
theorem t_X8_findRings_b7x {p : Program} {l : Launch} {e : Env} {s : State} {m : MethodId} {args : Array Value} {below : List Frame} {meth : Method} {c : Code} {D : va_G} {a : Nat → Nat} {kc : Nat → ClassId} (X : cx 21 p s m args meth c D (tyM kc) a cX8_findRings 8 RX8 (some .boolean)) {G : Nat → Int64} {I : Nat → Nat → Int32} {J : Nat → Nat → Int64} {Ff : Nat → Int32} {r : Int32} {K7 : Int32 → Int32 → Int32 → Int32 → Int32 → (Nat → Int32) → (Nat → Int32) → Int32 → Int32 → Int32 → Int32 → Option (Int32 × Int32 × Int32 × Int32)} (kh7 : ∀ (F : Nat → Int32) (x1 : Int32) (x2 : Int32) (x3 : Int32) (x4 : Int32) (H : Heap) (locs : List Loc) (ls : Array Slot), K7 (F 2) (F 4) (F 9) (F 10) (F 11) (I 2) (I 8) x1 x2 x3 x4 = some (r, (Ff 9), (Ff 10), (Ff 11)) → (∀ k, k ∉ ([9, 10, 11] : List Nat) → Ff k = F k) → va_P D vwCl (wM a kc F G I J) H → va_S (ad a 21 s.heap.size) s.heap H locs → lv_has ls 8 [(0, .ref (a 0)), (1, .int x1), (2, .int x2), (3, .int x3), (4, .int x4)] → W p l e rm_X8_findRings s m args below meth c H locs 0 0 (MQ below (Qi D (wM a kc Ff G I J) r (ad a 21 s.heap.size)) args s 0 0 (ad a 21 s.heap.size)) (F0 m 7 ls [])) :
    ∀ (F : Nat → Int32) (x1 : Int32) (x2 : Int32) (x3 : Int32) (x4 : Int32) (H : Heap) (locs : List Loc) (ls : Array Slot), p_X8_findRings_b7x K7 (F 2) (F 4) (F 9) (F 10) (F 11) (I 2) (I 8) x1 x2 x3 x4 = some (r, (Ff 9), (Ff 10), (Ff 11)) → (∀ k, k ∉ ([9, 10, 11] : List Nat) → Ff k = F k) → va_P D vwCl (wM a kc F G I J) H → va_S (ad a 21 s.heap.size) s.heap H locs → lv_has ls 8 [(0, .ref (a 0)), (1, .int x1), (2, .int x2), (3, .int x3), (4, .int x4)] → W p l e rm_X8_findRings s m args below meth c H locs 0 0 (MQ below (Qi D (wM a kc Ff G I J) r (ad a 21 s.heap.size)) args s 0 0 (ad a 21 s.heap.size)) (F0 m 7 ls []) := by
  intro F x1 x2 x3 x4 H locs ls hf hfF hP hS hl
  unfold p_X8_findRings_b7x at hf
  refine lv_iload X.1 X.2.1 dX8_findRings_7 (lv_at hl 4 rfl) ?_
  refine lv_aload_n X.1 X.2.1 dX8_findRings_9 rfl (lv_at hl 0 rfl) ?_
  refine gM_0_12 (F := F) X (v := (F 4)) rfl q_4_121 dX8_findRings_10 hP ?_
  refine lv_icmp_ge (tgt := 68) X.1 X.2.1 dX8_findRings_13 (by decide) (fun c13 => ?_) (fun c13 => ?_)
  · have hf := it_s hf c13
    refine lv_aload_n X.1 X.2.1 dX8_findRings_68 rfl (lv_at hl 0 rfl) ?_
    refine gM_0_12 (F := F) X (v := (F 4)) rfl q_4_121 dX8_findRings_69 hP ?_
    refine lv_aload_n X.1 X.2.1 dX8_findRings_72 rfl (lv_at hl 0 rfl) ?_
    refine gM_0_8 (F := F) X (v := (F 2)) rfl q_4_117 dX8_findRings_73 hP ?_
    refine lv_icmp_ne (tgt := 95) X.1 X.2.1 dX8_findRings_76 (by decide) (fun c76 => ?_) (fun c76 => ?_)
    · have hf := ie_s hf c76
      exact t_X8_findRings_b95 X F  H locs ls hf hfF hP hS (lv_sub hl [0] rfl)
    · have hf := it_s hf c76
      refine lv_iload_n X.1 X.2.1 dX8_findRings_79 rfl (lv_at hl 2 rfl) ?_
      refine lv_aload_n X.1 X.2.1 dX8_findRings_80 rfl (lv_at hl 0 rfl) ?_
      obtain ⟨r81, ho, hf⟩ := b1_s hf
      refine call_vi (rest := [.int x2]) X (c_X8_whole F G I J X.2.2.2.2.2.2.2.1  ho) q_5_121 q_5_123 qs_yX8_whole q_1_10 q_5_124 ok_X8_whole rfl 0 rfl rfl ⟨Nat.le_of_ble_eq_true rfl, Nat.le_of_ble_eq_true rfl⟩ rfl rfl hl.1 rfl (Nat.le_of_ble_eq_true rfl) dX8_findRings_81 hP hS (fun H locs hP hS => ?_)
      refine lv_icmp_ne (tgt := 95) X.1 X.2.1 dX8_findRings_84 (by decide) (fun c84 => ?_) (fun c84 => ?_)
      · have hf := ie_s hf c84
        exact t_X8_findRings_b95 X F  H locs ls hf hfF hP hS (lv_sub hl [0] rfl)
      · have hf := it_s hf c84
        refine lv_iload_n X.1 X.2.1 dX8_findRings_87 rfl (lv_at hl 3 rfl) ?_
        refine lv_aload_n X.1 X.2.1 dX8_findRings_88 rfl (lv_at hl 0 rfl) ?_
        obtain ⟨r89, ho, hf⟩ := b1_s hf
        refine call_vi (rest := [.int x3]) X (c_X8_whole F G I J X.2.2.2.2.2.2.2.1  ho) q_5_121 q_5_123 qs_yX8_whole q_1_10 q_5_124 ok_X8_whole rfl 0 rfl rfl ⟨Nat.le_of_ble_eq_true rfl, Nat.le_of_ble_eq_true rfl⟩ rfl rfl hl.1 rfl (Nat.le_of_ble_eq_true rfl) dX8_findRings_89 hP hS (fun H locs hP hS => ?_)
        refine lv_icmp_eq (tgt := 97) X.1 X.2.1 dX8_findRings_92 (by decide) (fun c92 => ?_) (fun c92 => ?_)
        · have hf := it_s hf c92
          refine lv_aload_n X.1 X.2.1 dX8_findRings_97 rfl (lv_at hl 0 rfl) ?_
          refine lv_iconst (v := 0) X.1 X.2.1 dX8_findRings_98 (by decide) ?_
          refine pM_0_28 X q_4_137 dX8_findRings_99 hP hS (fun H locs hP hS => ?_)
          refine lv_aload_n X.1 X.2.1 dX8_findRings_102 rfl (lv_at hl 0 rfl) ?_
          refine lv_iconst (v := 0) X.1 X.2.1 dX8_findRings_103 (by decide) ?_
          refine pM_0_29 X q_4_138 dX8_findRings_104 hP hS (fun H locs hP hS => ?_)
          refine lv_aload_n X.1 X.2.1 dX8_findRings_107 rfl (lv_at hl 0 rfl) ?_
          refine lv_iconst (v := 0) X.1 X.2.1 dX8_findRings_108 (by decide) ?_
          refine pM_0_30 X (by decide) q_4_139 dX8_findRings_109 hP hS (fun H locs hP hS => ?_)
          refine lv_iconst (v := 0) X.1 X.2.1 dX8_findRings_112 (by decide) ?_
          refine lv_istore (lv' := [(4, .int 0), (0, .ref (a 0)), (1, .int x1), (2, .int x2), (3, .int x3)]) X.1 X.2.1 dX8_findRings_113 hl (by decide) rfl (fun ls hl => ?_)
          refine lv_iconst (v := 0) X.1 X.2.1 dX8_findRings_115 (by decide) ?_
          refine lv_istore (lv' := [(5, .int 0), (4, .int 0), (0, .ref (a 0)), (1, .int x1), (2, .int x2), (3, .int x3)]) X.1 X.2.1 dX8_findRings_116 hl (by decide) rfl (fun ls hl => ?_)
          exact t_X8_findRings_b118 X 4096 (va_up (va_up (va_up F 9 0) 10 0) 11 0) x1 0 0 H locs ls hf (frm_up (frm_up (frm_up hfF (by decide)) (by decide)) (by decide)) hP hS (lv_sub hl [2, 3, 1, 0] rfl)
        · have hf := ie_s hf c92
          exact t_X8_findRings_b95 X F  H locs ls hf hfF hP hS (lv_sub hl [0] rfl)
  · have hf := ie_s hf c13
    refine lv_aload_n X.1 X.2.1 dX8_findRings_16 rfl (lv_at hl 0 rfl) ?_
    refine gM_0_2 X q_4_111 dX8_findRings_17 hP ?_
    refine lv_bipush (v := 60) X.1 X.2.1 dX8_findRings_20 (by decide) ?_
    refine lv_iload_n X.1 X.2.1 dX8_findRings_22 rfl (lv_at hl 1 rfl) ?_
    refine lv_imul X.1 X.2.1 dX8_findRings_23 ?_
    refine lv_iload X.1 X.2.1 dX8_findRings_24 (lv_at hl 4 rfl) ?_
    refine lv_iadd X.1 X.2.1 dX8_findRings_26 ?_
    obtain ⟨h27, hf⟩ := gd_s hf
    refine lM_3 (I := I) X (f := (I 2)) rfl h27 dX8_findRings_27 hP ?_
    refine nm_i hf (fun x28 hf => ?_)
    refine lv_istore (lv' := [(5, .int x28), (0, .ref (a 0)), (1, .int x1), (2, .int x2), (3, .int x3), (4, .int x4)]) X.1 X.2.1 dX8_findRings_28 hl (by decide) rfl (fun ls hl => ?_)
    refine lv_iload_n X.1 X.2.1 dX8_findRings_30 rfl (lv_at hl 3 rfl) ?_
    refine lv_aload_n X.1 X.2.1 dX8_findRings_31 rfl (lv_at hl 1 rfl) ?_
    refine lv_iload X.1 X.2.1 dX8_findRings_32 (lv_at hl 0 rfl) ?_
    obtain ⟨r34, ho, hf⟩ := b1_s hf
    refine call_vi (rest := [.int x2]) X (c_X8_isSeatNow F G I J X.2.2.2.2.2.2.2.1 x28 ho) q_5_215 q_5_217 qs_yX8_isSeatNow q_1_10 q_5_218 ok_X8_isSeatNow rfl 0 rfl rfl ⟨Nat.le_of_ble_eq_true rfl, Nat.le_of_ble_eq_true rfl⟩ rfl rfl hl.1 rfl (Nat.le_of_ble_eq_true rfl) dX8_findRings_34 hP hS (fun H locs hP hS => ?_)
    refine lv_if_eq (tgt := 47) X.1 X.2.1 dX8_findRings_37 (by decide) (fun c37 => ?_) (fun c37 => ?_)
    · have hf := it_s hf c37
      refine lv_iconst (v := 0) X.1 X.2.1 dX8_findRings_47 (by decide) ?_
      exact t_X8_findRings_b48 X kh7 F x2 0 x1 x3 x4 H locs ls hf hfF hP hS (lv_sub hl [1, 2, 4, 5] rfl)
    · have hf := ie_s hf c37
      refine lv_iconst (v := 1) X.1 X.2.1 dX8_findRings_40 (by decide) ?_
      refine lv_iload X.1 X.2.1 dX8_findRings_41 (lv_at hl 0 rfl) ?_
      refine lv_ishl X.1 X.2.1 dX8_findRings_43 ?_
      refine lv_goto (tgt := 48) X.1 X.2.1 dX8_findRings_44 (by decide) ?_
      exact t_X8_findRings_b48 X kh7 F x2 ((1 : Int32) <<< (x28 &&& 31)) x1 x3 x4 H locs ls hf hfF hP hS (lv_sub hl [1, 2, 4, 5] rfl)
set_option maxRecDepth 100000 in
theorem t_X8_findRings_b7 {p : Program} {l : Launch} {e : Env} {s : State} {m : MethodId} {args : Array Value} {below : List Frame} {meth : Method} {c : Code} {D : va_G} {a : Nat → Nat} {kc : Nat → ClassId} (X : cx 21 p s m args meth c D (tyM kc) a cX8_findRings 8 RX8 (some .boolean)) {G : Nat → Int64} {I : Nat → Nat → Int32} {J : Nat → Nat → Int64} {Ff : Nat → Int32} {r : Int32} :
    ∀ (n : Nat) (F : Nat → Int32) (x1 : Int32) (x2 : Int32) (x3 : Int32) (x4 : Int32) (H : Heap) (locs : List Loc) (ls : Array Slot), p_X8_findRings_b7 n (F 2) (F 4) (F 9) (F 10) (F 11) (I 2) (I 8) x1 x2 x3 x4 = some (r, (Ff 9), (Ff 10), (Ff 11)) → (∀ k, k ∉ ([9, 10, 11] : List Nat) → Ff k = F k) → va_P D vwCl (wM a kc F G I J) H → va_S (ad a 21 s.heap.size) s.heap H locs → lv_has ls 8 [(0, .ref (a 0)), (1, .int x1), (2, .int x2), (3, .int x3), (4, .int x4)] → W p l e rm_X8_findRings s m args below meth c H locs 0 0 (MQ below (Qi D (wM a kc Ff G I J) r (ad a 21 s.heap.size)) args s 0 0 (ad a 21 s.heap.size)) (F0 m 7 ls []) := by
  intro n
  induction n with
  | zero => intro F x1 x2 x3 x4 H locs ls hf hfF hP hS hl; exact (nos hf).elim
  | succ n ih => exact t_X8_findRings_b7x X ih
set_option maxHeartbeats 4000000 in
set_option maxRecDepth 100000 in
theorem t_X8_findRings_b0 {p : Program} {l : Launch} {e : Env} {s : State} {m : MethodId} {args : Array Value} {below : List Frame} {meth : Method} {c : Code} {D : va_G} {a : Nat → Nat} {kc : Nat → ClassId} (X : cx 21 p s m args meth c D (tyM kc) a cX8_findRings 8 RX8 (some .boolean)) {G : Nat → Int64} {I : Nat → Nat → Int32} {J : Nat → Nat → Int64} {Ff : Nat → Int32} {r : Int32} :
    ∀ (F : Nat → Int32) (x1 : Int32) (H : Heap) (locs : List Loc) (ls : Array Slot), p_X8_findRings_b0 (F 2) (F 4) (F 9) (F 10) (F 11) (I 2) (I 8) x1 = some (r, (Ff 9), (Ff 10), (Ff 11)) → (∀ k, k ∉ ([9, 10, 11] : List Nat) → Ff k = F k) → va_P D vwCl (wM a kc F G I J) H → va_S (ad a 21 s.heap.size) s.heap H locs → lv_has ls 8 [(0, .ref (a 0)), (1, .int x1)] → W p l e rm_X8_findRings s m args below meth c H locs 0 0 (MQ below (Qi D (wM a kc Ff G I J) r (ad a 21 s.heap.size)) args s 0 0 (ad a 21 s.heap.size)) (F0 m 0 ls []) := by
  intro F x1 H locs ls hf hfF hP hS hl
  unfold p_X8_findRings_b0 at hf
  refine lv_iconst (v := 0) X.1 X.2.1 dX8_findRings_0 (by decide) ?_
  refine lv_istore_n (lv' := [(2, .int 0), (0, .ref (a 0)), (1, .int x1)]) X.1 X.2.1 dX8_findRings_1 rfl hl (by decide) rfl (fun ls hl => ?_)
  refine lv_iconst (v := 0) X.1 X.2.1 dX8_findRings_2 (by decide) ?_
  refine lv_istore_n (lv' := [(3, .int 0), (2, .int 0), (0, .ref (a 0)), (1, .int x1)]) X.1 X.2.1 dX8_findRings_3 rfl hl (by decide) rfl (fun ls hl => ?_)
  refine lv_iconst (v := 0) X.1 X.2.1 dX8_findRings_4 (by decide) ?_
  refine lv_istore (lv' := [(4, .int 0), (3, .int 0), (2, .int 0), (0, .ref (a 0)), (1, .int x1)]) X.1 X.2.1 dX8_findRings_5 hl (by decide) rfl (fun ls hl => ?_)
  exact t_X8_findRings_b7 X 4096 F x1 0 0 0 H locs ls hf hfF hP hS (lv_sub hl [3, 4, 2, 1, 0] rfl)
set_option maxRecDepth 100000 in
theorem c_X8_findRings {l : Launch} {D : va_G} {a : Nat → Nat} {kc : Nat → ClassId} (F : Nat → Int32) (G : Nat → Int64) (I : Nat → Nat → Int32) (J : Nat → Nat → Int64) (hAp : ∀ i j, i < 21 → j < 21 → a i = a j → i = j) (x1 : Int32) {o0 : Int32} {o1 : Int32} {o2 : Int32} {o3 : Int32} (hf : p_X8_findRings (F 2) (F 4) (F 9) (F 10) (F 11) (I 2) (I 8) x1 = some (o0, o1, o2, o3)) : Ct 21 l yX8_findRings cX8_findRings 8 (some .boolean) rm_X8_findRings D (tyM kc) a (wM a kc F G I J) [.ref (a 0), .int x1] (Qi D (wM a kc (va_up (va_up (va_up F 9 o1) 10 o2) 11 o3) G I J) o0) :=
  Ct.of (by decide +kernel) hAp (Nat.le_of_ble_eq_true rfl) (fun p e s m args below meth c ls X hP hl => t_X8_findRings_b0 X F x1 _ _ _ hf (frm_ul (frm_ul (frm_ul (fun k _ => rfl) (by decide)) (by decide)) (by decide)) hP va_S.rf hl)
abbrev rm_X8_back : Room := { frames := 4, cells := 0, slots := 0, locals := 88 }
set_option maxHeartbeats 4000000 in
set_option maxRecDepth 100000 in
theorem t_X8_back_b19 {p : Program} {l : Launch} {e : Env} {s : State} {m : MethodId} {args : Array Value} {below : List Frame} {meth : Method} {c : Code} {D : va_G} {a : Nat → Nat} {kc : Nat → ClassId} (X : cx 21 p s m args meth c D (tyM kc) a cX8_back 4 RX8 (some .int)) {G : Nat → Int64} {J : Nat → Nat → Int64} {Ff : Nat → Int32} {If : Nat → Nat → Int32} {r : Int32} :
    ∀ (F : Nat → Int32) (I : Nat → Nat → Int32)  (H : Heap) (locs : List Loc) (ls : Array Slot), p_X8_back_b19 (F 0) (F 1) (F 2) (F 3) (F 4) (F 9) (F 10) (F 11) (I 0) (I 1) (I 2) (I 4) (I 5) (I 6) (I 7) (I 8) (I 9)  = some (r, (Ff 0), (Ff 1), (Ff 2), (Ff 3), (Ff 4), (Ff 9), (Ff 10), (Ff 11), (If 6), (If 7), (If 8), (If 9)) → (∀ k, k ∉ ([0, 1, 2, 3, 4, 9, 10, 11] : List Nat) → Ff k = F k) → (∀ k, k ∉ ([6, 7, 8, 9] : List Nat) → If k = I k) → va_P D vwCl (wM a kc F G I J) H → va_S (ad a 21 s.heap.size) s.heap H locs → lv_has ls 4 [(0, .ref (a 0))] → W p l e rm_X8_back s m args below meth c H locs 0 0 (MQ below (Qi D (wM a kc Ff G If J) r (ad a 21 s.heap.size)) args s 0 0 (ad a 21 s.heap.size)) (F0 m 19 ls []) := by
  intro F I  H locs ls hf hfF hfI hP hS hl
  unfold p_X8_back_b19 at hf
  refine lv_bipush (v := (-2)) X.1 X.2.1 dX8_back_19 (by decide) ?_
  obtain ⟨e0, hf⟩ := o2 hf
  obtain ⟨e1, hf⟩ := o2 hf
  obtain ⟨e2, hf⟩ := o2 hf
  obtain ⟨e3, hf⟩ := o2 hf
  obtain ⟨e4, hf⟩ := o2 hf
  obtain ⟨e5, hf⟩ := o2 hf
  obtain ⟨e6, hf⟩ := o2 hf
  obtain ⟨e7, hf⟩ := o2 hf
  obtain ⟨e8, hf⟩ := o2 hf
  obtain ⟨e9, hf⟩ := o2 hf
  obtain ⟨e10, hf⟩ := o2 hf
  obtain ⟨e11, hf⟩ := o2 hf
  have e12 := o1 hf
  have EF : Ff = F := frm_eq hfF (frm_c (e1).symm (frm_c (e2).symm (frm_c (e3).symm (frm_c (e4).symm (frm_c (e5).symm (frm_c (e6).symm (frm_c (e7).symm (frm_c (e8).symm frm_n))))))))
  have EI : If = I := frm_eq hfI (frm_c (e9).symm (frm_c (e10).symm (frm_c (e11).symm (frm_c (e12).symm frm_n))))
  exact ret_i X hS (by rw [EF, EI]; exact hP) e0 dX8_back_21
set_option maxHeartbeats 4000000 in
set_option maxRecDepth 100000 in
theorem t_X8_back_b96 {p : Program} {l : Launch} {e : Env} {s : State} {m : MethodId} {args : Array Value} {below : List Frame} {meth : Method} {c : Code} {D : va_G} {a : Nat → Nat} {kc : Nat → ClassId} (X : cx 21 p s m args meth c D (tyM kc) a cX8_back 4 RX8 (some .int)) {G : Nat → Int64} {J : Nat → Nat → Int64} {Ff : Nat → Int32} {If : Nat → Nat → Int32} {r : Int32} :
    ∀ (F : Nat → Int32) (I : Nat → Nat → Int32) (t0 : Int32) (H : Heap) (locs : List Loc) (ls : Array Slot), p_X8_back_b96 (F 0) (F 1) (F 2) (F 3) (F 4) (F 9) (F 10) (F 11) (I 0) (I 1) (I 2) (I 4) (I 5) (I 6) (I 7) (I 8) (I 9) t0 = some (r, (Ff 0), (Ff 1), (Ff 2), (Ff 3), (Ff 4), (Ff 9), (Ff 10), (Ff 11), (If 6), (If 7), (If 8), (If 9)) → (∀ k, k ∉ ([0, 1, 2, 3, 4, 9, 10, 11] : List Nat) → Ff k = F k) → (∀ k, k ∉ ([6, 7, 8, 9] : List Nat) → If k = I k) → va_P D vwCl (wM a kc F G I J) H → va_S (ad a 21 s.heap.size) s.heap H locs → lv_has ls 4 [(0, .ref (a 0))] → W p l e rm_X8_back s m args below meth c H locs 0 0 (MQ below (Qi D (wM a kc Ff G If J) r (ad a 21 s.heap.size)) args s 0 0 (ad a 21 s.heap.size)) (F0 m 96 ls [.int t0]) := by
  intro F I t0 H locs ls hf hfF hfI hP hS hl
  unfold p_X8_back_b96 at hf
  obtain ⟨e0, hf⟩ := o2 hf
  obtain ⟨e1, hf⟩ := o2 hf
  obtain ⟨e2, hf⟩ := o2 hf
  obtain ⟨e3, hf⟩ := o2 hf
  obtain ⟨e4, hf⟩ := o2 hf
  obtain ⟨e5, hf⟩ := o2 hf
  obtain ⟨e6, hf⟩ := o2 hf
  obtain ⟨e7, hf⟩ := o2 hf
  obtain ⟨e8, hf⟩ := o2 hf
  obtain ⟨e9, hf⟩ := o2 hf
  obtain ⟨e10, hf⟩ := o2 hf
  obtain ⟨e11, hf⟩ := o2 hf
  have e12 := o1 hf
  have EF : Ff = F := frm_eq hfF (frm_c (e1).symm (frm_c (e2).symm (frm_c (e3).symm (frm_c (e4).symm (frm_c (e5).symm (frm_c (e6).symm (frm_c (e7).symm (frm_c (e8).symm frm_n))))))))
  have EI : If = I := frm_eq hfI (frm_c (e9).symm (frm_c (e10).symm (frm_c (e11).symm (frm_c (e12).symm frm_n))))
  exact ret_i X hS (by rw [EF, EI]; exact hP) e0 dX8_back_96
set_option maxHeartbeats 4000000 in
set_option maxRecDepth 100000 in
theorem t_X8_back_b0 {p : Program} {l : Launch} {e : Env} {s : State} {m : MethodId} {args : Array Value} {below : List Frame} {meth : Method} {c : Code} {D : va_G} {a : Nat → Nat} {kc : Nat → ClassId} (X : cx 21 p s m args meth c D (tyM kc) a cX8_back 4 RX8 (some .int)) {G : Nat → Int64} {J : Nat → Nat → Int64} {Ff : Nat → Int32} {If : Nat → Nat → Int32} {r : Int32} :
    ∀ (F : Nat → Int32) (I : Nat → Nat → Int32) (x1 : Int32) (x2 : Int32) (H : Heap) (locs : List Loc) (ls : Array Slot), p_X8_back_b0 (F 0) (F 1) (F 2) (F 3) (F 4) (F 9) (F 10) (F 11) (I 0) (I 1) (I 2) (I 4) (I 5) (I 6) (I 7) (I 8) (I 9) x1 x2 = some (r, (Ff 0), (Ff 1), (Ff 2), (Ff 3), (Ff 4), (Ff 9), (Ff 10), (Ff 11), (If 6), (If 7), (If 8), (If 9)) → (∀ k, k ∉ ([0, 1, 2, 3, 4, 9, 10, 11] : List Nat) → Ff k = F k) → (∀ k, k ∉ ([6, 7, 8, 9] : List Nat) → If k = I k) → va_P D vwCl (wM a kc F G I J) H → va_S (ad a 21 s.heap.size) s.heap H locs → lv_has ls 4 [(0, .ref (a 0)), (1, .int x1), (2, .int x2)] → W p l e rm_X8_back s m args below meth c H locs 0 0 (MQ below (Qi D (wM a kc Ff G If J) r (ad a 21 s.heap.size)) args s 0 0 (ad a 21 s.heap.size)) (F0 m 0 ls []) := by
  intro F I x1 x2 H locs ls hf hfF hfI hP hS hl
  unfold p_X8_back_b0 at hf
  refine lv_iload_n X.1 X.2.1 dX8_back_0 rfl (lv_at hl 1 rfl) ?_
  obtain ⟨r1, ho, hf⟩ := b1_s hf
  refine call_si (rest := []) X (c_X8_isSheet x1 ho) q_4_222 q_4_223 q_1_10 q_4_224 ok_X8_isSheet rfl ⟨Nat.le_of_ble_eq_true rfl, Nat.le_of_ble_eq_true rfl⟩ rfl rfl hl.1 rfl (Nat.le_of_ble_eq_true rfl) dX8_back_1 hP hS (fun H locs hP hS => ?_)
  refine lv_if_eq (tgt := 19) X.1 X.2.1 dX8_back_4 (by decide) (fun c4 => ?_) (fun c4 => ?_)
  · have hf := it_s hf c4
    exact t_X8_back_b19 X F I  H locs ls hf hfF hfI hP hS (lv_sub hl [0] rfl)
  · have hf := ie_s hf c4
    refine lv_iload_n X.1 X.2.1 dX8_back_7 rfl (lv_at hl 2 rfl) ?_
    refine lv_i2l X.1 X.2.1 dX8_back_8 rfl ?_
    refine lv_lconst (v := 0) X.1 X.2.1 dX8_back_9 (by decide) ?_
    refine lv_ldc2 (v := 2) X.1 X.2.1 X.2.2.2.2.1 (X.2.2.2.2.2.1 _ q_4_229) dX8_back_10 ?_
    obtain ⟨r13, ho, hf⟩ := b1_s hf
    refine call_si (rest := []) X (c_X8_in x2.toInt64 0 2 ho) q_4_226 q_4_227 q_1_10 q_4_228 ok_X8_in rfl ⟨Nat.le_of_ble_eq_true rfl, Nat.le_of_ble_eq_true rfl⟩ rfl rfl hl.1 rfl (Nat.le_of_ble_eq_true rfl) dX8_back_13 hP hS (fun H locs hP hS => ?_)
    refine lv_if_ne (tgt := 22) X.1 X.2.1 dX8_back_16 (by decide) (fun c16 => ?_) (fun c16 => ?_)
    · have hf := ie_s hf c16
      refine lv_aload_n X.1 X.2.1 dX8_back_22 rfl (lv_at hl 0 rfl) ?_
      refine lv_iload_n X.1 X.2.1 dX8_back_23 rfl (lv_at hl 1 rfl) ?_
      obtain ⟨r24, m_latest_24, m_at_24, m_seats_24, m_rows_24, m_people_24, m_sorts_24, m_rowOf_24, m_own_24, m_kinds_24, ho, hf⟩ := b10_s hf
      refine call_vi (rest := []) X (c_X8_noSitting F G I J X.2.2.2.2.2.2.2.1 x1 ho) q_5_211 q_5_213 qs_yX8_noSitting q_1_10 q_5_214 ok_X8_noSitting rfl 0 rfl rfl ⟨Nat.le_of_ble_eq_true rfl, Nat.le_of_ble_eq_true rfl⟩ rfl rfl hl.1 rfl (Nat.le_of_ble_eq_true rfl) dX8_back_24 hP hS (fun H locs hP hS => ?_)
      refine lv_istore_n (lv' := [(3, .int r24), (0, .ref (a 0)), (1, .int x1), (2, .int x2)]) X.1 X.2.1 dX8_back_27 rfl hl (by decide) rfl (fun ls hl => ?_)
      refine lv_iload_n X.1 X.2.1 dX8_back_28 rfl (lv_at hl 0 rfl) ?_
      refine lv_if_eq (tgt := 34) X.1 X.2.1 dX8_back_29 (by decide) (fun c29 => ?_) (fun c29 => ?_)
      · have hf := it_s hf c29
        refine lv_aload_n X.1 X.2.1 dX8_back_34 rfl (lv_at hl 1 rfl) ?_
        refine lv_iload_n X.1 X.2.1 dX8_back_35 rfl (lv_at hl 2 rfl) ?_
        obtain ⟨r36, m_rings_36, m_wrongOnes_36, m_longer_36, ho, hf⟩ := b4_s hf
        refine call_vi (rest := []) X (c_X8_findRings (va_up (va_up (va_up (va_up (va_up F 0 m_latest_24) 1 m_at_24) 2 m_seats_24) 3 m_rows_24) 4 m_people_24) G (va_up (va_up (va_up (va_up I 6 m_sorts_24) 7 m_rowOf_24) 8 m_own_24) 9 m_kinds_24) J X.2.2.2.2.2.2.2.1 x1 ho) q_6_15 q_6_17 qs_yX8_findRings q_1_10 q_6_18 ok_X8_findRings rfl 0 rfl rfl ⟨Nat.le_of_ble_eq_true rfl, Nat.le_of_ble_eq_true rfl⟩ rfl rfl hl.1 rfl (Nat.le_of_ble_eq_true rfl) dX8_back_36 hP hS (fun H locs hP hS => ?_)
        refine lv_if_ne (tgt := 45) X.1 X.2.1 dX8_back_39 (by decide) (fun c39 => ?_) (fun c39 => ?_)
        · have hf := ie_s hf c39
          refine lv_iload_n X.1 X.2.1 dX8_back_45 rfl (lv_at hl 3 rfl) ?_
          refine lv_if_ne (tgt := 56) X.1 X.2.1 dX8_back_46 (by decide) (fun c46 => ?_) (fun c46 => ?_)
          · have hf := ie_s hf c46
            refine lv_iload_n X.1 X.2.1 dX8_back_56 rfl (lv_at hl 3 rfl) ?_
            refine lv_iconst (v := 1) X.1 X.2.1 dX8_back_57 (by decide) ?_
            refine lv_icmp_ne (tgt := 73) X.1 X.2.1 dX8_back_58 (by decide) (fun c58 => ?_) (fun c58 => ?_)
            · have hf := ie_s hf c58
              refine lv_aload_n X.1 X.2.1 dX8_back_73 rfl (lv_at hl 1 rfl) ?_
              refine gM_0_28 (F := (va_up (va_up (va_up (va_up (va_up (va_up (va_up (va_up F 0 m_latest_24) 1 m_at_24) 2 m_seats_24) 3 m_rows_24) 4 m_people_24) 9 m_rings_36) 10 m_wrongOnes_36) 11 m_longer_36)) X (v := m_rings_36) rfl q_4_137 dX8_back_74 hP ?_
              refine lv_if_ne (tgt := 84) X.1 X.2.1 dX8_back_77 (by decide) (fun c77 => ?_) (fun c77 => ?_)
              · have hf := ie_s hf c77
                refine lv_aload_n X.1 X.2.1 dX8_back_84 rfl (lv_at hl 1 rfl) ?_
                refine gM_0_30 (F := (va_up (va_up (va_up (va_up (va_up (va_up (va_up (va_up F 0 m_latest_24) 1 m_at_24) 2 m_seats_24) 3 m_rows_24) 4 m_people_24) 9 m_rings_36) 10 m_wrongOnes_36) 11 m_longer_36)) X (v := m_longer_36) rfl q_4_139 dX8_back_85 hP ?_
                refine lv_if_eq (tgt := 95) X.1 X.2.1 dX8_back_88 (by decide) (fun c88 => ?_) (fun c88 => ?_)
                · have hf := it_s hf c88
                  refine lv_iconst (v := 1) X.1 X.2.1 dX8_back_95 (by decide) ?_
                  exact t_X8_back_b96 X (va_up (va_up (va_up (va_up (va_up (va_up (va_up (va_up F 0 m_latest_24) 1 m_at_24) 2 m_seats_24) 3 m_rows_24) 4 m_people_24) 9 m_rings_36) 10 m_wrongOnes_36) 11 m_longer_36) (va_up (va_up (va_up (va_up I 6 m_sorts_24) 7 m_rowOf_24) 8 m_own_24) 9 m_kinds_24) 1 H locs ls hf (frm_up (frm_up (frm_up (frm_up (frm_up (frm_up (frm_up (frm_up hfF (by decide)) (by decide)) (by decide)) (by decide)) (by decide)) (by decide)) (by decide)) (by decide)) (frm_up (frm_up (frm_up (frm_up hfI (by decide)) (by decide)) (by decide)) (by decide)) hP hS (lv_sub hl [1] rfl)
                · have hf := ie_s hf c88
                  refine lv_iconst (v := 2) X.1 X.2.1 dX8_back_91 (by decide) ?_
                  refine lv_goto (tgt := 96) X.1 X.2.1 dX8_back_92 (by decide) ?_
                  exact t_X8_back_b96 X (va_up (va_up (va_up (va_up (va_up (va_up (va_up (va_up F 0 m_latest_24) 1 m_at_24) 2 m_seats_24) 3 m_rows_24) 4 m_people_24) 9 m_rings_36) 10 m_wrongOnes_36) 11 m_longer_36) (va_up (va_up (va_up (va_up I 6 m_sorts_24) 7 m_rowOf_24) 8 m_own_24) 9 m_kinds_24) 2 H locs ls hf (frm_up (frm_up (frm_up (frm_up (frm_up (frm_up (frm_up (frm_up hfF (by decide)) (by decide)) (by decide)) (by decide)) (by decide)) (by decide)) (by decide)) (by decide)) (frm_up (frm_up (frm_up (frm_up hfI (by decide)) (by decide)) (by decide)) (by decide)) hP hS (lv_sub hl [1] rfl)
              · have hf := it_s hf c77
                refine lv_iconst (v := 0) X.1 X.2.1 dX8_back_80 (by decide) ?_
                refine lv_goto (tgt := 96) X.1 X.2.1 dX8_back_81 (by decide) ?_
                exact t_X8_back_b96 X (va_up (va_up (va_up (va_up (va_up (va_up (va_up (va_up F 0 m_latest_24) 1 m_at_24) 2 m_seats_24) 3 m_rows_24) 4 m_people_24) 9 m_rings_36) 10 m_wrongOnes_36) 11 m_longer_36) (va_up (va_up (va_up (va_up I 6 m_sorts_24) 7 m_rowOf_24) 8 m_own_24) 9 m_kinds_24) 0 H locs ls hf (frm_up (frm_up (frm_up (frm_up (frm_up (frm_up (frm_up (frm_up hfF (by decide)) (by decide)) (by decide)) (by decide)) (by decide)) (by decide)) (by decide)) (by decide)) (frm_up (frm_up (frm_up (frm_up hfI (by decide)) (by decide)) (by decide)) (by decide)) hP hS (lv_sub hl [1] rfl)
            · have hf := it_s hf c58
              refine lv_aload_n X.1 X.2.1 dX8_back_61 rfl (lv_at hl 1 rfl) ?_
              refine gM_0_29 (F := (va_up (va_up (va_up (va_up (va_up (va_up (va_up (va_up F 0 m_latest_24) 1 m_at_24) 2 m_seats_24) 3 m_rows_24) 4 m_people_24) 9 m_rings_36) 10 m_wrongOnes_36) 11 m_longer_36)) X (v := m_wrongOnes_36) rfl q_4_138 dX8_back_62 hP ?_
              refine lv_aload_n X.1 X.2.1 dX8_back_65 rfl (lv_at hl 1 rfl) ?_
              refine gM_0_28 (F := (va_up (va_up (va_up (va_up (va_up (va_up (va_up (va_up F 0 m_latest_24) 1 m_at_24) 2 m_seats_24) 3 m_rows_24) 4 m_people_24) 9 m_rings_36) 10 m_wrongOnes_36) 11 m_longer_36)) X (v := m_rings_36) rfl q_4_137 dX8_back_66 hP ?_
              refine lv_isub X.1 X.2.1 dX8_back_69 ?_
              refine lv_goto (tgt := 96) X.1 X.2.1 dX8_back_70 (by decide) ?_
              exact t_X8_back_b96 X (va_up (va_up (va_up (va_up (va_up (va_up (va_up (va_up F 0 m_latest_24) 1 m_at_24) 2 m_seats_24) 3 m_rows_24) 4 m_people_24) 9 m_rings_36) 10 m_wrongOnes_36) 11 m_longer_36) (va_up (va_up (va_up (va_up I 6 m_sorts_24) 7 m_rowOf_24) 8 m_own_24) 9 m_kinds_24) (m_wrongOnes_36 - m_rings_36) H locs ls hf (frm_up (frm_up (frm_up (frm_up (frm_up (frm_up (frm_up (frm_up hfF (by decide)) (by decide)) (by decide)) (by decide)) (by decide)) (by decide)) (by decide)) (by decide)) (frm_up (frm_up (frm_up (frm_up hfI (by decide)) (by decide)) (by decide)) (by decide)) hP hS (lv_sub hl [1] rfl)
          · have hf := it_s hf c46
            refine lv_aload_n X.1 X.2.1 dX8_back_49 rfl (lv_at hl 1 rfl) ?_
            refine gM_0_28 (F := (va_up (va_up (va_up (va_up (va_up (va_up (va_up (va_up F 0 m_latest_24) 1 m_at_24) 2 m_seats_24) 3 m_rows_24) 4 m_people_24) 9 m_rings_36) 10 m_wrongOnes_36) 11 m_longer_36)) X (v := m_rings_36) rfl q_4_137 dX8_back_50 hP ?_
            refine lv_goto (tgt := 96) X.1 X.2.1 dX8_back_53 (by decide) ?_
            exact t_X8_back_b96 X (va_up (va_up (va_up (va_up (va_up (va_up (va_up (va_up F 0 m_latest_24) 1 m_at_24) 2 m_seats_24) 3 m_rows_24) 4 m_people_24) 9 m_rings_36) 10 m_wrongOnes_36) 11 m_longer_36) (va_up (va_up (va_up (va_up I 6 m_sorts_24) 7 m_rowOf_24) 8 m_own_24) 9 m_kinds_24) m_rings_36 H locs ls hf (frm_up (frm_up (frm_up (frm_up (frm_up (frm_up (frm_up (frm_up hfF (by decide)) (by decide)) (by decide)) (by decide)) (by decide)) (by decide)) (by decide)) (by decide)) (frm_up (frm_up (frm_up (frm_up hfI (by decide)) (by decide)) (by decide)) (by decide)) hP hS (lv_sub hl [1] rfl)
        · have hf := it_s hf c39
          refine lv_bipush (v := (-3)) X.1 X.2.1 dX8_back_42 (by decide) ?_
          obtain ⟨e0, hf⟩ := o2 hf
          obtain ⟨e1, hf⟩ := o2 hf
          obtain ⟨e2, hf⟩ := o2 hf
          obtain ⟨e3, hf⟩ := o2 hf
          obtain ⟨e4, hf⟩ := o2 hf
          obtain ⟨e5, hf⟩ := o2 hf
          obtain ⟨e6, hf⟩ := o2 hf
          obtain ⟨e7, hf⟩ := o2 hf
          obtain ⟨e8, hf⟩ := o2 hf
          obtain ⟨e9, hf⟩ := o2 hf
          obtain ⟨e10, hf⟩ := o2 hf
          obtain ⟨e11, hf⟩ := o2 hf
          have e12 := o1 hf
          have EF : Ff = (va_up (va_up (va_up (va_up (va_up (va_up (va_up (va_up F 0 m_latest_24) 1 m_at_24) 2 m_seats_24) 3 m_rows_24) 4 m_people_24) 9 m_rings_36) 10 m_wrongOnes_36) 11 m_longer_36) := frm_eq (frm_up (frm_up (frm_up (frm_up (frm_up (frm_up (frm_up (frm_up hfF (by decide)) (by decide)) (by decide)) (by decide)) (by decide)) (by decide)) (by decide)) (by decide)) (frm_c (e1).symm (frm_c (e2).symm (frm_c (e3).symm (frm_c (e4).symm (frm_c (e5).symm (frm_c (e6).symm (frm_c (e7).symm (frm_c (e8).symm frm_n))))))))
          have EI : If = (va_up (va_up (va_up (va_up I 6 m_sorts_24) 7 m_rowOf_24) 8 m_own_24) 9 m_kinds_24) := frm_eq (frm_up (frm_up (frm_up (frm_up hfI (by decide)) (by decide)) (by decide)) (by decide)) (frm_c (e9).symm (frm_c (e10).symm (frm_c (e11).symm (frm_c (e12).symm frm_n))))
          exact ret_i X hS (by rw [EF, EI]; exact hP) e0 dX8_back_44
      · have hf := ie_s hf c29
        refine lv_iload_n X.1 X.2.1 dX8_back_32 rfl (lv_at hl 0 rfl) ?_
        obtain ⟨e0, hf⟩ := o2 hf
        obtain ⟨e1, hf⟩ := o2 hf
        obtain ⟨e2, hf⟩ := o2 hf
        obtain ⟨e3, hf⟩ := o2 hf
        obtain ⟨e4, hf⟩ := o2 hf
        obtain ⟨e5, hf⟩ := o2 hf
        obtain ⟨e6, hf⟩ := o2 hf
        obtain ⟨e7, hf⟩ := o2 hf
        obtain ⟨e8, hf⟩ := o2 hf
        obtain ⟨e9, hf⟩ := o2 hf
        obtain ⟨e10, hf⟩ := o2 hf
        obtain ⟨e11, hf⟩ := o2 hf
        have e12 := o1 hf
        have EF : Ff = (va_up (va_up (va_up (va_up (va_up F 0 m_latest_24) 1 m_at_24) 2 m_seats_24) 3 m_rows_24) 4 m_people_24) := frm_eq (frm_up (frm_up (frm_up (frm_up (frm_up hfF (by decide)) (by decide)) (by decide)) (by decide)) (by decide)) (frm_c (e1).symm (frm_c (e2).symm (frm_c (e3).symm (frm_c (e4).symm (frm_c (e5).symm (frm_c (e6).symm (frm_c (e7).symm (frm_c (e8).symm frm_n))))))))
        have EI : If = (va_up (va_up (va_up (va_up I 6 m_sorts_24) 7 m_rowOf_24) 8 m_own_24) 9 m_kinds_24) := frm_eq (frm_up (frm_up (frm_up (frm_up hfI (by decide)) (by decide)) (by decide)) (by decide)) (frm_c (e9).symm (frm_c (e10).symm (frm_c (e11).symm (frm_c (e12).symm frm_n))))
        exact ret_i X hS (by rw [EF, EI]; exact hP) e0 dX8_back_33
    · have hf := it_s hf c16
      exact t_X8_back_b19 X F I  H locs ls hf hfF hfI hP hS (lv_sub hl [0] rfl)
set_option maxRecDepth 100000 in
theorem c_X8_back {l : Launch} {D : va_G} {a : Nat → Nat} {kc : Nat → ClassId} (F : Nat → Int32) (G : Nat → Int64) (I : Nat → Nat → Int32) (J : Nat → Nat → Int64) (hAp : ∀ i j, i < 21 → j < 21 → a i = a j → i = j) (x1 : Int32) (x2 : Int32) {o0 : Int32} {o1 : Int32} {o2 : Int32} {o3 : Int32} {o4 : Int32} {o5 : Int32} {o6 : Int32} {o7 : Int32} {o8 : Int32} {o9 : Nat → Int32} {o10 : Nat → Int32} {o11 : Nat → Int32} {o12 : Nat → Int32} (hf : p_X8_back (F 0) (F 1) (F 2) (F 3) (F 4) (F 9) (F 10) (F 11) (I 0) (I 1) (I 2) (I 4) (I 5) (I 6) (I 7) (I 8) (I 9) x1 x2 = some (o0, o1, o2, o3, o4, o5, o6, o7, o8, o9, o10, o11, o12)) : Ct 21 l yX8_back cX8_back 4 (some .int) rm_X8_back D (tyM kc) a (wM a kc F G I J) [.ref (a 0), .int x1, .int x2] (Qi D (wM a kc (va_up (va_up (va_up (va_up (va_up (va_up (va_up (va_up F 0 o1) 1 o2) 2 o3) 3 o4) 4 o5) 9 o6) 10 o7) 11 o8) G (va_up (va_up (va_up (va_up I 6 o9) 7 o10) 8 o11) 9 o12) J) o0) :=
  Ct.of (by decide +kernel) hAp (Nat.le_of_ble_eq_true rfl) (fun p e s m args below meth c ls X hP hl => t_X8_back_b0 X F I x1 x2 _ _ _ hf (frm_ul (frm_ul (frm_ul (frm_ul (frm_ul (frm_ul (frm_ul (frm_ul (fun k _ => rfl) (by decide)) (by decide)) (by decide)) (by decide)) (by decide)) (by decide)) (by decide)) (by decide)) (frm_ul (frm_ul (frm_ul (frm_ul (fun k _ => rfl) (by decide)) (by decide)) (by decide)) (by decide)) hP va_S.rf hl)
abbrev rm_X8_seen : Room := { frames := 1, cells := 0, slots := 0, locals := 25 }
set_option maxHeartbeats 4000000 in
set_option maxRecDepth 100000 in
theorem t_X8_seen_b26 {p : Program} {l : Launch} {e : Env} {s : State} {m : MethodId} {args : Array Value} {below : List Frame} {meth : Method} {c : Code} {D : va_G} {a : Nat → Nat} {kc : Nat → ClassId} (X : cx 21 p s m args meth c D (tyM kc) a cX8_seen 3 RX8 (some .int)) {G : Nat → Int64} {J : Nat → Nat → Int64} {Ff : Nat → Int32} {If : Nat → Nat → Int32} {r : Int32} :
    ∀ (F : Nat → Int32) (I : Nat → Nat → Int32)  (H : Heap) (locs : List Loc) (ls : Array Slot), p_X8_seen_b26 (F 12) (I 13) (I 14)  = some (r, (Ff 12), (If 13), (If 14)) → (∀ k, k ∉ ([12] : List Nat) → Ff k = F k) → (∀ k, k ∉ ([13, 14] : List Nat) → If k = I k) → va_P D vwCl (wM a kc F G I J) H → va_S (ad a 21 s.heap.size) s.heap H locs → lv_has ls 3 [(0, .ref (a 0))] → W p l e rm_X8_seen s m args below meth c H locs 0 0 (MQ below (Qi D (wM a kc Ff G If J) r (ad a 21 s.heap.size)) args s 0 0 (ad a 21 s.heap.size)) (F0 m 26 ls []) := by
  intro F I  H locs ls hf hfF hfI hP hS hl
  unfold p_X8_seen_b26 at hf
  refine lv_bipush (v := (-2)) X.1 X.2.1 dX8_seen_26 (by decide) ?_
  obtain ⟨e0, hf⟩ := o2 hf
  obtain ⟨e1, hf⟩ := o2 hf
  obtain ⟨e2, hf⟩ := o2 hf
  have e3 := o1 hf
  have EF : Ff = F := frm_eq hfF (frm_c (e1).symm frm_n)
  have EI : If = I := frm_eq hfI (frm_c (e2).symm (frm_c (e3).symm frm_n))
  exact ret_i X hS (by rw [EF, EI]; exact hP) e0 dX8_seen_28
set_option maxHeartbeats 4000000 in
set_option maxRecDepth 100000 in
theorem t_X8_seen_b0 {p : Program} {l : Launch} {e : Env} {s : State} {m : MethodId} {args : Array Value} {below : List Frame} {meth : Method} {c : Code} {D : va_G} {a : Nat → Nat} {kc : Nat → ClassId} (X : cx 21 p s m args meth c D (tyM kc) a cX8_seen 3 RX8 (some .int)) {G : Nat → Int64} {J : Nat → Nat → Int64} {Ff : Nat → Int32} {If : Nat → Nat → Int32} {r : Int32} :
    ∀ (F : Nat → Int32) (I : Nat → Nat → Int32) (x1 : Int32) (x2 : Int32) (H : Heap) (locs : List Loc) (ls : Array Slot), p_X8_seen_b0 (F 12) (I 13) (I 14) x1 x2 = some (r, (Ff 12), (If 13), (If 14)) → (∀ k, k ∉ ([12] : List Nat) → Ff k = F k) → (∀ k, k ∉ ([13, 14] : List Nat) → If k = I k) → va_P D vwCl (wM a kc F G I J) H → va_S (ad a 21 s.heap.size) s.heap H locs → lv_has ls 3 [(0, .ref (a 0)), (1, .int x1), (2, .int x2)] → W p l e rm_X8_seen s m args below meth c H locs 0 0 (MQ below (Qi D (wM a kc Ff G If J) r (ad a 21 s.heap.size)) args s 0 0 (ad a 21 s.heap.size)) (F0 m 0 ls []) := by
  intro F I x1 x2 H locs ls hf hfF hfI hP hS hl
  unfold p_X8_seen_b0 at hf
  refine lv_iload_n X.1 X.2.1 dX8_seen_0 rfl (lv_at hl 1 rfl) ?_
  refine lv_i2l X.1 X.2.1 dX8_seen_1 rfl ?_
  refine lv_ldc2 (v := (-1)) X.1 X.2.1 X.2.2.2.2.1 (X.2.2.2.2.2.1 _ q_5_174) dX8_seen_2 ?_
  refine lv_ldc2 (v := 7) X.1 X.2.1 X.2.2.2.2.1 (X.2.2.2.2.2.1 _ q_6_27) dX8_seen_5 ?_
  obtain ⟨r8, ho, hf⟩ := b1_s hf
  refine call_si (rest := []) X (c_X8_in x1.toInt64 (-1) 7 ho) q_4_226 q_4_227 q_1_10 q_4_228 ok_X8_in rfl ⟨Nat.le_of_ble_eq_true rfl, Nat.le_of_ble_eq_true rfl⟩ rfl rfl hl.1 rfl (Nat.le_of_ble_eq_true rfl) dX8_seen_8 hP hS (fun H locs hP hS => ?_)
  refine lv_if_eq (tgt := 26) X.1 X.2.1 dX8_seen_11 (by decide) (fun c11 => ?_) (fun c11 => ?_)
  · have hf := it_s hf c11
    exact t_X8_seen_b26 X F I  H locs ls hf hfF hfI hP hS (lv_sub hl [0] rfl)
  · have hf := ie_s hf c11
    refine lv_iload_n X.1 X.2.1 dX8_seen_14 rfl (lv_at hl 2 rfl) ?_
    refine lv_i2l X.1 X.2.1 dX8_seen_15 rfl ?_
    refine lv_lconst (v := 0) X.1 X.2.1 dX8_seen_16 (by decide) ?_
    refine lv_ldc2 (v := 7) X.1 X.2.1 X.2.2.2.2.1 (X.2.2.2.2.2.1 _ q_6_27) dX8_seen_17 ?_
    obtain ⟨r20, ho, hf⟩ := b1_s hf
    refine call_si (rest := []) X (c_X8_in x2.toInt64 0 7 ho) q_4_226 q_4_227 q_1_10 q_4_228 ok_X8_in rfl ⟨Nat.le_of_ble_eq_true rfl, Nat.le_of_ble_eq_true rfl⟩ rfl rfl hl.1 rfl (Nat.le_of_ble_eq_true rfl) dX8_seen_20 hP hS (fun H locs hP hS => ?_)
    refine lv_if_ne (tgt := 29) X.1 X.2.1 dX8_seen_23 (by decide) (fun c23 => ?_) (fun c23 => ?_)
    · have hf := ie_s hf c23
      refine lv_aload_n X.1 X.2.1 dX8_seen_29 rfl (lv_at hl 0 rfl) ?_
      refine gM_0_31 (F := F) X (v := (F 12)) rfl q_4_140 dX8_seen_30 hP ?_
      refine lv_bipush (v := 8) X.1 X.2.1 dX8_seen_33 (by decide) ?_
      refine lv_icmp_ne (tgt := 41) X.1 X.2.1 dX8_seen_35 (by decide) (fun c35 => ?_) (fun c35 => ?_)
      · have hf := ie_s hf c35
        refine lv_aload_n X.1 X.2.1 dX8_seen_41 rfl (lv_at hl 0 rfl) ?_
        refine gM_0_32 X q_4_141 dX8_seen_42 hP ?_
        refine lv_aload_n X.1 X.2.1 dX8_seen_45 rfl (lv_at hl 0 rfl) ?_
        refine gM_0_31 (F := F) X (v := (F 12)) rfl q_4_140 dX8_seen_46 hP ?_
        refine lv_iload_n X.1 X.2.1 dX8_seen_49 rfl (lv_at hl 1 rfl) ?_
        obtain ⟨h50, hf⟩ := gd_s hf
        obtain ⟨m_sightWho_50, em_sightWho_50, hf⟩ := nm_x hf
        refine sM_18 (I := I) X h50 em_sightWho_50 dX8_seen_50 hP hS (fun H locs hP hS => ?_)
        refine lv_aload_n X.1 X.2.1 dX8_seen_51 rfl (lv_at hl 0 rfl) ?_
        refine gM_0_33 X q_4_142 dX8_seen_52 hP ?_
        refine lv_aload_n X.1 X.2.1 dX8_seen_55 rfl (lv_at hl 0 rfl) ?_
        refine gM_0_31 (F := F) X (v := (F 12)) rfl q_4_140 dX8_seen_56 hP ?_
        refine lv_iload_n X.1 X.2.1 dX8_seen_59 rfl (lv_at hl 2 rfl) ?_
        obtain ⟨h60, hf⟩ := gd_s hf
        obtain ⟨m_sightWhere_60, em_sightWhere_60, hf⟩ := nm_x hf
        refine sM_19 (I := (va_up I 13 m_sightWho_50)) X h60 em_sightWhere_60 dX8_seen_60 hP hS (fun H locs hP hS => ?_)
        refine lv_aload_n X.1 X.2.1 dX8_seen_61 rfl (lv_at hl 0 rfl) ?_
        refine lv_dup X.1 X.2.1 dX8_seen_62 rfl ?_
        refine gM_0_31 (F := F) X (v := (F 12)) rfl q_4_140 dX8_seen_63 hP ?_
        refine lv_iconst (v := 1) X.1 X.2.1 dX8_seen_66 (by decide) ?_
        refine lv_iadd X.1 X.2.1 dX8_seen_67 ?_
        refine nm_i hf (fun m_sights_68 hf => ?_)
        refine pM_0_31 X q_4_140 dX8_seen_68 hP hS (fun H locs hP hS => ?_)
        refine lv_aload_n X.1 X.2.1 dX8_seen_71 rfl (lv_at hl 0 rfl) ?_
        refine gM_0_31 (F := (va_up F 12 m_sights_68)) X (v := m_sights_68) rfl q_4_140 dX8_seen_72 hP ?_
        obtain ⟨e0, hf⟩ := o2 hf
        obtain ⟨e1, hf⟩ := o2 hf
        obtain ⟨e2, hf⟩ := o2 hf
        have e3 := o1 hf
        have EF : Ff = (va_up F 12 m_sights_68) := frm_eq (frm_up hfF (by decide)) (frm_c (e1).symm frm_n)
        have EI : If = (va_up (va_up I 13 m_sightWho_50) 14 m_sightWhere_60) := frm_eq (frm_up (frm_up hfI (by decide)) (by decide)) (frm_c (e2).symm (frm_c (e3).symm frm_n))
        exact ret_i X hS (by rw [EF, EI]; exact hP) e0 dX8_seen_75
      · have hf := it_s hf c35
        refine lv_bipush (v := (-4)) X.1 X.2.1 dX8_seen_38 (by decide) ?_
        obtain ⟨e0, hf⟩ := o2 hf
        obtain ⟨e1, hf⟩ := o2 hf
        obtain ⟨e2, hf⟩ := o2 hf
        have e3 := o1 hf
        have EF : Ff = F := frm_eq hfF (frm_c (e1).symm frm_n)
        have EI : If = I := frm_eq hfI (frm_c (e2).symm (frm_c (e3).symm frm_n))
        exact ret_i X hS (by rw [EF, EI]; exact hP) e0 dX8_seen_40
    · have hf := it_s hf c23
      exact t_X8_seen_b26 X F I  H locs ls hf hfF hfI hP hS (lv_sub hl [0] rfl)
set_option maxRecDepth 100000 in
theorem c_X8_seen {l : Launch} {D : va_G} {a : Nat → Nat} {kc : Nat → ClassId} (F : Nat → Int32) (G : Nat → Int64) (I : Nat → Nat → Int32) (J : Nat → Nat → Int64) (hAp : ∀ i j, i < 21 → j < 21 → a i = a j → i = j) (x1 : Int32) (x2 : Int32) {o0 : Int32} {o1 : Int32} {o2 : Nat → Int32} {o3 : Nat → Int32} (hf : p_X8_seen (F 12) (I 13) (I 14) x1 x2 = some (o0, o1, o2, o3)) : Ct 21 l yX8_seen cX8_seen 3 (some .int) rm_X8_seen D (tyM kc) a (wM a kc F G I J) [.ref (a 0), .int x1, .int x2] (Qi D (wM a kc (va_up F 12 o1) G (va_up (va_up I 13 o2) 14 o3) J) o0) :=
  Ct.of (by decide +kernel) hAp (Nat.le_of_ble_eq_true rfl) (fun p e s m args below meth c ls X hP hl => t_X8_seen_b0 X F I x1 x2 _ _ _ hf (frm_ul (fun k _ => rfl) (by decide)) (frm_ul (frm_ul (fun k _ => rfl) (by decide)) (by decide)) hP va_S.rf hl)
abbrev rm_X8_read : Room := { frames := 2, cells := 0, slots := 0, locals := 47 }
set_option maxHeartbeats 4000000 in
set_option maxRecDepth 100000 in
theorem t_X8_read_b103 {p : Program} {l : Launch} {e : Env} {s : State} {m : MethodId} {args : Array Value} {below : List Frame} {meth : Method} {c : Code} {D : va_G} {a : Nat → Nat} {kc : Nat → ClassId} (X : cx 21 p s m args meth c D (tyM kc) a cX8_read 4 RX8 (some .int)) {G : Nat → Int64} {J : Nat → Nat → Int64} {Ff : Nat → Int32} {If : Nat → Nat → Int32} {r : Int32} :
    ∀ (F : Nat → Int32) (I : Nat → Nat → Int32) (x2 : Int32) (H : Heap) (locs : List Loc) (ls : Array Slot), p_X8_read_b103 (F 0) (F 12) (I 0) (I 1) (I 2) (I 13) (I 14) x2 = some (r, (Ff 0), (Ff 12), (If 13), (If 14)) → (∀ k, k ∉ ([0, 12] : List Nat) → Ff k = F k) → (∀ k, k ∉ ([13, 14] : List Nat) → If k = I k) → va_P D vwCl (wM a kc F G I J) H → va_S (ad a 21 s.heap.size) s.heap H locs → lv_has ls 4 [(0, .ref (a 0)), (2, .int x2)] → W p l e rm_X8_read s m args below meth c H locs 0 0 (MQ below (Qi D (wM a kc Ff G If J) r (ad a 21 s.heap.size)) args s 0 0 (ad a 21 s.heap.size)) (F0 m 103 ls []) := by
  intro F I x2 H locs ls hf hfF hfI hP hS hl
  unfold p_X8_read_b103 at hf
  refine lv_iload_n X.1 X.2.1 dX8_read_103 rfl (lv_at hl 1 rfl) ?_
  obtain ⟨e0, hf⟩ := o2 hf
  obtain ⟨e1, hf⟩ := o2 hf
  obtain ⟨e2, hf⟩ := o2 hf
  obtain ⟨e3, hf⟩ := o2 hf
  have e4 := o1 hf
  have EF : Ff = F := frm_eq hfF (frm_c (e1).symm (frm_c (e2).symm frm_n))
  have EI : If = I := frm_eq hfI (frm_c (e3).symm (frm_c (e4).symm frm_n))
  exact ret_i X hS (by rw [EF, EI]; exact hP) e0 dX8_read_104
set_option maxHeartbeats 4000000 in
set_option maxRecDepth 100000 in
theorem t_X8_read_b98 {p : Program} {l : Launch} {e : Env} {s : State} {m : MethodId} {args : Array Value} {below : List Frame} {meth : Method} {c : Code} {D : va_G} {a : Nat → Nat} {kc : Nat → ClassId} (X : cx 21 p s m args meth c D (tyM kc) a cX8_read 4 RX8 (some .int)) {G : Nat → Int64} {J : Nat → Nat → Int64} {Ff : Nat → Int32} {If : Nat → Nat → Int32} {r : Int32} {K29 : Int32 → Int32 → (Nat → Int32) → (Nat → Int32) → (Nat → Int32) → (Nat → Int32) → (Nat → Int32) → Int32 → Int32 → Int32 → Option (Int32 × Int32 × Int32 × (Nat → Int32) × (Nat → Int32))} (kh29 : ∀ (F : Nat → Int32) (I : Nat → Nat → Int32) (x1 : Int32) (x2 : Int32) (x3 : Int32) (H : Heap) (locs : List Loc) (ls : Array Slot), K29 (F 0) (F 12) (I 0) (I 1) (I 2) (I 13) (I 14) x1 x2 x3 = some (r, (Ff 0), (Ff 12), (If 13), (If 14)) → (∀ k, k ∉ ([0, 12] : List Nat) → Ff k = F k) → (∀ k, k ∉ ([13, 14] : List Nat) → If k = I k) → va_P D vwCl (wM a kc F G I J) H → va_S (ad a 21 s.heap.size) s.heap H locs → lv_has ls 4 [(0, .ref (a 0)), (1, .int x1), (2, .int x2), (3, .int x3)] → W p l e rm_X8_read s m args below meth c H locs 0 0 (MQ below (Qi D (wM a kc Ff G If J) r (ad a 21 s.heap.size)) args s 0 0 (ad a 21 s.heap.size)) (F0 m 29 ls [])) :
    ∀ (F : Nat → Int32) (I : Nat → Nat → Int32) (t0 : Int32) (t1 : Int32) (x1 : Int32) (x3 : Int32) (H : Heap) (locs : List Loc) (ls : Array Slot), p_X8_read_b98 K29 (F 0) (F 12) (I 0) (I 1) (I 2) (I 13) (I 14) t0 t1 x1 x3 = some (r, (Ff 0), (Ff 12), (If 13), (If 14)) → (∀ k, k ∉ ([0, 12] : List Nat) → Ff k = F k) → (∀ k, k ∉ ([13, 14] : List Nat) → If k = I k) → va_P D vwCl (wM a kc F G I J) H → va_S (ad a 21 s.heap.size) s.heap H locs → lv_has ls 4 [(0, .ref (a 0)), (1, .int x1), (3, .int x3)] → W p l e rm_X8_read s m args below meth c H locs 0 0 (MQ below (Qi D (wM a kc Ff G If J) r (ad a 21 s.heap.size)) args s 0 0 (ad a 21 s.heap.size)) (F0 m 98 ls [.int t1, .int t0]) := by
  intro F I t0 t1 x1 x3 H locs ls hf hfF hfI hP hS hl
  unfold p_X8_read_b98 at hf
  refine lv_iadd X.1 X.2.1 dX8_read_98 ?_
  refine nm_i hf (fun x99 hf => ?_)
  refine lv_istore_n (lv' := [(2, .int x99), (0, .ref (a 0)), (1, .int x1), (3, .int x3)]) X.1 X.2.1 dX8_read_99 rfl hl (by decide) rfl (fun ls hl => ?_)
  refine lv_goto (tgt := 29) X.1 X.2.1 dX8_read_100 (by decide) ?_
  exact kh29 F I x1 x99 x3 H locs ls hf hfF hfI hP hS (lv_sub hl [1, 2, 0, 3] rfl)
set_option maxHeartbeats 4000000 in
set_option maxRecDepth 100000 in
theorem t_X8_read_b87 {p : Program} {l : Launch} {e : Env} {s : State} {m : MethodId} {args : Array Value} {below : List Frame} {meth : Method} {c : Code} {D : va_G} {a : Nat → Nat} {kc : Nat → ClassId} (X : cx 21 p s m args meth c D (tyM kc) a cX8_read 4 RX8 (some .int)) {G : Nat → Int64} {J : Nat → Nat → Int64} {Ff : Nat → Int32} {If : Nat → Nat → Int32} {r : Int32} {K29 : Int32 → Int32 → (Nat → Int32) → (Nat → Int32) → (Nat → Int32) → (Nat → Int32) → (Nat → Int32) → Int32 → Int32 → Int32 → Option (Int32 × Int32 × Int32 × (Nat → Int32) × (Nat → Int32))} (kh29 : ∀ (F : Nat → Int32) (I : Nat → Nat → Int32) (x1 : Int32) (x2 : Int32) (x3 : Int32) (H : Heap) (locs : List Loc) (ls : Array Slot), K29 (F 0) (F 12) (I 0) (I 1) (I 2) (I 13) (I 14) x1 x2 x3 = some (r, (Ff 0), (Ff 12), (If 13), (If 14)) → (∀ k, k ∉ ([0, 12] : List Nat) → Ff k = F k) → (∀ k, k ∉ ([13, 14] : List Nat) → If k = I k) → va_P D vwCl (wM a kc F G I J) H → va_S (ad a 21 s.heap.size) s.heap H locs → lv_has ls 4 [(0, .ref (a 0)), (1, .int x1), (2, .int x2), (3, .int x3)] → W p l e rm_X8_read s m args below meth c H locs 0 0 (MQ below (Qi D (wM a kc Ff G If J) r (ad a 21 s.heap.size)) args s 0 0 (ad a 21 s.heap.size)) (F0 m 29 ls [])) :
    ∀ (F : Nat → Int32) (I : Nat → Nat → Int32) (t0 : Int32) (x1 : Int32) (x2 : Int32) (H : Heap) (locs : List Loc) (ls : Array Slot), p_X8_read_b87 K29 (F 0) (F 12) (I 0) (I 1) (I 2) (I 13) (I 14) t0 x1 x2 = some (r, (Ff 0), (Ff 12), (If 13), (If 14)) → (∀ k, k ∉ ([0, 12] : List Nat) → Ff k = F k) → (∀ k, k ∉ ([13, 14] : List Nat) → If k = I k) → va_P D vwCl (wM a kc F G I J) H → va_S (ad a 21 s.heap.size) s.heap H locs → lv_has ls 4 [(0, .ref (a 0)), (1, .int x1), (2, .int x2)] → W p l e rm_X8_read s m args below meth c H locs 0 0 (MQ below (Qi D (wM a kc Ff G If J) r (ad a 21 s.heap.size)) args s 0 0 (ad a 21 s.heap.size)) (F0 m 87 ls [.int t0]) := by
  intro F I t0 x1 x2 H locs ls hf hfF hfI hP hS hl
  unfold p_X8_read_b87 at hf
  refine lv_istore_n (lv' := [(3, .int t0), (0, .ref (a 0)), (1, .int x1), (2, .int x2)]) X.1 X.2.1 dX8_read_87 rfl hl (by decide) rfl (fun ls hl => ?_)
  refine lv_iload_n X.1 X.2.1 dX8_read_88 rfl (lv_at hl 3 rfl) ?_
  refine lv_iload_n X.1 X.2.1 dX8_read_89 rfl (lv_at hl 0 rfl) ?_
  refine lv_if_eq (tgt := 97) X.1 X.2.1 dX8_read_90 (by decide) (fun c90 => ?_) (fun c90 => ?_)
  · have hf := it_s hf c90
    refine lv_iconst (v := 0) X.1 X.2.1 dX8_read_97 (by decide) ?_
    exact t_X8_read_b98 X kh29 F I x2 0 x1 t0 H locs ls hf hfF hfI hP hS (lv_sub hl [1, 2, 0] rfl)
  · have hf := ie_s hf c90
    refine lv_iconst (v := 1) X.1 X.2.1 dX8_read_93 (by decide) ?_
    refine lv_goto (tgt := 98) X.1 X.2.1 dX8_read_94 (by decide) ?_
    exact t_X8_read_b98 X kh29 F I x2 1 x1 t0 H locs ls hf hfF hfI hP hS (lv_sub hl [1, 2, 0] rfl)
set_option maxHeartbeats 4000000 in
set_option maxRecDepth 100000 in
theorem t_X8_read_b29x {p : Program} {l : Launch} {e : Env} {s : State} {m : MethodId} {args : Array Value} {below : List Frame} {meth : Method} {c : Code} {D : va_G} {a : Nat → Nat} {kc : Nat → ClassId} (X : cx 21 p s m args meth c D (tyM kc) a cX8_read 4 RX8 (some .int)) {G : Nat → Int64} {J : Nat → Nat → Int64} {Ff : Nat → Int32} {If : Nat → Nat → Int32} {r : Int32} {K29 : Int32 → Int32 → (Nat → Int32) → (Nat → Int32) → (Nat → Int32) → (Nat → Int32) → (Nat → Int32) → Int32 → Int32 → Int32 → Option (Int32 × Int32 × Int32 × (Nat → Int32) × (Nat → Int32))} (kh29 : ∀ (F : Nat → Int32) (I : Nat → Nat → Int32) (x1 : Int32) (x2 : Int32) (x3 : Int32) (H : Heap) (locs : List Loc) (ls : Array Slot), K29 (F 0) (F 12) (I 0) (I 1) (I 2) (I 13) (I 14) x1 x2 x3 = some (r, (Ff 0), (Ff 12), (If 13), (If 14)) → (∀ k, k ∉ ([0, 12] : List Nat) → Ff k = F k) → (∀ k, k ∉ ([13, 14] : List Nat) → If k = I k) → va_P D vwCl (wM a kc F G I J) H → va_S (ad a 21 s.heap.size) s.heap H locs → lv_has ls 4 [(0, .ref (a 0)), (1, .int x1), (2, .int x2), (3, .int x3)] → W p l e rm_X8_read s m args below meth c H locs 0 0 (MQ below (Qi D (wM a kc Ff G If J) r (ad a 21 s.heap.size)) args s 0 0 (ad a 21 s.heap.size)) (F0 m 29 ls [])) :
    ∀ (F : Nat → Int32) (I : Nat → Nat → Int32) (x1 : Int32) (x2 : Int32) (x3 : Int32) (H : Heap) (locs : List Loc) (ls : Array Slot), p_X8_read_b29x K29 (F 0) (F 12) (I 0) (I 1) (I 2) (I 13) (I 14) x1 x2 x3 = some (r, (Ff 0), (Ff 12), (If 13), (If 14)) → (∀ k, k ∉ ([0, 12] : List Nat) → Ff k = F k) → (∀ k, k ∉ ([13, 14] : List Nat) → If k = I k) → va_P D vwCl (wM a kc F G I J) H → va_S (ad a 21 s.heap.size) s.heap H locs → lv_has ls 4 [(0, .ref (a 0)), (1, .int x1), (2, .int x2), (3, .int x3)] → W p l e rm_X8_read s m args below meth c H locs 0 0 (MQ below (Qi D (wM a kc Ff G If J) r (ad a 21 s.heap.size)) args s 0 0 (ad a 21 s.heap.size)) (F0 m 29 ls []) := by
  intro F I x1 x2 x3 H locs ls hf hfF hfI hP hS hl
  unfold p_X8_read_b29x at hf
  refine lv_iload_n X.1 X.2.1 dX8_read_29 rfl (lv_at hl 3 rfl) ?_
  refine lv_if_eq (tgt := 103) X.1 X.2.1 dX8_read_30 (by decide) (fun c30 => ?_) (fun c30 => ?_)
  · have hf := it_s hf c30
    exact t_X8_read_b103 X F I x2 H locs ls hf hfF hfI hP hS (lv_sub hl [0, 2] rfl)
  · have hf := ie_s hf c30
    refine lv_iconst (v := 2) X.1 X.2.1 dX8_read_33 (by decide) ?_
    refine lv_iload_n X.1 X.2.1 dX8_read_34 rfl (lv_at hl 2 rfl) ?_
    refine lv_imul X.1 X.2.1 dX8_read_35 ?_
    refine lv_iconst (v := 2) X.1 X.2.1 dX8_read_36 (by decide) ?_
    refine lv_iadd X.1 X.2.1 dX8_read_37 ?_
    refine lv_aload_n X.1 X.2.1 dX8_read_38 rfl (lv_at hl 0 rfl) ?_
    refine gM_0_1 X q_4_110 dX8_read_39 hP ?_
    refine lv_iload_n X.1 X.2.1 dX8_read_42 rfl (lv_at hl 1 rfl) ?_
    obtain ⟨h43, hf⟩ := gd_s hf
    refine lM_2 (I := I) X (f := (I 1)) rfl h43 dX8_read_43 hP ?_
    refine lv_icmp_gt (tgt := 103) X.1 X.2.1 dX8_read_44 (by decide) (fun c44 => ?_) (fun c44 => ?_)
    · have hf := it_s hf c44
      exact t_X8_read_b103 X F I x2 H locs ls hf hfF hfI hP hS (lv_sub hl [0, 2] rfl)
    · have hf := ie_s hf c44
      refine lv_aload_n X.1 X.2.1 dX8_read_47 rfl (lv_at hl 0 rfl) ?_
      refine lv_aload_n X.1 X.2.1 dX8_read_48 rfl (lv_at hl 0 rfl) ?_
      refine gM_0_2 X q_4_111 dX8_read_49 hP ?_
      refine lv_bipush (v := 60) X.1 X.2.1 dX8_read_52 (by decide) ?_
      refine lv_iload_n X.1 X.2.1 dX8_read_54 rfl (lv_at hl 1 rfl) ?_
      refine lv_imul X.1 X.2.1 dX8_read_55 ?_
      refine lv_iconst (v := 2) X.1 X.2.1 dX8_read_56 (by decide) ?_
      refine lv_iload_n X.1 X.2.1 dX8_read_57 rfl (lv_at hl 2 rfl) ?_
      refine lv_imul X.1 X.2.1 dX8_read_58 ?_
      refine lv_iadd X.1 X.2.1 dX8_read_59 ?_
      obtain ⟨h60, hf⟩ := gd_s hf
      refine lM_3 (I := I) X (f := (I 2)) rfl h60 dX8_read_60 hP ?_
      refine lv_aload_n X.1 X.2.1 dX8_read_61 rfl (lv_at hl 0 rfl) ?_
      refine gM_0_2 X q_4_111 dX8_read_62 hP ?_
      refine lv_bipush (v := 60) X.1 X.2.1 dX8_read_65 (by decide) ?_
      refine lv_iload_n X.1 X.2.1 dX8_read_67 rfl (lv_at hl 1 rfl) ?_
      refine lv_imul X.1 X.2.1 dX8_read_68 ?_
      refine lv_iconst (v := 2) X.1 X.2.1 dX8_read_69 (by decide) ?_
      refine lv_iload_n X.1 X.2.1 dX8_read_70 rfl (lv_at hl 2 rfl) ?_
      refine lv_imul X.1 X.2.1 dX8_read_71 ?_
      refine lv_iadd X.1 X.2.1 dX8_read_72 ?_
      refine lv_iconst (v := 1) X.1 X.2.1 dX8_read_73 (by decide) ?_
      refine lv_iadd X.1 X.2.1 dX8_read_74 ?_
      obtain ⟨h75, hf⟩ := gd_s hf
      refine lM_3 (I := I) X (f := (I 2)) rfl h75 dX8_read_75 hP ?_
      obtain ⟨r76, m_sights_76, m_sightWho_76, m_sightWhere_76, ho, hf⟩ := b4_s hf
      refine call_vi (rest := []) X (c_X8_seen F G I J X.2.2.2.2.2.2.2.1 ((I 2) ((60 * x1) + (2 * x2)).toNatClampNeg) ((I 2) (((60 * x1) + (2 * x2)) + 1).toNatClampNeg) ho) q_6_32 q_6_24 q_6_25 q_1_10 q_6_26 ok_X8_seen rfl 0 rfl rfl ⟨Nat.le_of_ble_eq_true rfl, Nat.le_of_ble_eq_true rfl⟩ rfl rfl hl.1 rfl (Nat.le_of_ble_eq_true rfl) dX8_read_76 hP hS (fun H locs hP hS => ?_)
      refine lv_if_lt (tgt := 86) X.1 X.2.1 dX8_read_79 (by decide) (fun c79 => ?_) (fun c79 => ?_)
      · have hf := it_s hf c79
        refine lv_iconst (v := 0) X.1 X.2.1 dX8_read_86 (by decide) ?_
        exact t_X8_read_b87 X kh29 (va_up F 12 m_sights_76) (va_up (va_up I 13 m_sightWho_76) 14 m_sightWhere_76) 0 x1 x2 H locs ls hf (frm_up hfF (by decide)) (frm_up (frm_up hfI (by decide)) (by decide)) hP hS (lv_sub hl [0, 1, 2] rfl)
      · have hf := ie_s hf c79
        refine lv_iconst (v := 1) X.1 X.2.1 dX8_read_82 (by decide) ?_
        refine lv_goto (tgt := 87) X.1 X.2.1 dX8_read_83 (by decide) ?_
        exact t_X8_read_b87 X kh29 (va_up F 12 m_sights_76) (va_up (va_up I 13 m_sightWho_76) 14 m_sightWhere_76) 1 x1 x2 H locs ls hf (frm_up hfF (by decide)) (frm_up (frm_up hfI (by decide)) (by decide)) hP hS (lv_sub hl [0, 1, 2] rfl)
set_option maxRecDepth 100000 in
theorem t_X8_read_b29 {p : Program} {l : Launch} {e : Env} {s : State} {m : MethodId} {args : Array Value} {below : List Frame} {meth : Method} {c : Code} {D : va_G} {a : Nat → Nat} {kc : Nat → ClassId} (X : cx 21 p s m args meth c D (tyM kc) a cX8_read 4 RX8 (some .int)) {G : Nat → Int64} {J : Nat → Nat → Int64} {Ff : Nat → Int32} {If : Nat → Nat → Int32} {r : Int32} :
    ∀ (n : Nat) (F : Nat → Int32) (I : Nat → Nat → Int32) (x1 : Int32) (x2 : Int32) (x3 : Int32) (H : Heap) (locs : List Loc) (ls : Array Slot), p_X8_read_b29 n (F 0) (F 12) (I 0) (I 1) (I 2) (I 13) (I 14) x1 x2 x3 = some (r, (Ff 0), (Ff 12), (If 13), (If 14)) → (∀ k, k ∉ ([0, 12] : List Nat) → Ff k = F k) → (∀ k, k ∉ ([13, 14] : List Nat) → If k = I k) → va_P D vwCl (wM a kc F G I J) H → va_S (ad a 21 s.heap.size) s.heap H locs → lv_has ls 4 [(0, .ref (a 0)), (1, .int x1), (2, .int x2), (3, .int x3)] → W p l e rm_X8_read s m args below meth c H locs 0 0 (MQ below (Qi D (wM a kc Ff G If J) r (ad a 21 s.heap.size)) args s 0 0 (ad a 21 s.heap.size)) (F0 m 29 ls []) := by
  intro n
  induction n with
  | zero => intro F I x1 x2 x3 H locs ls hf hfF hfI hP hS hl; exact (nos hf).elim
  | succ n ih => exact t_X8_read_b29x X ih
set_option maxHeartbeats 4000000 in
set_option maxRecDepth 100000 in
theorem t_X8_read_b0 {p : Program} {l : Launch} {e : Env} {s : State} {m : MethodId} {args : Array Value} {below : List Frame} {meth : Method} {c : Code} {D : va_G} {a : Nat → Nat} {kc : Nat → ClassId} (X : cx 21 p s m args meth c D (tyM kc) a cX8_read 4 RX8 (some .int)) {G : Nat → Int64} {J : Nat → Nat → Int64} {Ff : Nat → Int32} {If : Nat → Nat → Int32} {r : Int32} :
    ∀ (F : Nat → Int32) (I : Nat → Nat → Int32) (x1 : Int32) (H : Heap) (locs : List Loc) (ls : Array Slot), p_X8_read_b0 (F 0) (F 12) (I 0) (I 1) (I 2) (I 13) (I 14) x1 = some (r, (Ff 0), (Ff 12), (If 13), (If 14)) → (∀ k, k ∉ ([0, 12] : List Nat) → Ff k = F k) → (∀ k, k ∉ ([13, 14] : List Nat) → If k = I k) → va_P D vwCl (wM a kc F G I J) H → va_S (ad a 21 s.heap.size) s.heap H locs → lv_has ls 4 [(0, .ref (a 0)), (1, .int x1)] → W p l e rm_X8_read s m args below meth c H locs 0 0 (MQ below (Qi D (wM a kc Ff G If J) r (ad a 21 s.heap.size)) args s 0 0 (ad a 21 s.heap.size)) (F0 m 0 ls []) := by
  intro F I x1 H locs ls hf hfF hfI hP hS hl
  unfold p_X8_read_b0 at hf
  refine lv_iload_n X.1 X.2.1 dX8_read_0 rfl (lv_at hl 1 rfl) ?_
  obtain ⟨r1, ho, hf⟩ := b1_s hf
  refine call_si (rest := []) X (c_X8_isSheet x1 ho) q_4_222 q_4_223 q_1_10 q_4_224 ok_X8_isSheet rfl ⟨Nat.le_of_ble_eq_true rfl, Nat.le_of_ble_eq_true rfl⟩ rfl rfl hl.1 rfl (Nat.le_of_ble_eq_true rfl) dX8_read_1 hP hS (fun H locs hP hS => ?_)
  refine lv_if_ne (tgt := 10) X.1 X.2.1 dX8_read_4 (by decide) (fun c4 => ?_) (fun c4 => ?_)
  · have hf := ie_s hf c4
    refine lv_aload_n X.1 X.2.1 dX8_read_10 rfl (lv_at hl 0 rfl) ?_
    refine gM_0_0 X q_4_109 dX8_read_11 hP ?_
    refine lv_iload_n X.1 X.2.1 dX8_read_14 rfl (lv_at hl 1 rfl) ?_
    obtain ⟨h15, hf⟩ := gd_s hf
    refine lM_1 (I := I) X (f := (I 0)) rfl h15 dX8_read_15 hP ?_
    refine lv_if_ge (tgt := 25) X.1 X.2.1 dX8_read_16 (by decide) (fun c16 => ?_) (fun c16 => ?_)
    · have hf := it_s hf c16
      refine lv_iconst (v := 0) X.1 X.2.1 dX8_read_25 (by decide) ?_
      refine lv_istore_n (lv' := [(2, .int 0), (0, .ref (a 0)), (1, .int x1)]) X.1 X.2.1 dX8_read_26 rfl hl (by decide) rfl (fun ls hl => ?_)
      refine lv_iconst (v := 1) X.1 X.2.1 dX8_read_27 (by decide) ?_
      refine lv_istore_n (lv' := [(3, .int 1), (2, .int 0), (0, .ref (a 0)), (1, .int x1)]) X.1 X.2.1 dX8_read_28 rfl hl (by decide) rfl (fun ls hl => ?_)
      exact t_X8_read_b29 X 4096 F I x1 0 1 H locs ls hf hfF hfI hP hS (lv_sub hl [2, 3, 1, 0] rfl)
    · have hf := ie_s hf c16
      refine lv_aload_n X.1 X.2.1 dX8_read_19 rfl (lv_at hl 0 rfl) ?_
      refine lv_iconst (v := 1) X.1 X.2.1 dX8_read_20 (by decide) ?_
      obtain ⟨r21, m_latest_21, ho, hf⟩ := b2_s hf
      refine call_vi (rest := []) X (c_X8_met F G I J X.2.2.2.2.2.2.2.1 1 ho) q_4_230 q_4_232 qs_yX8_met q_1_10 q_4_233 ok_X8_met rfl 0 rfl rfl ⟨Nat.le_of_ble_eq_true rfl, Nat.le_of_ble_eq_true rfl⟩ rfl rfl hl.1 rfl (Nat.le_of_ble_eq_true rfl) dX8_read_21 hP hS (fun H locs hP hS => ?_)
      obtain ⟨e0, hf⟩ := o2 hf
      obtain ⟨e1, hf⟩ := o2 hf
      obtain ⟨e2, hf⟩ := o2 hf
      obtain ⟨e3, hf⟩ := o2 hf
      have e4 := o1 hf
      have EF : Ff = (va_up F 0 m_latest_21) := frm_eq (frm_up hfF (by decide)) (frm_c (e1).symm (frm_c (e2).symm frm_n))
      have EI : If = I := frm_eq hfI (frm_c (e3).symm (frm_c (e4).symm frm_n))
      exact ret_i X hS (by rw [EF, EI]; exact hP) e0 dX8_read_24
  · have hf := it_s hf c4
    refine lv_bipush (v := (-2)) X.1 X.2.1 dX8_read_7 (by decide) ?_
    obtain ⟨e0, hf⟩ := o2 hf
    obtain ⟨e1, hf⟩ := o2 hf
    obtain ⟨e2, hf⟩ := o2 hf
    obtain ⟨e3, hf⟩ := o2 hf
    have e4 := o1 hf
    have EF : Ff = F := frm_eq hfF (frm_c (e1).symm (frm_c (e2).symm frm_n))
    have EI : If = I := frm_eq hfI (frm_c (e3).symm (frm_c (e4).symm frm_n))
    exact ret_i X hS (by rw [EF, EI]; exact hP) e0 dX8_read_9
set_option maxRecDepth 100000 in
theorem c_X8_read {l : Launch} {D : va_G} {a : Nat → Nat} {kc : Nat → ClassId} (F : Nat → Int32) (G : Nat → Int64) (I : Nat → Nat → Int32) (J : Nat → Nat → Int64) (hAp : ∀ i j, i < 21 → j < 21 → a i = a j → i = j) (x1 : Int32) {o0 : Int32} {o1 : Int32} {o2 : Int32} {o3 : Nat → Int32} {o4 : Nat → Int32} (hf : p_X8_read (F 0) (F 12) (I 0) (I 1) (I 2) (I 13) (I 14) x1 = some (o0, o1, o2, o3, o4)) : Ct 21 l yX8_read cX8_read 4 (some .int) rm_X8_read D (tyM kc) a (wM a kc F G I J) [.ref (a 0), .int x1] (Qi D (wM a kc (va_up (va_up F 0 o1) 12 o2) G (va_up (va_up I 13 o3) 14 o4) J) o0) :=
  Ct.of (by decide +kernel) hAp (Nat.le_of_ble_eq_true rfl) (fun p e s m args below meth c ls X hP hl => t_X8_read_b0 X F I x1 _ _ _ hf (frm_ul (frm_ul (fun k _ => rfl) (by decide)) (by decide)) (frm_ul (frm_ul (fun k _ => rfl) (by decide)) (by decide)) hP va_S.rf hl)
