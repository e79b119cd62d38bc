abbrev rm_X6_weightAtLast : Room := { frames := 1, cells := 0, slots := 0, locals := 20 }
set_option maxHeartbeats 4000000 in
set_option maxRecDepth 100000 in
theorem t_X6_weightAtLast_b46 {p : Program} {l : Launch} {e : Env} {s : State} {m : MethodId} {args : Array Value} {below : List Frame} {meth : Method} {c : Code} {D : va_G} {a : Nat → Nat} {kc : Nat → ClassId} (X : cx 44 p s m args meth c D (tyC kc) a cX6_weightAtLast 5 RX6 (some .long)) {F : Nat → Int32} {G : Nat → Int64} {I : Nat → Nat → Int32} {J : Nat → Nat → Int64} {Z : Nat → Nat → Nat → Int32}  {r : Int64} {K13 : Int32 → Int32 → (Nat → Int64) → Int64 → Int32 → Int32 → Option (Int64)} (kh13 : ∀  (x1 : Int64) (x3 : Int32) (x4 : Int32) (H : Heap) (locs : List Loc) (ls : Array Slot), K13 (F 0) (F 2) (J 8) x1 x3 x4 = some r → va_P D vwCl (wC a kc F G I J Z) H → va_S (ad a 44 s.heap.size) s.heap H locs → lv_has ls 5 [(0, .ref (a 22)), (1, .long x1), (3, .int x3), (4, .int x4)] → W p l e rm_X6_weightAtLast s m args below meth c H locs 0 0 (MQ below (Ql D (wC a kc F G I J Z) r (ad a 44 s.heap.size)) args s 0 0 (ad a 44 s.heap.size)) (F0 m 13 ls [])) :
    ∀  (t0 : Int64) (t1 : Int64) (x3 : Int32) (x4 : Int32) (H : Heap) (locs : List Loc) (ls : Array Slot), p_X6_weightAtLast_b46 K13 (F 0) (F 2) (J 8) t0 t1 x3 x4 = some r → va_P D vwCl (wC a kc F G I J Z) H → va_S (ad a 44 s.heap.size) s.heap H locs → lv_has ls 5 [(0, .ref (a 22)), (3, .int x3), (4, .int x4)] → W p l e rm_X6_weightAtLast s m args below meth c H locs 0 0 (MQ below (Ql D (wC a kc F G I J Z) r (ad a 44 s.heap.size)) args s 0 0 (ad a 44 s.heap.size)) (F0 m 46 ls [.long t1, .long t0]) := by
  intro  t0 t1 x3 x4 H locs ls hf  hP hS hl
  unfold p_X6_weightAtLast_b46 at hf
  refine lv_ladd X.1 X.2.1 dX6_weightAtLast_46 ?_
  refine nm_l hf (fun x47 hf => ?_)
  refine lv_lstore_n (lv' := [(1, .long x47), (0, .ref (a 22)), (3, .int x3), (4, .int x4)]) X.1 X.2.1 dX6_weightAtLast_47 rfl hl (by decide) rfl (fun ls hl => ?_)
  obtain ⟨x48, ex48, hf⟩ := nm_x hf
  refine lv_iinc (v := x48) (lv' := [(4, .int x48), (1, .long x47), (0, .ref (a 22)), (3, .int x3)]) X.1 X.2.1 dX6_weightAtLast_48 hl (k := 3) rfl ex48 (by decide) rfl (fun ls hl => ?_)
  refine lv_goto (tgt := 13) X.1 X.2.1 dX6_weightAtLast_51 (by decide) ?_
  exact kh13  x47 x3 x48 H locs ls hf  hP hS (lv_sub hl [2, 1, 3, 0] rfl)
set_option maxHeartbeats 4000000 in
set_option maxRecDepth 100000 in
theorem t_X6_weightAtLast_b13x {p : Program} {l : Launch} {e : Env} {s : State} {m : MethodId} {args : Array Value} {below : List Frame} {meth : Method} {c : Code} {D : va_G} {a : Nat → Nat} {kc : Nat → ClassId} (X : cx 44 p s m args meth c D (tyC kc) a cX6_weightAtLast 5 RX6 (some .long)) {F : Nat → Int32} {G : Nat → Int64} {I : Nat → Nat → Int32} {J : Nat → Nat → Int64} {Z : Nat → Nat → Nat → Int32}  {r : Int64} {K13 : Int32 → Int32 → (Nat → Int64) → Int64 → Int32 → Int32 → Option (Int64)} (kh13 : ∀  (x1 : Int64) (x3 : Int32) (x4 : Int32) (H : Heap) (locs : List Loc) (ls : Array Slot), K13 (F 0) (F 2) (J 8) x1 x3 x4 = some r → va_P D vwCl (wC a kc F G I J Z) H → va_S (ad a 44 s.heap.size) s.heap H locs → lv_has ls 5 [(0, .ref (a 22)), (1, .long x1), (3, .int x3), (4, .int x4)] → W p l e rm_X6_weightAtLast s m args below meth c H locs 0 0 (MQ below (Ql D (wC a kc F G I J Z) r (ad a 44 s.heap.size)) args s 0 0 (ad a 44 s.heap.size)) (F0 m 13 ls [])) :
    ∀  (x1 : Int64) (x3 : Int32) (x4 : Int32) (H : Heap) (locs : List Loc) (ls : Array Slot), p_X6_weightAtLast_b13x K13 (F 0) (F 2) (J 8) x1 x3 x4 = some r → va_P D vwCl (wC a kc F G I J Z) H → va_S (ad a 44 s.heap.size) s.heap H locs → lv_has ls 5 [(0, .ref (a 22)), (1, .long x1), (3, .int x3), (4, .int x4)] → W p l e rm_X6_weightAtLast s m args below meth c H locs 0 0 (MQ below (Ql D (wC a kc F G I J Z) r (ad a 44 s.heap.size)) args s 0 0 (ad a 44 s.heap.size)) (F0 m 13 ls []) := by
  intro  x1 x3 x4 H locs ls hf  hP hS hl
  unfold p_X6_weightAtLast_b13x at hf
  refine lv_iload X.1 X.2.1 dX6_weightAtLast_13 (lv_at hl 3 rfl) ?_
  refine lv_iload_n X.1 X.2.1 dX6_weightAtLast_15 rfl (lv_at hl 2 rfl) ?_
  refine lv_icmp_gt (tgt := 54) X.1 X.2.1 dX6_weightAtLast_16 (by decide) (fun c16 => ?_) (fun c16 => ?_)
  · have hf := it_s hf c16
    refine lv_lload_n X.1 X.2.1 dX6_weightAtLast_54 rfl (lv_at hl 1 rfl) ?_
    have e0 := o1 hf
    exact ret_l X hS hP e0 dX6_weightAtLast_55
  · have hf := ie_s hf c16
    refine lv_lload_n X.1 X.2.1 dX6_weightAtLast_19 rfl (lv_at hl 1 rfl) ?_
    refine lv_iload X.1 X.2.1 dX6_weightAtLast_20 (lv_at hl 3 rfl) ?_
    obtain ⟨r22, ho, hf⟩ := b1_s hf
    refine call_si (rest := [.long x1]) X (c_J6_bitCount_0f7a4 x4 ho) q_3_171 q_2_164 q_1_11 q_2_165 ok_J6_bitCount_0f7a4 rfl ⟨Nat.le_of_ble_eq_true rfl, Nat.le_of_ble_eq_true rfl⟩ rfl rfl hl.1 rfl (Nat.le_of_ble_eq_true rfl) dX6_weightAtLast_22 hP hS (fun H locs hP hS => ?_)
    refine lv_aload_n X.1 X.2.1 dX6_weightAtLast_25 rfl (lv_at hl 0 rfl) ?_
    refine gC_22_5 X q_1_207 dX6_weightAtLast_26 hP ?_
    refine gC_0_10 (F := F) X (v := (F 2)) rfl q_1_91 dX6_weightAtLast_29 hP ?_
    refine lv_icmp_ne (tgt := 45) X.1 X.2.1 dX6_weightAtLast_32 (by decide) (fun c32 => ?_) (fun c32 => ?_)
    · have hf := ie_s hf c32
      refine lv_lconst (v := 0) X.1 X.2.1 dX6_weightAtLast_45 (by decide) ?_
      exact t_X6_weightAtLast_b46 X kh13  x1 0 x3 x4 H locs ls hf  hP hS (lv_sub hl [0, 2, 3] rfl)
    · have hf := it_s hf c32
      refine lv_aload_n X.1 X.2.1 dX6_weightAtLast_35 rfl (lv_at hl 0 rfl) ?_
      refine gC_22_11 X q_1_213 dX6_weightAtLast_36 hP ?_
      refine lv_iload X.1 X.2.1 dX6_weightAtLast_39 (lv_at hl 3 rfl) ?_
      obtain ⟨h41, hf⟩ := gd_s hf
      refine lC_29 (J := J) X (f := (J 8)) rfl h41 dX6_weightAtLast_41 hP ?_
      refine lv_goto (tgt := 46) X.1 X.2.1 dX6_weightAtLast_42 (by decide) ?_
      exact t_X6_weightAtLast_b46 X kh13  x1 ((J 8) x4.toNatClampNeg) x3 x4 H locs ls hf  hP hS (lv_sub hl [0, 2, 3] rfl)
set_option maxRecDepth 100000 in
theorem t_X6_weightAtLast_b13 {p : Program} {l : Launch} {e : Env} {s : State} {m : MethodId} {args : Array Value} {below : List Frame} {meth : Method} {c : Code} {D : va_G} {a : Nat → Nat} {kc : Nat → ClassId} (X : cx 44 p s m args meth c D (tyC kc) a cX6_weightAtLast 5 RX6 (some .long)) {F : Nat → Int32} {G : Nat → Int64} {I : Nat → Nat → Int32} {J : Nat → Nat → Int64} {Z : Nat → Nat → Nat → Int32}  {r : Int64} :
    ∀ (n : Nat)  (x1 : Int64) (x3 : Int32) (x4 : Int32) (H : Heap) (locs : List Loc) (ls : Array Slot), p_X6_weightAtLast_b13 n (F 0) (F 2) (J 8) x1 x3 x4 = some r → va_P D vwCl (wC a kc F G I J Z) H → va_S (ad a 44 s.heap.size) s.heap H locs → lv_has ls 5 [(0, .ref (a 22)), (1, .long x1), (3, .int x3), (4, .int x4)] → W p l e rm_X6_weightAtLast s m args below meth c H locs 0 0 (MQ below (Ql D (wC a kc F G I J Z) r (ad a 44 s.heap.size)) args s 0 0 (ad a 44 s.heap.size)) (F0 m 13 ls []) := by
  intro n
  induction n with
  | zero => intro  x1 x3 x4 H locs ls hf  hP hS hl; exact (nos hf).elim
  | succ n ih => exact t_X6_weightAtLast_b13x X ih
set_option maxHeartbeats 4000000 in
set_option maxRecDepth 100000 in
theorem t_X6_weightAtLast_b0 {p : Program} {l : Launch} {e : Env} {s : State} {m : MethodId} {args : Array Value} {below : List Frame} {meth : Method} {c : Code} {D : va_G} {a : Nat → Nat} {kc : Nat → ClassId} (X : cx 44 p s m args meth c D (tyC kc) a cX6_weightAtLast 5 RX6 (some .long)) {F : Nat → Int32} {G : Nat → Int64} {I : Nat → Nat → Int32} {J : Nat → Nat → Int64} {Z : Nat → Nat → Nat → Int32}  {r : Int64} :
    ∀   (H : Heap) (locs : List Loc) (ls : Array Slot), p_X6_weightAtLast_b0 (F 0) (F 2) (J 8)  = some r → va_P D vwCl (wC a kc F G I J Z) H → va_S (ad a 44 s.heap.size) s.heap H locs → lv_has ls 5 [(0, .ref (a 22))] → W p l e rm_X6_weightAtLast s m args below meth c H locs 0 0 (MQ below (Ql D (wC a kc F G I J Z) r (ad a 44 s.heap.size)) args s 0 0 (ad a 44 s.heap.size)) (F0 m 0 ls []) := by
  intro   H locs ls hf  hP hS hl
  unfold p_X6_weightAtLast_b0 at hf
  refine lv_lconst (v := 0) X.1 X.2.1 dX6_weightAtLast_0 (by decide) ?_
  refine lv_lstore_n (lv' := [(1, .long 0), (0, .ref (a 22))]) X.1 X.2.1 dX6_weightAtLast_1 rfl hl (by decide) rfl (fun ls hl => ?_)
  refine lv_aload_n X.1 X.2.1 dX6_weightAtLast_2 rfl (lv_at hl 1 rfl) ?_
  refine gC_22_5 X q_1_207 dX6_weightAtLast_3 hP ?_
  obtain ⟨r6, ho, hf⟩ := b1_s hf
  refine call_vi (rest := []) X (c_X3_allSeats F G I J Z X.2.2.2.2.2.2.2.1  ho) q_3_156 q_2_160 q_2_161 q_1_2 q_2_162 ok_X3_allSeats rfl 0 rfl rfl ⟨Nat.le_of_ble_eq_true rfl, Nat.le_of_ble_eq_true rfl⟩ rfl rfl hl.1 rfl (Nat.le_of_ble_eq_true rfl) dX6_weightAtLast_6 hP hS (fun H locs hP hS => ?_)
  refine lv_istore_n (lv' := [(3, .int r6), (1, .long 0), (0, .ref (a 22))]) X.1 X.2.1 dX6_weightAtLast_9 rfl hl (by decide) rfl (fun ls hl => ?_)
  refine lv_iconst (v := 0) X.1 X.2.1 dX6_weightAtLast_10 (by decide) ?_
  refine lv_istore (lv' := [(4, .int 0), (3, .int r6), (1, .long 0), (0, .ref (a 22))]) X.1 X.2.1 dX6_weightAtLast_11 hl (by decide) rfl (fun ls hl => ?_)
  exact t_X6_weightAtLast_b13 X 4096  0 r6 0 H locs ls hf  hP hS (lv_sub hl [3, 2, 1, 0] rfl)
set_option maxRecDepth 100000 in
theorem c_X6_weightAtLast {l : Launch} {D : va_G} {a : Nat → Nat} {kc : Nat → ClassId} (F : Nat → Int32) (G : Nat → Int64) (I : Nat → Nat → Int32) (J : Nat → Nat → Int64) (Z : Nat → Nat → Nat → Int32) (hAp : ∀ i j, i < 44 → j < 44 → a i = a j → i = j)  {o0 : Int64} (hf : p_X6_weightAtLast (F 0) (F 2) (J 8)  = some o0) : Ct 44 l yX6_weightAtLast cX6_weightAtLast 5 (some .long) rm_X6_weightAtLast D (tyC kc) a (wC a kc F G I J Z) [.ref (a 22)] (Ql D (wC a kc F G I J Z) o0) :=
  Ct.of (by decide +kernel) hAp (Nat.le_of_ble_eq_true rfl) (fun p e s m args below meth c ls X hP hl => t_X6_weightAtLast_b0 X   _ _ _ hf  hP va_S.rf hl)
abbrev rm_X6_waysOn : Room := { frames := 1, cells := 0, slots := 0, locals := 21 }
set_option maxHeartbeats 4000000 in
set_option maxRecDepth 100000 in
theorem t_X6_waysOn_b49 {p : Program} {l : Launch} {e : Env} {s : State} {m : MethodId} {args : Array Value} {below : List Frame} {meth : Method} {c : Code} {D : va_G} {a : Nat → Nat} {kc : Nat → ClassId} (X : cx 44 p s m args meth c D (tyC kc) a cX6_waysOn 5 RX6 (some .int)) {F : Nat → Int32} {G : Nat → Int64} {I : Nat → Nat → Int32} {J : Nat → Nat → Int64} {Z : Nat → Nat → Nat → Int32}  {r : Int32} {K5 : Int32 → (Nat → Int64) → Int32 → Int32 → Int32 → Int32 → Option (Int32)} (kh5 : ∀  (x1 : Int32) (x2 : Int32) (x3 : Int32) (x4 : Int32) (H : Heap) (locs : List Loc) (ls : Array Slot), K5 (F 0) (J 8) x1 x2 x3 x4 = some r → va_P D vwCl (wC a kc F G I J Z) H → va_S (ad a 44 s.heap.size) s.heap H locs → lv_has ls 5 [(0, .ref (a 22)), (1, .int x1), (2, .int x2), (3, .int x3), (4, .int x4)] → W p l e rm_X6_waysOn s m args below meth c H locs 0 0 (MQ below (Qi D (wC a kc F G I J Z) r (ad a 44 s.heap.size)) args s 0 0 (ad a 44 s.heap.size)) (F0 m 5 ls [])) :
    ∀  (x1 : Int32) (x2 : Int32) (x3 : Int32) (x4 : Int32) (H : Heap) (locs : List Loc) (ls : Array Slot), p_X6_waysOn_b49 K5 (F 0) (J 8) x1 x2 x3 x4 = some r → va_P D vwCl (wC a kc F G I J Z) H → va_S (ad a 44 s.heap.size) s.heap H locs → lv_has ls 5 [(0, .ref (a 22)), (1, .int x1), (2, .int x2), (3, .int x3), (4, .int x4)] → W p l e rm_X6_waysOn s m args below meth c H locs 0 0 (MQ below (Qi D (wC a kc F G I J Z) r (ad a 44 s.heap.size)) args s 0 0 (ad a 44 s.heap.size)) (F0 m 49 ls []) := by
  intro  x1 x2 x3 x4 H locs ls hf  hP hS hl
  unfold p_X6_waysOn_b49 at hf
  obtain ⟨x49, ex49, hf⟩ := nm_x hf
  refine lv_iinc (v := x49) (lv' := [(4, .int x49), (0, .ref (a 22)), (1, .int x1), (2, .int x2), (3, .int x3)]) X.1 X.2.1 dX6_waysOn_49 hl (k := 4) rfl ex49 (by decide) rfl (fun ls hl => ?_)
  refine lv_goto (tgt := 5) X.1 X.2.1 dX6_waysOn_52 (by decide) ?_
  exact kh5  x1 x2 x3 x49 H locs ls hf  hP hS (lv_sub hl [1, 2, 3, 4, 0] rfl)
set_option maxHeartbeats 4000000 in
set_option maxRecDepth 100000 in
theorem t_X6_waysOn_b5x {p : Program} {l : Launch} {e : Env} {s : State} {m : MethodId} {args : Array Value} {below : List Frame} {meth : Method} {c : Code} {D : va_G} {a : Nat → Nat} {kc : Nat → ClassId} (X : cx 44 p s m args meth c D (tyC kc) a cX6_waysOn 5 RX6 (some .int)) {F : Nat → Int32} {G : Nat → Int64} {I : Nat → Nat → Int32} {J : Nat → Nat → Int64} {Z : Nat → Nat → Nat → Int32}  {r : Int32} {K5 : Int32 → (Nat → Int64) → Int32 → Int32 → Int32 → Int32 → Option (Int32)} (kh5 : ∀  (x1 : Int32) (x2 : Int32) (x3 : Int32) (x4 : Int32) (H : Heap) (locs : List Loc) (ls : Array Slot), K5 (F 0) (J 8) x1 x2 x3 x4 = some r → va_P D vwCl (wC a kc F G I J Z) H → va_S (ad a 44 s.heap.size) s.heap H locs → lv_has ls 5 [(0, .ref (a 22)), (1, .int x1), (2, .int x2), (3, .int x3), (4, .int x4)] → W p l e rm_X6_waysOn s m args below meth c H locs 0 0 (MQ below (Qi D (wC a kc F G I J Z) r (ad a 44 s.heap.size)) args s 0 0 (ad a 44 s.heap.size)) (F0 m 5 ls [])) :
    ∀  (x1 : Int32) (x2 : Int32) (x3 : Int32) (x4 : Int32) (H : Heap) (locs : List Loc) (ls : Array Slot), p_X6_waysOn_b5x K5 (F 0) (J 8) x1 x2 x3 x4 = some r → va_P D vwCl (wC a kc F G I J Z) H → va_S (ad a 44 s.heap.size) s.heap H locs → lv_has ls 5 [(0, .ref (a 22)), (1, .int x1), (2, .int x2), (3, .int x3), (4, .int x4)] → W p l e rm_X6_waysOn s m args below meth c H locs 0 0 (MQ below (Qi D (wC a kc F G I J Z) r (ad a 44 s.heap.size)) args s 0 0 (ad a 44 s.heap.size)) (F0 m 5 ls []) := by
  intro  x1 x2 x3 x4 H locs ls hf  hP hS hl
  unfold p_X6_waysOn_b5x at hf
  refine lv_iload X.1 X.2.1 dX6_waysOn_5 (lv_at hl 4 rfl) ?_
  refine lv_aload_n X.1 X.2.1 dX6_waysOn_7 rfl (lv_at hl 0 rfl) ?_
  refine gC_22_5 X q_1_207 dX6_waysOn_8 hP ?_
  refine gC_0_8 (F := F) X (v := (F 0)) rfl q_1_82 dX6_waysOn_11 hP ?_
  refine lv_icmp_ge (tgt := 55) X.1 X.2.1 dX6_waysOn_14 (by decide) (fun c14 => ?_) (fun c14 => ?_)
  · have hf := it_s hf c14
    refine lv_iload_n X.1 X.2.1 dX6_waysOn_55 rfl (lv_at hl 3 rfl) ?_
    have e0 := o1 hf
    exact ret_i X hS hP e0 dX6_waysOn_56
  · have hf := ie_s hf c14
    refine lv_iload_n X.1 X.2.1 dX6_waysOn_17 rfl (lv_at hl 2 rfl) ?_
    refine lv_iload X.1 X.2.1 dX6_waysOn_18 (lv_at hl 4 rfl) ?_
    obtain ⟨r20, ho, hf⟩ := b1_s hf
    refine call_si (rest := []) X (c_X3_has x2 x4 ho) q_3_177 q_2_178 q_1_2 q_2_179 ok_X3_has rfl ⟨Nat.le_of_ble_eq_true rfl, Nat.le_of_ble_eq_true rfl⟩ rfl rfl hl.1 rfl (Nat.le_of_ble_eq_true rfl) dX6_waysOn_20 hP hS (fun H locs hP hS => ?_)
    refine lv_if_eq (tgt := 49) X.1 X.2.1 dX6_waysOn_23 (by decide) (fun c23 => ?_) (fun c23 => ?_)
    · have hf := it_s hf c23
      exact t_X6_waysOn_b49 X kh5  x1 x2 x3 x4 H locs ls hf  hP hS (lv_sub hl [0, 1, 2, 3, 4] rfl)
    · have hf := ie_s hf c23
      refine lv_aload_n X.1 X.2.1 dX6_waysOn_26 rfl (lv_at hl 0 rfl) ?_
      refine gC_22_11 X q_1_213 dX6_waysOn_27 hP ?_
      refine lv_iload_n X.1 X.2.1 dX6_waysOn_30 rfl (lv_at hl 1 rfl) ?_
      refine lv_iconst (v := 1) X.1 X.2.1 dX6_waysOn_31 (by decide) ?_
      refine lv_iload X.1 X.2.1 dX6_waysOn_32 (lv_at hl 4 rfl) ?_
      refine lv_ishl X.1 X.2.1 dX6_waysOn_34 ?_
      refine lv_ior X.1 X.2.1 dX6_waysOn_35 ?_
      obtain ⟨h36, hf⟩ := gd_s hf
      refine lC_29 (J := J) X (f := (J 8)) rfl h36 dX6_waysOn_36 hP ?_
      refine lv_lconst (v := 0) X.1 X.2.1 dX6_waysOn_37 (by decide) ?_
      refine W.lcmp X.1 X.2.1 dX6_waysOn_38 ?_
      refine lv_if_eq (tgt := 49) X.1 X.2.1 dX6_waysOn_39 (by decide) (fun c39 => ?_) (fun c39 => ?_)
      · have hf := it_s hf c39
        exact t_X6_waysOn_b49 X kh5  x1 x2 x3 x4 H locs ls hf  hP hS (lv_sub hl [0, 1, 2, 3, 4] rfl)
      · have hf := ie_s hf c39
        refine lv_iload_n X.1 X.2.1 dX6_waysOn_42 rfl (lv_at hl 3 rfl) ?_
        refine lv_iconst (v := 1) X.1 X.2.1 dX6_waysOn_43 (by decide) ?_
        refine lv_iload X.1 X.2.1 dX6_waysOn_44 (lv_at hl 4 rfl) ?_
        refine lv_ishl X.1 X.2.1 dX6_waysOn_46 ?_
        refine lv_ior X.1 X.2.1 dX6_waysOn_47 ?_
        refine nm_i hf (fun x48 hf => ?_)
        refine lv_istore_n (lv' := [(3, .int x48), (0, .ref (a 22)), (1, .int x1), (2, .int x2), (4, .int x4)]) X.1 X.2.1 dX6_waysOn_48 rfl hl (by decide) rfl (fun ls hl => ?_)
        exact t_X6_waysOn_b49 X kh5  x1 x2 x48 x4 H locs ls hf  hP hS (lv_sub hl [1, 2, 3, 0, 4] rfl)
set_option maxRecDepth 100000 in
theorem t_X6_waysOn_b5 {p : Program} {l : Launch} {e : Env} {s : State} {m : MethodId} {args : Array Value} {below : List Frame} {meth : Method} {c : Code} {D : va_G} {a : Nat → Nat} {kc : Nat → ClassId} (X : cx 44 p s m args meth c D (tyC kc) a cX6_waysOn 5 RX6 (some .int)) {F : Nat → Int32} {G : Nat → Int64} {I : Nat → Nat → Int32} {J : Nat → Nat → Int64} {Z : Nat → Nat → Nat → Int32}  {r : Int32} :
    ∀ (n : Nat)  (x1 : Int32) (x2 : Int32) (x3 : Int32) (x4 : Int32) (H : Heap) (locs : List Loc) (ls : Array Slot), p_X6_waysOn_b5 n (F 0) (J 8) x1 x2 x3 x4 = some r → va_P D vwCl (wC a kc F G I J Z) H → va_S (ad a 44 s.heap.size) s.heap H locs → lv_has ls 5 [(0, .ref (a 22)), (1, .int x1), (2, .int x2), (3, .int x3), (4, .int x4)] → W p l e rm_X6_waysOn s m args below meth c H locs 0 0 (MQ below (Qi D (wC a kc F G I J Z) r (ad a 44 s.heap.size)) args s 0 0 (ad a 44 s.heap.size)) (F0 m 5 ls []) := by
  intro n
  induction n with
  | zero => intro  x1 x2 x3 x4 H locs ls hf  hP hS hl; exact (nos hf).elim
  | succ n ih => exact t_X6_waysOn_b5x X ih
set_option maxHeartbeats 4000000 in
set_option maxRecDepth 100000 in
theorem t_X6_waysOn_b0 {p : Program} {l : Launch} {e : Env} {s : State} {m : MethodId} {args : Array Value} {below : List Frame} {meth : Method} {c : Code} {D : va_G} {a : Nat → Nat} {kc : Nat → ClassId} (X : cx 44 p s m args meth c D (tyC kc) a cX6_waysOn 5 RX6 (some .int)) {F : Nat → Int32} {G : Nat → Int64} {I : Nat → Nat → Int32} {J : Nat → Nat → Int64} {Z : Nat → Nat → Nat → Int32}  {r : Int32} :
    ∀  (x1 : Int32) (x2 : Int32) (H : Heap) (locs : List Loc) (ls : Array Slot), p_X6_waysOn_b0 (F 0) (J 8) x1 x2 = some r → va_P D vwCl (wC a kc F G I J Z) H → va_S (ad a 44 s.heap.size) s.heap H locs → lv_has ls 5 [(0, .ref (a 22)), (1, .int x1), (2, .int x2)] → W p l e rm_X6_waysOn s m args below meth c H locs 0 0 (MQ below (Qi D (wC a kc F G I J Z) r (ad a 44 s.heap.size)) args s 0 0 (ad a 44 s.heap.size)) (F0 m 0 ls []) := by
  intro  x1 x2 H locs ls hf  hP hS hl
  unfold p_X6_waysOn_b0 at hf
  refine lv_iconst (v := 0) X.1 X.2.1 dX6_waysOn_0 (by decide) ?_
  refine lv_istore_n (lv' := [(3, .int 0), (0, .ref (a 22)), (1, .int x1), (2, .int x2)]) X.1 X.2.1 dX6_waysOn_1 rfl hl (by decide) rfl (fun ls hl => ?_)
  refine lv_iconst (v := 0) X.1 X.2.1 dX6_waysOn_2 (by decide) ?_
  refine lv_istore (lv' := [(4, .int 0), (3, .int 0), (0, .ref (a 22)), (1, .int x1), (2, .int x2)]) X.1 X.2.1 dX6_waysOn_3 hl (by decide) rfl (fun ls hl => ?_)
  exact t_X6_waysOn_b5 X 4096  x1 x2 0 0 H locs ls hf  hP hS (lv_sub hl [2, 3, 4, 1, 0] rfl)
set_option maxRecDepth 100000 in
theorem c_X6_waysOn {l : Launch} {D : va_G} {a : Nat → Nat} {kc : Nat → ClassId} (F : Nat → Int32) (G : Nat → Int64) (I : Nat → Nat → Int32) (J : Nat → Nat → Int64) (Z : Nat → Nat → Nat → Int32) (hAp : ∀ i j, i < 44 → j < 44 → a i = a j → i = j) (x1 : Int32) (x2 : Int32) {o0 : Int32} (hf : p_X6_waysOn (F 0) (J 8) x1 x2 = some o0) : Ct 44 l yX6_waysOn cX6_waysOn 5 (some .int) rm_X6_waysOn D (tyC kc) a (wC a kc F G I J Z) [.ref (a 22), .int x1, .int x2] (Qi D (wC a kc F G I J Z) o0) :=
  Ct.of (by decide +kernel) hAp (Nat.le_of_ble_eq_true rfl) (fun p e s m args below meth c ls X hP hl => t_X6_waysOn_b0 X  x1 x2 _ _ _ hf  hP va_S.rf hl)
abbrev rm_X6_walkBackward : Room := { frames := 2, cells := 0, slots := 0, locals := 50 }
set_option maxHeartbeats 4000000 in
set_option maxRecDepth 100000 in
theorem t_X6_walkBackward_b108 {p : Program} {l : Launch} {e : Env} {s : State} {m : MethodId} {args : Array Value} {below : List Frame} {meth : Method} {c : Code} {D : va_G} {a : Nat → Nat} {kc : Nat → ClassId} (X : cx 44 p s m args meth c D (tyC kc) a cX6_walkBackward 6 RX6 none) {F : Nat → Int32} {G : Nat → Int64} {Z : Nat → Nat → Nat → Int32} {If : Nat → Nat → Int32} {Jf : Nat → Nat → Int64}  {K8 : Int32 → Int32 → (Nat → Int32) → (Nat → Int32) → (Nat → Int32) → (Nat → Int32) → (Nat → Int32) → (Nat → Int32) → (Nat → Int64) → Int32 → Int32 → Option ((Nat → Int32) × (Nat → Int64))} (kh8 : ∀ (I : Nat → Nat → Int32) (J : Nat → Nat → Int64) (x1 : Int32) (x2 : Int32) (H : Heap) (locs : List Loc) (ls : Array Slot), K8 (F 0) (F 2) (I 2) (I 4) (I 5) (I 11) (I 12) (I 13) (J 8) x1 x2 = some ((If 13), (Jf 8)) → (∀ k, k ∉ ([13] : List Nat) → If k = I k) → (∀ k, k ∉ ([8] : List Nat) → Jf k = J k) → va_P D vwCl (wC a kc F G I J Z) H → va_S (ad a 44 s.heap.size) s.heap H locs → lv_has ls 6 [(0, .ref (a 22)), (1, .int x1), (2, .int x2)] → W p l e rm_X6_walkBackward s m args below meth c H locs 0 0 (MQ below (Qv D (wC a kc F G If Jf Z) (ad a 44 s.heap.size)) args s 0 0 (ad a 44 s.heap.size)) (F0 m 8 ls [])) :
    ∀ (I : Nat → Nat → Int32) (J : Nat → Nat → Int64) (x1 : Int32) (x2 : Int32) (H : Heap) (locs : List Loc) (ls : Array Slot), p_X6_walkBackward_b108 K8 (F 0) (F 2) (I 2) (I 4) (I 5) (I 11) (I 12) (I 13) (J 8) x1 x2 = some ((If 13), (Jf 8)) → (∀ k, k ∉ ([13] : List Nat) → If k = I k) → (∀ k, k ∉ ([8] : List Nat) → Jf k = J k) → va_P D vwCl (wC a kc F G I J Z) H → va_S (ad a 44 s.heap.size) s.heap H locs → lv_has ls 6 [(0, .ref (a 22)), (1, .int x1), (2, .int x2)] → W p l e rm_X6_walkBackward s m args below meth c H locs 0 0 (MQ below (Qv D (wC a kc F G If Jf Z) (ad a 44 s.heap.size)) args s 0 0 (ad a 44 s.heap.size)) (F0 m 108 ls []) := by
  intro I J x1 x2 H locs ls hf hfI hfJ hP hS hl
  unfold p_X6_walkBackward_b108 at hf
  obtain ⟨x108, ex108, hf⟩ := nm_x hf
  refine lv_iinc (v := x108) (lv' := [(2, .int x108), (0, .ref (a 22)), (1, .int x1)]) X.1 X.2.1 dX6_walkBackward_108 hl (k := 2) rfl ex108 (by decide) rfl (fun ls hl => ?_)
  refine lv_goto (tgt := 8) X.1 X.2.1 dX6_walkBackward_111 (by decide) ?_
  exact kh8 I J x1 x108 H locs ls hf hfI hfJ hP hS (lv_sub hl [1, 2, 0] rfl)
set_option maxHeartbeats 4000000 in
set_option maxRecDepth 100000 in
theorem t_X6_walkBackward_b8x {p : Program} {l : Launch} {e : Env} {s : State} {m : MethodId} {args : Array Value} {below : List Frame} {meth : Method} {c : Code} {D : va_G} {a : Nat → Nat} {kc : Nat → ClassId} (X : cx 44 p s m args meth c D (tyC kc) a cX6_walkBackward 6 RX6 none) {F : Nat → Int32} {G : Nat → Int64} {Z : Nat → Nat → Nat → Int32} {If : Nat → Nat → Int32} {Jf : Nat → Nat → Int64}  {K8 : Int32 → Int32 → (Nat → Int32) → (Nat → Int32) → (Nat → Int32) → (Nat → Int32) → (Nat → Int32) → (Nat → Int32) → (Nat → Int64) → Int32 → Int32 → Option ((Nat → Int32) × (Nat → Int64))} (kh8 : ∀ (I : Nat → Nat → Int32) (J : Nat → Nat → Int64) (x1 : Int32) (x2 : Int32) (H : Heap) (locs : List Loc) (ls : Array Slot), K8 (F 0) (F 2) (I 2) (I 4) (I 5) (I 11) (I 12) (I 13) (J 8) x1 x2 = some ((If 13), (Jf 8)) → (∀ k, k ∉ ([13] : List Nat) → If k = I k) → (∀ k, k ∉ ([8] : List Nat) → Jf k = J k) → va_P D vwCl (wC a kc F G I J Z) H → va_S (ad a 44 s.heap.size) s.heap H locs → lv_has ls 6 [(0, .ref (a 22)), (1, .int x1), (2, .int x2)] → W p l e rm_X6_walkBackward s m args below meth c H locs 0 0 (MQ below (Qv D (wC a kc F G If Jf Z) (ad a 44 s.heap.size)) args s 0 0 (ad a 44 s.heap.size)) (F0 m 8 ls [])) :
    ∀ (I : Nat → Nat → Int32) (J : Nat → Nat → Int64) (x1 : Int32) (x2 : Int32) (H : Heap) (locs : List Loc) (ls : Array Slot), p_X6_walkBackward_b8x K8 (F 0) (F 2) (I 2) (I 4) (I 5) (I 11) (I 12) (I 13) (J 8) x1 x2 = some ((If 13), (Jf 8)) → (∀ k, k ∉ ([13] : List Nat) → If k = I k) → (∀ k, k ∉ ([8] : List Nat) → Jf k = J k) → va_P D vwCl (wC a kc F G I J Z) H → va_S (ad a 44 s.heap.size) s.heap H locs → lv_has ls 6 [(0, .ref (a 22)), (1, .int x1), (2, .int x2)] → W p l e rm_X6_walkBackward s m args below meth c H locs 0 0 (MQ below (Qv D (wC a kc F G If Jf Z) (ad a 44 s.heap.size)) args s 0 0 (ad a 44 s.heap.size)) (F0 m 8 ls []) := by
  intro I J x1 x2 H locs ls hf hfI hfJ hP hS hl
  unfold p_X6_walkBackward_b8x at hf
  refine lv_iload_n X.1 X.2.1 dX6_walkBackward_8 rfl (lv_at hl 2 rfl) ?_
  refine lv_if_lt (tgt := 114) X.1 X.2.1 dX6_walkBackward_9 (by decide) (fun c9 => ?_) (fun c9 => ?_)
  · have hf := it_s hf c9
    obtain ⟨e0, hf⟩ := o2 hf
    have e1 := o1 hf
    have EI : If = I := frm_eq hfI (frm_c (e0).symm frm_n)
    have EJ : Jf = J := frm_eq hfJ (frm_c (e1).symm frm_n)
    exact ret_v X hS (by rw [EI, EJ]; exact hP) dX6_walkBackward_114
  · have hf := ie_s hf c9
    refine lv_iload_n X.1 X.2.1 dX6_walkBackward_12 rfl (lv_at hl 2 rfl) ?_
    obtain ⟨r13, ho, hf⟩ := b1_s hf
    refine call_si (rest := []) X (c_J6_bitCount_0f7a4 x2 ho) q_3_171 q_2_164 q_1_11 q_2_165 ok_J6_bitCount_0f7a4 rfl ⟨Nat.le_of_ble_eq_true rfl, Nat.le_of_ble_eq_true rfl⟩ rfl rfl hl.1 rfl (Nat.le_of_ble_eq_true rfl) dX6_walkBackward_13 hP hS (fun H locs hP hS => ?_)
    refine lv_istore_n (lv' := [(3, .int r13), (0, .ref (a 22)), (1, .int x1), (2, .int x2)]) X.1 X.2.1 dX6_walkBackward_16 rfl hl (by decide) rfl (fun ls hl => ?_)
    refine lv_aload_n X.1 X.2.1 dX6_walkBackward_17 rfl (lv_at hl 1 rfl) ?_
    refine gC_22_11 X q_1_213 dX6_walkBackward_18 hP ?_
    refine lv_iload_n X.1 X.2.1 dX6_walkBackward_21 rfl (lv_at hl 3 rfl) ?_
    obtain ⟨h22, hf⟩ := gd_s hf
    refine lC_29 (J := J) X (f := (J 8)) rfl h22 dX6_walkBackward_22 hP ?_
    refine lv_lconst (v := 0) X.1 X.2.1 dX6_walkBackward_23 (by decide) ?_
    refine W.lcmp X.1 X.2.1 dX6_walkBackward_24 ?_
    refine lv_if_eq (tgt := 108) X.1 X.2.1 dX6_walkBackward_25 (by decide) (fun c25 => ?_) (fun c25 => ?_)
    · have hf := it_s hf c25
      exact t_X6_walkBackward_b108 X kh8 I J x1 x2 H locs ls hf hfI hfJ hP hS (lv_sub hl [1, 2, 3] rfl)
    · have hf := ie_s hf c25
      refine lv_iload_n X.1 X.2.1 dX6_walkBackward_28 rfl (lv_at hl 0 rfl) ?_
      refine lv_aload_n X.1 X.2.1 dX6_walkBackward_29 rfl (lv_at hl 1 rfl) ?_
      refine gC_22_5 X q_1_207 dX6_walkBackward_30 hP ?_
      refine gC_0_10 (F := F) X (v := (F 2)) rfl q_1_91 dX6_walkBackward_33 hP ?_
      refine lv_icmp_ge (tgt := 108) X.1 X.2.1 dX6_walkBackward_36 (by decide) (fun c36 => ?_) (fun c36 => ?_)
      · have hf := it_s hf c36
        exact t_X6_walkBackward_b108 X kh8 I J x1 x2 H locs ls hf hfI hfJ hP hS (lv_sub hl [1, 2, 3] rfl)
      · have hf := ie_s hf c36
        refine lv_aload_n X.1 X.2.1 dX6_walkBackward_39 rfl (lv_at hl 1 rfl) ?_
        refine gC_22_5 X q_1_207 dX6_walkBackward_40 hP ?_
        refine lv_iload_n X.1 X.2.1 dX6_walkBackward_43 rfl (lv_at hl 3 rfl) ?_
        refine lv_aload_n X.1 X.2.1 dX6_walkBackward_44 rfl (lv_at hl 1 rfl) ?_
        refine gC_22_5 X q_1_207 dX6_walkBackward_45 hP ?_
        refine gC_0_6 X q_1_71 dX6_walkBackward_48 hP ?_
        refine lv_iload_n X.1 X.2.1 dX6_walkBackward_51 rfl (lv_at hl 0 rfl) ?_
        obtain ⟨h52, hf⟩ := gd_s hf
        refine lC_9 (I := I) X (f := (I 5)) rfl h52 dX6_walkBackward_52 hP ?_
        refine lv_aload_n X.1 X.2.1 dX6_walkBackward_53 rfl (lv_at hl 1 rfl) ?_
        refine gC_22_9 X q_1_211 dX6_walkBackward_54 hP ?_
        refine lv_iload_n X.1 X.2.1 dX6_walkBackward_57 rfl (lv_at hl 0 rfl) ?_
        obtain ⟨h58, hf⟩ := gd_s hf
        refine lC_27 (I := I) X (f := (I 12)) rfl h58 dX6_walkBackward_58 hP ?_
        obtain ⟨r59, ho, hf⟩ := b1_s hf
        refine call_vi (rest := []) X (c_X3_choices F G I J Z X.2.2.2.2.2.2.2.1 x2 ((I 5) r13.toNatClampNeg) ((I 12) r13.toNatClampNeg) ho) q_3_172 q_2_181 q_2_182 q_1_2 q_2_183 ok_X3_choices rfl 0 rfl rfl ⟨Nat.le_of_ble_eq_true rfl, Nat.le_of_ble_eq_true rfl⟩ rfl rfl hl.1 rfl (Nat.le_of_ble_eq_true rfl) dX6_walkBackward_59 hP hS (fun H locs hP hS => ?_)
        refine lv_istore (lv' := [(4, .int r59), (3, .int r13), (0, .ref (a 22)), (1, .int x1), (2, .int x2)]) X.1 X.2.1 dX6_walkBackward_62 hl (by decide) rfl (fun ls hl => ?_)
        refine lv_aload_n X.1 X.2.1 dX6_walkBackward_64 rfl (lv_at hl 2 rfl) ?_
        refine lv_iload_n X.1 X.2.1 dX6_walkBackward_65 rfl (lv_at hl 4 rfl) ?_
        refine lv_iload X.1 X.2.1 dX6_walkBackward_66 (lv_at hl 0 rfl) ?_
        refine lv_aload_n X.1 X.2.1 dX6_walkBackward_68 rfl (lv_at hl 2 rfl) ?_
        refine gC_22_8 X q_1_210 dX6_walkBackward_69 hP ?_
        refine lv_iload_n X.1 X.2.1 dX6_walkBackward_72 rfl (lv_at hl 1 rfl) ?_
        obtain ⟨h73, hf⟩ := gd_s hf
        refine lC_26 (I := I) X (f := (I 11)) rfl h73 dX6_walkBackward_73 hP ?_
        refine lv_iand X.1 X.2.1 dX6_walkBackward_74 ?_
        obtain ⟨r75, ho, hf⟩ := b1_s hf
        refine call_vi (rest := []) X (c_X6_waysOn F G I J Z X.2.2.2.2.2.2.2.1 x2 (r59 &&& ((I 11) r13.toNatClampNeg)) ho) q_3_186 q_3_188 qs_yX6_waysOn q_1_6 q_3_189 ok_X6_waysOn rfl 22 rfl rfl ⟨Nat.le_of_ble_eq_true rfl, Nat.le_of_ble_eq_true rfl⟩ rfl rfl hl.1 rfl (Nat.le_of_ble_eq_true rfl) dX6_walkBackward_75 hP hS (fun H locs hP hS => ?_)
        refine lv_istore (lv' := [(5, .int r75), (4, .int r59), (3, .int r13), (0, .ref (a 22)), (1, .int x1), (2, .int x2)]) X.1 X.2.1 dX6_walkBackward_78 hl (by decide) rfl (fun ls hl => ?_)
        refine lv_aload_n X.1 X.2.1 dX6_walkBackward_80 rfl (lv_at hl 3 rfl) ?_
        refine gC_22_10 X q_1_212 dX6_walkBackward_81 hP ?_
        refine lv_iload_n X.1 X.2.1 dX6_walkBackward_84 rfl (lv_at hl 4 rfl) ?_
        refine lv_bipush (v := 8) X.1 X.2.1 dX6_walkBackward_85 (by decide) ?_
        refine lv_imul X.1 X.2.1 dX6_walkBackward_87 ?_
        refine lv_iload_n X.1 X.2.1 dX6_walkBackward_88 rfl (lv_at hl 2 rfl) ?_
        refine lv_iadd X.1 X.2.1 dX6_walkBackward_89 ?_
        refine lv_dup2_11 X.1 X.2.1 dX6_walkBackward_90 rfl rfl ?_
        obtain ⟨h91, hf⟩ := gd_s hf
        refine lC_28 (I := I) X (f := (I 13)) rfl h91 dX6_walkBackward_91 hP ?_
        refine lv_iload X.1 X.2.1 dX6_walkBackward_92 (lv_at hl 0 rfl) ?_
        refine lv_ior X.1 X.2.1 dX6_walkBackward_94 ?_
        obtain ⟨h95, hf⟩ := gd_s hf
        obtain ⟨W_answers_95, eW_answers_95, hf⟩ := nm_x hf
        refine sC_28 (I := I) X h95 eW_answers_95 dX6_walkBackward_95 hP hS (fun H locs hP hS => ?_)
        refine lv_iload X.1 X.2.1 dX6_walkBackward_96 (lv_at hl 0 rfl) ?_
        refine lv_if_ne (tgt := 108) X.1 X.2.1 dX6_walkBackward_98 (by decide) (fun c98 => ?_) (fun c98 => ?_)
        · have hf := ie_s hf c98
          exact t_X6_walkBackward_b108 X kh8 (va_up I 13 W_answers_95) J x1 x2 H locs ls hf (frm_up hfI (by decide)) hfJ hP hS (lv_sub hl [3, 4, 5] rfl)
        · have hf := it_s hf c98
          refine lv_aload_n X.1 X.2.1 dX6_walkBackward_101 rfl (lv_at hl 3 rfl) ?_
          refine gC_22_11 X q_1_213 dX6_walkBackward_102 hP ?_
          refine lv_iload_n X.1 X.2.1 dX6_walkBackward_105 rfl (lv_at hl 5 rfl) ?_
          refine lv_lconst (v := 0) X.1 X.2.1 dX6_walkBackward_106 (by decide) ?_
          obtain ⟨h107, hf⟩ := gd_s hf
          obtain ⟨W_reach_107, eW_reach_107, hf⟩ := nm_x hf
          refine sC_29 (J := J) X h107 eW_reach_107 dX6_walkBackward_107 hP hS (fun H locs hP hS => ?_)
          exact t_X6_walkBackward_b108 X kh8 (va_up I 13 W_answers_95) (va_up J 8 W_reach_107) x1 x2 H locs ls hf (frm_up hfI (by decide)) (frm_up hfJ (by decide)) hP hS (lv_sub hl [3, 4, 5] rfl)
set_option maxRecDepth 100000 in
theorem t_X6_walkBackward_b8 {p : Program} {l : Launch} {e : Env} {s : State} {m : MethodId} {args : Array Value} {below : List Frame} {meth : Method} {c : Code} {D : va_G} {a : Nat → Nat} {kc : Nat → ClassId} (X : cx 44 p s m args meth c D (tyC kc) a cX6_walkBackward 6 RX6 none) {F : Nat → Int32} {G : Nat → Int64} {Z : Nat → Nat → Nat → Int32} {If : Nat → Nat → Int32} {Jf : Nat → Nat → Int64}  :
    ∀ (n : Nat) (I : Nat → Nat → Int32) (J : Nat → Nat → Int64) (x1 : Int32) (x2 : Int32) (H : Heap) (locs : List Loc) (ls : Array Slot), p_X6_walkBackward_b8 n (F 0) (F 2) (I 2) (I 4) (I 5) (I 11) (I 12) (I 13) (J 8) x1 x2 = some ((If 13), (Jf 8)) → (∀ k, k ∉ ([13] : List Nat) → If k = I k) → (∀ k, k ∉ ([8] : List Nat) → Jf k = J k) → va_P D vwCl (wC a kc F G I J Z) H → va_S (ad a 44 s.heap.size) s.heap H locs → lv_has ls 6 [(0, .ref (a 22)), (1, .int x1), (2, .int x2)] → W p l e rm_X6_walkBackward s m args below meth c H locs 0 0 (MQ below (Qv D (wC a kc F G If Jf Z) (ad a 44 s.heap.size)) args s 0 0 (ad a 44 s.heap.size)) (F0 m 8 ls []) := by
  intro n
  induction n with
  | zero => intro I J x1 x2 H locs ls hf hfI hfJ hP hS hl; exact (nos hf).elim
  | succ n ih => exact t_X6_walkBackward_b8x X ih
set_option maxHeartbeats 4000000 in
set_option maxRecDepth 100000 in
theorem t_X6_walkBackward_b0 {p : Program} {l : Launch} {e : Env} {s : State} {m : MethodId} {args : Array Value} {below : List Frame} {meth : Method} {c : Code} {D : va_G} {a : Nat → Nat} {kc : Nat → ClassId} (X : cx 44 p s m args meth c D (tyC kc) a cX6_walkBackward 6 RX6 none) {F : Nat → Int32} {G : Nat → Int64} {Z : Nat → Nat → Nat → Int32} {If : Nat → Nat → Int32} {Jf : Nat → Nat → Int64}  :
    ∀ (I : Nat → Nat → Int32) (J : Nat → Nat → Int64) (x1 : Int32) (H : Heap) (locs : List Loc) (ls : Array Slot), p_X6_walkBackward_b0 (F 0) (F 2) (I 2) (I 4) (I 5) (I 11) (I 12) (I 13) (J 8) x1 = some ((If 13), (Jf 8)) → (∀ k, k ∉ ([13] : List Nat) → If k = I k) → (∀ k, k ∉ ([8] : List Nat) → Jf k = J k) → va_P D vwCl (wC a kc F G I J Z) H → va_S (ad a 44 s.heap.size) s.heap H locs → lv_has ls 6 [(0, .ref (a 22)), (1, .int x1)] → W p l e rm_X6_walkBackward s m args below meth c H locs 0 0 (MQ below (Qv D (wC a kc F G If Jf Z) (ad a 44 s.heap.size)) args s 0 0 (ad a 44 s.heap.size)) (F0 m 0 ls []) := by
  intro I J x1 H locs ls hf hfI hfJ hP hS hl
  unfold p_X6_walkBackward_b0 at hf
  refine lv_aload_n X.1 X.2.1 dX6_walkBackward_0 rfl (lv_at hl 0 rfl) ?_
  refine gC_22_5 X q_1_207 dX6_walkBackward_1 hP ?_
  obtain ⟨r4, ho, hf⟩ := b1_s hf
  refine call_vi (rest := []) X (c_X3_allSeats F G I J Z X.2.2.2.2.2.2.2.1  ho) q_3_156 q_2_160 q_2_161 q_1_2 q_2_162 ok_X3_allSeats rfl 0 rfl rfl ⟨Nat.le_of_ble_eq_true rfl, Nat.le_of_ble_eq_true rfl⟩ rfl rfl hl.1 rfl (Nat.le_of_ble_eq_true rfl) dX6_walkBackward_4 hP hS (fun H locs hP hS => ?_)
  refine lv_istore_n (lv' := [(2, .int r4), (0, .ref (a 22)), (1, .int x1)]) X.1 X.2.1 dX6_walkBackward_7 rfl hl (by decide) rfl (fun ls hl => ?_)
  exact t_X6_walkBackward_b8 X 4096 I J x1 r4 H locs ls hf hfI hfJ hP hS (lv_sub hl [1, 2, 0] rfl)
set_option maxRecDepth 100000 in
theorem c_X6_walkBackward {l : Launch} {D : va_G} {a : Nat → Nat} {kc : Nat → ClassId} (F : Nat → Int32) (G : Nat → Int64) (I : Nat → Nat → Int32) (J : Nat → Nat → Int64) (Z : Nat → Nat → Nat → Int32) (hAp : ∀ i j, i < 44 → j < 44 → a i = a j → i = j) (x1 : Int32) {o0 : Nat → Int32} {o1 : Nat → Int64} (hf : p_X6_walkBackward (F 0) (F 2) (I 2) (I 4) (I 5) (I 11) (I 12) (I 13) (J 8) x1 = some (o0, o1)) : Ct 44 l yX6_walkBackward cX6_walkBackward 6 none rm_X6_walkBackward D (tyC kc) a (wC a kc F G I J Z) [.ref (a 22), .int x1] (Qv D (wC a kc F G (va_up I 13 o0) (va_up J 8 o1) Z)) :=
  Ct.of (by decide +kernel) hAp (Nat.le_of_ble_eq_true rfl) (fun p e s m args below meth c ls X hP hl => t_X6_walkBackward_b0 X I J x1 _ _ _ hf (frm_ul (fun k _ => rfl) (by decide)) (frm_ul (fun k _ => rfl) (by decide)) hP va_S.rf hl)
abbrev rm_X6_suspect : Room := { frames := 3, cells := 0, slots := 0, locals := 75 }
set_option maxHeartbeats 4000000 in
set_option maxRecDepth 100000 in
theorem t_X6_suspect_b82 {p : Program} {l : Launch} {e : Env} {s : State} {m : MethodId} {args : Array Value} {below : List Frame} {meth : Method} {c : Code} {D : va_G} {a : Nat → Nat} {kc : Nat → ClassId} (X : cx 44 p s m args meth c D (tyC kc) a cX6_suspect 2 RX6 none) {Z : Nat → Nat → Nat → Int32} {Ff : Nat → Int32} {Gf : Nat → Int64} {If : Nat → Nat → Int32} {Jf : Nat → Nat → Int64}  :
    ∀ (F : Nat → Int32) (G : Nat → Int64) (I : Nat → Nat → Int32) (J : Nat → Nat → Int64)  (H : Heap) (locs : List Loc) (ls : Array Slot), p_X6_suspect_b82 (F 0) (F 2) (F 6) (G 3) (I 2) (I 4) (I 5) (I 6) (I 11) (I 12) (I 13) (J 7) (J 8)  = some ((Ff 6), (Gf 3), (If 12), (If 13), (Jf 7), (Jf 8)) → (∀ k, k ∉ ([6] : List Nat) → Ff k = F k) → (∀ k, k ∉ ([3] : List Nat) → Gf k = G k) → (∀ k, k ∉ ([12, 13] : List Nat) → If k = I k) → (∀ k, k ∉ ([7, 8] : List Nat) → Jf k = J k) → va_P D vwCl (wC a kc F G I J Z) H → va_S (ad a 44 s.heap.size) s.heap H locs → lv_has ls 2 [(0, .ref (a 22))] → W p l e rm_X6_suspect s m args below meth c H locs 0 0 (MQ below (Qv D (wC a kc Ff Gf If Jf Z) (ad a 44 s.heap.size)) args s 0 0 (ad a 44 s.heap.size)) (F0 m 82 ls []) := by
  intro F G I J  H locs ls hf hfF hfG hfI hfJ hP hS hl
  unfold p_X6_suspect_b82 at hf
  obtain ⟨e0, hf⟩ := o2 hf
  obtain ⟨e1, hf⟩ := o2 hf
  obtain ⟨e2, hf⟩ := o2 hf
  obtain ⟨e3, hf⟩ := o2 hf
  obtain ⟨e4, hf⟩ := o2 hf
  have e5 := o1 hf
  have EF : Ff = F := frm_eq hfF (frm_c (e0).symm frm_n)
  have EG : Gf = G := frm_eq hfG (frm_c (e1).symm frm_n)
  have EI : If = I := frm_eq hfI (frm_c (e2).symm (frm_c (e3).symm frm_n))
  have EJ : Jf = J := frm_eq hfJ (frm_c (e4).symm (frm_c (e5).symm frm_n))
  exact ret_v X hS (by rw [EF, EG, EI, EJ]; exact hP) dX6_suspect_82
set_option maxHeartbeats 4000000 in
set_option maxRecDepth 100000 in
theorem t_X6_suspect_b0 {p : Program} {l : Launch} {e : Env} {s : State} {m : MethodId} {args : Array Value} {below : List Frame} {meth : Method} {c : Code} {D : va_G} {a : Nat → Nat} {kc : Nat → ClassId} (X : cx 44 p s m args meth c D (tyC kc) a cX6_suspect 2 RX6 none) {Z : Nat → Nat → Nat → Int32} {Ff : Nat → Int32} {Gf : Nat → Int64} {If : Nat → Nat → Int32} {Jf : Nat → Nat → Int64}  :
    ∀ (F : Nat → Int32) (G : Nat → Int64) (I : Nat → Nat → Int32) (J : Nat → Nat → Int64) (x1 : Int32) (H : Heap) (locs : List Loc) (ls : Array Slot), p_X6_suspect_b0 (F 0) (F 2) (F 6) (G 3) (I 2) (I 4) (I 5) (I 6) (I 11) (I 12) (I 13) (J 7) (J 8) x1 = some ((Ff 6), (Gf 3), (If 12), (If 13), (Jf 7), (Jf 8)) → (∀ k, k ∉ ([6] : List Nat) → Ff k = F k) → (∀ k, k ∉ ([3] : List Nat) → Gf k = G k) → (∀ k, k ∉ ([12, 13] : List Nat) → If k = I k) → (∀ k, k ∉ ([7, 8] : List Nat) → Jf k = J k) → va_P D vwCl (wC a kc F G I J Z) H → va_S (ad a 44 s.heap.size) s.heap H locs → lv_has ls 2 [(0, .ref (a 22)), (1, .int x1)] → W p l e rm_X6_suspect s m args below meth c H locs 0 0 (MQ below (Qv D (wC a kc Ff Gf If Jf Z) (ad a 44 s.heap.size)) args s 0 0 (ad a 44 s.heap.size)) (F0 m 0 ls []) := by
  intro F G I J x1 H locs ls hf hfF hfG hfI hfJ hP hS hl
  unfold p_X6_suspect_b0 at hf
  refine lv_aload_n X.1 X.2.1 dX6_suspect_0 rfl (lv_at hl 0 rfl) ?_
  refine gC_22_5 X q_1_207 dX6_suspect_1 hP ?_
  refine gC_0_7 X q_1_76 dX6_suspect_4 hP ?_
  refine lv_iconst (v := 0) X.1 X.2.1 dX6_suspect_7 (by decide) ?_
  refine lv_aload_n X.1 X.2.1 dX6_suspect_8 rfl (lv_at hl 0 rfl) ?_
  refine gC_22_9 X q_1_211 dX6_suspect_9 hP ?_
  refine lv_iconst (v := 0) X.1 X.2.1 dX6_suspect_12 (by decide) ?_
  refine lv_bipush (v := 8) X.1 X.2.1 dX6_suspect_13 (by decide) ?_
  obtain ⟨h15, hf⟩ := gd_s hf
  obtain ⟨W_kinds_15, eW_kinds_15, hf⟩ := nm_x hf
  refine cpC_10_27 (I := I) X h15 eW_kinds_15 q_3_165 hl.1 (Nat.le_of_ble_eq_true rfl) (Nat.le_of_ble_eq_true rfl) dX6_suspect_15 hP hS (fun H locs hP hS => ?_)
  refine lv_aload_n X.1 X.2.1 dX6_suspect_18 rfl (lv_at hl 0 rfl) ?_
  refine gC_22_9 X q_1_211 dX6_suspect_19 hP ?_
  refine lv_iload_n X.1 X.2.1 dX6_suspect_22 rfl (lv_at hl 1 rfl) ?_
  refine lv_iconst (v := 1) X.1 X.2.1 dX6_suspect_23 (by decide) ?_
  obtain ⟨h24, hf⟩ := gd_s hf
  obtain ⟨W_kinds_24, eW_kinds_24, hf⟩ := nm_x hf
  refine sC_27 (I := (va_up I 12 W_kinds_15)) X h24 eW_kinds_24 dX6_suspect_24 hP hS (fun H locs hP hS => ?_)
  refine lv_aload_n X.1 X.2.1 dX6_suspect_25 rfl (lv_at hl 0 rfl) ?_
  obtain ⟨W_reach_26, ho, hf⟩ := b1_s hf
  refine call_vv (rest := []) X (c_X6_walkForward F G (va_up (va_up I 12 W_kinds_15) 12 W_kinds_24) J Z X.2.2.2.2.2.2.2.1  ho) q_3_166 q_3_168 qs_yX6_walkForward q_1_6 q_3_169 ok_X6_walkForward rfl 22 rfl rfl ⟨Nat.le_of_ble_eq_true rfl, Nat.le_of_ble_eq_true rfl⟩ rfl rfl hl.1 rfl (Nat.le_of_ble_eq_true rfl) dX6_suspect_26 hP hS (fun H locs hP hS => ?_)
  refine lv_aload_n X.1 X.2.1 dX6_suspect_29 rfl (lv_at hl 0 rfl) ?_
  refine gC_22_0 X q_1_197 dX6_suspect_30 hP ?_
  refine lv_iload_n X.1 X.2.1 dX6_suspect_33 rfl (lv_at hl 1 rfl) ?_
  refine lv_aload_n X.1 X.2.1 dX6_suspect_34 rfl (lv_at hl 0 rfl) ?_
  obtain ⟨r35, ho, hf⟩ := b1_s hf
  refine call_vl (rest := [.int x1, .ref (a 23)]) X (c_X6_weightAtLast F G (va_up (va_up I 12 W_kinds_15) 12 W_kinds_24) (va_up J 8 W_reach_26) Z X.2.2.2.2.2.2.2.1  ho) q_3_178 q_3_180 qs_yX6_weightAtLast q_1_6 q_3_181 ok_X6_weightAtLast rfl 22 rfl rfl ⟨Nat.le_of_ble_eq_true rfl, Nat.le_of_ble_eq_true rfl⟩ rfl rfl hl.1 rfl (Nat.le_of_ble_eq_true rfl) dX6_suspect_35 hP hS (fun H locs hP hS => ?_)
  obtain ⟨h38, hf⟩ := gd_s hf
  obtain ⟨W_weights_38, eW_weights_38, hf⟩ := nm_x hf
  refine sC_23 (J := (va_up J 8 W_reach_26)) X h38 eW_weights_38 dX6_suspect_38 hP hS (fun H locs hP hS => ?_)
  refine lv_aload_n X.1 X.2.1 dX6_suspect_39 rfl (lv_at hl 0 rfl) ?_
  refine lv_dup X.1 X.2.1 dX6_suspect_40 rfl ?_
  refine gC_22_3 (G := G) X (v := (G 3)) rfl q_1_203 dX6_suspect_41 hP ?_
  refine lv_aload_n X.1 X.2.1 dX6_suspect_44 rfl (lv_at hl 0 rfl) ?_
  refine gC_22_0 X q_1_197 dX6_suspect_45 hP ?_
  refine lv_iload_n X.1 X.2.1 dX6_suspect_48 rfl (lv_at hl 1 rfl) ?_
  obtain ⟨h49, hf⟩ := gd_s hf
  refine lC_23 (J := (va_up (va_up J 8 W_reach_26) 7 W_weights_38)) X (f := W_weights_38) rfl h49 dX6_suspect_49 hP ?_
  refine lv_ladd X.1 X.2.1 dX6_suspect_50 ?_
  refine nm_l hf (fun W_total_51 hf => ?_)
  refine pC_22_3 X q_1_203 dX6_suspect_51 hP hS (fun H locs hP hS => ?_)
  refine lv_aload_n X.1 X.2.1 dX6_suspect_54 rfl (lv_at hl 0 rfl) ?_
  refine gC_22_0 X q_1_197 dX6_suspect_55 hP ?_
  refine lv_iload_n X.1 X.2.1 dX6_suspect_58 rfl (lv_at hl 1 rfl) ?_
  obtain ⟨h59, hf⟩ := gd_s hf
  refine lC_23 (J := (va_up (va_up J 8 W_reach_26) 7 W_weights_38)) X (f := W_weights_38) rfl h59 dX6_suspect_59 hP ?_
  refine lv_lconst (v := 0) X.1 X.2.1 dX6_suspect_60 (by decide) ?_
  refine W.lcmp X.1 X.2.1 dX6_suspect_61 ?_
  refine lv_if_eq (tgt := 82) X.1 X.2.1 dX6_suspect_62 (by decide) (fun c62 => ?_) (fun c62 => ?_)
  · have hf := it_s hf c62
    exact t_X6_suspect_b82 X F (va_up G 3 W_total_51) (va_up (va_up I 12 W_kinds_15) 12 W_kinds_24) (va_up (va_up J 8 W_reach_26) 7 W_weights_38)  H locs ls hf hfF (frm_up hfG (by decide)) (frm_up (frm_up hfI (by decide)) (by decide)) (frm_up (frm_up hfJ (by decide)) (by decide)) hP hS (lv_sub hl [0] rfl)
  · have hf := ie_s hf c62
    refine lv_aload_n X.1 X.2.1 dX6_suspect_65 rfl (lv_at hl 0 rfl) ?_
    refine lv_dup X.1 X.2.1 dX6_suspect_66 rfl ?_
    refine gC_22_2 (F := F) X (v := (F 6)) rfl q_1_201 dX6_suspect_67 hP ?_
    refine lv_iconst (v := 1) X.1 X.2.1 dX6_suspect_70 (by decide) ?_
    refine lv_iload_n X.1 X.2.1 dX6_suspect_71 rfl (lv_at hl 1 rfl) ?_
    refine lv_ishl X.1 X.2.1 dX6_suspect_72 ?_
    refine lv_ior X.1 X.2.1 dX6_suspect_73 ?_
    refine nm_i hf (fun W_suspects_74 hf => ?_)
    refine pC_22_2 X q_1_201 dX6_suspect_74 hP hS (fun H locs hP hS => ?_)
    refine lv_aload_n X.1 X.2.1 dX6_suspect_77 rfl (lv_at hl 0 rfl) ?_
    refine lv_iload_n X.1 X.2.1 dX6_suspect_78 rfl (lv_at hl 1 rfl) ?_
    obtain ⟨W_answers_79, W_reach_79, ho, hf⟩ := b2_s hf
    refine call_vv (rest := []) X (c_X6_walkBackward (va_up F 6 W_suspects_74) (va_up G 3 W_total_51) (va_up (va_up I 12 W_kinds_15) 12 W_kinds_24) (va_up (va_up J 8 W_reach_26) 7 W_weights_38) Z X.2.2.2.2.2.2.2.1 x1 ho) q_3_182 q_3_184 qs_yX6_walkBackward q_1_6 q_3_185 ok_X6_walkBackward rfl 22 rfl rfl ⟨Nat.le_of_ble_eq_true rfl, Nat.le_of_ble_eq_true rfl⟩ rfl rfl hl.1 rfl (Nat.le_of_ble_eq_true rfl) dX6_suspect_79 hP hS (fun H locs hP hS => ?_)
    exact t_X6_suspect_b82 X (va_up F 6 W_suspects_74) (va_up G 3 W_total_51) (va_up (va_up (va_up I 12 W_kinds_15) 12 W_kinds_24) 13 W_answers_79) (va_up (va_up (va_up J 8 W_reach_26) 7 W_weights_38) 8 W_reach_79)  H locs ls hf (frm_up hfF (by decide)) (frm_up hfG (by decide)) (frm_up (frm_up (frm_up hfI (by decide)) (by decide)) (by decide)) (frm_up (frm_up (frm_up hfJ (by decide)) (by decide)) (by decide)) hP hS (lv_sub hl [0] rfl)
set_option maxRecDepth 100000 in
theorem c_X6_suspect {l : Launch} {D : va_G} {a : Nat → Nat} {kc : Nat → ClassId} (F : Nat → Int32) (G : Nat → Int64) (I : Nat → Nat → Int32) (J : Nat → Nat → Int64) (Z : Nat → Nat → Nat → Int32) (hAp : ∀ i j, i < 44 → j < 44 → a i = a j → i = j) (x1 : Int32) {o0 : Int32} {o1 : Int64} {o2 : Nat → Int32} {o3 : Nat → Int32} {o4 : Nat → Int64} {o5 : Nat → Int64} (hf : p_X6_suspect (F 0) (F 2) (F 6) (G 3) (I 2) (I 4) (I 5) (I 6) (I 11) (I 12) (I 13) (J 7) (J 8) x1 = some (o0, o1, o2, o3, o4, o5)) : Ct 44 l yX6_suspect cX6_suspect 2 none rm_X6_suspect D (tyC kc) a (wC a kc F G I J Z) [.ref (a 22), .int x1] (Qv D (wC a kc (va_up F 6 o0) (va_up G 3 o1) (va_up (va_up I 12 o2) 13 o3) (va_up (va_up J 7 o4) 8 o5) Z)) :=
  Ct.of (by decide +kernel) hAp (Nat.le_of_ble_eq_true rfl) (fun p e s m args below meth c ls X hP hl => t_X6_suspect_b0 X F G I J x1 _ _ _ hf (frm_ul (fun k _ => rfl) (by decide)) (frm_ul (fun k _ => rfl) (by decide)) (frm_ul (frm_ul (fun k _ => rfl) (by decide)) (by decide)) (frm_ul (frm_ul (fun k _ => rfl) (by decide)) (by decide)) hP va_S.rf hl)
abbrev rm_X6_refresh : Room := { frames := 4, cells := 0, slots := 0, locals := 96 }
set_option maxHeartbeats 4000000 in
set_option maxRecDepth 100000 in
theorem t_X6_refresh_b68 {p : Program} {l : Launch} {e : Env} {s : State} {m : MethodId} {args : Array Value} {below : List Frame} {meth : Method} {c : Code} {D : va_G} {a : Nat → Nat} {kc : Nat → ClassId} (X : cx 44 p s m args meth c D (tyC kc) a cX6_refresh 2 RX6 none) {Z : Nat → Nat → Nat → Int32} {Ff : Nat → Int32} {Gf : Nat → Int64} {If : Nat → Nat → Int32} {Jf : Nat → Nat → Int64}  {K40 : Int32 → Int32 → Int32 → Int32 → Int32 → Int64 → (Nat → Int32) → (Nat → Int32) → (Nat → Int32) → (Nat → Int32) → (Nat → Int32) → (Nat → Int32) → (Nat → Int32) → (Nat → Int32) → (Nat → Int32) → (Nat → Int64) → (Nat → Int64) → Int32 → Option (Int32 × Int32 × Int64 × (Nat → Int32) × (Nat → Int32) × (Nat → Int32) × (Nat → Int64) × (Nat → Int64))} (kh40 : ∀ (F : Nat → Int32) (G : Nat → Int64) (I : Nat → Nat → Int32) (J : Nat → Nat → Int64) (x1 : Int32) (H : Heap) (locs : List Loc) (ls : Array Slot), K40 (F 0) (F 2) (F 5) (F 6) (F 7) (G 3) (I 2) (I 4) (I 5) (I 6) (I 9) (I 10) (I 11) (I 12) (I 13) (J 7) (J 8) x1 = some ((Ff 6), (Ff 7), (Gf 3), (If 11), (If 12), (If 13), (Jf 7), (Jf 8)) → (∀ k, k ∉ ([6, 7] : List Nat) → Ff k = F k) → (∀ k, k ∉ ([3] : List Nat) → Gf k = G k) → (∀ k, k ∉ ([11, 12, 13] : List Nat) → If k = I k) → (∀ k, k ∉ ([7, 8] : List Nat) → Jf k = J k) → va_P D vwCl (wC a kc F G I J Z) H → va_S (ad a 44 s.heap.size) s.heap H locs → lv_has ls 2 [(0, .ref (a 22)), (1, .int x1)] → W p l e rm_X6_refresh s m args below meth c H locs 0 0 (MQ below (Qv D (wC a kc Ff Gf If Jf Z) (ad a 44 s.heap.size)) args s 0 0 (ad a 44 s.heap.size)) (F0 m 40 ls [])) :
    ∀ (F : Nat → Int32) (G : Nat → Int64) (I : Nat → Nat → Int32) (J : Nat → Nat → Int64) (x1 : Int32) (H : Heap) (locs : List Loc) (ls : Array Slot), p_X6_refresh_b68 K40 (F 0) (F 2) (F 5) (F 6) (F 7) (G 3) (I 2) (I 4) (I 5) (I 6) (I 9) (I 10) (I 11) (I 12) (I 13) (J 7) (J 8) x1 = some ((Ff 6), (Ff 7), (Gf 3), (If 11), (If 12), (If 13), (Jf 7), (Jf 8)) → (∀ k, k ∉ ([6, 7] : List Nat) → Ff k = F k) → (∀ k, k ∉ ([3] : List Nat) → Gf k = G k) → (∀ k, k ∉ ([11, 12, 13] : List Nat) → If k = I k) → (∀ k, k ∉ ([7, 8] : List Nat) → Jf k = J k) → va_P D vwCl (wC a kc F G I J Z) H → va_S (ad a 44 s.heap.size) s.heap H locs → lv_has ls 2 [(0, .ref (a 22)), (1, .int x1)] → W p l e rm_X6_refresh s m args below meth c H locs 0 0 (MQ below (Qv D (wC a kc Ff Gf If Jf Z) (ad a 44 s.heap.size)) args s 0 0 (ad a 44 s.heap.size)) (F0 m 68 ls []) := by
  intro F G I J x1 H locs ls hf hfF hfG hfI hfJ hP hS hl
  unfold p_X6_refresh_b68 at hf
  obtain ⟨x68, ex68, hf⟩ := nm_x hf
  refine lv_iinc (v := x68) (lv' := [(1, .int x68), (0, .ref (a 22))]) X.1 X.2.1 dX6_refresh_68 hl (k := 1) rfl ex68 (by decide) rfl (fun ls hl => ?_)
  refine lv_goto (tgt := 40) X.1 X.2.1 dX6_refresh_71 (by decide) ?_
  exact kh40 F G I J x68 H locs ls hf hfF hfG hfI hfJ hP hS (lv_sub hl [1, 0] rfl)
set_option maxHeartbeats 4000000 in
set_option maxRecDepth 100000 in
theorem t_X6_refresh_b40x {p : Program} {l : Launch} {e : Env} {s : State} {m : MethodId} {args : Array Value} {below : List Frame} {meth : Method} {c : Code} {D : va_G} {a : Nat → Nat} {kc : Nat → ClassId} (X : cx 44 p s m args meth c D (tyC kc) a cX6_refresh 2 RX6 none) {Z : Nat → Nat → Nat → Int32} {Ff : Nat → Int32} {Gf : Nat → Int64} {If : Nat → Nat → Int32} {Jf : Nat → Nat → Int64}  {K40 : Int32 → Int32 → Int32 → Int32 → Int32 → Int64 → (Nat → Int32) → (Nat → Int32) → (Nat → Int32) → (Nat → Int32) → (Nat → Int32) → (Nat → Int32) → (Nat → Int32) → (Nat → Int32) → (Nat → Int32) → (Nat → Int64) → (Nat → Int64) → Int32 → Option (Int32 × Int32 × Int64 × (Nat → Int32) × (Nat → Int32) × (Nat → Int32) × (Nat → Int64) × (Nat → Int64))} (kh40 : ∀ (F : Nat → Int32) (G : Nat → Int64) (I : Nat → Nat → Int32) (J : Nat → Nat → Int64) (x1 : Int32) (H : Heap) (locs : List Loc) (ls : Array Slot), K40 (F 0) (F 2) (F 5) (F 6) (F 7) (G 3) (I 2) (I 4) (I 5) (I 6) (I 9) (I 10) (I 11) (I 12) (I 13) (J 7) (J 8) x1 = some ((Ff 6), (Ff 7), (Gf 3), (If 11), (If 12), (If 13), (Jf 7), (Jf 8)) → (∀ k, k ∉ ([6, 7] : List Nat) → Ff k = F k) → (∀ k, k ∉ ([3] : List Nat) → Gf k = G k) → (∀ k, k ∉ ([11, 12, 13] : List Nat) → If k = I k) → (∀ k, k ∉ ([7, 8] : List Nat) → Jf k = J k) → va_P D vwCl (wC a kc F G I J Z) H → va_S (ad a 44 s.heap.size) s.heap H locs → lv_has ls 2 [(0, .ref (a 22)), (1, .int x1)] → W p l e rm_X6_refresh s m args below meth c H locs 0 0 (MQ below (Qv D (wC a kc Ff Gf If Jf Z) (ad a 44 s.heap.size)) args s 0 0 (ad a 44 s.heap.size)) (F0 m 40 ls [])) :
    ∀ (F : Nat → Int32) (G : Nat → Int64) (I : Nat → Nat → Int32) (J : Nat → Nat → Int64) (x1 : Int32) (H : Heap) (locs : List Loc) (ls : Array Slot), p_X6_refresh_b40x K40 (F 0) (F 2) (F 5) (F 6) (F 7) (G 3) (I 2) (I 4) (I 5) (I 6) (I 9) (I 10) (I 11) (I 12) (I 13) (J 7) (J 8) x1 = some ((Ff 6), (Ff 7), (Gf 3), (If 11), (If 12), (If 13), (Jf 7), (Jf 8)) → (∀ k, k ∉ ([6, 7] : List Nat) → Ff k = F k) → (∀ k, k ∉ ([3] : List Nat) → Gf k = G k) → (∀ k, k ∉ ([11, 12, 13] : List Nat) → If k = I k) → (∀ k, k ∉ ([7, 8] : List Nat) → Jf k = J k) → va_P D vwCl (wC a kc F G I J Z) H → va_S (ad a 44 s.heap.size) s.heap H locs → lv_has ls 2 [(0, .ref (a 22)), (1, .int x1)] → W p l e rm_X6_refresh s m args below meth c H locs 0 0 (MQ below (Qv D (wC a kc Ff Gf If Jf Z) (ad a 44 s.heap.size)) args s 0 0 (ad a 44 s.heap.size)) (F0 m 40 ls []) := by
  intro F G I J x1 H locs ls hf hfF hfG hfI hfJ hP hS hl
  unfold p_X6_refresh_b40x at hf
  refine lv_iload_n X.1 X.2.1 dX6_refresh_40 rfl (lv_at hl 1 rfl) ?_
  refine lv_aload_n X.1 X.2.1 dX6_refresh_41 rfl (lv_at hl 0 rfl) ?_
  refine gC_22_5 X q_1_207 dX6_refresh_42 hP ?_
  refine gC_0_10 (F := F) X (v := (F 2)) rfl q_1_91 dX6_refresh_45 hP ?_
  refine lv_icmp_ge (tgt := 74) X.1 X.2.1 dX6_refresh_48 (by decide) (fun c48 => ?_) (fun c48 => ?_)
  · have hf := it_s hf c48
    refine lv_aload_n X.1 X.2.1 dX6_refresh_74 rfl (lv_at hl 0 rfl) ?_
    refine lv_iconst (v := 1) X.1 X.2.1 dX6_refresh_75 (by decide) ?_
    refine pC_22_4 X (by decide) q_1_205 dX6_refresh_76 hP hS (fun H locs hP hS => ?_)
    obtain ⟨e0, hf⟩ := o2 hf
    obtain ⟨e1, hf⟩ := o2 hf
    obtain ⟨e2, hf⟩ := o2 hf
    obtain ⟨e3, hf⟩ := o2 hf
    obtain ⟨e4, hf⟩ := o2 hf
    obtain ⟨e5, hf⟩ := o2 hf
    obtain ⟨e6, hf⟩ := o2 hf
    have e7 := o1 hf
    have EF : Ff = (va_up F 7 1) := frm_eq (frm_up hfF (by decide)) (frm_c (e0).symm (frm_c (e1).symm frm_n))
    have EG : Gf = G := frm_eq hfG (frm_c (e2).symm frm_n)
    have EI : If = I := frm_eq hfI (frm_c (e3).symm (frm_c (e4).symm (frm_c (e5).symm frm_n)))
    have EJ : Jf = J := frm_eq hfJ (frm_c (e6).symm (frm_c (e7).symm frm_n))
    exact ret_v X hS (by rw [EF, EG, EI, EJ]; exact hP) dX6_refresh_79
  · have hf := ie_s hf c48
    refine lv_aload_n X.1 X.2.1 dX6_refresh_51 rfl (lv_at hl 0 rfl) ?_
    refine gC_22_5 X q_1_207 dX6_refresh_52 hP ?_
    refine gC_0_7 X q_1_76 dX6_refresh_55 hP ?_
    refine lv_iload_n X.1 X.2.1 dX6_refresh_58 rfl (lv_at hl 1 rfl) ?_
    obtain ⟨h59, hf⟩ := gd_s hf
    refine lC_10 (I := I) X (f := (I 6)) rfl h59 dX6_refresh_59 hP ?_
    refine lv_if_ne (tgt := 68) X.1 X.2.1 dX6_refresh_60 (by decide) (fun c60 => ?_) (fun c60 => ?_)
    · have hf := ie_s hf c60
      exact t_X6_refresh_b68 X kh40 F G I J x1 H locs ls hf hfF hfG hfI hfJ hP hS (lv_sub hl [0, 1] rfl)
    · have hf := it_s hf c60
      refine lv_aload_n X.1 X.2.1 dX6_refresh_63 rfl (lv_at hl 0 rfl) ?_
      refine lv_iload_n X.1 X.2.1 dX6_refresh_64 rfl (lv_at hl 1 rfl) ?_
      obtain ⟨W_suspects_65, W_total_65, W_kinds_65, W_answers_65, W_weights_65, W_reach_65, ho, hf⟩ := b6_s hf
      refine call_vv (rest := []) X (c_X6_suspect F G I J Z X.2.2.2.2.2.2.2.1 x1 ho) q_3_161 q_3_163 qs_yX6_suspect q_1_6 q_3_164 ok_X6_suspect rfl 22 rfl rfl ⟨Nat.le_of_ble_eq_true rfl, Nat.le_of_ble_eq_true rfl⟩ rfl rfl hl.1 rfl (Nat.le_of_ble_eq_true rfl) dX6_refresh_65 hP hS (fun H locs hP hS => ?_)
      exact t_X6_refresh_b68 X kh40 (va_up F 6 W_suspects_65) (va_up G 3 W_total_65) (va_up (va_up I 12 W_kinds_65) 13 W_answers_65) (va_up (va_up J 7 W_weights_65) 8 W_reach_65) x1 H locs ls hf (frm_up hfF (by decide)) (frm_up hfG (by decide)) (frm_up (frm_up hfI (by decide)) (by decide)) (frm_up (frm_up hfJ (by decide)) (by decide)) hP hS (lv_sub hl [0, 1] rfl)
set_option maxRecDepth 100000 in
theorem t_X6_refresh_b40 {p : Program} {l : Launch} {e : Env} {s : State} {m : MethodId} {args : Array Value} {below : List Frame} {meth : Method} {c : Code} {D : va_G} {a : Nat → Nat} {kc : Nat → ClassId} (X : cx 44 p s m args meth c D (tyC kc) a cX6_refresh 2 RX6 none) {Z : Nat → Nat → Nat → Int32} {Ff : Nat → Int32} {Gf : Nat → Int64} {If : Nat → Nat → Int32} {Jf : Nat → Nat → Int64}  :
    ∀ (n : Nat) (F : Nat → Int32) (G : Nat → Int64) (I : Nat → Nat → Int32) (J : Nat → Nat → Int64) (x1 : Int32) (H : Heap) (locs : List Loc) (ls : Array Slot), p_X6_refresh_b40 n (F 0) (F 2) (F 5) (F 6) (F 7) (G 3) (I 2) (I 4) (I 5) (I 6) (I 9) (I 10) (I 11) (I 12) (I 13) (J 7) (J 8) x1 = some ((Ff 6), (Ff 7), (Gf 3), (If 11), (If 12), (If 13), (Jf 7), (Jf 8)) → (∀ k, k ∉ ([6, 7] : List Nat) → Ff k = F k) → (∀ k, k ∉ ([3] : List Nat) → Gf k = G k) → (∀ k, k ∉ ([11, 12, 13] : List Nat) → If k = I k) → (∀ k, k ∉ ([7, 8] : List Nat) → Jf k = J k) → va_P D vwCl (wC a kc F G I J Z) H → va_S (ad a 44 s.heap.size) s.heap H locs → lv_has ls 2 [(0, .ref (a 22)), (1, .int x1)] → W p l e rm_X6_refresh s m args below meth c H locs 0 0 (MQ below (Qv D (wC a kc Ff Gf If Jf Z) (ad a 44 s.heap.size)) args s 0 0 (ad a 44 s.heap.size)) (F0 m 40 ls []) := by
  intro n
  induction n with
  | zero => intro F G I J x1 H locs ls hf hfF hfG hfI hfJ hP hS hl; exact (nos hf).elim
  | succ n ih => exact t_X6_refresh_b40x X ih
set_option maxHeartbeats 4000000 in
set_option maxRecDepth 100000 in
theorem t_X6_refresh_b0 {p : Program} {l : Launch} {e : Env} {s : State} {m : MethodId} {args : Array Value} {below : List Frame} {meth : Method} {c : Code} {D : va_G} {a : Nat → Nat} {kc : Nat → ClassId} (X : cx 44 p s m args meth c D (tyC kc) a cX6_refresh 2 RX6 none) {Z : Nat → Nat → Nat → Int32} {Ff : Nat → Int32} {Gf : Nat → Int64} {If : Nat → Nat → Int32} {Jf : Nat → Nat → Int64}  :
    ∀ (F : Nat → Int32) (G : Nat → Int64) (I : Nat → Nat → Int32) (J : Nat → Nat → Int64)  (H : Heap) (locs : List Loc) (ls : Array Slot), p_X6_refresh_b0 (F 0) (F 2) (F 5) (F 6) (F 7) (G 3) (I 2) (I 4) (I 5) (I 6) (I 9) (I 10) (I 11) (I 12) (I 13) (J 7) (J 8)  = some ((Ff 6), (Ff 7), (Gf 3), (If 11), (If 12), (If 13), (Jf 7), (Jf 8)) → (∀ k, k ∉ ([6, 7] : List Nat) → Ff k = F k) → (∀ k, k ∉ ([3] : List Nat) → Gf k = G k) → (∀ k, k ∉ ([11, 12, 13] : List Nat) → If k = I k) → (∀ k, k ∉ ([7, 8] : List Nat) → Jf k = J k) → va_P D vwCl (wC a kc F G I J Z) H → va_S (ad a 44 s.heap.size) s.heap H locs → lv_has ls 2 [(0, .ref (a 22))] → W p l e rm_X6_refresh s m args below meth c H locs 0 0 (MQ below (Qv D (wC a kc Ff Gf If Jf Z) (ad a 44 s.heap.size)) args s 0 0 (ad a 44 s.heap.size)) (F0 m 0 ls []) := by
  intro F G I J  H locs ls hf hfF hfG hfI hfJ hP hS hl
  unfold p_X6_refresh_b0 at hf
  refine lv_aload_n X.1 X.2.1 dX6_refresh_0 rfl (lv_at hl 0 rfl) ?_
  refine gC_22_4 (F := F) X (v := (F 7)) rfl q_1_205 dX6_refresh_1 hP ?_
  refine lv_if_eq (tgt := 8) X.1 X.2.1 dX6_refresh_4 (by decide) (fun c4 => ?_) (fun c4 => ?_)
  · have hf := it_s hf c4
    refine lv_aload_n X.1 X.2.1 dX6_refresh_8 rfl (lv_at hl 0 rfl) ?_
    refine gC_22_0 X q_1_197 dX6_refresh_9 hP ?_
    refine lv_lconst (v := 0) X.1 X.2.1 dX6_refresh_12 (by decide) ?_
    obtain ⟨W_weights_13, eW_weights_13, hf⟩ := nm_x hf
    refine flC_23 (J := J) (rest := []) X eW_weights_13 q_3_150 (Nat.le_of_ble_eq_true rfl) (Nat.le_of_ble_eq_true rfl) hl.1 (Nat.le_of_ble_eq_true rfl) dX6_refresh_13 hP hS (fun H locs hP hS => ?_)
    refine lv_aload_n X.1 X.2.1 dX6_refresh_16 rfl (lv_at hl 0 rfl) ?_
    refine gC_22_10 X q_1_212 dX6_refresh_17 hP ?_
    refine lv_iconst (v := 0) X.1 X.2.1 dX6_refresh_20 (by decide) ?_
    obtain ⟨W_answers_21, eW_answers_21, hf⟩ := nm_x hf
    refine flC_28 (I := I) (rest := []) X eW_answers_21 q_3_151 (Nat.le_of_ble_eq_true rfl) (Nat.le_of_ble_eq_true rfl) hl.1 (Nat.le_of_ble_eq_true rfl) dX6_refresh_21 hP hS (fun H locs hP hS => ?_)
    refine lv_aload_n X.1 X.2.1 dX6_refresh_24 rfl (lv_at hl 0 rfl) ?_
    refine lv_iconst (v := 0) X.1 X.2.1 dX6_refresh_25 (by decide) ?_
    refine pC_22_2 X q_1_201 dX6_refresh_26 hP hS (fun H locs hP hS => ?_)
    refine lv_aload_n X.1 X.2.1 dX6_refresh_29 rfl (lv_at hl 0 rfl) ?_
    refine lv_lconst (v := 0) X.1 X.2.1 dX6_refresh_30 (by decide) ?_
    refine pC_22_3 X q_1_203 dX6_refresh_31 hP hS (fun H locs hP hS => ?_)
    refine lv_aload_n X.1 X.2.1 dX6_refresh_34 rfl (lv_at hl 0 rfl) ?_
    obtain ⟨W_allowed_35, ho, hf⟩ := b1_s hf
    refine call_vv (rest := []) X (c_X6_narrow (va_up F 6 0) (va_up G 3 0) (va_up I 13 W_answers_21) (va_up J 7 W_weights_13) Z X.2.2.2.2.2.2.2.1  ho) q_3_152 q_3_154 qs_yX6_narrow q_1_6 q_3_155 ok_X6_narrow rfl 22 rfl rfl ⟨Nat.le_of_ble_eq_true rfl, Nat.le_of_ble_eq_true rfl⟩ rfl rfl hl.1 rfl (Nat.le_of_ble_eq_true rfl) dX6_refresh_35 hP hS (fun H locs hP hS => ?_)
    refine lv_iconst (v := 0) X.1 X.2.1 dX6_refresh_38 (by decide) ?_
    refine lv_istore_n (lv' := [(1, .int 0), (0, .ref (a 22))]) X.1 X.2.1 dX6_refresh_39 rfl hl (by decide) rfl (fun ls hl => ?_)
    exact t_X6_refresh_b40 X 4096 (va_up F 6 0) (va_up G 3 0) (va_up (va_up I 13 W_answers_21) 11 W_allowed_35) (va_up J 7 W_weights_13) 0 H locs ls hf (frm_up hfF (by decide)) (frm_up hfG (by decide)) (frm_up (frm_up hfI (by decide)) (by decide)) (frm_up hfJ (by decide)) hP hS (lv_sub hl [1, 0] rfl)
  · have hf := ie_s hf c4
    obtain ⟨e0, hf⟩ := o2 hf
    obtain ⟨e1, hf⟩ := o2 hf
    obtain ⟨e2, hf⟩ := o2 hf
    obtain ⟨e3, hf⟩ := o2 hf
    obtain ⟨e4, hf⟩ := o2 hf
    obtain ⟨e5, hf⟩ := o2 hf
    obtain ⟨e6, hf⟩ := o2 hf
    have e7 := o1 hf
    have EF : Ff = F := frm_eq hfF (frm_c (e0).symm (frm_c (e1).symm frm_n))
    have EG : Gf = G := frm_eq hfG (frm_c (e2).symm frm_n)
    have EI : If = I := frm_eq hfI (frm_c (e3).symm (frm_c (e4).symm (frm_c (e5).symm frm_n)))
    have EJ : Jf = J := frm_eq hfJ (frm_c (e6).symm (frm_c (e7).symm frm_n))
    exact ret_v X hS (by rw [EF, EG, EI, EJ]; exact hP) dX6_refresh_7
set_option maxRecDepth 100000 in
theorem c_X6_refresh {l : Launch} {D : va_G} {a : Nat → Nat} {kc : Nat → ClassId} (F : Nat → Int32) (G : Nat → Int64) (I : Nat → Nat → Int32) (J : Nat → Nat → Int64) (Z : Nat → Nat → Nat → Int32) (hAp : ∀ i j, i < 44 → j < 44 → a i = a j → i = j)  {o0 : Int32} {o1 : Int32} {o2 : Int64} {o3 : Nat → Int32} {o4 : Nat → Int32} {o5 : Nat → Int32} {o6 : Nat → Int64} {o7 : Nat → Int64} (hf : p_X6_refresh (F 0) (F 2) (F 5) (F 6) (F 7) (G 3) (I 2) (I 4) (I 5) (I 6) (I 9) (I 10) (I 11) (I 12) (I 13) (J 7) (J 8)  = some (o0, o1, o2, o3, o4, o5, o6, o7)) : Ct 44 l yX6_refresh cX6_refresh 2 none rm_X6_refresh D (tyC kc) a (wC a kc F G I J Z) [.ref (a 22)] (Qv D (wC a kc (va_up (va_up F 6 o0) 7 o1) (va_up G 3 o2) (va_up (va_up (va_up I 11 o3) 12 o4) 13 o5) (va_up (va_up J 7 o6) 8 o7) Z)) :=
  Ct.of (by decide +kernel) hAp (Nat.le_of_ble_eq_true rfl) (fun p e s m args below meth c ls X hP hl => t_X6_refresh_b0 X F G I J  _ _ _ hf (frm_ul (frm_ul (fun k _ => rfl) (by decide)) (by decide)) (frm_ul (fun k _ => rfl) (by decide)) (frm_ul (frm_ul (frm_ul (fun k _ => rfl) (by decide)) (by decide)) (by decide)) (frm_ul (frm_ul (fun k _ => rfl) (by decide)) (by decide)) hP va_S.rf hl)
abbrev rm_X6_heaviest : Room := { frames := 0, cells := 0, slots := 0, locals := 0 }
set_option maxHeartbeats 4000000 in
set_option maxRecDepth 100000 in
theorem t_X6_heaviest_b42 {p : Program} {l : Launch} {e : Env} {s : State} {m : MethodId} {args : Array Value} {below : List Frame} {meth : Method} {c : Code} {D : va_G} {a : Nat → Nat} {kc : Nat → ClassId} (X : cx 44 p s m args meth c D (tyC kc) a cX6_heaviest 5 RX6 (some .int)) {F : Nat → Int32} {G : Nat → Int64} {I : Nat → Nat → Int32} {J : Nat → Nat → Int64} {Z : Nat → Nat → Nat → Int32}  {r : Int32} {K7 : Int32 → (Nat → Int64) → Int32 → Int64 → Int32 → Option (Int32)} (kh7 : ∀  (x1 : Int32) (x2 : Int64) (x4 : Int32) (H : Heap) (locs : List Loc) (ls : Array Slot), K7 (F 2) (J 7) x1 x2 x4 = some r → va_P D vwCl (wC a kc F G I J Z) H → va_S (ad a 44 s.heap.size) s.heap H locs → lv_has ls 5 [(0, .ref (a 22)), (1, .int x1), (2, .long x2), (4, .int x4)] → W p l e rm_X6_heaviest s m args below meth c H locs 0 0 (MQ below (Qi D (wC a kc F G I J Z) r (ad a 44 s.heap.size)) args s 0 0 (ad a 44 s.heap.size)) (F0 m 7 ls [])) :
    ∀  (x1 : Int32) (x2 : Int64) (x4 : Int32) (H : Heap) (locs : List Loc) (ls : Array Slot), p_X6_heaviest_b42 K7 (F 2) (J 7) x1 x2 x4 = some r → va_P D vwCl (wC a kc F G I J Z) H → va_S (ad a 44 s.heap.size) s.heap H locs → lv_has ls 5 [(0, .ref (a 22)), (1, .int x1), (2, .long x2), (4, .int x4)] → W p l e rm_X6_heaviest s m args below meth c H locs 0 0 (MQ below (Qi D (wC a kc F G I J Z) r (ad a 44 s.heap.size)) args s 0 0 (ad a 44 s.heap.size)) (F0 m 42 ls []) := by
  intro  x1 x2 x4 H locs ls hf  hP hS hl
  unfold p_X6_heaviest_b42 at hf
  obtain ⟨x42, ex42, hf⟩ := nm_x hf
  refine lv_iinc (v := x42) (lv' := [(4, .int x42), (0, .ref (a 22)), (1, .int x1), (2, .long x2)]) X.1 X.2.1 dX6_heaviest_42 hl (k := 3) rfl ex42 (by decide) rfl (fun ls hl => ?_)
  refine lv_goto (tgt := 7) X.1 X.2.1 dX6_heaviest_45 (by decide) ?_
  exact kh7  x1 x2 x42 H locs ls hf  hP hS (lv_sub hl [1, 2, 3, 0] rfl)
set_option maxHeartbeats 4000000 in
set_option maxRecDepth 100000 in
theorem t_X6_heaviest_b7x {p : Program} {l : Launch} {e : Env} {s : State} {m : MethodId} {args : Array Value} {below : List Frame} {meth : Method} {c : Code} {D : va_G} {a : Nat → Nat} {kc : Nat → ClassId} (X : cx 44 p s m args meth c D (tyC kc) a cX6_heaviest 5 RX6 (some .int)) {F : Nat → Int32} {G : Nat → Int64} {I : Nat → Nat → Int32} {J : Nat → Nat → Int64} {Z : Nat → Nat → Nat → Int32}  {r : Int32} {K7 : Int32 → (Nat → Int64) → Int32 → Int64 → Int32 → Option (Int32)} (kh7 : ∀  (x1 : Int32) (x2 : Int64) (x4 : Int32) (H : Heap) (locs : List Loc) (ls : Array Slot), K7 (F 2) (J 7) x1 x2 x4 = some r → va_P D vwCl (wC a kc F G I J Z) H → va_S (ad a 44 s.heap.size) s.heap H locs → lv_has ls 5 [(0, .ref (a 22)), (1, .int x1), (2, .long x2), (4, .int x4)] → W p l e rm_X6_heaviest s m args below meth c H locs 0 0 (MQ below (Qi D (wC a kc F G I J Z) r (ad a 44 s.heap.size)) args s 0 0 (ad a 44 s.heap.size)) (F0 m 7 ls [])) :
    ∀  (x1 : Int32) (x2 : Int64) (x4 : Int32) (H : Heap) (locs : List Loc) (ls : Array Slot), p_X6_heaviest_b7x K7 (F 2) (J 7) x1 x2 x4 = some r → va_P D vwCl (wC a kc F G I J Z) H → va_S (ad a 44 s.heap.size) s.heap H locs → lv_has ls 5 [(0, .ref (a 22)), (1, .int x1), (2, .long x2), (4, .int x4)] → W p l e rm_X6_heaviest s m args below meth c H locs 0 0 (MQ below (Qi D (wC a kc F G I J Z) r (ad a 44 s.heap.size)) args s 0 0 (ad a 44 s.heap.size)) (F0 m 7 ls []) := by
  intro  x1 x2 x4 H locs ls hf  hP hS hl
  unfold p_X6_heaviest_b7x at hf
  refine lv_iload X.1 X.2.1 dX6_heaviest_7 (lv_at hl 3 rfl) ?_
  refine lv_aload_n X.1 X.2.1 dX6_heaviest_9 rfl (lv_at hl 0 rfl) ?_
  refine gC_22_5 X q_1_207 dX6_heaviest_10 hP ?_
  refine gC_0_10 (F := F) X (v := (F 2)) rfl q_1_91 dX6_heaviest_13 hP ?_
  refine lv_icmp_ge (tgt := 48) X.1 X.2.1 dX6_heaviest_16 (by decide) (fun c16 => ?_) (fun c16 => ?_)
  · have hf := it_s hf c16
    refine lv_iload_n X.1 X.2.1 dX6_heaviest_48 rfl (lv_at hl 1 rfl) ?_
    have e0 := o1 hf
    exact ret_i X hS hP e0 dX6_heaviest_49
  · have hf := ie_s hf c16
    refine lv_aload_n X.1 X.2.1 dX6_heaviest_19 rfl (lv_at hl 0 rfl) ?_
    refine gC_22_0 X q_1_197 dX6_heaviest_20 hP ?_
    refine lv_iload X.1 X.2.1 dX6_heaviest_23 (lv_at hl 3 rfl) ?_
    obtain ⟨h25, hf⟩ := gd_s hf
    refine lC_23 (J := J) X (f := (J 7)) rfl h25 dX6_heaviest_25 hP ?_
    refine lv_lload_n X.1 X.2.1 dX6_heaviest_26 rfl (lv_at hl 2 rfl) ?_
    refine W.lcmp X.1 X.2.1 dX6_heaviest_27 ?_
    refine lv_if_le (tgt := 42) X.1 X.2.1 dX6_heaviest_28 (by decide) (fun c28 => ?_) (fun c28 => ?_)
    · have hf := it_s hf c28
      exact t_X6_heaviest_b42 X kh7  x1 x2 x4 H locs ls hf  hP hS (lv_sub hl [0, 1, 2, 3] rfl)
    · have hf := ie_s hf c28
      refine lv_aload_n X.1 X.2.1 dX6_heaviest_31 rfl (lv_at hl 0 rfl) ?_
      refine gC_22_0 X q_1_197 dX6_heaviest_32 hP ?_
      refine lv_iload X.1 X.2.1 dX6_heaviest_35 (lv_at hl 3 rfl) ?_
      obtain ⟨h37, hf⟩ := gd_s hf
      refine lC_23 (J := J) X (f := (J 7)) rfl h37 dX6_heaviest_37 hP ?_
      refine nm_l hf (fun x38 hf => ?_)
      refine lv_lstore_n (lv' := [(2, .long x38), (0, .ref (a 22)), (1, .int x1), (4, .int x4)]) X.1 X.2.1 dX6_heaviest_38 rfl hl (by decide) rfl (fun ls hl => ?_)
      refine lv_iload X.1 X.2.1 dX6_heaviest_39 (lv_at hl 3 rfl) ?_
      refine lv_istore_n (lv' := [(1, .int x4), (2, .long x38), (0, .ref (a 22)), (4, .int x4)]) X.1 X.2.1 dX6_heaviest_41 rfl hl (by decide) rfl (fun ls hl => ?_)
      exact t_X6_heaviest_b42 X kh7  x4 x38 x4 H locs ls hf  hP hS (lv_sub hl [2, 0, 1, 3] rfl)
set_option maxRecDepth 100000 in
theorem t_X6_heaviest_b7 {p : Program} {l : Launch} {e : Env} {s : State} {m : MethodId} {args : Array Value} {below : List Frame} {meth : Method} {c : Code} {D : va_G} {a : Nat → Nat} {kc : Nat → ClassId} (X : cx 44 p s m args meth c D (tyC kc) a cX6_heaviest 5 RX6 (some .int)) {F : Nat → Int32} {G : Nat → Int64} {I : Nat → Nat → Int32} {J : Nat → Nat → Int64} {Z : Nat → Nat → Nat → Int32}  {r : Int32} :
    ∀ (n : Nat)  (x1 : Int32) (x2 : Int64) (x4 : Int32) (H : Heap) (locs : List Loc) (ls : Array Slot), p_X6_heaviest_b7 n (F 2) (J 7) x1 x2 x4 = some r → va_P D vwCl (wC a kc F G I J Z) H → va_S (ad a 44 s.heap.size) s.heap H locs → lv_has ls 5 [(0, .ref (a 22)), (1, .int x1), (2, .long x2), (4, .int x4)] → W p l e rm_X6_heaviest s m args below meth c H locs 0 0 (MQ below (Qi D (wC a kc F G I J Z) r (ad a 44 s.heap.size)) args s 0 0 (ad a 44 s.heap.size)) (F0 m 7 ls []) := by
  intro n
  induction n with
  | zero => intro  x1 x2 x4 H locs ls hf  hP hS hl; exact (nos hf).elim
  | succ n ih => exact t_X6_heaviest_b7x X ih
set_option maxHeartbeats 4000000 in
set_option maxRecDepth 100000 in
theorem t_X6_heaviest_b0 {p : Program} {l : Launch} {e : Env} {s : State} {m : MethodId} {args : Array Value} {below : List Frame} {meth : Method} {c : Code} {D : va_G} {a : Nat → Nat} {kc : Nat → ClassId} (X : cx 44 p s m args meth c D (tyC kc) a cX6_heaviest 5 RX6 (some .int)) {F : Nat → Int32} {G : Nat → Int64} {I : Nat → Nat → Int32} {J : Nat → Nat → Int64} {Z : Nat → Nat → Nat → Int32}  {r : Int32} :
    ∀   (H : Heap) (locs : List Loc) (ls : Array Slot), p_X6_heaviest_b0 (F 2) (J 7)  = some r → va_P D vwCl (wC a kc F G I J Z) H → va_S (ad a 44 s.heap.size) s.heap H locs → lv_has ls 5 [(0, .ref (a 22))] → W p l e rm_X6_heaviest s m args below meth c H locs 0 0 (MQ below (Qi D (wC a kc F G I J Z) r (ad a 44 s.heap.size)) args s 0 0 (ad a 44 s.heap.size)) (F0 m 0 ls []) := by
  intro   H locs ls hf  hP hS hl
  unfold p_X6_heaviest_b0 at hf
  refine lv_iconst (v := (-1)) X.1 X.2.1 dX6_heaviest_0 (by decide) ?_
  refine lv_istore_n (lv' := [(1, .int (-1)), (0, .ref (a 22))]) X.1 X.2.1 dX6_heaviest_1 rfl hl (by decide) rfl (fun ls hl => ?_)
  refine lv_lconst (v := 0) X.1 X.2.1 dX6_heaviest_2 (by decide) ?_
  refine lv_lstore_n (lv' := [(2, .long 0), (1, .int (-1)), (0, .ref (a 22))]) X.1 X.2.1 dX6_heaviest_3 rfl hl (by decide) rfl (fun ls hl => ?_)
  refine lv_iconst (v := 0) X.1 X.2.1 dX6_heaviest_4 (by decide) ?_
  refine lv_istore (lv' := [(4, .int 0), (2, .long 0), (1, .int (-1)), (0, .ref (a 22))]) X.1 X.2.1 dX6_heaviest_5 hl (by decide) rfl (fun ls hl => ?_)
  exact t_X6_heaviest_b7 X 4096  (-1) 0 0 H locs ls hf  hP hS (lv_sub hl [3, 2, 1, 0] rfl)
set_option maxRecDepth 100000 in
theorem c_X6_heaviest {l : Launch} {D : va_G} {a : Nat → Nat} {kc : Nat → ClassId} (F : Nat → Int32) (G : Nat → Int64) (I : Nat → Nat → Int32) (J : Nat → Nat → Int64) (Z : Nat → Nat → Nat → Int32) (hAp : ∀ i j, i < 44 → j < 44 → a i = a j → i = j)  {o0 : Int32} (hf : p_X6_heaviest (F 2) (J 7)  = some o0) : Ct 44 l yX6_heaviest cX6_heaviest 5 (some .int) rm_X6_heaviest D (tyC kc) a (wC a kc F G I J Z) [.ref (a 22)] (Qi D (wC a kc F G I J Z) o0) :=
  Ct.of (by decide +kernel) hAp (Nat.le_of_ble_eq_true rfl) (fun p e s m args below meth c ls X hP hl => t_X6_heaviest_b0 X   _ _ _ hf  hP va_S.rf hl)
abbrev rm_X6_worstCase : Room := { frames := 1, cells := 0, slots := 0, locals := 30 }
set_option maxHeartbeats 4000000 in
set_option maxRecDepth 100000 in
theorem t_X6_worstCase_b59 {p : Program} {l : Launch} {e : Env} {s : State} {m : MethodId} {args : Array Value} {below : List Frame} {meth : Method} {c : Code} {D : va_G} {a : Nat → Nat} {kc : Nat → ClassId} (X : cx 44 p s m args meth c D (tyC kc) a cX6_worstCase 6 RX6 (some .int)) {F : Nat → Int32} {G : Nat → Int64} {I : Nat → Nat → Int32} {J : Nat → Nat → Int64} {Z : Nat → Nat → Nat → Int32}  {r : Int32} {K4 : Int32 → Int32 → (Nat → Int32) → Int32 → Int32 → Int32 → Option (Int32)} (kh4 : ∀  (x1 : Int32) (x2 : Int32) (x3 : Int32) (H : Heap) (locs : List Loc) (ls : Array Slot), K4 (F 0) (F 2) (I 13) x1 x2 x3 = some r → va_P D vwCl (wC a kc F G I J Z) H → va_S (ad a 44 s.heap.size) s.heap H locs → lv_has ls 6 [(0, .ref (a 22)), (1, .int x1), (2, .int x2), (3, .int x3)] → W p l e rm_X6_worstCase s m args below meth c H locs 0 0 (MQ below (Qi D (wC a kc F G I J Z) r (ad a 44 s.heap.size)) args s 0 0 (ad a 44 s.heap.size)) (F0 m 4 ls [])) {K21 : Int32 → Int32 → (Nat → Int32) → Int32 → Int32 → Int32 → Int32 → Int32 → Option (Int32)} (kh21 : ∀  (x1 : Int32) (x2 : Int32) (x3 : Int32) (x4 : Int32) (x5 : Int32) (H : Heap) (locs : List Loc) (ls : Array Slot), K21 (F 0) (F 2) (I 13) x1 x2 x3 x4 x5 = some r → va_P D vwCl (wC a kc F G I J Z) H → va_S (ad a 44 s.heap.size) s.heap H locs → lv_has ls 6 [(0, .ref (a 22)), (1, .int x1), (2, .int x2), (3, .int x3), (4, .int x4), (5, .int x5)] → W p l e rm_X6_worstCase s m args below meth c H locs 0 0 (MQ below (Qi D (wC a kc F G I J Z) r (ad a 44 s.heap.size)) args s 0 0 (ad a 44 s.heap.size)) (F0 m 21 ls [])) :
    ∀  (t0 : Int32) (t1 : Int32) (x1 : Int32) (x2 : Int32) (x3 : Int32) (x5 : Int32) (H : Heap) (locs : List Loc) (ls : Array Slot), p_X6_worstCase_b59 K4 K21 (F 0) (F 2) (I 13) t0 t1 x1 x2 x3 x5 = some r → va_P D vwCl (wC a kc F G I J Z) H → va_S (ad a 44 s.heap.size) s.heap H locs → lv_has ls 6 [(0, .ref (a 22)), (1, .int x1), (2, .int x2), (3, .int x3), (5, .int x5)] → W p l e rm_X6_worstCase s m args below meth c H locs 0 0 (MQ below (Qi D (wC a kc F G I J Z) r (ad a 44 s.heap.size)) args s 0 0 (ad a 44 s.heap.size)) (F0 m 59 ls [.int t1, .int t0]) := by
  intro  t0 t1 x1 x2 x3 x5 H locs ls hf  hP hS hl
  unfold p_X6_worstCase_b59 at hf
  refine lv_iadd X.1 X.2.1 dX6_worstCase_59 ?_
  refine nm_i hf (fun x60 hf => ?_)
  refine lv_istore (lv' := [(4, .int x60), (0, .ref (a 22)), (1, .int x1), (2, .int x2), (3, .int x3), (5, .int x5)]) X.1 X.2.1 dX6_worstCase_60 hl (by decide) rfl (fun ls hl => ?_)
  obtain ⟨x62, ex62, hf⟩ := nm_x hf
  refine lv_iinc (v := x62) (lv' := [(5, .int x62), (4, .int x60), (0, .ref (a 22)), (1, .int x1), (2, .int x2), (3, .int x3)]) X.1 X.2.1 dX6_worstCase_62 hl (k := 5) rfl ex62 (by decide) rfl (fun ls hl => ?_)
  refine lv_goto (tgt := 21) X.1 X.2.1 dX6_worstCase_65 (by decide) ?_
  exact kh21  x1 x2 x3 x60 x62 H locs ls hf  hP hS (lv_sub hl [2, 3, 4, 5, 1, 0] rfl)
set_option maxHeartbeats 4000000 in
set_option maxRecDepth 100000 in
theorem t_X6_worstCase_b21x {p : Program} {l : Launch} {e : Env} {s : State} {m : MethodId} {args : Array Value} {below : List Frame} {meth : Method} {c : Code} {D : va_G} {a : Nat → Nat} {kc : Nat → ClassId} (X : cx 44 p s m args meth c D (tyC kc) a cX6_worstCase 6 RX6 (some .int)) {F : Nat → Int32} {G : Nat → Int64} {I : Nat → Nat → Int32} {J : Nat → Nat → Int64} {Z : Nat → Nat → Nat → Int32}  {r : Int32} {K4 : Int32 → Int32 → (Nat → Int32) → Int32 → Int32 → Int32 → Option (Int32)} (kh4 : ∀  (x1 : Int32) (x2 : Int32) (x3 : Int32) (H : Heap) (locs : List Loc) (ls : Array Slot), K4 (F 0) (F 2) (I 13) x1 x2 x3 = some r → va_P D vwCl (wC a kc F G I J Z) H → va_S (ad a 44 s.heap.size) s.heap H locs → lv_has ls 6 [(0, .ref (a 22)), (1, .int x1), (2, .int x2), (3, .int x3)] → W p l e rm_X6_worstCase s m args below meth c H locs 0 0 (MQ below (Qi D (wC a kc F G I J Z) r (ad a 44 s.heap.size)) args s 0 0 (ad a 44 s.heap.size)) (F0 m 4 ls [])) {K21 : Int32 → Int32 → (Nat → Int32) → Int32 → Int32 → Int32 → Int32 → Int32 → Option (Int32)} (kh21 : ∀  (x1 : Int32) (x2 : Int32) (x3 : Int32) (x4 : Int32) (x5 : Int32) (H : Heap) (locs : List Loc) (ls : Array Slot), K21 (F 0) (F 2) (I 13) x1 x2 x3 x4 x5 = some r → va_P D vwCl (wC a kc F G I J Z) H → va_S (ad a 44 s.heap.size) s.heap H locs → lv_has ls 6 [(0, .ref (a 22)), (1, .int x1), (2, .int x2), (3, .int x3), (4, .int x4), (5, .int x5)] → W p l e rm_X6_worstCase s m args below meth c H locs 0 0 (MQ below (Qi D (wC a kc F G I J Z) r (ad a 44 s.heap.size)) args s 0 0 (ad a 44 s.heap.size)) (F0 m 21 ls [])) :
    ∀  (x1 : Int32) (x2 : Int32) (x3 : Int32) (x4 : Int32) (x5 : Int32) (H : Heap) (locs : List Loc) (ls : Array Slot), p_X6_worstCase_b21x K4 K21 (F 0) (F 2) (I 13) x1 x2 x3 x4 x5 = some r → va_P D vwCl (wC a kc F G I J Z) H → va_S (ad a 44 s.heap.size) s.heap H locs → lv_has ls 6 [(0, .ref (a 22)), (1, .int x1), (2, .int x2), (3, .int x3), (4, .int x4), (5, .int x5)] → W p l e rm_X6_worstCase s m args below meth c H locs 0 0 (MQ below (Qi D (wC a kc F G I J Z) r (ad a 44 s.heap.size)) args s 0 0 (ad a 44 s.heap.size)) (F0 m 21 ls []) := by
  intro  x1 x2 x3 x4 x5 H locs ls hf  hP hS hl
  unfold p_X6_worstCase_b21x at hf
  refine lv_iload X.1 X.2.1 dX6_worstCase_21 (lv_at hl 5 rfl) ?_
  refine lv_aload_n X.1 X.2.1 dX6_worstCase_23 rfl (lv_at hl 0 rfl) ?_
  refine gC_22_5 X q_1_207 dX6_worstCase_24 hP ?_
  refine gC_0_10 (F := F) X (v := (F 2)) rfl q_1_91 dX6_worstCase_27 hP ?_
  refine lv_icmp_ge (tgt := 68) X.1 X.2.1 dX6_worstCase_30 (by decide) (fun c30 => ?_) (fun c30 => ?_)
  · have hf := it_s hf c30
    refine lv_iload_n X.1 X.2.1 dX6_worstCase_68 rfl (lv_at hl 2 rfl) ?_
    refine lv_iload X.1 X.2.1 dX6_worstCase_69 (lv_at hl 4 rfl) ?_
    refine va_mmax X.1 X.2.1 (by rw [X.2.2.1, hl.1]) X.2.2.2.2.1 (X.2.2.2.2.2.1 _ q_3_214) (X.2.2.2.2.2.1 _ q_3_112) (X.2.2.2.2.2.1 _ q_1_13) (X.2.2.2.2.2.1 _ q_3_113) (Nat.le_of_ble_eq_true rfl) (Nat.le_of_ble_eq_true rfl) (Nat.zero_le _) (Nat.zero_le _) dX6_worstCase_71 ?_
    refine nm_i hf (fun x74 hf => ?_)
    refine lv_istore_n (lv' := [(2, .int x74), (0, .ref (a 22)), (1, .int x1), (3, .int x3), (4, .int x4), (5, .int x5)]) X.1 X.2.1 dX6_worstCase_74 rfl hl (by decide) rfl (fun ls hl => ?_)
    obtain ⟨x75, ex75, hf⟩ := nm_x hf
    refine lv_iinc (v := x75) (lv' := [(3, .int x75), (2, .int x74), (0, .ref (a 22)), (1, .int x1), (4, .int x4), (5, .int x5)]) X.1 X.2.1 dX6_worstCase_75 hl (k := 3) rfl ex75 (by decide) rfl (fun ls hl => ?_)
    refine lv_goto (tgt := 4) X.1 X.2.1 dX6_worstCase_78 (by decide) ?_
    exact kh4  x1 x74 x75 H locs ls hf  hP hS (lv_sub hl [2, 3, 1, 0] rfl)
  · have hf := ie_s hf c30
    refine lv_iload X.1 X.2.1 dX6_worstCase_33 (lv_at hl 4 rfl) ?_
    refine lv_aload_n X.1 X.2.1 dX6_worstCase_35 rfl (lv_at hl 0 rfl) ?_
    refine gC_22_10 X q_1_212 dX6_worstCase_36 hP ?_
    refine lv_iload X.1 X.2.1 dX6_worstCase_39 (lv_at hl 5 rfl) ?_
    refine lv_bipush (v := 8) X.1 X.2.1 dX6_worstCase_41 (by decide) ?_
    refine lv_imul X.1 X.2.1 dX6_worstCase_43 ?_
    refine lv_iload_n X.1 X.2.1 dX6_worstCase_44 rfl (lv_at hl 1 rfl) ?_
    refine lv_iadd X.1 X.2.1 dX6_worstCase_45 ?_
    obtain ⟨h46, hf⟩ := gd_s hf
    refine lC_28 (I := I) X (f := (I 13)) rfl h46 dX6_worstCase_46 hP ?_
    refine lv_iload_n X.1 X.2.1 dX6_worstCase_47 rfl (lv_at hl 3 rfl) ?_
    obtain ⟨r48, ho, hf⟩ := b1_s hf
    refine call_si (rest := [.int x4]) X (c_X3_has ((I 13) ((x5 * 8) + x1).toNatClampNeg) x3 ho) q_3_177 q_2_178 q_1_2 q_2_179 ok_X3_has rfl ⟨Nat.le_of_ble_eq_true rfl, Nat.le_of_ble_eq_true rfl⟩ rfl rfl hl.1 rfl (Nat.le_of_ble_eq_true rfl) dX6_worstCase_48 hP hS (fun H locs hP hS => ?_)
    refine lv_if_eq (tgt := 58) X.1 X.2.1 dX6_worstCase_51 (by decide) (fun c51 => ?_) (fun c51 => ?_)
    · have hf := it_s hf c51
      refine lv_iconst (v := 0) X.1 X.2.1 dX6_worstCase_58 (by decide) ?_
      exact t_X6_worstCase_b59 X kh4 kh21  x4 0 x1 x2 x3 x5 H locs ls hf  hP hS (lv_sub hl [0, 1, 2, 3, 5] rfl)
    · have hf := ie_s hf c51
      refine lv_iconst (v := 1) X.1 X.2.1 dX6_worstCase_54 (by decide) ?_
      refine lv_goto (tgt := 59) X.1 X.2.1 dX6_worstCase_55 (by decide) ?_
      exact t_X6_worstCase_b59 X kh4 kh21  x4 1 x1 x2 x3 x5 H locs ls hf  hP hS (lv_sub hl [0, 1, 2, 3, 5] rfl)
set_option maxRecDepth 100000 in
theorem t_X6_worstCase_b21 {p : Program} {l : Launch} {e : Env} {s : State} {m : MethodId} {args : Array Value} {below : List Frame} {meth : Method} {c : Code} {D : va_G} {a : Nat → Nat} {kc : Nat → ClassId} (X : cx 44 p s m args meth c D (tyC kc) a cX6_worstCase 6 RX6 (some .int)) {F : Nat → Int32} {G : Nat → Int64} {I : Nat → Nat → Int32} {J : Nat → Nat → Int64} {Z : Nat → Nat → Nat → Int32}  {r : Int32} {K4 : Int32 → Int32 → (Nat → Int32) → Int32 → Int32 → Int32 → Option (Int32)} (kh4 : ∀  (x1 : Int32) (x2 : Int32) (x3 : Int32) (H : Heap) (locs : List Loc) (ls : Array Slot), K4 (F 0) (F 2) (I 13) x1 x2 x3 = some r → va_P D vwCl (wC a kc F G I J Z) H → va_S (ad a 44 s.heap.size) s.heap H locs → lv_has ls 6 [(0, .ref (a 22)), (1, .int x1), (2, .int x2), (3, .int x3)] → W p l e rm_X6_worstCase s m args below meth c H locs 0 0 (MQ below (Qi D (wC a kc F G I J Z) r (ad a 44 s.heap.size)) args s 0 0 (ad a 44 s.heap.size)) (F0 m 4 ls [])) :
    ∀ (n : Nat)  (x1 : Int32) (x2 : Int32) (x3 : Int32) (x4 : Int32) (x5 : Int32) (H : Heap) (locs : List Loc) (ls : Array Slot), p_X6_worstCase_b21 K4 n (F 0) (F 2) (I 13) x1 x2 x3 x4 x5 = some r → va_P D vwCl (wC a kc F G I J Z) H → va_S (ad a 44 s.heap.size) s.heap H locs → lv_has ls 6 [(0, .ref (a 22)), (1, .int x1), (2, .int x2), (3, .int x3), (4, .int x4), (5, .int x5)] → W p l e rm_X6_worstCase s m args below meth c H locs 0 0 (MQ below (Qi D (wC a kc F G I J Z) r (ad a 44 s.heap.size)) args s 0 0 (ad a 44 s.heap.size)) (F0 m 21 ls []) := by
  intro n
  induction n with
  | zero => intro  x1 x2 x3 x4 x5 H locs ls hf  hP hS hl; exact (nos hf).elim
  | succ n ih => exact t_X6_worstCase_b21x X kh4 ih
set_option maxHeartbeats 4000000 in
set_option maxRecDepth 100000 in
theorem t_X6_worstCase_b4x {p : Program} {l : Launch} {e : Env} {s : State} {m : MethodId} {args : Array Value} {below : List Frame} {meth : Method} {c : Code} {D : va_G} {a : Nat → Nat} {kc : Nat → ClassId} (X : cx 44 p s m args meth c D (tyC kc) a cX6_worstCase 6 RX6 (some .int)) {F : Nat → Int32} {G : Nat → Int64} {I : Nat → Nat → Int32} {J : Nat → Nat → Int64} {Z : Nat → Nat → Nat → Int32}  {r : Int32} {K4 : Int32 → Int32 → (Nat → Int32) → Int32 → Int32 → Int32 → Option (Int32)} (kh4 : ∀  (x1 : Int32) (x2 : Int32) (x3 : Int32) (H : Heap) (locs : List Loc) (ls : Array Slot), K4 (F 0) (F 2) (I 13) x1 x2 x3 = some r → va_P D vwCl (wC a kc F G I J Z) H → va_S (ad a 44 s.heap.size) s.heap H locs → lv_has ls 6 [(0, .ref (a 22)), (1, .int x1), (2, .int x2), (3, .int x3)] → W p l e rm_X6_worstCase s m args below meth c H locs 0 0 (MQ below (Qi D (wC a kc F G I J Z) r (ad a 44 s.heap.size)) args s 0 0 (ad a 44 s.heap.size)) (F0 m 4 ls [])) :
    ∀  (x1 : Int32) (x2 : Int32) (x3 : Int32) (H : Heap) (locs : List Loc) (ls : Array Slot), p_X6_worstCase_b4x K4 (F 0) (F 2) (I 13) x1 x2 x3 = some r → va_P D vwCl (wC a kc F G I J Z) H → va_S (ad a 44 s.heap.size) s.heap H locs → lv_has ls 6 [(0, .ref (a 22)), (1, .int x1), (2, .int x2), (3, .int x3)] → W p l e rm_X6_worstCase s m args below meth c H locs 0 0 (MQ below (Qi D (wC a kc F G I J Z) r (ad a 44 s.heap.size)) args s 0 0 (ad a 44 s.heap.size)) (F0 m 4 ls []) := by
  intro  x1 x2 x3 H locs ls hf  hP hS hl
  unfold p_X6_worstCase_b4x at hf
  refine lv_iload_n X.1 X.2.1 dX6_worstCase_4 rfl (lv_at hl 3 rfl) ?_
  refine lv_aload_n X.1 X.2.1 dX6_worstCase_5 rfl (lv_at hl 0 rfl) ?_
  refine gC_22_5 X q_1_207 dX6_worstCase_6 hP ?_
  refine gC_0_8 (F := F) X (v := (F 0)) rfl q_1_82 dX6_worstCase_9 hP ?_
  refine lv_icmp_ge (tgt := 81) X.1 X.2.1 dX6_worstCase_12 (by decide) (fun c12 => ?_) (fun c12 => ?_)
  · have hf := it_s hf c12
    refine lv_iload_n X.1 X.2.1 dX6_worstCase_81 rfl (lv_at hl 2 rfl) ?_
    have e0 := o1 hf
    exact ret_i X hS hP e0 dX6_worstCase_82
  · have hf := ie_s hf c12
    refine lv_iconst (v := 0) X.1 X.2.1 dX6_worstCase_15 (by decide) ?_
    refine lv_istore (lv' := [(4, .int 0), (0, .ref (a 22)), (1, .int x1), (2, .int x2), (3, .int x3)]) X.1 X.2.1 dX6_worstCase_16 hl (by decide) rfl (fun ls hl => ?_)
    refine lv_iconst (v := 0) X.1 X.2.1 dX6_worstCase_18 (by decide) ?_
    refine lv_istore (lv' := [(5, .int 0), (4, .int 0), (0, .ref (a 22)), (1, .int x1), (2, .int x2), (3, .int x3)]) X.1 X.2.1 dX6_worstCase_19 hl (by decide) rfl (fun ls hl => ?_)
    exact t_X6_worstCase_b21 X kh4 4096  x1 x2 x3 0 0 H locs ls hf  hP hS (lv_sub hl [2, 3, 4, 5, 1, 0] rfl)
set_option maxRecDepth 100000 in
theorem t_X6_worstCase_b4 {p : Program} {l : Launch} {e : Env} {s : State} {m : MethodId} {args : Array Value} {below : List Frame} {meth : Method} {c : Code} {D : va_G} {a : Nat → Nat} {kc : Nat → ClassId} (X : cx 44 p s m args meth c D (tyC kc) a cX6_worstCase 6 RX6 (some .int)) {F : Nat → Int32} {G : Nat → Int64} {I : Nat → Nat → Int32} {J : Nat → Nat → Int64} {Z : Nat → Nat → Nat → Int32}  {r : Int32} :
    ∀ (n : Nat)  (x1 : Int32) (x2 : Int32) (x3 : Int32) (H : Heap) (locs : List Loc) (ls : Array Slot), p_X6_worstCase_b4 n (F 0) (F 2) (I 13) x1 x2 x3 = some r → va_P D vwCl (wC a kc F G I J Z) H → va_S (ad a 44 s.heap.size) s.heap H locs → lv_has ls 6 [(0, .ref (a 22)), (1, .int x1), (2, .int x2), (3, .int x3)] → W p l e rm_X6_worstCase s m args below meth c H locs 0 0 (MQ below (Qi D (wC a kc F G I J Z) r (ad a 44 s.heap.size)) args s 0 0 (ad a 44 s.heap.size)) (F0 m 4 ls []) := by
  intro n
  induction n with
  | zero => intro  x1 x2 x3 H locs ls hf  hP hS hl; exact (nos hf).elim
  | succ n ih => exact t_X6_worstCase_b4x X ih
set_option maxHeartbeats 4000000 in
set_option maxRecDepth 100000 in
theorem t_X6_worstCase_b0 {p : Program} {l : Launch} {e : Env} {s : State} {m : MethodId} {args : Array Value} {below : List Frame} {meth : Method} {c : Code} {D : va_G} {a : Nat → Nat} {kc : Nat → ClassId} (X : cx 44 p s m args meth c D (tyC kc) a cX6_worstCase 6 RX6 (some .int)) {F : Nat → Int32} {G : Nat → Int64} {I : Nat → Nat → Int32} {J : Nat → Nat → Int64} {Z : Nat → Nat → Nat → Int32}  {r : Int32} :
    ∀  (x1 : Int32) (H : Heap) (locs : List Loc) (ls : Array Slot), p_X6_worstCase_b0 (F 0) (F 2) (I 13) x1 = some r → va_P D vwCl (wC a kc F G I J Z) H → va_S (ad a 44 s.heap.size) s.heap H locs → lv_has ls 6 [(0, .ref (a 22)), (1, .int x1)] → W p l e rm_X6_worstCase s m args below meth c H locs 0 0 (MQ below (Qi D (wC a kc F G I J Z) r (ad a 44 s.heap.size)) args s 0 0 (ad a 44 s.heap.size)) (F0 m 0 ls []) := by
  intro  x1 H locs ls hf  hP hS hl
  unfold p_X6_worstCase_b0 at hf
  refine lv_iconst (v := 0) X.1 X.2.1 dX6_worstCase_0 (by decide) ?_
  refine lv_istore_n (lv' := [(2, .int 0), (0, .ref (a 22)), (1, .int x1)]) X.1 X.2.1 dX6_worstCase_1 rfl hl (by decide) rfl (fun ls hl => ?_)
  refine lv_iconst (v := 0) X.1 X.2.1 dX6_worstCase_2 (by decide) ?_
  refine lv_istore_n (lv' := [(3, .int 0), (2, .int 0), (0, .ref (a 22)), (1, .int x1)]) X.1 X.2.1 dX6_worstCase_3 rfl hl (by decide) rfl (fun ls hl => ?_)
  exact t_X6_worstCase_b4 X 4096  x1 0 0 H locs ls hf  hP hS (lv_sub hl [2, 3, 1, 0] rfl)
set_option maxRecDepth 100000 in
theorem c_X6_worstCase {l : Launch} {D : va_G} {a : Nat → Nat} {kc : Nat → ClassId} (F : Nat → Int32) (G : Nat → Int64) (I : Nat → Nat → Int32) (J : Nat → Nat → Int64) (Z : Nat → Nat → Nat → Int32) (hAp : ∀ i j, i < 44 → j < 44 → a i = a j → i = j) (x1 : Int32) {o0 : Int32} (hf : p_X6_worstCase (F 0) (F 2) (I 13) x1 = some o0) : Ct 44 l yX6_worstCase cX6_worstCase 6 (some .int) rm_X6_worstCase D (tyC kc) a (wC a kc F G I J Z) [.ref (a 22), .int x1] (Qi D (wC a kc F G I J Z) o0) :=
  Ct.of (by decide +kernel) hAp (Nat.le_of_ble_eq_true rfl) (fun p e s m args below meth c ls X hP hl => t_X6_worstCase_b0 X  x1 _ _ _ hf  hP va_S.rf hl)
abbrev rm_X6_wasSeen : Room := { frames := 0, cells := 0, slots := 0, locals := 0 }
set_option maxHeartbeats 4000000 in
set_option maxRecDepth 100000 in
theorem t_X6_wasSeen_b2x {p : Program} {l : Launch} {e : Env} {s : State} {m : MethodId} {args : Array Value} {below : List Frame} {meth : Method} {c : Code} {D : va_G} {a : Nat → Nat} {kc : Nat → ClassId} (X : cx 44 p s m args meth c D (tyC kc) a cX6_wasSeen 3 RX6 (some .boolean)) {F : Nat → Int32} {G : Nat → Int64} {I : Nat → Nat → Int32} {J : Nat → Nat → Int64} {Z : Nat → Nat → Nat → Int32}  {r : Int32} {K2 : Int32 → (Nat → Int32) → Int32 → Int32 → Option (Int32)} (kh2 : ∀  (x1 : Int32) (x2 : Int32) (H : Heap) (locs : List Loc) (ls : Array Slot), K2 (F 5) (I 9) x1 x2 = some r → va_P D vwCl (wC a kc F G I J Z) H → va_S (ad a 44 s.heap.size) s.heap H locs → lv_has ls 3 [(0, .ref (a 22)), (1, .int x1), (2, .int x2)] → W p l e rm_X6_wasSeen s m args below meth c H locs 0 0 (MQ below (Qi D (wC a kc F G I J Z) r (ad a 44 s.heap.size)) args s 0 0 (ad a 44 s.heap.size)) (F0 m 2 ls [])) :
    ∀  (x1 : Int32) (x2 : Int32) (H : Heap) (locs : List Loc) (ls : Array Slot), p_X6_wasSeen_b2x K2 (F 5) (I 9) x1 x2 = some r → va_P D vwCl (wC a kc F G I J Z) H → va_S (ad a 44 s.heap.size) s.heap H locs → lv_has ls 3 [(0, .ref (a 22)), (1, .int x1), (2, .int x2)] → W p l e rm_X6_wasSeen s m args below meth c H locs 0 0 (MQ below (Qi D (wC a kc F G I J Z) r (ad a 44 s.heap.size)) args s 0 0 (ad a 44 s.heap.size)) (F0 m 2 ls []) := by
  intro  x1 x2 H locs ls hf  hP hS hl
  unfold p_X6_wasSeen_b2x at hf
  refine lv_iload_n X.1 X.2.1 dX6_wasSeen_2 rfl (lv_at hl 2 rfl) ?_
  refine lv_aload_n X.1 X.2.1 dX6_wasSeen_3 rfl (lv_at hl 0 rfl) ?_
  refine gC_22_1 (F := F) X (v := (F 5)) rfl q_1_199 dX6_wasSeen_4 hP ?_
  refine lv_icmp_ge (tgt := 28) X.1 X.2.1 dX6_wasSeen_7 (by decide) (fun c7 => ?_) (fun c7 => ?_)
  · have hf := it_s hf c7
    refine lv_iconst (v := 0) X.1 X.2.1 dX6_wasSeen_28 (by decide) ?_
    have e0 := o1 hf
    exact ret_z X hS hP e0 (by decide) dX6_wasSeen_29
  · have hf := ie_s hf c7
    refine lv_aload_n X.1 X.2.1 dX6_wasSeen_10 rfl (lv_at hl 0 rfl) ?_
    refine gC_22_6 X q_1_208 dX6_wasSeen_11 hP ?_
    refine lv_iload_n X.1 X.2.1 dX6_wasSeen_14 rfl (lv_at hl 2 rfl) ?_
    obtain ⟨h15, hf⟩ := gd_s hf
    refine lC_24 (I := I) X (f := (I 9)) rfl h15 dX6_wasSeen_15 hP ?_
    refine lv_iload_n X.1 X.2.1 dX6_wasSeen_16 rfl (lv_at hl 1 rfl) ?_
    refine lv_icmp_ne (tgt := 22) X.1 X.2.1 dX6_wasSeen_17 (by decide) (fun c17 => ?_) (fun c17 => ?_)
    · have hf := ie_s hf c17
      obtain ⟨x22, ex22, hf⟩ := nm_x hf
      refine lv_iinc (v := x22) (lv' := [(2, .int x22), (0, .ref (a 22)), (1, .int x1)]) X.1 X.2.1 dX6_wasSeen_22 hl (k := 2) rfl ex22 (by decide) rfl (fun ls hl => ?_)
      refine lv_goto (tgt := 2) X.1 X.2.1 dX6_wasSeen_25 (by decide) ?_
      exact kh2  x1 x22 H locs ls hf  hP hS (lv_sub hl [1, 2, 0] rfl)
    · have hf := it_s hf c17
      refine lv_iconst (v := 1) X.1 X.2.1 dX6_wasSeen_20 (by decide) ?_
      have e0 := o1 hf
      exact ret_z X hS hP e0 (by decide) dX6_wasSeen_21
set_option maxRecDepth 100000 in
theorem t_X6_wasSeen_b2 {p : Program} {l : Launch} {e : Env} {s : State} {m : MethodId} {args : Array Value} {below : List Frame} {meth : Method} {c : Code} {D : va_G} {a : Nat → Nat} {kc : Nat → ClassId} (X : cx 44 p s m args meth c D (tyC kc) a cX6_wasSeen 3 RX6 (some .boolean)) {F : Nat → Int32} {G : Nat → Int64} {I : Nat → Nat → Int32} {J : Nat → Nat → Int64} {Z : Nat → Nat → Nat → Int32}  {r : Int32} :
    ∀ (n : Nat)  (x1 : Int32) (x2 : Int32) (H : Heap) (locs : List Loc) (ls : Array Slot), p_X6_wasSeen_b2 n (F 5) (I 9) x1 x2 = some r → va_P D vwCl (wC a kc F G I J Z) H → va_S (ad a 44 s.heap.size) s.heap H locs → lv_has ls 3 [(0, .ref (a 22)), (1, .int x1), (2, .int x2)] → W p l e rm_X6_wasSeen s m args below meth c H locs 0 0 (MQ below (Qi D (wC a kc F G I J Z) r (ad a 44 s.heap.size)) args s 0 0 (ad a 44 s.heap.size)) (F0 m 2 ls []) := by
  intro n
  induction n with
  | zero => intro  x1 x2 H locs ls hf  hP hS hl; exact (nos hf).elim
  | succ n ih => exact t_X6_wasSeen_b2x X ih
set_option maxHeartbeats 4000000 in
set_option maxRecDepth 100000 in
theorem t_X6_wasSeen_b0 {p : Program} {l : Launch} {e : Env} {s : State} {m : MethodId} {args : Array Value} {below : List Frame} {meth : Method} {c : Code} {D : va_G} {a : Nat → Nat} {kc : Nat → ClassId} (X : cx 44 p s m args meth c D (tyC kc) a cX6_wasSeen 3 RX6 (some .boolean)) {F : Nat → Int32} {G : Nat → Int64} {I : Nat → Nat → Int32} {J : Nat → Nat → Int64} {Z : Nat → Nat → Nat → Int32}  {r : Int32} :
    ∀  (x1 : Int32) (H : Heap) (locs : List Loc) (ls : Array Slot), p_X6_wasSeen_b0 (F 5) (I 9) x1 = some r → va_P D vwCl (wC a kc F G I J Z) H → va_S (ad a 44 s.heap.size) s.heap H locs → lv_has ls 3 [(0, .ref (a 22)), (1, .int x1)] → W p l e rm_X6_wasSeen s m args below meth c H locs 0 0 (MQ below (Qi D (wC a kc F G I J Z) r (ad a 44 s.heap.size)) args s 0 0 (ad a 44 s.heap.size)) (F0 m 0 ls []) := by
  intro  x1 H locs ls hf  hP hS hl
  unfold p_X6_wasSeen_b0 at hf
  refine lv_iconst (v := 0) X.1 X.2.1 dX6_wasSeen_0 (by decide) ?_
  refine lv_istore_n (lv' := [(2, .int 0), (0, .ref (a 22)), (1, .int x1)]) X.1 X.2.1 dX6_wasSeen_1 rfl hl (by decide) rfl (fun ls hl => ?_)
  exact t_X6_wasSeen_b2 X 4096  x1 0 H locs ls hf  hP hS (lv_sub hl [1, 2, 0] rfl)
set_option maxRecDepth 100000 in
theorem c_X6_wasSeen {l : Launch} {D : va_G} {a : Nat → Nat} {kc : Nat → ClassId} (F : Nat → Int32) (G : Nat → Int64) (I : Nat → Nat → Int32) (J : Nat → Nat → Int64) (Z : Nat → Nat → Nat → Int32) (hAp : ∀ i j, i < 44 → j < 44 → a i = a j → i = j) (x1 : Int32) {o0 : Int32} (hf : p_X6_wasSeen (F 5) (I 9) x1 = some o0) : Ct 44 l yX6_wasSeen cX6_wasSeen 3 (some .boolean) rm_X6_wasSeen D (tyC kc) a (wC a kc F G I J Z) [.ref (a 22), .int x1] (Qi D (wC a kc F G I J Z) o0) :=
  Ct.of (by decide +kernel) hAp (Nat.le_of_ble_eq_true rfl) (fun p e s m args below meth c ls X hP hl => t_X6_wasSeen_b0 X  x1 _ _ _ hf  hP va_S.rf hl)
abbrev rm_X6_whomToAsk : Room := { frames := 2, cells := 0, slots := 0, locals := 55 }
set_option maxHeartbeats 4000000 in
set_option maxRecDepth 100000 in
theorem t_X6_whomToAsk_b57 {p : Program} {l : Launch} {e : Env} {s : State} {m : MethodId} {args : Array Value} {below : List Frame} {meth : Method} {c : Code} {D : va_G} {a : Nat → Nat} {kc : Nat → ClassId} (X : cx 44 p s m args meth c D (tyC kc) a cX6_whomToAsk 5 RX6 (some .int)) {F : Nat → Int32} {G : Nat → Int64} {I : Nat → Nat → Int32} {J : Nat → Nat → Int64} {Z : Nat → Nat → Nat → Int32}  {r : Int32} :
    ∀  (x1 : Int32) (H : Heap) (locs : List Loc) (ls : Array Slot), p_X6_whomToAsk_b57 (F 0) (F 2) (F 5) (F 6) (I 9) (I 13) x1 = some r → va_P D vwCl (wC a kc F G I J Z) H → va_S (ad a 44 s.heap.size) s.heap H locs → lv_has ls 5 [(0, .ref (a 22)), (1, .int x1)] → W p l e rm_X6_whomToAsk s m args below meth c H locs 0 0 (MQ below (Qi D (wC a kc F G I J Z) r (ad a 44 s.heap.size)) args s 0 0 (ad a 44 s.heap.size)) (F0 m 57 ls []) := by
  intro  x1 H locs ls hf  hP hS hl
  unfold p_X6_whomToAsk_b57 at hf
  refine lv_iload_n X.1 X.2.1 dX6_whomToAsk_57 rfl (lv_at hl 1 rfl) ?_
  have e0 := o1 hf
  exact ret_i X hS hP e0 dX6_whomToAsk_58
set_option maxHeartbeats 4000000 in
set_option maxRecDepth 100000 in
theorem t_X6_whomToAsk_b51 {p : Program} {l : Launch} {e : Env} {s : State} {m : MethodId} {args : Array Value} {below : List Frame} {meth : Method} {c : Code} {D : va_G} {a : Nat → Nat} {kc : Nat → ClassId} (X : cx 44 p s m args meth c D (tyC kc) a cX6_whomToAsk 5 RX6 (some .int)) {F : Nat → Int32} {G : Nat → Int64} {I : Nat → Nat → Int32} {J : Nat → Nat → Int64} {Z : Nat → Nat → Nat → Int32}  {r : Int32} {K7 : Int32 → Int32 → Int32 → Int32 → (Nat → Int32) → (Nat → Int32) → Int32 → Int32 → Int32 → Option (Int32)} (kh7 : ∀  (x1 : Int32) (x2 : Int32) (x3 : Int32) (H : Heap) (locs : List Loc) (ls : Array Slot), K7 (F 0) (F 2) (F 5) (F 6) (I 9) (I 13) x1 x2 x3 = some r → va_P D vwCl (wC a kc F G I J Z) H → va_S (ad a 44 s.heap.size) s.heap H locs → lv_has ls 5 [(0, .ref (a 22)), (1, .int x1), (2, .int x2), (3, .int x3)] → W p l e rm_X6_whomToAsk s m args below meth c H locs 0 0 (MQ below (Qi D (wC a kc F G I J Z) r (ad a 44 s.heap.size)) args s 0 0 (ad a 44 s.heap.size)) (F0 m 7 ls [])) :
    ∀  (x1 : Int32) (x2 : Int32) (x3 : Int32) (H : Heap) (locs : List Loc) (ls : Array Slot), p_X6_whomToAsk_b51 K7 (F 0) (F 2) (F 5) (F 6) (I 9) (I 13) x1 x2 x3 = some r → va_P D vwCl (wC a kc F G I J Z) H → va_S (ad a 44 s.heap.size) s.heap H locs → lv_has ls 5 [(0, .ref (a 22)), (1, .int x1), (2, .int x2), (3, .int x3)] → W p l e rm_X6_whomToAsk s m args below meth c H locs 0 0 (MQ below (Qi D (wC a kc F G I J Z) r (ad a 44 s.heap.size)) args s 0 0 (ad a 44 s.heap.size)) (F0 m 51 ls []) := by
  intro  x1 x2 x3 H locs ls hf  hP hS hl
  unfold p_X6_whomToAsk_b51 at hf
  obtain ⟨x51, ex51, hf⟩ := nm_x hf
  refine lv_iinc (v := x51) (lv' := [(3, .int x51), (0, .ref (a 22)), (1, .int x1), (2, .int x2)]) X.1 X.2.1 dX6_whomToAsk_51 hl (k := 3) rfl ex51 (by decide) rfl (fun ls hl => ?_)
  refine lv_goto (tgt := 7) X.1 X.2.1 dX6_whomToAsk_54 (by decide) ?_
  exact kh7  x1 x2 x51 H locs ls hf  hP hS (lv_sub hl [1, 2, 3, 0] rfl)
set_option maxHeartbeats 4000000 in
set_option maxRecDepth 100000 in
theorem t_X6_whomToAsk_b7x {p : Program} {l : Launch} {e : Env} {s : State} {m : MethodId} {args : Array Value} {below : List Frame} {meth : Method} {c : Code} {D : va_G} {a : Nat → Nat} {kc : Nat → ClassId} (X : cx 44 p s m args meth c D (tyC kc) a cX6_whomToAsk 5 RX6 (some .int)) {F : Nat → Int32} {G : Nat → Int64} {I : Nat → Nat → Int32} {J : Nat → Nat → Int64} {Z : Nat → Nat → Nat → Int32}  {r : Int32} {K7 : Int32 → Int32 → Int32 → Int32 → (Nat → Int32) → (Nat → Int32) → Int32 → Int32 → Int32 → Option (Int32)} (kh7 : ∀  (x1 : Int32) (x2 : Int32) (x3 : Int32) (H : Heap) (locs : List Loc) (ls : Array Slot), K7 (F 0) (F 2) (F 5) (F 6) (I 9) (I 13) x1 x2 x3 = some r → va_P D vwCl (wC a kc F G I J Z) H → va_S (ad a 44 s.heap.size) s.heap H locs → lv_has ls 5 [(0, .ref (a 22)), (1, .int x1), (2, .int x2), (3, .int x3)] → W p l e rm_X6_whomToAsk s m args below meth c H locs 0 0 (MQ below (Qi D (wC a kc F G I J Z) r (ad a 44 s.heap.size)) args s 0 0 (ad a 44 s.heap.size)) (F0 m 7 ls [])) :
    ∀  (x1 : Int32) (x2 : Int32) (x3 : Int32) (H : Heap) (locs : List Loc) (ls : Array Slot), p_X6_whomToAsk_b7x K7 (F 0) (F 2) (F 5) (F 6) (I 9) (I 13) x1 x2 x3 = some r → va_P D vwCl (wC a kc F G I J Z) H → va_S (ad a 44 s.heap.size) s.heap H locs → lv_has ls 5 [(0, .ref (a 22)), (1, .int x1), (2, .int x2), (3, .int x3)] → W p l e rm_X6_whomToAsk s m args below meth c H locs 0 0 (MQ below (Qi D (wC a kc F G I J Z) r (ad a 44 s.heap.size)) args s 0 0 (ad a 44 s.heap.size)) (F0 m 7 ls []) := by
  intro  x1 x2 x3 H locs ls hf  hP hS hl
  unfold p_X6_whomToAsk_b7x at hf
  refine lv_iload_n X.1 X.2.1 dX6_whomToAsk_7 rfl (lv_at hl 3 rfl) ?_
  refine lv_aload_n X.1 X.2.1 dX6_whomToAsk_8 rfl (lv_at hl 0 rfl) ?_
  refine gC_22_5 X q_1_207 dX6_whomToAsk_9 hP ?_
  refine gC_0_10 (F := F) X (v := (F 2)) rfl q_1_91 dX6_whomToAsk_12 hP ?_
  refine lv_icmp_ge (tgt := 57) X.1 X.2.1 dX6_whomToAsk_15 (by decide) (fun c15 => ?_) (fun c15 => ?_)
  · have hf := it_s hf c15
    exact t_X6_whomToAsk_b57 X  x1 H locs ls hf  hP hS (lv_sub hl [0, 1] rfl)
  · have hf := ie_s hf c15
    refine lv_aload_n X.1 X.2.1 dX6_whomToAsk_18 rfl (lv_at hl 0 rfl) ?_
    refine gC_22_2 (F := F) X (v := (F 6)) rfl q_1_201 dX6_whomToAsk_19 hP ?_
    refine lv_if_eq (tgt := 57) X.1 X.2.1 dX6_whomToAsk_22 (by decide) (fun c22 => ?_) (fun c22 => ?_)
    · have hf := it_s hf c22
      exact t_X6_whomToAsk_b57 X  x1 H locs ls hf  hP hS (lv_sub hl [0, 1] rfl)
    · have hf := ie_s hf c22
      refine lv_aload_n X.1 X.2.1 dX6_whomToAsk_25 rfl (lv_at hl 0 rfl) ?_
      refine lv_iload_n X.1 X.2.1 dX6_whomToAsk_26 rfl (lv_at hl 3 rfl) ?_
      obtain ⟨r27, ho, hf⟩ := b1_s hf
      refine call_vi (rest := []) X (c_X6_worstCase F G I J Z X.2.2.2.2.2.2.2.1 x3 ho) q_3_210 q_3_211 q_3_212 q_1_6 q_3_213 ok_X6_worstCase rfl 22 rfl rfl ⟨Nat.le_of_ble_eq_true rfl, Nat.le_of_ble_eq_true rfl⟩ rfl rfl hl.1 rfl (Nat.le_of_ble_eq_true rfl) dX6_whomToAsk_27 hP hS (fun H locs hP hS => ?_)
      refine lv_istore (lv' := [(4, .int r27), (0, .ref (a 22)), (1, .int x1), (2, .int x2), (3, .int x3)]) X.1 X.2.1 dX6_whomToAsk_30 hl (by decide) rfl (fun ls hl => ?_)
      refine lv_aload_n X.1 X.2.1 dX6_whomToAsk_32 rfl (lv_at hl 1 rfl) ?_
      refine lv_iload_n X.1 X.2.1 dX6_whomToAsk_33 rfl (lv_at hl 4 rfl) ?_
      obtain ⟨r34, ho, hf⟩ := b1_s hf
      refine call_vi (rest := []) X (c_X6_wasSeen F G I J Z X.2.2.2.2.2.2.2.1 x3 ho) q_3_215 q_3_217 qs_yX6_wasSeen q_1_6 q_3_218 ok_X6_wasSeen rfl 22 rfl rfl ⟨Nat.le_of_ble_eq_true rfl, Nat.le_of_ble_eq_true rfl⟩ rfl rfl hl.1 rfl (Nat.le_of_ble_eq_true rfl) dX6_whomToAsk_34 hP hS (fun H locs hP hS => ?_)
      refine lv_if_ne (tgt := 51) X.1 X.2.1 dX6_whomToAsk_37 (by decide) (fun c37 => ?_) (fun c37 => ?_)
      · have hf := ie_s hf c37
        exact t_X6_whomToAsk_b51 X kh7  x1 x2 x3 H locs ls hf  hP hS (lv_sub hl [1, 2, 3, 4] rfl)
      · have hf := it_s hf c37
        refine lv_iload X.1 X.2.1 dX6_whomToAsk_40 (lv_at hl 0 rfl) ?_
        refine lv_iload_n X.1 X.2.1 dX6_whomToAsk_42 rfl (lv_at hl 3 rfl) ?_
        refine lv_icmp_ge (tgt := 51) X.1 X.2.1 dX6_whomToAsk_43 (by decide) (fun c43 => ?_) (fun c43 => ?_)
        · have hf := it_s hf c43
          exact t_X6_whomToAsk_b51 X kh7  x1 x2 x3 H locs ls hf  hP hS (lv_sub hl [1, 2, 3, 4] rfl)
        · have hf := ie_s hf c43
          refine lv_iload X.1 X.2.1 dX6_whomToAsk_46 (lv_at hl 0 rfl) ?_
          refine lv_istore_n (lv' := [(2, .int r27), (4, .int r27), (0, .ref (a 22)), (1, .int x1), (3, .int x3)]) X.1 X.2.1 dX6_whomToAsk_48 rfl hl (by decide) rfl (fun ls hl => ?_)
          refine lv_iload_n X.1 X.2.1 dX6_whomToAsk_49 rfl (lv_at hl 4 rfl) ?_
          refine lv_istore_n (lv' := [(1, .int x3), (2, .int r27), (4, .int r27), (0, .ref (a 22)), (3, .int x3)]) X.1 X.2.1 dX6_whomToAsk_50 rfl hl (by decide) rfl (fun ls hl => ?_)
          exact t_X6_whomToAsk_b51 X kh7  x3 r27 x3 H locs ls hf  hP hS (lv_sub hl [3, 0, 1, 4] rfl)
set_option maxRecDepth 100000 in
theorem t_X6_whomToAsk_b7 {p : Program} {l : Launch} {e : Env} {s : State} {m : MethodId} {args : Array Value} {below : List Frame} {meth : Method} {c : Code} {D : va_G} {a : Nat → Nat} {kc : Nat → ClassId} (X : cx 44 p s m args meth c D (tyC kc) a cX6_whomToAsk 5 RX6 (some .int)) {F : Nat → Int32} {G : Nat → Int64} {I : Nat → Nat → Int32} {J : Nat → Nat → Int64} {Z : Nat → Nat → Nat → Int32}  {r : Int32} :
    ∀ (n : Nat)  (x1 : Int32) (x2 : Int32) (x3 : Int32) (H : Heap) (locs : List Loc) (ls : Array Slot), p_X6_whomToAsk_b7 n (F 0) (F 2) (F 5) (F 6) (I 9) (I 13) x1 x2 x3 = some r → va_P D vwCl (wC a kc F G I J Z) H → va_S (ad a 44 s.heap.size) s.heap H locs → lv_has ls 5 [(0, .ref (a 22)), (1, .int x1), (2, .int x2), (3, .int x3)] → W p l e rm_X6_whomToAsk s m args below meth c H locs 0 0 (MQ below (Qi D (wC a kc F G I J Z) r (ad a 44 s.heap.size)) args s 0 0 (ad a 44 s.heap.size)) (F0 m 7 ls []) := by
  intro n
  induction n with
  | zero => intro  x1 x2 x3 H locs ls hf  hP hS hl; exact (nos hf).elim
  | succ n ih => exact t_X6_whomToAsk_b7x X ih
set_option maxHeartbeats 4000000 in
set_option maxRecDepth 100000 in
theorem t_X6_whomToAsk_b0 {p : Program} {l : Launch} {e : Env} {s : State} {m : MethodId} {args : Array Value} {below : List Frame} {meth : Method} {c : Code} {D : va_G} {a : Nat → Nat} {kc : Nat → ClassId} (X : cx 44 p s m args meth c D (tyC kc) a cX6_whomToAsk 5 RX6 (some .int)) {F : Nat → Int32} {G : Nat → Int64} {I : Nat → Nat → Int32} {J : Nat → Nat → Int64} {Z : Nat → Nat → Nat → Int32}  {r : Int32} :
    ∀   (H : Heap) (locs : List Loc) (ls : Array Slot), p_X6_whomToAsk_b0 (F 0) (F 2) (F 5) (F 6) (I 9) (I 13)  = some r → va_P D vwCl (wC a kc F G I J Z) H → va_S (ad a 44 s.heap.size) s.heap H locs → lv_has ls 5 [(0, .ref (a 22))] → W p l e rm_X6_whomToAsk s m args below meth c H locs 0 0 (MQ below (Qi D (wC a kc F G I J Z) r (ad a 44 s.heap.size)) args s 0 0 (ad a 44 s.heap.size)) (F0 m 0 ls []) := by
  intro   H locs ls hf  hP hS hl
  unfold p_X6_whomToAsk_b0 at hf
  refine lv_iconst (v := (-1)) X.1 X.2.1 dX6_whomToAsk_0 (by decide) ?_
  refine lv_istore_n (lv' := [(1, .int (-1)), (0, .ref (a 22))]) X.1 X.2.1 dX6_whomToAsk_1 rfl hl (by decide) rfl (fun ls hl => ?_)
  refine lv_bipush (v := 9) X.1 X.2.1 dX6_whomToAsk_2 (by decide) ?_
  refine lv_istore_n (lv' := [(2, .int 9), (1, .int (-1)), (0, .ref (a 22))]) X.1 X.2.1 dX6_whomToAsk_4 rfl hl (by decide) rfl (fun ls hl => ?_)
  refine lv_iconst (v := 0) X.1 X.2.1 dX6_whomToAsk_5 (by decide) ?_
  refine lv_istore_n (lv' := [(3, .int 0), (2, .int 9), (1, .int (-1)), (0, .ref (a 22))]) X.1 X.2.1 dX6_whomToAsk_6 rfl hl (by decide) rfl (fun ls hl => ?_)
  exact t_X6_whomToAsk_b7 X 4096  (-1) 9 0 H locs ls hf  hP hS (lv_sub hl [3, 2, 1, 0] rfl)
set_option maxRecDepth 100000 in
theorem c_X6_whomToAsk {l : Launch} {D : va_G} {a : Nat → Nat} {kc : Nat → ClassId} (F : Nat → Int32) (G : Nat → Int64) (I : Nat → Nat → Int32) (J : Nat → Nat → Int64) (Z : Nat → Nat → Nat → Int32) (hAp : ∀ i j, i < 44 → j < 44 → a i = a j → i = j)  {o0 : Int32} (hf : p_X6_whomToAsk (F 0) (F 2) (F 5) (F 6) (I 9) (I 13)  = some o0) : Ct 44 l yX6_whomToAsk cX6_whomToAsk 5 (some .int) rm_X6_whomToAsk D (tyC kc) a (wC a kc F G I J Z) [.ref (a 22)] (Qi D (wC a kc F G I J Z) o0) :=
  Ct.of (by decide +kernel) hAp (Nat.le_of_ble_eq_true rfl) (fun p e s m args below meth c ls X hP hl => t_X6_whomToAsk_b0 X   _ _ _ hf  hP va_S.rf hl)
abbrev rm_X7_isNoText : Room := { frames := 0, cells := 0, slots := 0, locals := 0 }
set_option maxHeartbeats 4000000 in
set_option maxRecDepth 100000 in
theorem t_X7_isNoText_b14 {p : Program} {l : Launch} {e : Env} {s : State} {m : MethodId} {args : Array Value} {below : List Frame} {meth : Method} {c : Code} {D : va_G} {a : Nat → Nat} (X : cx 0 p s m args meth c D [] a cX7_isNoText 1 RX7 (some .boolean))   {r : Int32} :
    ∀  (t0 : Int32) (H : Heap) (locs : List Loc) (ls : Array Slot), p_X7_isNoText_b14  t0 = some r → va_P D vwCl [] H → va_S (ad a 0 s.heap.size) s.heap H locs → lv_has ls 1 [] → W p l e rm_X7_isNoText s m args below meth c H locs 0 0 (MQ below (Qi D [] r (ad a 0 s.heap.size)) args s 0 0 (ad a 0 s.heap.size)) (F0 m 14 ls [.int t0]) := by
  intro  t0 H locs ls hf  hP hS hl
  unfold p_X7_isNoText_b14 at hf
  obtain ⟨h14, hf⟩ := gd_s hf
  have e0 := o1 hf
  exact ret_z X hS hP e0 h14 dX7_isNoText_14
set_option maxHeartbeats 4000000 in
set_option maxRecDepth 100000 in
theorem t_X7_isNoText_b9 {p : Program} {l : Launch} {e : Env} {s : State} {m : MethodId} {args : Array Value} {below : List Frame} {meth : Method} {c : Code} {D : va_G} {a : Nat → Nat} (X : cx 0 p s m args meth c D [] a cX7_isNoText 1 RX7 (some .boolean))   {r : Int32} :
    ∀   (H : Heap) (locs : List Loc) (ls : Array Slot), p_X7_isNoText_b9   = some r → va_P D vwCl [] H → va_S (ad a 0 s.heap.size) s.heap H locs → lv_has ls 1 [] → W p l e rm_X7_isNoText s m args below meth c H locs 0 0 (MQ below (Qi D [] r (ad a 0 s.heap.size)) args s 0 0 (ad a 0 s.heap.size)) (F0 m 9 ls []) := by
  intro   H locs ls hf  hP hS hl
  unfold p_X7_isNoText_b9 at hf
  refine lv_iconst (v := 1) X.1 X.2.1 dX7_isNoText_9 (by decide) ?_
  refine lv_goto (tgt := 14) X.1 X.2.1 dX7_isNoText_10 (by decide) ?_
  exact t_X7_isNoText_b14 X  1 H locs ls hf  hP hS (lv_sub hl [] rfl)
set_option maxHeartbeats 4000000 in
set_option maxRecDepth 100000 in
theorem t_X7_isNoText_b0 {p : Program} {l : Launch} {e : Env} {s : State} {m : MethodId} {args : Array Value} {below : List Frame} {meth : Method} {c : Code} {D : va_G} {a : Nat → Nat} (X : cx 0 p s m args meth c D [] a cX7_isNoText 1 RX7 (some .boolean))   {r : Int32} :
    ∀  (x0 : Int32) (H : Heap) (locs : List Loc) (ls : Array Slot), p_X7_isNoText_b0  x0 = some r → va_P D vwCl [] H → va_S (ad a 0 s.heap.size) s.heap H locs → lv_has ls 1 [(0, .int x0)] → W p l e rm_X7_isNoText s m args below meth c H locs 0 0 (MQ below (Qi D [] r (ad a 0 s.heap.size)) args s 0 0 (ad a 0 s.heap.size)) (F0 m 0 ls []) := by
  intro  x0 H locs ls hf  hP hS hl
  unfold p_X7_isNoText_b0 at hf
  refine lv_iload_n X.1 X.2.1 dX7_isNoText_0 rfl (lv_at hl 0 rfl) ?_
  refine lv_if_lt (tgt := 9) X.1 X.2.1 dX7_isNoText_1 (by decide) (fun c1 => ?_) (fun c1 => ?_)
  · have hf := it_s hf c1
    exact t_X7_isNoText_b9 X   H locs ls hf  hP hS (lv_sub hl [] rfl)
  · have hf := ie_s hf c1
    refine lv_iload_n X.1 X.2.1 dX7_isNoText_4 rfl (lv_at hl 0 rfl) ?_
    refine lv_iconst (v := 1) X.1 X.2.1 dX7_isNoText_5 (by decide) ?_
    refine lv_icmp_le (tgt := 13) X.1 X.2.1 dX7_isNoText_6 (by decide) (fun c6 => ?_) (fun c6 => ?_)
    · have hf := it_s hf c6
      refine lv_iconst (v := 0) X.1 X.2.1 dX7_isNoText_13 (by decide) ?_
      exact t_X7_isNoText_b14 X  0 H locs ls hf  hP hS (lv_sub hl [] rfl)
    · have hf := ie_s hf c6
      exact t_X7_isNoText_b9 X   H locs ls hf  hP hS (lv_sub hl [] rfl)
set_option maxRecDepth 100000 in
theorem c_X7_isNoText {l : Launch} {D : va_G} {a : Nat → Nat}  (x0 : Int32) {o0 : Int32} (hf : p_X7_isNoText  x0 = some o0) : Ct 0 l yX7_isNoText cX7_isNoText 1 (some .boolean) rm_X7_isNoText D [] a [] [.int x0] (Qi D [] o0) :=
  Ct.of (by decide +kernel) (fun i j h => absurd h (Nat.not_lt_zero i)) (Nat.le_of_ble_eq_true rfl) (fun p e s m args below meth c ls X hP hl => t_X7_isNoText_b0 X  x0 _ _ _ hf  hP va_S.rf hl)
abbrev rm_X7_spoilAnswers : Room := { frames := 0, cells := 0, slots := 0, locals := 0 }
set_option maxHeartbeats 4000000 in
set_option maxRecDepth 100000 in
theorem t_X7_spoilAnswers_b0 {p : Program} {l : Launch} {e : Env} {s : State} {m : MethodId} {args : Array Value} {below : List Frame} {meth : Method} {c : Code} {D : va_G} {a : Nat → Nat} {kc : Nat → ClassId} (X : cx 44 p s m args meth c D (tyC kc) a cX7_spoilAnswers 1 RX7 none) {G : Nat → Int64} {I : Nat → Nat → Int32} {J : Nat → Nat → Int64} {Z : Nat → Nat → Nat → Int32} {Ff : Nat → Int32}  :
    ∀ (F : Nat → Int32)  (H : Heap) (locs : List Loc) (ls : Array Slot), p_X7_spoilAnswers_b0 (F 3) (F 4) (F 7)  = some ((Ff 3), (Ff 4), (Ff 7)) → (∀ k, k ∉ ([3, 4, 7] : List Nat) → Ff k = F k) → va_P D vwCl (wC a kc F G I J Z) H → va_S (ad a 44 s.heap.size) s.heap H locs → lv_has ls 1 [(0, .ref (a 34))] → W p l e rm_X7_spoilAnswers s m args below meth c H locs 0 0 (MQ below (Qv D (wC a kc Ff G I J Z) (ad a 44 s.heap.size)) args s 0 0 (ad a 44 s.heap.size)) (F0 m 0 ls []) := by
  intro F  H locs ls hf hfF hP hS hl
  unfold p_X7_spoilAnswers_b0 at hf
  refine lv_aload_n X.1 X.2.1 dX7_spoilAnswers_0 rfl (lv_at hl 0 rfl) ?_
  refine gC_34_1 X q_2_65 dX7_spoilAnswers_1 hP ?_
  refine lv_iconst (v := 0) X.1 X.2.1 dX7_spoilAnswers_4 (by decide) ?_
  refine pC_11_6 X (by decide) q_1_137 dX7_spoilAnswers_5 hP hS (fun H locs hP hS => ?_)
  refine lv_aload_n X.1 X.2.1 dX7_spoilAnswers_8 rfl (lv_at hl 0 rfl) ?_
  refine gC_34_2 X q_2_66 dX7_spoilAnswers_9 hP ?_
  refine lv_iconst (v := 0) X.1 X.2.1 dX7_spoilAnswers_12 (by decide) ?_
  refine pC_17_2 X (by decide) q_1_171 dX7_spoilAnswers_13 hP hS (fun H locs hP hS => ?_)
  refine lv_aload_n X.1 X.2.1 dX7_spoilAnswers_16 rfl (lv_at hl 0 rfl) ?_
  refine gC_34_3 X q_2_67 dX7_spoilAnswers_17 hP ?_
  refine lv_iconst (v := 0) X.1 X.2.1 dX7_spoilAnswers_20 (by decide) ?_
  refine pC_22_4 X (by decide) q_1_206 dX7_spoilAnswers_21 hP hS (fun H locs hP hS => ?_)
  obtain ⟨e0, hf⟩ := o2 hf
  obtain ⟨e1, hf⟩ := o2 hf
  have e2 := o1 hf
  have EF : Ff = (va_up (va_up (va_up F 3 0) 4 0) 7 0) := frm_eq (frm_up (frm_up (frm_up hfF (by decide)) (by decide)) (by decide)) (frm_c (e0).symm (frm_c (e1).symm (frm_c (e2).symm frm_n)))
  exact ret_v X hS (by rw [EF]; exact hP) dX7_spoilAnswers_24
set_option maxRecDepth 100000 in
theorem c_X7_spoilAnswers {l : Launch} {D : va_G} {a : Nat → Nat} {kc : Nat → ClassId} (F : Nat → Int32) (G : Nat → Int64) (I : Nat → Nat → Int32) (J : Nat → Nat → Int64) (Z : Nat → Nat → Nat → Int32) (hAp : ∀ i j, i < 44 → j < 44 → a i = a j → i = j)  {o0 : Int32} {o1 : Int32} {o2 : Int32} (hf : p_X7_spoilAnswers (F 3) (F 4) (F 7)  = some (o0, o1, o2)) : Ct 44 l yX7_spoilAnswers cX7_spoilAnswers 1 none rm_X7_spoilAnswers D (tyC kc) a (wC a kc F G I J Z) [.ref (a 34)] (Qv D (wC a kc (va_up (va_up (va_up F 3 o0) 4 o1) 7 o2) G I J Z)) :=
  Ct.of (by decide +kernel) hAp (Nat.le_of_ble_eq_true rfl) (fun p e s m args below meth c ls X hP hl => t_X7_spoilAnswers_b0 X F  _ _ _ hf (frm_ul (frm_ul (frm_ul (fun k _ => rfl) (by decide)) (by decide)) (by decide)) hP va_S.rf hl)
abbrev rm_X7_type : Room := { frames := 5, cells := 0, slots := 0, locals := 111 }
set_option maxHeartbeats 4000000 in
set_option maxRecDepth 100000 in
theorem t_X7_type_b18 {p : Program} {l : Launch} {e : Env} {s : State} {m : MethodId} {args : Array Value} {below : List Frame} {meth : Method} {c : Code} {D : va_G} {a : Nat → Nat} {kc : Nat → ClassId} (X : cx 44 p s m args meth c D (tyC kc) a cX7_type 3 RX7 (some .int)) {G : Nat → Int64} {J : Nat → Nat → Int64} {Ff : Nat → Int32} {If : Nat → Nat → Int32} {Zf : Nat → Nat → Nat → Int32} {r : Int32} :
    ∀ (F : Nat → Int32) (I : Nat → Nat → Int32) (Z : Nat → Nat → Nat → Int32)  (H : Heap) (locs : List Loc) (ls : Array Slot), p_X7_type_b18 (F 0) (F 1) (F 2) (F 3) (F 4) (F 7) (I 0) (I 1) (I 2) (I 3) (I 4) (I 5) (I 6) (Z 0)  = some (r, (Ff 0), (Ff 1), (Ff 2), (Ff 3), (Ff 4), (Ff 7), (If 0), (If 1), (If 2), (If 3), (If 4), (If 5), (If 6), (Zf 0)) → (∀ k, k ∉ ([0, 1, 2, 3, 4, 7] : List Nat) → Ff k = F k) → (∀ k, k ∉ ([0, 1, 2, 3, 4, 5, 6] : List Nat) → If k = I k) → (∀ k, k ∉ ([0] : List Nat) → Zf k = Z k) → va_P D vwCl (wC a kc F G I J Z) H → va_S (ad a 44 s.heap.size) s.heap H locs → lv_has ls 3 [(0, .ref (a 34))] → W p l e rm_X7_type s m args below meth c H locs 0 0 (MQ below (Qi D (wC a kc Ff G If J Zf) r (ad a 44 s.heap.size)) args s 0 0 (ad a 44 s.heap.size)) (F0 m 18 ls []) := by
  intro F I Z  H locs ls hf hfF hfI hfZ hP hS hl
  unfold p_X7_type_b18 at hf
  refine lv_bipush (v := (-2)) X.1 X.2.1 dX7_type_18 (by decide) ?_
  obtain ⟨e0, hf⟩ := o2 hf
  obtain ⟨e1, hf⟩ := o2 hf
  obtain ⟨e2, hf⟩ := o2 hf
  obtain ⟨e3, hf⟩ := o2 hf
  obtain ⟨e4, hf⟩ := o2 hf
  obtain ⟨e5, hf⟩ := o2 hf
  obtain ⟨e6, hf⟩ := o2 hf
  obtain ⟨e7, hf⟩ := o2 hf
  obtain ⟨e8, hf⟩ := o2 hf
  obtain ⟨e9, hf⟩ := o2 hf
  obtain ⟨e10, hf⟩ := o2 hf
  obtain ⟨e11, hf⟩ := o2 hf
  obtain ⟨e12, hf⟩ := o2 hf
  obtain ⟨e13, hf⟩ := o2 hf
  have e14 := o1 hf
  have EF : Ff = F := frm_eq hfF (frm_c (e1).symm (frm_c (e2).symm (frm_c (e3).symm (frm_c (e4).symm (frm_c (e5).symm (frm_c (e6).symm frm_n))))))
  have EI : If = I := frm_eq hfI (frm_c (e7).symm (frm_c (e8).symm (frm_c (e9).symm (frm_c (e10).symm (frm_c (e11).symm (frm_c (e12).symm (frm_c (e13).symm frm_n)))))))
  have EZ : Zf = Z := frm_eq hfZ (frm_c (e14).symm frm_n)
  exact ret_i X hS (by rw [EF, EI, EZ]; exact hP) e0 dX7_type_20
set_option maxHeartbeats 4000000 in
set_option maxRecDepth 100000 in
theorem t_X7_type_b0 {p : Program} {l : Launch} {e : Env} {s : State} {m : MethodId} {args : Array Value} {below : List Frame} {meth : Method} {c : Code} {D : va_G} {a : Nat → Nat} {kc : Nat → ClassId} (X : cx 44 p s m args meth c D (tyC kc) a cX7_type 3 RX7 (some .int)) {G : Nat → Int64} {J : Nat → Nat → Int64} {Ff : Nat → Int32} {If : Nat → Nat → Int32} {Zf : Nat → Nat → Nat → Int32} {r : Int32} :
    ∀ (F : Nat → Int32) (I : Nat → Nat → Int32) (Z : Nat → Nat → Nat → Int32) (x1 : Int32) (x2 : Int32) (H : Heap) (locs : List Loc) (ls : Array Slot), p_X7_type_b0 (F 0) (F 1) (F 2) (F 3) (F 4) (F 7) (I 0) (I 1) (I 2) (I 3) (I 4) (I 5) (I 6) (Z 0) x1 x2 = some (r, (Ff 0), (Ff 1), (Ff 2), (Ff 3), (Ff 4), (Ff 7), (If 0), (If 1), (If 2), (If 3), (If 4), (If 5), (If 6), (Zf 0)) → (∀ k, k ∉ ([0, 1, 2, 3, 4, 7] : List Nat) → Ff k = F k) → (∀ k, k ∉ ([0, 1, 2, 3, 4, 5, 6] : List Nat) → If k = I k) → (∀ k, k ∉ ([0] : List Nat) → Zf k = Z k) → va_P D vwCl (wC a kc F G I J Z) H → va_S (ad a 44 s.heap.size) s.heap H locs → lv_has ls 3 [(0, .ref (a 34)), (1, .int x1), (2, .int x2)] → W p l e rm_X7_type s m args below meth c H locs 0 0 (MQ below (Qi D (wC a kc Ff G If J Zf) r (ad a 44 s.heap.size)) args s 0 0 (ad a 44 s.heap.size)) (F0 m 0 ls []) := by
  intro F I Z x1 x2 H locs ls hf hfF hfI hfZ hP hS hl
  unfold p_X7_type_b0 at hf
  refine lv_iload_n X.1 X.2.1 dX7_type_0 rfl (lv_at hl 1 rfl) ?_
  obtain ⟨r1, ho, hf⟩ := b1_s hf
  refine call_si (rest := []) X (c_X7_isNoText x1 ho) q_2_93 q_2_94 q_1_1 q_2_95 ok_X7_isNoText rfl ⟨Nat.le_of_ble_eq_true rfl, Nat.le_of_ble_eq_true rfl⟩ rfl rfl hl.1 rfl (Nat.le_of_ble_eq_true rfl) dX7_type_1 hP hS (fun H locs hP hS => ?_)
  refine lv_if_ne (tgt := 18) X.1 X.2.1 dX7_type_4 (by decide) (fun c4 => ?_) (fun c4 => ?_)
  · have hf := ie_s hf c4
    exact t_X7_type_b18 X F I Z  H locs ls hf hfF hfI hfZ hP hS (lv_sub hl [0] rfl)
  · have hf := it_s hf c4
    refine lv_iload_n X.1 X.2.1 dX7_type_7 rfl (lv_at hl 2 rfl) ?_
    refine lv_if_lt (tgt := 18) X.1 X.2.1 dX7_type_8 (by decide) (fun c8 => ?_) (fun c8 => ?_)
    · have hf := it_s hf c8
      exact t_X7_type_b18 X F I Z  H locs ls hf hfF hfI hfZ hP hS (lv_sub hl [0] rfl)
    · have hf := ie_s hf c8
      refine lv_iload_n X.1 X.2.1 dX7_type_11 rfl (lv_at hl 2 rfl) ?_
      refine lv_sipush (v := 255) X.1 X.2.1 dX7_type_12 (by decide) ?_
      refine lv_icmp_le (tgt := 21) X.1 X.2.1 dX7_type_15 (by decide) (fun c15 => ?_) (fun c15 => ?_)
      · have hf := it_s hf c15
        refine lv_aload_n X.1 X.2.1 dX7_type_21 rfl (lv_at hl 0 rfl) ?_
        refine gC_34_0 X q_2_64 dX7_type_22 hP ?_
        refine gC_0_1 X q_1_57 dX7_type_25 hP ?_
        refine lv_iload_n X.1 X.2.1 dX7_type_28 rfl (lv_at hl 1 rfl) ?_
        obtain ⟨h29, hf⟩ := gd_s hf
        refine lC_4 (I := I) X (f := (I 0)) rfl h29 dX7_type_29 hP ?_
        refine lv_bipush (v := 20) X.1 X.2.1 dX7_type_30 (by decide) ?_
        refine lv_icmp_lt (tgt := 38) X.1 X.2.1 dX7_type_32 (by decide) (fun c32 => ?_) (fun c32 => ?_)
        · have hf := it_s hf c32
          refine lv_aload_n X.1 X.2.1 dX7_type_38 rfl (lv_at hl 0 rfl) ?_
          refine gC_34_0 X q_2_64 dX7_type_39 hP ?_
          refine lv_iload_n X.1 X.2.1 dX7_type_42 rfl (lv_at hl 1 rfl) ?_
          refine lv_iload_n X.1 X.2.1 dX7_type_43 rfl (lv_at hl 2 rfl) ?_
          obtain ⟨H_seats_44, H_rows_44, H_people_44, H_lengths_44, H_faults_44, H_sorts_44, H_rowOf_44, H_bySort_44, H_owns_44, H_kinds_44, H_bytes_44, ho, hf⟩ := b11_s hf
          refine call_vv (rest := []) X (c_X3_append F G I J Z X.2.2.2.2.2.2.2.1 x1 x2 ho) q_2_96 q_2_97 q_2_98 q_1_2 q_2_99 ok_X3_append rfl 0 rfl rfl ⟨Nat.le_of_ble_eq_true rfl, Nat.le_of_ble_eq_true rfl⟩ rfl rfl hl.1 rfl (Nat.le_of_ble_eq_true rfl) dX7_type_44 hP hS (fun H locs hP hS => ?_)
          refine lv_aload_n X.1 X.2.1 dX7_type_47 rfl (lv_at hl 0 rfl) ?_
          obtain ⟨C_ready_48, D_ready_48, W_ready_48, ho, hf⟩ := b3_s hf
          refine call_vv (rest := []) X (c_X7_spoilAnswers (va_up (va_up (va_up F 0 H_seats_44) 1 H_rows_44) 2 H_people_44) G (va_up (va_up (va_up (va_up (va_up (va_up (va_up I 0 H_lengths_44) 1 H_faults_44) 2 H_sorts_44) 3 H_rowOf_44) 4 H_bySort_44) 5 H_owns_44) 6 H_kinds_44) J (va_up Z 0 H_bytes_44) X.2.2.2.2.2.2.2.1  ho) q_2_100 q_2_102 qs_yX7_spoilAnswers q_1_1 q_2_103 ok_X7_spoilAnswers rfl 34 rfl rfl ⟨Nat.le_of_ble_eq_true rfl, Nat.le_of_ble_eq_true rfl⟩ rfl rfl hl.1 rfl (Nat.le_of_ble_eq_true rfl) dX7_type_48 hP hS (fun H locs hP hS => ?_)
          refine lv_aload_n X.1 X.2.1 dX7_type_51 rfl (lv_at hl 0 rfl) ?_
          refine gC_34_0 X q_2_64 dX7_type_52 hP ?_
          refine gC_0_1 X q_1_57 dX7_type_55 hP ?_
          refine lv_iload_n X.1 X.2.1 dX7_type_58 rfl (lv_at hl 1 rfl) ?_
          obtain ⟨h59, hf⟩ := gd_s hf
          refine lC_4 (I := (va_up (va_up (va_up (va_up (va_up (va_up (va_up I 0 H_lengths_44) 1 H_faults_44) 2 H_sorts_44) 3 H_rowOf_44) 4 H_bySort_44) 5 H_owns_44) 6 H_kinds_44)) X (f := H_lengths_44) rfl h59 dX7_type_59 hP ?_
          obtain ⟨e0, hf⟩ := o2 hf
          obtain ⟨e1, hf⟩ := o2 hf
          obtain ⟨e2, hf⟩ := o2 hf
          obtain ⟨e3, hf⟩ := o2 hf
          obtain ⟨e4, hf⟩ := o2 hf
          obtain ⟨e5, hf⟩ := o2 hf
          obtain ⟨e6, hf⟩ := o2 hf
          obtain ⟨e7, hf⟩ := o2 hf
          obtain ⟨e8, hf⟩ := o2 hf
          obtain ⟨e9, hf⟩ := o2 hf
          obtain ⟨e10, hf⟩ := o2 hf
          obtain ⟨e11, hf⟩ := o2 hf
          obtain ⟨e12, hf⟩ := o2 hf
          obtain ⟨e13, hf⟩ := o2 hf
          have e14 := o1 hf
          have EF : Ff = (va_up (va_up (va_up (va_up (va_up (va_up F 0 H_seats_44) 1 H_rows_44) 2 H_people_44) 3 C_ready_48) 4 D_ready_48) 7 W_ready_48) := frm_eq (frm_up (frm_up (frm_up (frm_up (frm_up (frm_up hfF (by decide)) (by decide)) (by decide)) (by decide)) (by decide)) (by decide)) (frm_c (e1).symm (frm_c (e2).symm (frm_c (e3).symm (frm_c (e4).symm (frm_c (e5).symm (frm_c (e6).symm frm_n))))))
          have EI : If = (va_up (va_up (va_up (va_up (va_up (va_up (va_up I 0 H_lengths_44) 1 H_faults_44) 2 H_sorts_44) 3 H_rowOf_44) 4 H_bySort_44) 5 H_owns_44) 6 H_kinds_44) := frm_eq (frm_up (frm_up (frm_up (frm_up (frm_up (frm_up (frm_up hfI (by decide)) (by decide)) (by decide)) (by decide)) (by decide)) (by decide)) (by decide)) (frm_c (e7).symm (frm_c (e8).symm (frm_c (e9).symm (frm_c (e10).symm (frm_c (e11).symm (frm_c (e12).symm (frm_c (e13).symm frm_n)))))))
          have EZ : Zf = (va_up Z 0 H_bytes_44) := frm_eq (frm_up hfZ (by decide)) (frm_c (e14).symm frm_n)
          exact ret_i X hS (by rw [EF, EI, EZ]; exact hP) e0 dX7_type_60
        · have hf := ie_s hf c32
          refine lv_bipush (v := (-4)) X.1 X.2.1 dX7_type_35 (by decide) ?_
          obtain ⟨e0, hf⟩ := o2 hf
          obtain ⟨e1, hf⟩ := o2 hf
          obtain ⟨e2, hf⟩ := o2 hf
          obtain ⟨e3, hf⟩ := o2 hf
          obtain ⟨e4, hf⟩ := o2 hf
          obtain ⟨e5, hf⟩ := o2 hf
          obtain ⟨e6, hf⟩ := o2 hf
          obtain ⟨e7, hf⟩ := o2 hf
          obtain ⟨e8, hf⟩ := o2 hf
          obtain ⟨e9, hf⟩ := o2 hf
          obtain ⟨e10, hf⟩ := o2 hf
          obtain ⟨e11, hf⟩ := o2 hf
          obtain ⟨e12, hf⟩ := o2 hf
          obtain ⟨e13, hf⟩ := o2 hf
          have e14 := o1 hf
          have EF : Ff = F := frm_eq hfF (frm_c (e1).symm (frm_c (e2).symm (frm_c (e3).symm (frm_c (e4).symm (frm_c (e5).symm (frm_c (e6).symm frm_n))))))
          have EI : If = I := frm_eq hfI (frm_c (e7).symm (frm_c (e8).symm (frm_c (e9).symm (frm_c (e10).symm (frm_c (e11).symm (frm_c (e12).symm (frm_c (e13).symm frm_n)))))))
          have EZ : Zf = Z := frm_eq hfZ (frm_c (e14).symm frm_n)
          exact ret_i X hS (by rw [EF, EI, EZ]; exact hP) e0 dX7_type_37
      · have hf := ie_s hf c15
        exact t_X7_type_b18 X F I Z  H locs ls hf hfF hfI hfZ hP hS (lv_sub hl [0] rfl)
set_option maxRecDepth 100000 in
theorem c_X7_type {l : Launch} {D : va_G} {a : Nat → Nat} {kc : Nat → ClassId} (F : Nat → Int32) (G : Nat → Int64) (I : Nat → Nat → Int32) (J : Nat → Nat → Int64) (Z : Nat → Nat → Nat → Int32) (hAp : ∀ i j, i < 44 → j < 44 → a i = a j → i = j) (x1 : Int32) (x2 : Int32) {o0 : Int32} {o1 : Int32} {o2 : Int32} {o3 : Int32} {o4 : Int32} {o5 : Int32} {o6 : Int32} {o7 : Nat → Int32} {o8 : Nat → Int32} {o9 : Nat → Int32} {o10 : Nat → Int32} {o11 : Nat → Int32} {o12 : Nat → Int32} {o13 : Nat → Int32} {o14 : Nat → Nat → Int32} (hf : p_X7_type (F 0) (F 1) (F 2) (F 3) (F 4) (F 7) (I 0) (I 1) (I 2) (I 3) (I 4) (I 5) (I 6) (Z 0) x1 x2 = some (o0, o1, o2, o3, o4, o5, o6, o7, o8, o9, o10, o11, o12, o13, o14)) : Ct 44 l yX7_type cX7_type 3 (some .int) rm_X7_type D (tyC kc) a (wC a kc F G I J Z) [.ref (a 34), .int x1, .int x2] (Qi D (wC a kc (va_up (va_up (va_up (va_up (va_up (va_up F 0 o1) 1 o2) 2 o3) 3 o4) 4 o5) 7 o6) G (va_up (va_up (va_up (va_up (va_up (va_up (va_up I 0 o7) 1 o8) 2 o9) 3 o10) 4 o11) 5 o12) 6 o13) J (va_up Z 0 o14)) o0) :=
  Ct.of (by decide +kernel) hAp (Nat.le_of_ble_eq_true rfl) (fun p e s m args below meth c ls X hP hl => t_X7_type_b0 X F I Z x1 x2 _ _ _ hf (frm_ul (frm_ul (frm_ul (frm_ul (frm_ul (frm_ul (fun k _ => rfl) (by decide)) (by decide)) (by decide)) (by decide)) (by decide)) (by decide)) (frm_ul (frm_ul (frm_ul (frm_ul (frm_ul (frm_ul (frm_ul (fun k _ => rfl) (by decide)) (by decide)) (by decide)) (by decide)) (by decide)) (by decide)) (by decide)) (frm_ul (fun k _ => rfl) (by decide)) hP va_S.rf hl)
abbrev rm_X7_wipe : Room := { frames := 5, cells := 0, slots := 0, locals := 110 }
set_option maxHeartbeats 4000000 in
set_option maxRecDepth 100000 in
theorem t_X7_wipe_b0 {p : Program} {l : Launch} {e : Env} {s : State} {m : MethodId} {args : Array Value} {below : List Frame} {meth : Method} {c : Code} {D : va_G} {a : Nat → Nat} {kc : Nat → ClassId} (X : cx 44 p s m args meth c D (tyC kc) a cX7_wipe 3 RX7 (some .int)) {G : Nat → Int64} {J : Nat → Nat → Int64} {Z : Nat → Nat → Nat → Int32} {Ff : Nat → Int32} {If : Nat → Nat → Int32} {r : Int32} :
    ∀ (F : Nat → Int32) (I : Nat → Nat → Int32) (x1 : Int32) (H : Heap) (locs : List Loc) (ls : Array Slot), p_X7_wipe_b0 (F 0) (F 1) (F 2) (F 3) (F 4) (F 7) (I 0) (I 1) (I 2) (I 3) (I 4) (I 5) (I 6) (Z 0) x1 = some (r, (Ff 0), (Ff 1), (Ff 2), (Ff 3), (Ff 4), (Ff 7), (If 0), (If 1), (If 2), (If 3), (If 4), (If 5), (If 6)) → (∀ k, k ∉ ([0, 1, 2, 3, 4, 7] : List Nat) → Ff k = F k) → (∀ k, k ∉ ([0, 1, 2, 3, 4, 5, 6] : List Nat) → If k = I k) → va_P D vwCl (wC a kc F G I J Z) H → va_S (ad a 44 s.heap.size) s.heap H locs → lv_has ls 3 [(0, .ref (a 34)), (1, .int x1)] → W p l e rm_X7_wipe s m args below meth c H locs 0 0 (MQ below (Qi D (wC a kc Ff G If J Z) r (ad a 44 s.heap.size)) args s 0 0 (ad a 44 s.heap.size)) (F0 m 0 ls []) := by
  intro F I x1 H locs ls hf hfF hfI hP hS hl
  unfold p_X7_wipe_b0 at hf
  refine lv_iload_n X.1 X.2.1 dX7_wipe_0 rfl (lv_at hl 1 rfl) ?_
  obtain ⟨r1, ho, hf⟩ := b1_s hf
  refine call_si (rest := []) X (c_X7_isNoText x1 ho) q_2_93 q_2_94 q_1_1 q_2_95 ok_X7_isNoText rfl ⟨Nat.le_of_ble_eq_true rfl, Nat.le_of_ble_eq_true rfl⟩ rfl rfl hl.1 rfl (Nat.le_of_ble_eq_true rfl) dX7_wipe_1 hP hS (fun H locs hP hS => ?_)
  refine lv_if_eq (tgt := 10) X.1 X.2.1 dX7_wipe_4 (by decide) (fun c4 => ?_) (fun c4 => ?_)
  · have hf := it_s hf c4
    refine lv_aload_n X.1 X.2.1 dX7_wipe_10 rfl (lv_at hl 0 rfl) ?_
    refine gC_34_0 X q_2_64 dX7_wipe_11 hP ?_
    refine gC_0_1 X q_1_57 dX7_wipe_14 hP ?_
    refine lv_iload_n X.1 X.2.1 dX7_wipe_17 rfl (lv_at hl 1 rfl) ?_
    obtain ⟨h18, hf⟩ := gd_s hf
    refine lC_4 (I := I) X (f := (I 0)) rfl h18 dX7_wipe_18 hP ?_
    refine nm_i hf (fun x19 hf => ?_)
    refine lv_istore_n (lv' := [(2, .int x19), (0, .ref (a 34)), (1, .int x1)]) X.1 X.2.1 dX7_wipe_19 rfl hl (by decide) rfl (fun ls hl => ?_)
    refine lv_aload_n X.1 X.2.1 dX7_wipe_20 rfl (lv_at hl 1 rfl) ?_
    refine gC_34_0 X q_2_64 dX7_wipe_21 hP ?_
    refine lv_iload_n X.1 X.2.1 dX7_wipe_24 rfl (lv_at hl 2 rfl) ?_
    obtain ⟨H_seats_25, H_rows_25, H_people_25, H_lengths_25, H_faults_25, H_sorts_25, H_rowOf_25, H_bySort_25, H_owns_25, H_kinds_25, ho, hf⟩ := b10_s hf
    refine call_vv (rest := []) X (c_X3_empty F G I J Z X.2.2.2.2.2.2.2.1 x1 ho) q_2_108 q_2_109 q_2_110 q_1_2 q_2_111 ok_X3_empty rfl 0 rfl rfl ⟨Nat.le_of_ble_eq_true rfl, Nat.le_of_ble_eq_true rfl⟩ rfl rfl hl.1 rfl (Nat.le_of_ble_eq_true rfl) dX7_wipe_25 hP hS (fun H locs hP hS => ?_)
    refine lv_aload_n X.1 X.2.1 dX7_wipe_28 rfl (lv_at hl 1 rfl) ?_
    obtain ⟨C_ready_29, D_ready_29, W_ready_29, ho, hf⟩ := b3_s hf
    refine call_vv (rest := []) X (c_X7_spoilAnswers (va_up (va_up (va_up F 0 H_seats_25) 1 H_rows_25) 2 H_people_25) G (va_up (va_up (va_up (va_up (va_up (va_up (va_up I 0 H_lengths_25) 1 H_faults_25) 2 H_sorts_25) 3 H_rowOf_25) 4 H_bySort_25) 5 H_owns_25) 6 H_kinds_25) J Z X.2.2.2.2.2.2.2.1  ho) q_2_100 q_2_102 qs_yX7_spoilAnswers q_1_1 q_2_103 ok_X7_spoilAnswers rfl 34 rfl rfl ⟨Nat.le_of_ble_eq_true rfl, Nat.le_of_ble_eq_true rfl⟩ rfl rfl hl.1 rfl (Nat.le_of_ble_eq_true rfl) dX7_wipe_29 hP hS (fun H locs hP hS => ?_)
    refine lv_iload_n X.1 X.2.1 dX7_wipe_32 rfl (lv_at hl 0 rfl) ?_
    obtain ⟨e0, hf⟩ := o2 hf
    obtain ⟨e1, hf⟩ := o2 hf
    obtain ⟨e2, hf⟩ := o2 hf
    obtain ⟨e3, hf⟩ := o2 hf
    obtain ⟨e4, hf⟩ := o2 hf
    obtain ⟨e5, hf⟩ := o2 hf
    obtain ⟨e6, hf⟩ := o2 hf
    obtain ⟨e7, hf⟩ := o2 hf
    obtain ⟨e8, hf⟩ := o2 hf
    obtain ⟨e9, hf⟩ := o2 hf
    obtain ⟨e10, hf⟩ := o2 hf
    obtain ⟨e11, hf⟩ := o2 hf
    obtain ⟨e12, hf⟩ := o2 hf
    have e13 := o1 hf
    have EF : Ff = (va_up (va_up (va_up (va_up (va_up (va_up F 0 H_seats_25) 1 H_rows_25) 2 H_people_25) 3 C_ready_29) 4 D_ready_29) 7 W_ready_29) := frm_eq (frm_up (frm_up (frm_up (frm_up (frm_up (frm_up hfF (by decide)) (by decide)) (by decide)) (by decide)) (by decide)) (by decide)) (frm_c (e1).symm (frm_c (e2).symm (frm_c (e3).symm (frm_c (e4).symm (frm_c (e5).symm (frm_c (e6).symm frm_n))))))
    have EI : If = (va_up (va_up (va_up (va_up (va_up (va_up (va_up I 0 H_lengths_25) 1 H_faults_25) 2 H_sorts_25) 3 H_rowOf_25) 4 H_bySort_25) 5 H_owns_25) 6 H_kinds_25) := frm_eq (frm_up (frm_up (frm_up (frm_up (frm_up (frm_up (frm_up hfI (by decide)) (by decide)) (by decide)) (by decide)) (by decide)) (by decide)) (by decide)) (frm_c (e7).symm (frm_c (e8).symm (frm_c (e9).symm (frm_c (e10).symm (frm_c (e11).symm (frm_c (e12).symm (frm_c (e13).symm frm_n)))))))
    exact ret_i X hS (by rw [EF, EI]; exact hP) e0 dX7_wipe_33
  · have hf := ie_s hf c4
    refine lv_bipush (v := (-2)) X.1 X.2.1 dX7_wipe_7 (by decide) ?_
    obtain ⟨e0, hf⟩ := o2 hf
    obtain ⟨e1, hf⟩ := o2 hf
    obtain ⟨e2, hf⟩ := o2 hf
    obtain ⟨e3, hf⟩ := o2 hf
    obtain ⟨e4, hf⟩ := o2 hf
    obtain ⟨e5, hf⟩ := o2 hf
    obtain ⟨e6, hf⟩ := o2 hf
    obtain ⟨e7, hf⟩ := o2 hf
    obtain ⟨e8, hf⟩ := o2 hf
    obtain ⟨e9, hf⟩ := o2 hf
    obtain ⟨e10, hf⟩ := o2 hf
    obtain ⟨e11, hf⟩ := o2 hf
    obtain ⟨e12, hf⟩ := o2 hf
    have e13 := o1 hf
    have EF : Ff = F := frm_eq hfF (frm_c (e1).symm (frm_c (e2).symm (frm_c (e3).symm (frm_c (e4).symm (frm_c (e5).symm (frm_c (e6).symm frm_n))))))
    have EI : If = I := frm_eq hfI (frm_c (e7).symm (frm_c (e8).symm (frm_c (e9).symm (frm_c (e10).symm (frm_c (e11).symm (frm_c (e12).symm (frm_c (e13).symm frm_n)))))))
    exact ret_i X hS (by rw [EF, EI]; exact hP) e0 dX7_wipe_9
set_option maxRecDepth 100000 in
theorem c_X7_wipe {l : Launch} {D : va_G} {a : Nat → Nat} {kc : Nat → ClassId} (F : Nat → Int32) (G : Nat → Int64) (I : Nat → Nat → Int32) (J : Nat → Nat → Int64) (Z : Nat → Nat → Nat → Int32) (hAp : ∀ i j, i < 44 → j < 44 → a i = a j → i = j) (x1 : Int32) {o0 : Int32} {o1 : Int32} {o2 : Int32} {o3 : Int32} {o4 : Int32} {o5 : Int32} {o6 : Int32} {o7 : Nat → Int32} {o8 : Nat → Int32} {o9 : Nat → Int32} {o10 : Nat → Int32} {o11 : Nat → Int32} {o12 : Nat → Int32} {o13 : Nat → Int32} (hf : p_X7_wipe (F 0) (F 1) (F 2) (F 3) (F 4) (F 7) (I 0) (I 1) (I 2) (I 3) (I 4) (I 5) (I 6) (Z 0) x1 = some (o0, o1, o2, o3, o4, o5, o6, o7, o8, o9, o10, o11, o12, o13)) : Ct 44 l yX7_wipe cX7_wipe 3 (some .int) rm_X7_wipe D (tyC kc) a (wC a kc F G I J Z) [.ref (a 34), .int x1] (Qi D (wC a kc (va_up (va_up (va_up (va_up (va_up (va_up F 0 o1) 1 o2) 2 o3) 3 o4) 4 o5) 7 o6) G (va_up (va_up (va_up (va_up (va_up (va_up (va_up I 0 o7) 1 o8) 2 o9) 3 o10) 4 o11) 5 o12) 6 o13) J Z) o0) :=
  Ct.of (by decide +kernel) hAp (Nat.le_of_ble_eq_true rfl) (fun p e s m args below meth c ls X hP hl => t_X7_wipe_b0 X F I x1 _ _ _ hf (frm_ul (frm_ul (frm_ul (frm_ul (frm_ul (frm_ul (fun k _ => rfl) (by decide)) (by decide)) (by decide)) (by decide)) (by decide)) (by decide)) (frm_ul (frm_ul (frm_ul (frm_ul (frm_ul (frm_ul (frm_ul (fun k _ => rfl) (by decide)) (by decide)) (by decide)) (by decide)) (by decide)) (by decide)) (by decide)) hP va_S.rf hl)
abbrev rm_X7_fault : Room := { frames := 1, cells := 0, slots := 0, locals := 20 }
set_option maxHeartbeats 4000000 in
set_option maxRecDepth 100000 in
theorem t_X7_fault_b21 {p : Program} {l : Launch} {e : Env} {s : State} {m : MethodId} {args : Array Value} {below : List Frame} {meth : Method} {c : Code} {D : va_G} {a : Nat → Nat} {kc : Nat → ClassId} (X : cx 44 p s m args meth c D (tyC kc) a cX7_fault 2 RX7 (some .int)) {F : Nat → Int32} {G : Nat → Int64} {I : Nat → Nat → Int32} {J : Nat → Nat → Int64} {Z : Nat → Nat → Nat → Int32}  {r : Int32} :
    ∀  (t0 : Int32) (H : Heap) (locs : List Loc) (ls : Array Slot), p_X7_fault_b21 (I 1) t0 = some r → va_P D vwCl (wC a kc F G I J Z) H → va_S (ad a 44 s.heap.size) s.heap H locs → lv_has ls 2 [(0, .ref (a 34))] → W p l e rm_X7_fault s m args below meth c H locs 0 0 (MQ below (Qi D (wC a kc F G I J Z) r (ad a 44 s.heap.size)) args s 0 0 (ad a 44 s.heap.size)) (F0 m 21 ls [.int t0]) := by
  intro  t0 H locs ls hf  hP hS hl
  unfold p_X7_fault_b21 at hf
  have e0 := o1 hf
  exact ret_i X hS hP e0 dX7_fault_21
set_option maxHeartbeats 4000000 in
set_option maxRecDepth 100000 in
theorem t_X7_fault_b0 {p : Program} {l : Launch} {e : Env} {s : State} {m : MethodId} {args : Array Value} {below : List Frame} {meth : Method} {c : Code} {D : va_G} {a : Nat → Nat} {kc : Nat → ClassId} (X : cx 44 p s m args meth c D (tyC kc) a cX7_fault 2 RX7 (some .int)) {F : Nat → Int32} {G : Nat → Int64} {I : Nat → Nat → Int32} {J : Nat → Nat → Int64} {Z : Nat → Nat → Nat → Int32}  {r : Int32} :
    ∀  (x1 : Int32) (H : Heap) (locs : List Loc) (ls : Array Slot), p_X7_fault_b0 (I 1) x1 = some r → va_P D vwCl (wC a kc F G I J Z) H → va_S (ad a 44 s.heap.size) s.heap H locs → lv_has ls 2 [(0, .ref (a 34)), (1, .int x1)] → W p l e rm_X7_fault s m args below meth c H locs 0 0 (MQ below (Qi D (wC a kc F G I J Z) r (ad a 44 s.heap.size)) args s 0 0 (ad a 44 s.heap.size)) (F0 m 0 ls []) := by
  intro  x1 H locs ls hf  hP hS hl
  unfold p_X7_fault_b0 at hf
  refine lv_iload_n X.1 X.2.1 dX7_fault_0 rfl (lv_at hl 1 rfl) ?_
  obtain ⟨r1, ho, hf⟩ := b1_s hf
  refine call_si (rest := []) X (c_X7_isNoText x1 ho) q_2_93 q_2_94 q_1_1 q_2_95 ok_X7_isNoText rfl ⟨Nat.le_of_ble_eq_true rfl, Nat.le_of_ble_eq_true rfl⟩ rfl rfl hl.1 rfl (Nat.le_of_ble_eq_true rfl) dX7_fault_1 hP hS (fun H locs hP hS => ?_)
  refine lv_if_eq (tgt := 12) X.1 X.2.1 dX7_fault_4 (by decide) (fun c4 => ?_) (fun c4 => ?_)
  · have hf := it_s hf c4
    refine lv_aload_n X.1 X.2.1 dX7_fault_12 rfl (lv_at hl 0 rfl) ?_
    refine gC_34_0 X q_2_64 dX7_fault_13 hP ?_
    refine gC_0_2 X q_1_59 dX7_fault_16 hP ?_
    refine lv_iload_n X.1 X.2.1 dX7_fault_19 rfl (lv_at hl 1 rfl) ?_
    obtain ⟨h20, hf⟩ := gd_s hf
    refine lC_5 (I := I) X (f := (I 1)) rfl h20 dX7_fault_20 hP ?_
    exact t_X7_fault_b21 X  ((I 1) x1.toNatClampNeg) H locs ls hf  hP hS (lv_sub hl [0] rfl)
  · have hf := ie_s hf c4
    refine lv_bipush (v := (-2)) X.1 X.2.1 dX7_fault_7 (by decide) ?_
    refine lv_goto (tgt := 21) X.1 X.2.1 dX7_fault_9 (by decide) ?_
    exact t_X7_fault_b21 X  (-2) H locs ls hf  hP hS (lv_sub hl [0] rfl)
set_option maxRecDepth 100000 in
theorem c_X7_fault {l : Launch} {D : va_G} {a : Nat → Nat} {kc : Nat → ClassId} (F : Nat → Int32) (G : Nat → Int64) (I : Nat → Nat → Int32) (J : Nat → Nat → Int64) (Z : Nat → Nat → Nat → Int32) (hAp : ∀ i j, i < 44 → j < 44 → a i = a j → i = j) (x1 : Int32) {o0 : Int32} (hf : p_X7_fault (I 1) x1 = some o0) : Ct 44 l yX7_fault cX7_fault 2 (some .int) rm_X7_fault D (tyC kc) a (wC a kc F G I J Z) [.ref (a 34), .int x1] (Qi D (wC a kc F G I J Z) o0) :=
  Ct.of (by decide +kernel) hAp (Nat.le_of_ble_eq_true rfl) (fun p e s m args below meth c ls X hP hl => t_X7_fault_b0 X  x1 _ _ _ hf  hP va_S.rf hl)
abbrev rm_X7_isNoSeat : Room := { frames := 0, cells := 0, slots := 0, locals := 0 }
set_option maxHeartbeats 4000000 in
set_option maxRecDepth 100000 in
theorem t_X7_isNoSeat_b20 {p : Program} {l : Launch} {e : Env} {s : State} {m : MethodId} {args : Array Value} {below : List Frame} {meth : Method} {c : Code} {D : va_G} {a : Nat → Nat} {kc : Nat → ClassId} (X : cx 44 p s m args meth c D (tyC kc) a cX7_isNoSeat 2 RX7 (some .boolean)) {F : Nat → Int32} {G : Nat → Int64} {I : Nat → Nat → Int32} {J : Nat → Nat → Int64} {Z : Nat → Nat → Nat → Int32}  {r : Int32} :
    ∀  (t0 : Int32) (H : Heap) (locs : List Loc) (ls : Array Slot), p_X7_isNoSeat_b20 (F 0) t0 = some r → va_P D vwCl (wC a kc F G I J Z) H → va_S (ad a 44 s.heap.size) s.heap H locs → lv_has ls 2 [(0, .ref (a 34))] → W p l e rm_X7_isNoSeat s m args below meth c H locs 0 0 (MQ below (Qi D (wC a kc F G I J Z) r (ad a 44 s.heap.size)) args s 0 0 (ad a 44 s.heap.size)) (F0 m 20 ls [.int t0]) := by
  intro  t0 H locs ls hf  hP hS hl
  unfold p_X7_isNoSeat_b20 at hf
  obtain ⟨h20, hf⟩ := gd_s hf
  have e0 := o1 hf
  exact ret_z X hS hP e0 h20 dX7_isNoSeat_20
set_option maxHeartbeats 4000000 in
set_option maxRecDepth 100000 in
theorem t_X7_isNoSeat_b15 {p : Program} {l : Launch} {e : Env} {s : State} {m : MethodId} {args : Array Value} {below : List Frame} {meth : Method} {c : Code} {D : va_G} {a : Nat → Nat} {kc : Nat → ClassId} (X : cx 44 p s m args meth c D (tyC kc) a cX7_isNoSeat 2 RX7 (some .boolean)) {F : Nat → Int32} {G : Nat → Int64} {I : Nat → Nat → Int32} {J : Nat → Nat → Int64} {Z : Nat → Nat → Nat → Int32}  {r : Int32} :
    ∀   (H : Heap) (locs : List Loc) (ls : Array Slot), p_X7_isNoSeat_b15 (F 0)  = some r → va_P D vwCl (wC a kc F G I J Z) H → va_S (ad a 44 s.heap.size) s.heap H locs → lv_has ls 2 [(0, .ref (a 34))] → W p l e rm_X7_isNoSeat s m args below meth c H locs 0 0 (MQ below (Qi D (wC a kc F G I J Z) r (ad a 44 s.heap.size)) args s 0 0 (ad a 44 s.heap.size)) (F0 m 15 ls []) := by
  intro   H locs ls hf  hP hS hl
  unfold p_X7_isNoSeat_b15 at hf
  refine lv_iconst (v := 1) X.1 X.2.1 dX7_isNoSeat_15 (by decide) ?_
  refine lv_goto (tgt := 20) X.1 X.2.1 dX7_isNoSeat_16 (by decide) ?_
  exact t_X7_isNoSeat_b20 X  1 H locs ls hf  hP hS (lv_sub hl [0] rfl)
set_option maxHeartbeats 4000000 in
set_option maxRecDepth 100000 in
theorem t_X7_isNoSeat_b0 {p : Program} {l : Launch} {e : Env} {s : State} {m : MethodId} {args : Array Value} {below : List Frame} {meth : Method} {c : Code} {D : va_G} {a : Nat → Nat} {kc : Nat → ClassId} (X : cx 44 p s m args meth c D (tyC kc) a cX7_isNoSeat 2 RX7 (some .boolean)) {F : Nat → Int32} {G : Nat → Int64} {I : Nat → Nat → Int32} {J : Nat → Nat → Int64} {Z : Nat → Nat → Nat → Int32}  {r : Int32} :
    ∀  (x1 : Int32) (H : Heap) (locs : List Loc) (ls : Array Slot), p_X7_isNoSeat_b0 (F 0) x1 = some r → va_P D vwCl (wC a kc F G I J Z) H → va_S (ad a 44 s.heap.size) s.heap H locs → lv_has ls 2 [(0, .ref (a 34)), (1, .int x1)] → W p l e rm_X7_isNoSeat s m args below meth c H locs 0 0 (MQ below (Qi D (wC a kc F G I J Z) r (ad a 44 s.heap.size)) args s 0 0 (ad a 44 s.heap.size)) (F0 m 0 ls []) := by
  intro  x1 H locs ls hf  hP hS hl
  unfold p_X7_isNoSeat_b0 at hf
  refine lv_iload_n X.1 X.2.1 dX7_isNoSeat_0 rfl (lv_at hl 1 rfl) ?_
  refine lv_if_lt (tgt := 15) X.1 X.2.1 dX7_isNoSeat_1 (by decide) (fun c1 => ?_) (fun c1 => ?_)
  · have hf := it_s hf c1
    exact t_X7_isNoSeat_b15 X   H locs ls hf  hP hS (lv_sub hl [0] rfl)
  · have hf := ie_s hf c1
    refine lv_iload_n X.1 X.2.1 dX7_isNoSeat_4 rfl (lv_at hl 1 rfl) ?_
    refine lv_aload_n X.1 X.2.1 dX7_isNoSeat_5 rfl (lv_at hl 0 rfl) ?_
    refine gC_34_0 X q_2_64 dX7_isNoSeat_6 hP ?_
    refine gC_0_8 (F := F) X (v := (F 0)) rfl q_1_84 dX7_isNoSeat_9 hP ?_
    refine lv_icmp_lt (tgt := 19) X.1 X.2.1 dX7_isNoSeat_12 (by decide) (fun c12 => ?_) (fun c12 => ?_)
    · have hf := it_s hf c12
      refine lv_iconst (v := 0) X.1 X.2.1 dX7_isNoSeat_19 (by decide) ?_
      exact t_X7_isNoSeat_b20 X  0 H locs ls hf  hP hS (lv_sub hl [0] rfl)
    · have hf := ie_s hf c12
      exact t_X7_isNoSeat_b15 X   H locs ls hf  hP hS (lv_sub hl [0] rfl)
set_option maxRecDepth 100000 in
theorem c_X7_isNoSeat {l : Launch} {D : va_G} {a : Nat → Nat} {kc : Nat → ClassId} (F : Nat → Int32) (G : Nat → Int64) (I : Nat → Nat → Int32) (J : Nat → Nat → Int64) (Z : Nat → Nat → Nat → Int32) (hAp : ∀ i j, i < 44 → j < 44 → a i = a j → i = j) (x1 : Int32) {o0 : Int32} (hf : p_X7_isNoSeat (F 0) x1 = some o0) : Ct 44 l yX7_isNoSeat cX7_isNoSeat 2 (some .boolean) rm_X7_isNoSeat D (tyC kc) a (wC a kc F G I J Z) [.ref (a 34), .int x1] (Qi D (wC a kc F G I J Z) o0) :=
  Ct.of (by decide +kernel) hAp (Nat.le_of_ble_eq_true rfl) (fun p e s m args below meth c ls X hP hl => t_X7_isNoSeat_b0 X  x1 _ _ _ hf  hP va_S.rf hl)
abbrev rm_X7_seat : Room := { frames := 1, cells := 0, slots := 0, locals := 23 }
set_option maxHeartbeats 4000000 in
set_option maxRecDepth 100000 in
theorem t_X7_seat_b0 {p : Program} {l : Launch} {e : Env} {s : State} {m : MethodId} {args : Array Value} {below : List Frame} {meth : Method} {c : Code} {D : va_G} {a : Nat → Nat} {kc : Nat → ClassId} (X : cx 44 p s m args meth c D (tyC kc) a cX7_seat 3 RX7 (some .int)) {F : Nat → Int32} {G : Nat → Int64} {I : Nat → Nat → Int32} {J : Nat → Nat → Int64} {Z : Nat → Nat → Nat → Int32}  {r : Int32} :
    ∀  (x1 : Int32) (x2 : Int32) (H : Heap) (locs : List Loc) (ls : Array Slot), p_X7_seat_b0 (F 0) (F 2) (I 2) (I 3) (I 5) x1 x2 = some r → va_P D vwCl (wC a kc F G I J Z) H → va_S (ad a 44 s.heap.size) s.heap H locs → lv_has ls 3 [(0, .ref (a 34)), (1, .int x1), (2, .int x2)] → W p l e rm_X7_seat s m args below meth c H locs 0 0 (MQ below (Qi D (wC a kc F G I J Z) r (ad a 44 s.heap.size)) args s 0 0 (ad a 44 s.heap.size)) (F0 m 0 ls []) := by
  intro  x1 x2 H locs ls hf  hP hS hl
  unfold p_X7_seat_b0 at hf
  refine lv_aload_n X.1 X.2.1 dX7_seat_0 rfl (lv_at hl 0 rfl) ?_
  refine lv_iload_n X.1 X.2.1 dX7_seat_1 rfl (lv_at hl 1 rfl) ?_
  obtain ⟨r2, ho, hf⟩ := b1_s hf
  refine call_vi (rest := []) X (c_X7_isNoSeat F G I J Z X.2.2.2.2.2.2.2.1 x1 ho) q_2_120 q_2_122 qs_yX7_isNoSeat q_1_1 q_2_123 ok_X7_isNoSeat rfl 34 rfl rfl ⟨Nat.le_of_ble_eq_true rfl, Nat.le_of_ble_eq_true rfl⟩ rfl rfl hl.1 rfl (Nat.le_of_ble_eq_true rfl) dX7_seat_2 hP hS (fun H locs hP hS => ?_)
  refine lv_if_eq (tgt := 11) X.1 X.2.1 dX7_seat_5 (by decide) (fun c5 => ?_) (fun c5 => ?_)
  · have hf := it_s hf c5
    refine lv_iload_n X.1 X.2.1 dX7_seat_11 rfl (lv_at hl 2 rfl) ?_
    by_cases c12_0 : x2.toInt = 0
    · refine lv_tableIn (off := 28) (tgt := 40) X.1 X.2.1 dX7_seat_12 (by omega) (by omega) (by rw [c12_0]; rfl) (by decide) ?_
      have hf := it_s hf c12_0
      refine lv_aload_n X.1 X.2.1 dX7_seat_40 rfl (lv_at hl 0 rfl) ?_
      refine gC_34_0 X q_2_64 dX7_seat_41 hP ?_
      refine gC_0_3 X q_1_61 dX7_seat_44 hP ?_
      refine lv_iload_n X.1 X.2.1 dX7_seat_47 rfl (lv_at hl 1 rfl) ?_
      obtain ⟨h48, hf⟩ := gd_s hf
      refine lC_6 (I := I) X (f := (I 2)) rfl h48 dX7_seat_48 hP ?_
      have e0 := o1 hf
      exact ret_i X hS hP e0 dX7_seat_49
    · have hf := ie_s hf c12_0
      by_cases c12_1 : x2.toInt = 1
      · refine lv_tableIn (off := 38) (tgt := 50) X.1 X.2.1 dX7_seat_12 (by omega) (by omega) (by rw [c12_1]; rfl) (by decide) ?_
        have hf := it_s hf c12_1
        refine lv_aload_n X.1 X.2.1 dX7_seat_50 rfl (lv_at hl 0 rfl) ?_
        refine gC_34_0 X q_2_64 dX7_seat_51 hP ?_
        refine gC_0_4 X q_1_63 dX7_seat_54 hP ?_
        refine lv_iload_n X.1 X.2.1 dX7_seat_57 rfl (lv_at hl 1 rfl) ?_
        obtain ⟨h58, hf⟩ := gd_s hf
        refine lC_7 (I := I) X (f := (I 3)) rfl h58 dX7_seat_58 hP ?_
        have e0 := o1 hf
        exact ret_i X hS hP e0 dX7_seat_59
      · have hf := ie_s hf c12_1
        by_cases c12_2 : x2.toInt = 2
        · refine lv_tableIn (off := 48) (tgt := 60) X.1 X.2.1 dX7_seat_12 (by omega) (by omega) (by rw [c12_2]; rfl) (by decide) ?_
          have hf := it_s hf c12_2
          refine lv_aload_n X.1 X.2.1 dX7_seat_60 rfl (lv_at hl 0 rfl) ?_
          refine gC_34_0 X q_2_64 dX7_seat_61 hP ?_
          refine lv_iload_n X.1 X.2.1 dX7_seat_64 rfl (lv_at hl 1 rfl) ?_
          obtain ⟨r65, ho, hf⟩ := b1_s hf
          refine call_vi (rest := []) X (c_X3_ownersOf F G I J Z X.2.2.2.2.2.2.2.1 x1 ho) q_2_124 q_2_125 q_2_126 q_1_2 q_2_127 ok_X3_ownersOf rfl 0 rfl rfl ⟨Nat.le_of_ble_eq_true rfl, Nat.le_of_ble_eq_true rfl⟩ rfl rfl hl.1 rfl (Nat.le_of_ble_eq_true rfl) dX7_seat_65 hP hS (fun H locs hP hS => ?_)
          have e0 := o1 hf
          exact ret_i X hS hP e0 dX7_seat_68
        · have hf := ie_s hf c12_2
          refine lv_tableOut (tgt := 69) X.1 X.2.1 dX7_seat_12 (by omega) (by decide) ?_
          refine lv_bipush (v := (-2)) X.1 X.2.1 dX7_seat_69 (by decide) ?_
          have e0 := o1 hf
          exact ret_i X hS hP e0 dX7_seat_71
  · have hf := ie_s hf c5
    refine lv_bipush (v := (-2)) X.1 X.2.1 dX7_seat_8 (by decide) ?_
    have e0 := o1 hf
    exact ret_i X hS hP e0 dX7_seat_10
set_option maxRecDepth 100000 in
theorem c_X7_seat {l : Launch} {D : va_G} {a : Nat → Nat} {kc : Nat → ClassId} (F : Nat → Int32) (G : Nat → Int64) (I : Nat → Nat → Int32) (J : Nat → Nat → Int64) (Z : Nat → Nat → Nat → Int32) (hAp : ∀ i j, i < 44 → j < 44 → a i = a j → i = j) (x1 : Int32) (x2 : Int32) {o0 : Int32} (hf : p_X7_seat (F 0) (F 2) (I 2) (I 3) (I 5) x1 x2 = some o0) : Ct 44 l yX7_seat cX7_seat 3 (some .int) rm_X7_seat D (tyC kc) a (wC a kc F G I J Z) [.ref (a 34), .int x1, .int x2] (Qi D (wC a kc F G I J Z) o0) :=
  Ct.of (by decide +kernel) hAp (Nat.le_of_ble_eq_true rfl) (fun p e s m args below meth c ls X hP hl => t_X7_seat_b0 X  x1 x2 _ _ _ hf  hP va_S.rf hl)
abbrev rm_X7_isNobody : Room := { frames := 0, cells := 0, slots := 0, locals := 0 }
set_option maxHeartbeats 4000000 in
set_option maxRecDepth 100000 in
theorem t_X7_isNobody_b20 {p : Program} {l : Launch} {e : Env} {s : State} {m : MethodId} {args : Array Value} {below : List Frame} {meth : Method} {c : Code} {D : va_G} {a : Nat → Nat} {kc : Nat → ClassId} (X : cx 44 p s m args meth c D (tyC kc) a cX7_isNobody 2 RX7 (some .boolean)) {F : Nat → Int32} {G : Nat → Int64} {I : Nat → Nat → Int32} {J : Nat → Nat → Int64} {Z : Nat → Nat → Nat → Int32}  {r : Int32} :
    ∀  (t0 : Int32) (H : Heap) (locs : List Loc) (ls : Array Slot), p_X7_isNobody_b20 (F 2) t0 = some r → va_P D vwCl (wC a kc F G I J Z) H → va_S (ad a 44 s.heap.size) s.heap H locs → lv_has ls 2 [(0, .ref (a 34))] → W p l e rm_X7_isNobody s m args below meth c H locs 0 0 (MQ below (Qi D (wC a kc F G I J Z) r (ad a 44 s.heap.size)) args s 0 0 (ad a 44 s.heap.size)) (F0 m 20 ls [.int t0]) := by
  intro  t0 H locs ls hf  hP hS hl
  unfold p_X7_isNobody_b20 at hf
  obtain ⟨h20, hf⟩ := gd_s hf
  have e0 := o1 hf
  exact ret_z X hS hP e0 h20 dX7_isNobody_20
set_option maxHeartbeats 4000000 in
set_option maxRecDepth 100000 in
theorem t_X7_isNobody_b15 {p : Program} {l : Launch} {e : Env} {s : State} {m : MethodId} {args : Array Value} {below : List Frame} {meth : Method} {c : Code} {D : va_G} {a : Nat → Nat} {kc : Nat → ClassId} (X : cx 44 p s m args meth c D (tyC kc) a cX7_isNobody 2 RX7 (some .boolean)) {F : Nat → Int32} {G : Nat → Int64} {I : Nat → Nat → Int32} {J : Nat → Nat → Int64} {Z : Nat → Nat → Nat → Int32}  {r : Int32} :
    ∀   (H : Heap) (locs : List Loc) (ls : Array Slot), p_X7_isNobody_b15 (F 2)  = some r → va_P D vwCl (wC a kc F G I J Z) H → va_S (ad a 44 s.heap.size) s.heap H locs → lv_has ls 2 [(0, .ref (a 34))] → W p l e rm_X7_isNobody s m args below meth c H locs 0 0 (MQ below (Qi D (wC a kc F G I J Z) r (ad a 44 s.heap.size)) args s 0 0 (ad a 44 s.heap.size)) (F0 m 15 ls []) := by
  intro   H locs ls hf  hP hS hl
  unfold p_X7_isNobody_b15 at hf
  refine lv_iconst (v := 1) X.1 X.2.1 dX7_isNobody_15 (by decide) ?_
  refine lv_goto (tgt := 20) X.1 X.2.1 dX7_isNobody_16 (by decide) ?_
  exact t_X7_isNobody_b20 X  1 H locs ls hf  hP hS (lv_sub hl [0] rfl)
set_option maxHeartbeats 4000000 in
set_option maxRecDepth 100000 in
theorem t_X7_isNobody_b0 {p : Program} {l : Launch} {e : Env} {s : State} {m : MethodId} {args : Array Value} {below : List Frame} {meth : Method} {c : Code} {D : va_G} {a : Nat → Nat} {kc : Nat → ClassId} (X : cx 44 p s m args meth c D (tyC kc) a cX7_isNobody 2 RX7 (some .boolean)) {F : Nat → Int32} {G : Nat → Int64} {I : Nat → Nat → Int32} {J : Nat → Nat → Int64} {Z : Nat → Nat → Nat → Int32}  {r : Int32} :
    ∀  (x1 : Int32) (H : Heap) (locs : List Loc) (ls : Array Slot), p_X7_isNobody_b0 (F 2) x1 = some r → va_P D vwCl (wC a kc F G I J Z) H → va_S (ad a 44 s.heap.size) s.heap H locs → lv_has ls 2 [(0, .ref (a 34)), (1, .int x1)] → W p l e rm_X7_isNobody s m args below meth c H locs 0 0 (MQ below (Qi D (wC a kc F G I J Z) r (ad a 44 s.heap.size)) args s 0 0 (ad a 44 s.heap.size)) (F0 m 0 ls []) := by
  intro  x1 H locs ls hf  hP hS hl
  unfold p_X7_isNobody_b0 at hf
  refine lv_iload_n X.1 X.2.1 dX7_isNobody_0 rfl (lv_at hl 1 rfl) ?_
  refine lv_if_lt (tgt := 15) X.1 X.2.1 dX7_isNobody_1 (by decide) (fun c1 => ?_) (fun c1 => ?_)
  · have hf := it_s hf c1
    exact t_X7_isNobody_b15 X   H locs ls hf  hP hS (lv_sub hl [0] rfl)
  · have hf := ie_s hf c1
    refine lv_iload_n X.1 X.2.1 dX7_isNobody_4 rfl (lv_at hl 1 rfl) ?_
    refine lv_aload_n X.1 X.2.1 dX7_isNobody_5 rfl (lv_at hl 0 rfl) ?_
    refine gC_34_0 X q_2_64 dX7_isNobody_6 hP ?_
    refine gC_0_10 (F := F) X (v := (F 2)) rfl q_1_93 dX7_isNobody_9 hP ?_
    refine lv_icmp_lt (tgt := 19) X.1 X.2.1 dX7_isNobody_12 (by decide) (fun c12 => ?_) (fun c12 => ?_)
    · have hf := it_s hf c12
      refine lv_iconst (v := 0) X.1 X.2.1 dX7_isNobody_19 (by decide) ?_
      exact t_X7_isNobody_b20 X  0 H locs ls hf  hP hS (lv_sub hl [0] rfl)
    · have hf := ie_s hf c12
      exact t_X7_isNobody_b15 X   H locs ls hf  hP hS (lv_sub hl [0] rfl)
set_option maxRecDepth 100000 in
theorem c_X7_isNobody {l : Launch} {D : va_G} {a : Nat → Nat} {kc : Nat → ClassId} (F : Nat → Int32) (G : Nat → Int64) (I : Nat → Nat → Int32) (J : Nat → Nat → Int64) (Z : Nat → Nat → Nat → Int32) (hAp : ∀ i j, i < 44 → j < 44 → a i = a j → i = j) (x1 : Int32) {o0 : Int32} (hf : p_X7_isNobody (F 2) x1 = some o0) : Ct 44 l yX7_isNobody cX7_isNobody 2 (some .boolean) rm_X7_isNobody D (tyC kc) a (wC a kc F G I J Z) [.ref (a 34), .int x1] (Qi D (wC a kc F G I J Z) o0) :=
  Ct.of (by decide +kernel) hAp (Nat.le_of_ble_eq_true rfl) (fun p e s m args below meth c ls X hP hl => t_X7_isNobody_b0 X  x1 _ _ _ hf  hP va_S.rf hl)
abbrev rm_X7_isNoPart : Room := { frames := 0, cells := 0, slots := 0, locals := 0 }
set_option maxHeartbeats 4000000 in
set_option maxRecDepth 100000 in
theorem t_X7_isNoPart_b14 {p : Program} {l : Launch} {e : Env} {s : State} {m : MethodId} {args : Array Value} {below : List Frame} {meth : Method} {c : Code} {D : va_G} {a : Nat → Nat} (X : cx 0 p s m args meth c D [] a cX7_isNoPart 1 RX7 (some .boolean))   {r : Int32} :
    ∀  (t0 : Int32) (H : Heap) (locs : List Loc) (ls : Array Slot), p_X7_isNoPart_b14  t0 = some r → va_P D vwCl [] H → va_S (ad a 0 s.heap.size) s.heap H locs → lv_has ls 1 [] → W p l e rm_X7_isNoPart s m args below meth c H locs 0 0 (MQ below (Qi D [] r (ad a 0 s.heap.size)) args s 0 0 (ad a 0 s.heap.size)) (F0 m 14 ls [.int t0]) := by
  intro  t0 H locs ls hf  hP hS hl
  unfold p_X7_isNoPart_b14 at hf
  obtain ⟨h14, hf⟩ := gd_s hf
  have e0 := o1 hf
  exact ret_z X hS hP e0 h14 dX7_isNoPart_14
set_option maxHeartbeats 4000000 in
set_option maxRecDepth 100000 in
theorem t_X7_isNoPart_b9 {p : Program} {l : Launch} {e : Env} {s : State} {m : MethodId} {args : Array Value} {below : List Frame} {meth : Method} {c : Code} {D : va_G} {a : Nat → Nat} (X : cx 0 p s m args meth c D [] a cX7_isNoPart 1 RX7 (some .boolean))   {r : Int32} :
    ∀   (H : Heap) (locs : List Loc) (ls : Array Slot), p_X7_isNoPart_b9   = some r → va_P D vwCl [] H → va_S (ad a 0 s.heap.size) s.heap H locs → lv_has ls 1 [] → W p l e rm_X7_isNoPart s m args below meth c H locs 0 0 (MQ below (Qi D [] r (ad a 0 s.heap.size)) args s 0 0 (ad a 0 s.heap.size)) (F0 m 9 ls []) := by
  intro   H locs ls hf  hP hS hl
  unfold p_X7_isNoPart_b9 at hf
  refine lv_iconst (v := 1) X.1 X.2.1 dX7_isNoPart_9 (by decide) ?_
  refine lv_goto (tgt := 14) X.1 X.2.1 dX7_isNoPart_10 (by decide) ?_
  exact t_X7_isNoPart_b14 X  1 H locs ls hf  hP hS (lv_sub hl [] rfl)
set_option maxHeartbeats 4000000 in
set_option maxRecDepth 100000 in
theorem t_X7_isNoPart_b0 {p : Program} {l : Launch} {e : Env} {s : State} {m : MethodId} {args : Array Value} {below : List Frame} {meth : Method} {c : Code} {D : va_G} {a : Nat → Nat} (X : cx 0 p s m args meth c D [] a cX7_isNoPart 1 RX7 (some .boolean))   {r : Int32} :
    ∀  (x0 : Int32) (H : Heap) (locs : List Loc) (ls : Array Slot), p_X7_isNoPart_b0  x0 = some r → va_P D vwCl [] H → va_S (ad a 0 s.heap.size) s.heap H locs → lv_has ls 1 [(0, .int x0)] → W p l e rm_X7_isNoPart s m args below meth c H locs 0 0 (MQ below (Qi D [] r (ad a 0 s.heap.size)) args s 0 0 (ad a 0 s.heap.size)) (F0 m 0 ls []) := by
  intro  x0 H locs ls hf  hP hS hl
  unfold p_X7_isNoPart_b0 at hf
  refine lv_iload_n X.1 X.2.1 dX7_isNoPart_0 rfl (lv_at hl 0 rfl) ?_
  refine lv_if_lt (tgt := 9) X.1 X.2.1 dX7_isNoPart_1 (by decide) (fun c1 => ?_) (fun c1 => ?_)
  · have hf := it_s hf c1
    exact t_X7_isNoPart_b9 X   H locs ls hf  hP hS (lv_sub hl [] rfl)
  · have hf := ie_s hf c1
    refine lv_iload_n X.1 X.2.1 dX7_isNoPart_4 rfl (lv_at hl 0 rfl) ?_
    refine lv_iconst (v := 1) X.1 X.2.1 dX7_isNoPart_5 (by decide) ?_
    refine lv_icmp_le (tgt := 13) X.1 X.2.1 dX7_isNoPart_6 (by decide) (fun c6 => ?_) (fun c6 => ?_)
    · have hf := it_s hf c6
      refine lv_iconst (v := 0) X.1 X.2.1 dX7_isNoPart_13 (by decide) ?_
      exact t_X7_isNoPart_b14 X  0 H locs ls hf  hP hS (lv_sub hl [] rfl)
    · have hf := ie_s hf c6
      exact t_X7_isNoPart_b9 X   H locs ls hf  hP hS (lv_sub hl [] rfl)
set_option maxRecDepth 100000 in
theorem c_X7_isNoPart {l : Launch} {D : va_G} {a : Nat → Nat}  (x0 : Int32) {o0 : Int32} (hf : p_X7_isNoPart  x0 = some o0) : Ct 0 l yX7_isNoPart cX7_isNoPart 1 (some .boolean) rm_X7_isNoPart D [] a [] [.int x0] (Qi D [] o0) :=
  Ct.of (by decide +kernel) (fun i j h => absurd h (Nat.not_lt_zero i)) (Nat.le_of_ble_eq_true rfl) (fun p e s m args below meth c ls X hP hl => t_X7_isNoPart_b0 X  x0 _ _ _ hf  hP va_S.rf hl)
abbrev rm_X7_person : Room := { frames := 1, cells := 0, slots := 0, locals := 21 }
set_option maxHeartbeats 4000000 in
set_option maxRecDepth 100000 in
theorem t_X7_person_b15 {p : Program} {l : Launch} {e : Env} {s : State} {m : MethodId} {args : Array Value} {below : List Frame} {meth : Method} {c : Code} {D : va_G} {a : Nat → Nat} {kc : Nat → ClassId} (X : cx 44 p s m args meth c D (tyC kc) a cX7_person 3 RX7 (some .int)) {F : Nat → Int32} {G : Nat → Int64} {I : Nat → Nat → Int32} {J : Nat → Nat → Int64} {Z : Nat → Nat → Nat → Int32}  {r : Int32} :
    ∀   (H : Heap) (locs : List Loc) (ls : Array Slot), p_X7_person_b15 (F 2) (I 5) (I 6)  = some r → va_P D vwCl (wC a kc F G I J Z) H → va_S (ad a 44 s.heap.size) s.heap H locs → lv_has ls 3 [(0, .ref (a 34))] → W p l e rm_X7_person s m args below meth c H locs 0 0 (MQ below (Qi D (wC a kc F G I J Z) r (ad a 44 s.heap.size)) args s 0 0 (ad a 44 s.heap.size)) (F0 m 15 ls []) := by
  intro   H locs ls hf  hP hS hl
  unfold p_X7_person_b15 at hf
  refine lv_bipush (v := (-2)) X.1 X.2.1 dX7_person_15 (by decide) ?_
  have e0 := o1 hf
  exact ret_i X hS hP e0 dX7_person_17
set_option maxHeartbeats 4000000 in
set_option maxRecDepth 100000 in
theorem t_X7_person_b43 {p : Program} {l : Launch} {e : Env} {s : State} {m : MethodId} {args : Array Value} {below : List Frame} {meth : Method} {c : Code} {D : va_G} {a : Nat → Nat} {kc : Nat → ClassId} (X : cx 44 p s m args meth c D (tyC kc) a cX7_person 3 RX7 (some .int)) {F : Nat → Int32} {G : Nat → Int64} {I : Nat → Nat → Int32} {J : Nat → Nat → Int64} {Z : Nat → Nat → Nat → Int32}  {r : Int32} :
    ∀  (t0 : Int32) (H : Heap) (locs : List Loc) (ls : Array Slot), p_X7_person_b43 (F 2) (I 5) (I 6) t0 = some r → va_P D vwCl (wC a kc F G I J Z) H → va_S (ad a 44 s.heap.size) s.heap H locs → lv_has ls 3 [(0, .ref (a 34))] → W p l e rm_X7_person s m args below meth c H locs 0 0 (MQ below (Qi D (wC a kc F G I J Z) r (ad a 44 s.heap.size)) args s 0 0 (ad a 44 s.heap.size)) (F0 m 43 ls [.int t0]) := by
  intro  t0 H locs ls hf  hP hS hl
  unfold p_X7_person_b43 at hf
  have e0 := o1 hf
  exact ret_i X hS hP e0 dX7_person_43
set_option maxHeartbeats 4000000 in
set_option maxRecDepth 100000 in
theorem t_X7_person_b0 {p : Program} {l : Launch} {e : Env} {s : State} {m : MethodId} {args : Array Value} {below : List Frame} {meth : Method} {c : Code} {D : va_G} {a : Nat → Nat} {kc : Nat → ClassId} (X : cx 44 p s m args meth c D (tyC kc) a cX7_person 3 RX7 (some .int)) {F : Nat → Int32} {G : Nat → Int64} {I : Nat → Nat → Int32} {J : Nat → Nat → Int64} {Z : Nat → Nat → Nat → Int32}  {r : Int32} :
    ∀  (x1 : Int32) (x2 : Int32) (H : Heap) (locs : List Loc) (ls : Array Slot), p_X7_person_b0 (F 2) (I 5) (I 6) x1 x2 = some r → va_P D vwCl (wC a kc F G I J Z) H → va_S (ad a 44 s.heap.size) s.heap H locs → lv_has ls 3 [(0, .ref (a 34)), (1, .int x1), (2, .int x2)] → W p l e rm_X7_person s m args below meth c H locs 0 0 (MQ below (Qi D (wC a kc F G I J Z) r (ad a 44 s.heap.size)) args s 0 0 (ad a 44 s.heap.size)) (F0 m 0 ls []) := by
  intro  x1 x2 H locs ls hf  hP hS hl
  unfold p_X7_person_b0 at hf
  refine lv_aload_n X.1 X.2.1 dX7_person_0 rfl (lv_at hl 0 rfl) ?_
  refine lv_iload_n X.1 X.2.1 dX7_person_1 rfl (lv_at hl 1 rfl) ?_
  obtain ⟨r2, ho, hf⟩ := b1_s hf
  refine call_vi (rest := []) X (c_X7_isNobody F G I J Z X.2.2.2.2.2.2.2.1 x1 ho) q_2_132 q_2_134 qs_yX7_isNobody q_1_1 q_2_135 ok_X7_isNobody rfl 34 rfl rfl ⟨Nat.le_of_ble_eq_true rfl, Nat.le_of_ble_eq_true rfl⟩ rfl rfl hl.1 rfl (Nat.le_of_ble_eq_true rfl) dX7_person_2 hP hS (fun H locs hP hS => ?_)
  refine lv_if_ne (tgt := 15) X.1 X.2.1 dX7_person_5 (by decide) (fun c5 => ?_) (fun c5 => ?_)
  · have hf := ie_s hf c5
    exact t_X7_person_b15 X   H locs ls hf  hP hS (lv_sub hl [0] rfl)
  · have hf := it_s hf c5
    refine lv_iload_n X.1 X.2.1 dX7_person_8 rfl (lv_at hl 2 rfl) ?_
    obtain ⟨r9, ho, hf⟩ := b1_s hf
    refine call_si (rest := []) X (c_X7_isNoPart x2 ho) q_2_136 q_2_137 q_1_1 q_2_138 ok_X7_isNoPart rfl ⟨Nat.le_of_ble_eq_true rfl, Nat.le_of_ble_eq_true rfl⟩ rfl rfl hl.1 rfl (Nat.le_of_ble_eq_true rfl) dX7_person_9 hP hS (fun H locs hP hS => ?_)
    refine lv_if_eq (tgt := 18) X.1 X.2.1 dX7_person_12 (by decide) (fun c12 => ?_) (fun c12 => ?_)
    · have hf := it_s hf c12
      refine lv_iload_n X.1 X.2.1 dX7_person_18 rfl (lv_at hl 2 rfl) ?_
      refine lv_if_ne (tgt := 34) X.1 X.2.1 dX7_person_19 (by decide) (fun c19 => ?_) (fun c19 => ?_)
      · have hf := ie_s hf c19
        refine lv_aload_n X.1 X.2.1 dX7_person_34 rfl (lv_at hl 0 rfl) ?_
        refine gC_34_0 X q_2_64 dX7_person_35 hP ?_
        refine gC_0_7 X q_1_77 dX7_person_38 hP ?_
        refine lv_iload_n X.1 X.2.1 dX7_person_41 rfl (lv_at hl 1 rfl) ?_
        obtain ⟨h42, hf⟩ := gd_s hf
        refine lC_10 (I := I) X (f := (I 6)) rfl h42 dX7_person_42 hP ?_
        exact t_X7_person_b43 X  ((I 6) x1.toNatClampNeg) H locs ls hf  hP hS (lv_sub hl [0] rfl)
      · have hf := it_s hf c19
        refine lv_aload_n X.1 X.2.1 dX7_person_22 rfl (lv_at hl 0 rfl) ?_
        refine gC_34_0 X q_2_64 dX7_person_23 hP ?_
        refine gC_0_6 X q_1_69 dX7_person_26 hP ?_
        refine lv_iload_n X.1 X.2.1 dX7_person_29 rfl (lv_at hl 1 rfl) ?_
        obtain ⟨h30, hf⟩ := gd_s hf
        refine lC_9 (I := I) X (f := (I 5)) rfl h30 dX7_person_30 hP ?_
        refine lv_goto (tgt := 43) X.1 X.2.1 dX7_person_31 (by decide) ?_
        exact t_X7_person_b43 X  ((I 5) x1.toNatClampNeg) H locs ls hf  hP hS (lv_sub hl [0] rfl)
    · have hf := ie_s hf c12
      exact t_X7_person_b15 X   H locs ls hf  hP hS (lv_sub hl [0] rfl)
set_option maxRecDepth 100000 in
theorem c_X7_person {l : Launch} {D : va_G} {a : Nat → Nat} {kc : Nat → ClassId} (F : Nat → Int32) (G : Nat → Int64) (I : Nat → Nat → Int32) (J : Nat → Nat → Int64) (Z : Nat → Nat → Nat → Int32) (hAp : ∀ i j, i < 44 → j < 44 → a i = a j → i = j) (x1 : Int32) (x2 : Int32) {o0 : Int32} (hf : p_X7_person (F 2) (I 5) (I 6) x1 x2 = some o0) : Ct 44 l yX7_person cX7_person 3 (some .int) rm_X7_person D (tyC kc) a (wC a kc F G I J Z) [.ref (a 34), .int x1, .int x2] (Qi D (wC a kc F G I J Z) o0) :=
  Ct.of (by decide +kernel) hAp (Nat.le_of_ble_eq_true rfl) (fun p e s m args below meth c ls X hP hl => t_X7_person_b0 X  x1 x2 _ _ _ hf  hP va_S.rf hl)
abbrev rm_X7_asLong : Room := { frames := 0, cells := 0, slots := 0, locals := 0 }
set_option maxHeartbeats 4000000 in
set_option maxRecDepth 100000 in
theorem t_X7_asLong_b0 {p : Program} {l : Launch} {e : Env} {s : State} {m : MethodId} {args : Array Value} {below : List Frame} {meth : Method} {c : Code} {D : va_G} {a : Nat → Nat} (X : cx 0 p s m args meth c D [] a cX7_asLong 1 RX7 (some .long))   {r : Int64} :
    ∀  (x0 : Int32) (H : Heap) (locs : List Loc) (ls : Array Slot), p_X7_asLong_b0  x0 = some r → va_P D vwCl [] H → va_S (ad a 0 s.heap.size) s.heap H locs → lv_has ls 1 [(0, .int x0)] → W p l e rm_X7_asLong s m args below meth c H locs 0 0 (MQ below (Ql D [] r (ad a 0 s.heap.size)) args s 0 0 (ad a 0 s.heap.size)) (F0 m 0 ls []) := by
  intro  x0 H locs ls hf  hP hS hl
  unfold p_X7_asLong_b0 at hf
  refine lv_ldc2 (v := (-9223372036854775808)) X.1 X.2.1 X.2.2.2.2.1 (X.2.2.2.2.2.1 _ q_2_146) dX7_asLong_0 ?_
  refine lv_iload_n X.1 X.2.1 dX7_asLong_3 rfl (lv_at hl 0 rfl) ?_
  refine lv_i2l X.1 X.2.1 dX7_asLong_4 rfl ?_
  refine lv_lsub X.1 X.2.1 dX7_asLong_5 ?_
  have e0 := o1 hf
  exact ret_l X hS hP e0 dX7_asLong_6
set_option maxRecDepth 100000 in
theorem c_X7_asLong {l : Launch} {D : va_G} {a : Nat → Nat}  (x0 : Int32) {o0 : Int64} (hf : p_X7_asLong  x0 = some o0) : Ct 0 l yX7_asLong cX7_asLong 1 (some .long) rm_X7_asLong D [] a [] [.int x0] (Ql D [] o0) :=
  Ct.of (by decide +kernel) (fun i j h => absurd h (Nat.not_lt_zero i)) (Nat.le_of_ble_eq_true rfl) (fun p e s m args below meth c ls X hP hl => t_X7_asLong_b0 X  x0 _ _ _ hf  hP va_S.rf hl)
abbrev rm_X7_commonDivisor : Room := { frames := 0, cells := 0, slots := 0, locals := 0 }
set_option maxHeartbeats 4000000 in
set_option maxRecDepth 100000 in
theorem t_X7_commonDivisor_b45 {p : Program} {l : Launch} {e : Env} {s : State} {m : MethodId} {args : Array Value} {below : List Frame} {meth : Method} {c : Code} {D : va_G} {a : Nat → Nat} (X : cx 0 p s m args meth c D [] a cX7_commonDivisor 11 RX7 (some .long))   {r : Int64} :
    ∀  (x4 : Int64) (H : Heap) (locs : List Loc) (ls : Array Slot), p_X7_commonDivisor_b45  x4 = some r → va_P D vwCl [] H → va_S (ad a 0 s.heap.size) s.heap H locs → lv_has ls 11 [(4, .long x4)] → W p l e rm_X7_commonDivisor s m args below meth c H locs 0 0 (MQ below (Ql D [] r (ad a 0 s.heap.size)) args s 0 0 (ad a 0 s.heap.size)) (F0 m 45 ls []) := by
  intro  x4 H locs ls hf  hP hS hl
  unfold p_X7_commonDivisor_b45 at hf
  refine lv_lload X.1 X.2.1 dX7_commonDivisor_45 (lv_at hl 0 rfl) ?_
  have e0 := o1 hf
  exact ret_l X hS hP e0 dX7_commonDivisor_47
set_option maxHeartbeats 4000000 in
set_option maxRecDepth 100000 in
theorem t_X7_commonDivisor_b9x {p : Program} {l : Launch} {e : Env} {s : State} {m : MethodId} {args : Array Value} {below : List Frame} {meth : Method} {c : Code} {D : va_G} {a : Nat → Nat} (X : cx 0 p s m args meth c D [] a cX7_commonDivisor 11 RX7 (some .long))   {r : Int64} {K9 : Int64 → Int64 → Int32 → Option (Int64)} (kh9 : ∀  (x4 : Int64) (x6 : Int64) (x8 : Int32) (H : Heap) (locs : List Loc) (ls : Array Slot), K9  x4 x6 x8 = some r → va_P D vwCl [] H → va_S (ad a 0 s.heap.size) s.heap H locs → lv_has ls 11 [(4, .long x4), (6, .long x6), (8, .int x8)] → W p l e rm_X7_commonDivisor s m args below meth c H locs 0 0 (MQ below (Ql D [] r (ad a 0 s.heap.size)) args s 0 0 (ad a 0 s.heap.size)) (F0 m 9 ls [])) :
    ∀  (x4 : Int64) (x6 : Int64) (x8 : Int32) (H : Heap) (locs : List Loc) (ls : Array Slot), p_X7_commonDivisor_b9x K9  x4 x6 x8 = some r → va_P D vwCl [] H → va_S (ad a 0 s.heap.size) s.heap H locs → lv_has ls 11 [(4, .long x4), (6, .long x6), (8, .int x8)] → W p l e rm_X7_commonDivisor s m args below meth c H locs 0 0 (MQ below (Ql D [] r (ad a 0 s.heap.size)) args s 0 0 (ad a 0 s.heap.size)) (F0 m 9 ls []) := by
  intro  x4 x6 x8 H locs ls hf  hP hS hl
  unfold p_X7_commonDivisor_b9x at hf
  refine lv_iload X.1 X.2.1 dX7_commonDivisor_9 (lv_at hl 2 rfl) ?_
  refine lv_sipush (v := 200) X.1 X.2.1 dX7_commonDivisor_11 (by decide) ?_
  refine lv_icmp_ge (tgt := 45) X.1 X.2.1 dX7_commonDivisor_14 (by decide) (fun c14 => ?_) (fun c14 => ?_)
  · have hf := it_s hf c14
    exact t_X7_commonDivisor_b45 X  x4 H locs ls hf  hP hS (lv_sub hl [0] rfl)
  · have hf := ie_s hf c14
    refine lv_lload X.1 X.2.1 dX7_commonDivisor_17 (lv_at hl 1 rfl) ?_
    refine lv_lconst (v := 0) X.1 X.2.1 dX7_commonDivisor_19 (by decide) ?_
    refine W.lcmp X.1 X.2.1 dX7_commonDivisor_20 ?_
    refine lv_if_eq (tgt := 45) X.1 X.2.1 dX7_commonDivisor_21 (by decide) (fun c21 => ?_) (fun c21 => ?_)
    · have hf := it_s hf c21
      exact t_X7_commonDivisor_b45 X  x4 H locs ls hf  hP hS (lv_sub hl [0] rfl)
    · have hf := ie_s hf c21
      refine lv_lload X.1 X.2.1 dX7_commonDivisor_24 (lv_at hl 0 rfl) ?_
      refine lv_lload X.1 X.2.1 dX7_commonDivisor_26 (lv_at hl 1 rfl) ?_
      obtain ⟨h28, hf⟩ := gd_s hf
      refine lv_lrem X.1 X.2.1 dX7_commonDivisor_28 (of_decide_eq_true h28) ?_
      refine nm_l hf (fun x29 hf => ?_)
      refine lv_lstore (lv' := [(9, .long x29), (4, .long x4), (6, .long x6), (8, .int x8)]) X.1 X.2.1 dX7_commonDivisor_29 hl (by decide) rfl (fun ls hl => ?_)
      refine lv_lload X.1 X.2.1 dX7_commonDivisor_31 (lv_at hl 2 rfl) ?_
      refine lv_lstore (lv' := [(4, .long x6), (9, .long x29), (6, .long x6), (8, .int x8)]) X.1 X.2.1 dX7_commonDivisor_33 hl (by decide) rfl (fun ls hl => ?_)
      refine lv_lload X.1 X.2.1 dX7_commonDivisor_35 (lv_at hl 1 rfl) ?_
      refine lv_lstore (lv' := [(6, .long x29), (4, .long x6), (9, .long x29), (8, .int x8)]) X.1 X.2.1 dX7_commonDivisor_37 hl (by decide) rfl (fun ls hl => ?_)
      obtain ⟨x39, ex39, hf⟩ := nm_x hf
      refine lv_iinc (v := x39) (lv' := [(8, .int x39), (6, .long x29), (4, .long x6), (9, .long x29)]) X.1 X.2.1 dX7_commonDivisor_39 hl (k := 3) rfl ex39 (by decide) rfl (fun ls hl => ?_)
      refine lv_goto (tgt := 9) X.1 X.2.1 dX7_commonDivisor_42 (by decide) ?_
      exact kh9  x6 x29 x39 H locs ls hf  hP hS (lv_sub hl [2, 1, 0] rfl)
set_option maxRecDepth 100000 in
theorem t_X7_commonDivisor_b9 {p : Program} {l : Launch} {e : Env} {s : State} {m : MethodId} {args : Array Value} {below : List Frame} {meth : Method} {c : Code} {D : va_G} {a : Nat → Nat} (X : cx 0 p s m args meth c D [] a cX7_commonDivisor 11 RX7 (some .long))   {r : Int64} :
    ∀ (n : Nat)  (x4 : Int64) (x6 : Int64) (x8 : Int32) (H : Heap) (locs : List Loc) (ls : Array Slot), p_X7_commonDivisor_b9 n  x4 x6 x8 = some r → va_P D vwCl [] H → va_S (ad a 0 s.heap.size) s.heap H locs → lv_has ls 11 [(4, .long x4), (6, .long x6), (8, .int x8)] → W p l e rm_X7_commonDivisor s m args below meth c H locs 0 0 (MQ below (Ql D [] r (ad a 0 s.heap.size)) args s 0 0 (ad a 0 s.heap.size)) (F0 m 9 ls []) := by
  intro n
  induction n with
  | zero => intro  x4 x6 x8 H locs ls hf  hP hS hl; exact (nos hf).elim
  | succ n ih => exact t_X7_commonDivisor_b9x X ih
set_option maxHeartbeats 4000000 in
set_option maxRecDepth 100000 in
theorem t_X7_commonDivisor_b0 {p : Program} {l : Launch} {e : Env} {s : State} {m : MethodId} {args : Array Value} {below : List Frame} {meth : Method} {c : Code} {D : va_G} {a : Nat → Nat} (X : cx 0 p s m args meth c D [] a cX7_commonDivisor 11 RX7 (some .long))   {r : Int64} :
    ∀  (x0 : Int64) (x2 : Int64) (H : Heap) (locs : List Loc) (ls : Array Slot), p_X7_commonDivisor_b0  x0 x2 = some r → va_P D vwCl [] H → va_S (ad a 0 s.heap.size) s.heap H locs → lv_has ls 11 [(0, .long x0), (2, .long x2)] → W p l e rm_X7_commonDivisor s m args below meth c H locs 0 0 (MQ below (Ql D [] r (ad a 0 s.heap.size)) args s 0 0 (ad a 0 s.heap.size)) (F0 m 0 ls []) := by
  intro  x0 x2 H locs ls hf  hP hS hl
  unfold p_X7_commonDivisor_b0 at hf
  refine lv_lload_n X.1 X.2.1 dX7_commonDivisor_0 rfl (lv_at hl 0 rfl) ?_
  refine lv_lstore (lv' := [(4, .long x0), (0, .long x0), (2, .long x2)]) X.1 X.2.1 dX7_commonDivisor_1 hl (by decide) rfl (fun ls hl => ?_)
  refine lv_lload_n X.1 X.2.1 dX7_commonDivisor_3 rfl (lv_at hl 2 rfl) ?_
  refine lv_lstore (lv' := [(6, .long x2), (4, .long x0), (0, .long x0), (2, .long x2)]) X.1 X.2.1 dX7_commonDivisor_4 hl (by decide) rfl (fun ls hl => ?_)
  refine lv_iconst (v := 0) X.1 X.2.1 dX7_commonDivisor_6 (by decide) ?_
  refine lv_istore (lv' := [(8, .int 0), (6, .long x2), (4, .long x0), (0, .long x0), (2, .long x2)]) X.1 X.2.1 dX7_commonDivisor_7 hl (by decide) rfl (fun ls hl => ?_)
  exact t_X7_commonDivisor_b9 X 4096  x0 x2 0 H locs ls hf  hP hS (lv_sub hl [2, 1, 0] rfl)
set_option maxRecDepth 100000 in
theorem c_X7_commonDivisor {l : Launch} {D : va_G} {a : Nat → Nat}  (x0 : Int64) (x2 : Int64) {o0 : Int64} (hf : p_X7_commonDivisor  x0 x2 = some o0) : Ct 0 l yX7_commonDivisor cX7_commonDivisor 11 (some .long) rm_X7_commonDivisor D [] a [] [.long x0, .long x2] (Ql D [] o0) :=
  Ct.of (by decide +kernel) (fun i j h => absurd h (Nat.not_lt_zero i)) (Nat.le_of_ble_eq_true rfl) (fun p e s m args below meth c ls X hP hl => t_X7_commonDivisor_b0 X  x0 x2 _ _ _ hf  hP va_S.rf hl)
abbrev rm_X7_part : Room := { frames := 1, cells := 0, slots := 0, locals := 30 }
set_option maxHeartbeats 4000000 in
set_option maxRecDepth 100000 in
theorem t_X7_part_b26 {p : Program} {l : Launch} {e : Env} {s : State} {m : MethodId} {args : Array Value} {below : List Frame} {meth : Method} {c : Code} {D : va_G} {a : Nat → Nat} (X : cx 0 p s m args meth c D [] a cX7_part 7 RX7 (some .long))   {r : Int64} :
    ∀  (t0 : Int64) (x5 : Int64) (H : Heap) (locs : List Loc) (ls : Array Slot), p_X7_part_b26  t0 x5 = some r → va_P D vwCl [] H → va_S (ad a 0 s.heap.size) s.heap H locs → lv_has ls 7 [(5, .long x5)] → W p l e rm_X7_part s m args below meth c H locs 0 0 (MQ below (Ql D [] r (ad a 0 s.heap.size)) args s 0 0 (ad a 0 s.heap.size)) (F0 m 26 ls [.long t0]) := by
  intro  t0 x5 H locs ls hf  hP hS hl
  unfold p_X7_part_b26 at hf
  refine lv_lload X.1 X.2.1 dX7_part_26 (lv_at hl 0 rfl) ?_
  obtain ⟨h28, hf⟩ := gd_s hf
  refine lv_ldiv X.1 X.2.1 dX7_part_28 (of_decide_eq_true h28) ?_
  have e0 := o1 hf
  exact ret_l X hS hP e0 dX7_part_29
set_option maxHeartbeats 4000000 in
set_option maxRecDepth 100000 in
theorem t_X7_part_b0 {p : Program} {l : Launch} {e : Env} {s : State} {m : MethodId} {args : Array Value} {below : List Frame} {meth : Method} {c : Code} {D : va_G} {a : Nat → Nat} (X : cx 0 p s m args meth c D [] a cX7_part 7 RX7 (some .long))   {r : Int64} :
    ∀  (x0 : Int64) (x2 : Int64) (x4 : Int32) (H : Heap) (locs : List Loc) (ls : Array Slot), p_X7_part_b0  x0 x2 x4 = some r → va_P D vwCl [] H → va_S (ad a 0 s.heap.size) s.heap H locs → lv_has ls 7 [(0, .long x0), (2, .long x2), (4, .int x4)] → W p l e rm_X7_part s m args below meth c H locs 0 0 (MQ below (Ql D [] r (ad a 0 s.heap.size)) args s 0 0 (ad a 0 s.heap.size)) (F0 m 0 ls []) := by
  intro  x0 x2 x4 H locs ls hf  hP hS hl
  unfold p_X7_part_b0 at hf
  refine lv_lload_n X.1 X.2.1 dX7_part_0 rfl (lv_at hl 0 rfl) ?_
  refine lv_lload_n X.1 X.2.1 dX7_part_1 rfl (lv_at hl 1 rfl) ?_
  obtain ⟨r2, ho, hf⟩ := b1_s hf
  refine call_sl (rest := []) X (c_X7_commonDivisor x0 x2 ho) q_2_202 q_2_203 q_1_1 q_2_204 ok_X7_commonDivisor rfl ⟨Nat.le_of_ble_eq_true rfl, Nat.le_of_ble_eq_true rfl⟩ rfl rfl hl.1 rfl (Nat.le_of_ble_eq_true rfl) dX7_part_2 hP hS (fun H locs hP hS => ?_)
  refine lv_lstore (lv' := [(5, .long r2), (0, .long x0), (2, .long x2), (4, .int x4)]) X.1 X.2.1 dX7_part_5 hl (by decide) rfl (fun ls hl => ?_)
  refine lv_lload X.1 X.2.1 dX7_part_7 (lv_at hl 0 rfl) ?_
  refine lv_lconst (v := 0) X.1 X.2.1 dX7_part_9 (by decide) ?_
  refine W.lcmp X.1 X.2.1 dX7_part_10 ?_
  refine lv_if_ne (tgt := 16) X.1 X.2.1 dX7_part_11 (by decide) (fun c11 => ?_) (fun c11 => ?_)
  · have hf := ie_s hf c11
    refine lv_iload X.1 X.2.1 dX7_part_16 (lv_at hl 3 rfl) ?_
    refine lv_if_ne (tgt := 25) X.1 X.2.1 dX7_part_18 (by decide) (fun c18 => ?_) (fun c18 => ?_)
    · have hf := ie_s hf c18
      refine lv_lload_n X.1 X.2.1 dX7_part_25 rfl (lv_at hl 2 rfl) ?_
      exact t_X7_part_b26 X  x2 r2 H locs ls hf  hP hS (lv_sub hl [0] rfl)
    · have hf := it_s hf c18
      refine lv_lload_n X.1 X.2.1 dX7_part_21 rfl (lv_at hl 1 rfl) ?_
      refine lv_goto (tgt := 26) X.1 X.2.1 dX7_part_22 (by decide) ?_
      exact t_X7_part_b26 X  x0 r2 H locs ls hf  hP hS (lv_sub hl [0] rfl)
  · have hf := it_s hf c11
    refine lv_lconst (v := 0) X.1 X.2.1 dX7_part_14 (by decide) ?_
    have e0 := o1 hf
    exact ret_l X hS hP e0 dX7_part_15
set_option maxRecDepth 100000 in
theorem c_X7_part {l : Launch} {D : va_G} {a : Nat → Nat}  (x0 : Int64) (x2 : Int64) (x4 : Int32) {o0 : Int64} (hf : p_X7_part  x0 x2 x4 = some o0) : Ct 0 l yX7_part cX7_part 7 (some .long) rm_X7_part D [] a [] [.long x0, .long x2, .int x4] (Ql D [] o0) :=
  Ct.of (by decide +kernel) (fun i j h => absurd h (Nat.not_lt_zero i)) (Nat.le_of_ble_eq_true rfl) (fun p e s m args below meth c ls X hP hl => t_X7_part_b0 X  x0 x2 x4 _ _ _ hf  hP va_S.rf hl)
abbrev rm_X7_likely : Room := { frames := 4, cells := 0, slots := 0, locals := 99 }
set_option maxHeartbeats 4000000 in
set_option maxRecDepth 100000 in
theorem t_X7_likely_b23 {p : Program} {l : Launch} {e : Env} {s : State} {m : MethodId} {args : Array Value} {below : List Frame} {meth : Method} {c : Code} {D : va_G} {a : Nat → Nat} {kc : Nat → ClassId} (X : cx 44 p s m args meth c D (tyC kc) a cX7_likely 4 RX7 (some .long)) {I : Nat → Nat → Int32} {Z : Nat → Nat → Nat → Int32} {Ff : Nat → Int32} {Gf : Nat → Int64} {Jf : Nat → Nat → Int64} {r : Int64} :
    ∀ (F : Nat → Int32) (G : Nat → Int64) (J : Nat → Nat → Int64)  (H : Heap) (locs : List Loc) (ls : Array Slot), p_X7_likely_b23 (F 0) (F 2) (F 3) (G 0) (G 1) (I 2) (I 4) (I 5) (I 6) (J 0) (J 1) (J 2) (J 3) (J 4)  = some (r, (Ff 3), (Gf 0), (Gf 1), (Jf 0), (Jf 1), (Jf 2), (Jf 3), (Jf 4)) → (∀ k, k ∉ ([3] : List Nat) → Ff k = F k) → (∀ k, k ∉ ([0, 1] : List Nat) → Gf k = G k) → (∀ k, k ∉ ([0, 1, 2, 3, 4] : List Nat) → Jf k = J k) → va_P D vwCl (wC a kc F G I J Z) H → va_S (ad a 44 s.heap.size) s.heap H locs → lv_has ls 4 [(0, .ref (a 34))] → W p l e rm_X7_likely s m args below meth c H locs 0 0 (MQ below (Ql D (wC a kc Ff Gf I Jf Z) r (ad a 44 s.heap.size)) args s 0 0 (ad a 44 s.heap.size)) (F0 m 23 ls []) := by
  intro F G J  H locs ls hf hfF hfG hfJ hP hS hl
  unfold p_X7_likely_b23 at hf
  refine lv_bipush (v := (-2)) X.1 X.2.1 dX7_likely_23 (by decide) ?_
  obtain ⟨r25, ho, hf⟩ := b1_s hf
  refine call_sl (rest := []) X (c_X7_asLong (-2) ho) q_2_143 q_2_144 q_1_1 q_2_145 ok_X7_asLong rfl ⟨Nat.le_of_ble_eq_true rfl, Nat.le_of_ble_eq_true rfl⟩ rfl rfl hl.1 rfl (Nat.le_of_ble_eq_true rfl) dX7_likely_25 hP hS (fun H locs hP hS => ?_)
  obtain ⟨e0, hf⟩ := o2 hf
  obtain ⟨e1, hf⟩ := o2 hf
  obtain ⟨e2, hf⟩ := o2 hf
  obtain ⟨e3, hf⟩ := o2 hf
  obtain ⟨e4, hf⟩ := o2 hf
  obtain ⟨e5, hf⟩ := o2 hf
  obtain ⟨e6, hf⟩ := o2 hf
  obtain ⟨e7, hf⟩ := o2 hf
  have e8 := o1 hf
  have EF : Ff = F := frm_eq hfF (frm_c (e1).symm frm_n)
  have EG : Gf = G := frm_eq hfG (frm_c (e2).symm (frm_c (e3).symm frm_n))
  have EJ : Jf = J := frm_eq hfJ (frm_c (e4).symm (frm_c (e5).symm (frm_c (e6).symm (frm_c (e7).symm (frm_c (e8).symm frm_n)))))
  exact ret_l X hS (by rw [EF, EG, EJ]; exact hP) e0 dX7_likely_28
set_option maxHeartbeats 4000000 in
set_option maxRecDepth 100000 in
theorem t_X7_likely_b0 {p : Program} {l : Launch} {e : Env} {s : State} {m : MethodId} {args : Array Value} {below : List Frame} {meth : Method} {c : Code} {D : va_G} {a : Nat → Nat} {kc : Nat → ClassId} (X : cx 44 p s m args meth c D (tyC kc) a cX7_likely 4 RX7 (some .long)) {I : Nat → Nat → Int32} {Z : Nat → Nat → Nat → Int32} {Ff : Nat → Int32} {Gf : Nat → Int64} {Jf : Nat → Nat → Int64} {r : Int64} :
    ∀ (F : Nat → Int32) (G : Nat → Int64) (J : Nat → Nat → Int64) (x1 : Int32) (x2 : Int32) (x3 : Int32) (H : Heap) (locs : List Loc) (ls : Array Slot), p_X7_likely_b0 (F 0) (F 2) (F 3) (G 0) (G 1) (I 2) (I 4) (I 5) (I 6) (J 0) (J 1) (J 2) (J 3) (J 4) x1 x2 x3 = some (r, (Ff 3), (Gf 0), (Gf 1), (Jf 0), (Jf 1), (Jf 2), (Jf 3), (Jf 4)) → (∀ k, k ∉ ([3] : List Nat) → Ff k = F k) → (∀ k, k ∉ ([0, 1] : List Nat) → Gf k = G k) → (∀ k, k ∉ ([0, 1, 2, 3, 4] : List Nat) → Jf k = J k) → va_P D vwCl (wC a kc F G I J Z) H → va_S (ad a 44 s.heap.size) s.heap H locs → lv_has ls 4 [(0, .ref (a 34)), (1, .int x1), (2, .int x2), (3, .int x3)] → W p l e rm_X7_likely s m args below meth c H locs 0 0 (MQ below (Ql D (wC a kc Ff Gf I Jf Z) r (ad a 44 s.heap.size)) args s 0 0 (ad a 44 s.heap.size)) (F0 m 0 ls []) := by
  intro F G J x1 x2 x3 H locs ls hf hfF hfG hfJ hP hS hl
  unfold p_X7_likely_b0 at hf
  refine lv_aload_n X.1 X.2.1 dX7_likely_0 rfl (lv_at hl 0 rfl) ?_
  refine lv_iload_n X.1 X.2.1 dX7_likely_1 rfl (lv_at hl 1 rfl) ?_
  obtain ⟨r2, ho, hf⟩ := b1_s hf
  refine call_vi (rest := []) X (c_X7_isNobody F G I J Z X.2.2.2.2.2.2.2.1 x1 ho) q_2_132 q_2_134 qs_yX7_isNobody q_1_1 q_2_135 ok_X7_isNobody rfl 34 rfl rfl ⟨Nat.le_of_ble_eq_true rfl, Nat.le_of_ble_eq_true rfl⟩ rfl rfl hl.1 rfl (Nat.le_of_ble_eq_true rfl) dX7_likely_2 hP hS (fun H locs hP hS => ?_)
  refine lv_if_ne (tgt := 23) X.1 X.2.1 dX7_likely_5 (by decide) (fun c5 => ?_) (fun c5 => ?_)
  · have hf := ie_s hf c5
    exact t_X7_likely_b23 X F G J  H locs ls hf hfF hfG hfJ hP hS (lv_sub hl [0] rfl)
  · have hf := it_s hf c5
    refine lv_aload_n X.1 X.2.1 dX7_likely_8 rfl (lv_at hl 0 rfl) ?_
    refine lv_iload_n X.1 X.2.1 dX7_likely_9 rfl (lv_at hl 2 rfl) ?_
    obtain ⟨r10, ho, hf⟩ := b1_s hf
    refine call_vi (rest := []) X (c_X7_isNoSeat F G I J Z X.2.2.2.2.2.2.2.1 x2 ho) q_2_120 q_2_122 qs_yX7_isNoSeat q_1_1 q_2_123 ok_X7_isNoSeat rfl 34 rfl rfl ⟨Nat.le_of_ble_eq_true rfl, Nat.le_of_ble_eq_true rfl⟩ rfl rfl hl.1 rfl (Nat.le_of_ble_eq_true rfl) dX7_likely_10 hP hS (fun H locs hP hS => ?_)
    refine lv_if_ne (tgt := 23) X.1 X.2.1 dX7_likely_13 (by decide) (fun c13 => ?_) (fun c13 => ?_)
    · have hf := ie_s hf c13
      exact t_X7_likely_b23 X F G J  H locs ls hf hfF hfG hfJ hP hS (lv_sub hl [0] rfl)
    · have hf := it_s hf c13
      refine lv_iload_n X.1 X.2.1 dX7_likely_16 rfl (lv_at hl 3 rfl) ?_
      obtain ⟨r17, ho, hf⟩ := b1_s hf
      refine call_si (rest := []) X (c_X7_isNoPart x3 ho) q_2_136 q_2_137 q_1_1 q_2_138 ok_X7_isNoPart rfl ⟨Nat.le_of_ble_eq_true rfl, Nat.le_of_ble_eq_true rfl⟩ rfl rfl hl.1 rfl (Nat.le_of_ble_eq_true rfl) dX7_likely_17 hP hS (fun H locs hP hS => ?_)
      refine lv_if_eq (tgt := 29) X.1 X.2.1 dX7_likely_20 (by decide) (fun c20 => ?_) (fun c20 => ?_)
      · have hf := it_s hf c20
        refine lv_aload_n X.1 X.2.1 dX7_likely_29 rfl (lv_at hl 0 rfl) ?_
        refine gC_34_1 X q_2_65 dX7_likely_30 hP ?_
        obtain ⟨C_ready_33, C_meanWrong_33, C_meanLooks_33, C_reach_33, C_sits_33, C_wrongs_33, C_free_33, C_wrongIn_33, ho, hf⟩ := b8_s hf
        refine call_vv (rest := []) X (c_X0_refresh F G I J Z X.2.2.2.2.2.2.2.1  ho) q_2_147 q_2_148 q_2_149 q_1_4 q_2_150 ok_X0_refresh rfl 11 rfl rfl ⟨Nat.le_of_ble_eq_true rfl, Nat.le_of_ble_eq_true rfl⟩ rfl rfl hl.1 rfl (Nat.le_of_ble_eq_true rfl) dX7_likely_33 hP hS (fun H locs hP hS => ?_)
        refine lv_aload_n X.1 X.2.1 dX7_likely_36 rfl (lv_at hl 0 rfl) ?_
        refine gC_34_1 X q_2_65 dX7_likely_37 hP ?_
        refine gC_11_1 X q_1_127 dX7_likely_40 hP ?_
        refine lv_iload_n X.1 X.2.1 dX7_likely_43 rfl (lv_at hl 1 rfl) ?_
        refine lv_bipush (v := 8) X.1 X.2.1 dX7_likely_44 (by decide) ?_
        refine lv_imul X.1 X.2.1 dX7_likely_46 ?_
        refine lv_iload_n X.1 X.2.1 dX7_likely_47 rfl (lv_at hl 2 rfl) ?_
        refine lv_iadd X.1 X.2.1 dX7_likely_48 ?_
        obtain ⟨h49, hf⟩ := gd_s hf
        refine lC_13 (J := (va_up (va_up (va_up (va_up (va_up J 0 C_reach_33) 1 C_sits_33) 2 C_wrongs_33) 3 C_free_33) 4 C_wrongIn_33)) X (f := C_sits_33) rfl h49 dX7_likely_49 hP ?_
        refine lv_ldc2 (v := 182891520000) X.1 X.2.1 X.2.2.2.2.1 (X.2.2.2.2.2.1 _ q_2_198) dX7_likely_50 ?_
        refine lv_iload_n X.1 X.2.1 dX7_likely_53 rfl (lv_at hl 3 rfl) ?_
        obtain ⟨r54, ho, hf⟩ := b1_s hf
        refine call_sl (rest := []) X (c_X7_part (C_sits_33 ((x1 * 8) + x2).toNatClampNeg) 182891520000 x3 ho) q_2_199 q_2_200 q_1_1 q_2_201 ok_X7_part rfl ⟨Nat.le_of_ble_eq_true rfl, Nat.le_of_ble_eq_true rfl⟩ rfl rfl hl.1 rfl (Nat.le_of_ble_eq_true rfl) dX7_likely_54 hP hS (fun H locs hP hS => ?_)
        obtain ⟨e0, hf⟩ := o2 hf
        obtain ⟨e1, hf⟩ := o2 hf
        obtain ⟨e2, hf⟩ := o2 hf
        obtain ⟨e3, hf⟩ := o2 hf
        obtain ⟨e4, hf⟩ := o2 hf
        obtain ⟨e5, hf⟩ := o2 hf
        obtain ⟨e6, hf⟩ := o2 hf
        obtain ⟨e7, hf⟩ := o2 hf
        have e8 := o1 hf
        have EF : Ff = (va_up F 3 C_ready_33) := frm_eq (frm_up hfF (by decide)) (frm_c (e1).symm frm_n)
        have EG : Gf = (va_up (va_up G 0 C_meanWrong_33) 1 C_meanLooks_33) := frm_eq (frm_up (frm_up hfG (by decide)) (by decide)) (frm_c (e2).symm (frm_c (e3).symm frm_n))
        have EJ : Jf = (va_up (va_up (va_up (va_up (va_up J 0 C_reach_33) 1 C_sits_33) 2 C_wrongs_33) 3 C_free_33) 4 C_wrongIn_33) := frm_eq (frm_up (frm_up (frm_up (frm_up (frm_up hfJ (by decide)) (by decide)) (by decide)) (by decide)) (by decide)) (frm_c (e4).symm (frm_c (e5).symm (frm_c (e6).symm (frm_c (e7).symm (frm_c (e8).symm frm_n)))))
        exact ret_l X hS (by rw [EF, EG, EJ]; exact hP) e0 dX7_likely_57
      · have hf := ie_s hf c20
        exact t_X7_likely_b23 X F G J  H locs ls hf hfF hfG hfJ hP hS (lv_sub hl [0] rfl)
set_option maxRecDepth 100000 in
theorem c_X7_likely {l : Launch} {D : va_G} {a : Nat → Nat} {kc : Nat → ClassId} (F : Nat → Int32) (G : Nat → Int64) (I : Nat → Nat → Int32) (J : Nat → Nat → Int64) (Z : Nat → Nat → Nat → Int32) (hAp : ∀ i j, i < 44 → j < 44 → a i = a j → i = j) (x1 : Int32) (x2 : Int32) (x3 : Int32) {o0 : Int64} {o1 : Int32} {o2 : Int64} {o3 : Int64} {o4 : Nat → Int64} {o5 : Nat → Int64} {o6 : Nat → Int64} {o7 : Nat → Int64} {o8 : Nat → Int64} (hf : p_X7_likely (F 0) (F 2) (F 3) (G 0) (G 1) (I 2) (I 4) (I 5) (I 6) (J 0) (J 1) (J 2) (J 3) (J 4) x1 x2 x3 = some (o0, o1, o2, o3, o4, o5, o6, o7, o8)) : Ct 44 l yX7_likely cX7_likely 4 (some .long) rm_X7_likely D (tyC kc) a (wC a kc F G I J Z) [.ref (a 34), .int x1, .int x2, .int x3] (Ql D (wC a kc (va_up F 3 o1) (va_up (va_up G 0 o2) 1 o3) I (va_up (va_up (va_up (va_up (va_up J 0 o4) 1 o5) 2 o6) 3 o7) 4 o8) Z) o0) :=
  Ct.of (by decide +kernel) hAp (Nat.le_of_ble_eq_true rfl) (fun p e s m args below meth c ls X hP hl => t_X7_likely_b0 X F G J x1 x2 x3 _ _ _ hf (frm_ul (fun k _ => rfl) (by decide)) (frm_ul (frm_ul (fun k _ => rfl) (by decide)) (by decide)) (frm_ul (frm_ul (frm_ul (frm_ul (frm_ul (fun k _ => rfl) (by decide)) (by decide)) (by decide)) (by decide)) (by decide)) hP va_S.rf hl)
abbrev rm_X7_taken : Room := { frames := 4, cells := 0, slots := 0, locals := 99 }
set_option maxHeartbeats 4000000 in
set_option maxRecDepth 100000 in
theorem t_X7_taken_b36 {p : Program} {l : Launch} {e : Env} {s : State} {m : MethodId} {args : Array Value} {below : List Frame} {meth : Method} {c : Code} {D : va_G} {a : Nat → Nat} {kc : Nat → ClassId} (X : cx 44 p s m args meth c D (tyC kc) a cX7_taken 6 RX7 (some .long)) {I : Nat → Nat → Int32} {Z : Nat → Nat → Nat → Int32} {Ff : Nat → Int32} {Gf : Nat → Int64} {Jf : Nat → Nat → Int64} {r : Int64} :
    ∀ (F : Nat → Int32) (G : Nat → Int64) (J : Nat → Nat → Int64)  (H : Heap) (locs : List Loc) (ls : Array Slot), p_X7_taken_b36 (F 0) (F 2) (F 3) (G 0) (G 1) (I 2) (I 4) (I 5) (I 6) (J 0) (J 1) (J 2) (J 3) (J 4)  = some (r, (Ff 3), (Gf 0), (Gf 1), (Jf 0), (Jf 1), (Jf 2), (Jf 3), (Jf 4)) → (∀ k, k ∉ ([3] : List Nat) → Ff k = F k) → (∀ k, k ∉ ([0, 1] : List Nat) → Gf k = G k) → (∀ k, k ∉ ([0, 1, 2, 3, 4] : List Nat) → Jf k = J k) → va_P D vwCl (wC a kc F G I J Z) H → va_S (ad a 44 s.heap.size) s.heap H locs → lv_has ls 6 [(0, .ref (a 34))] → W p l e rm_X7_taken s m args below meth c H locs 0 0 (MQ below (Ql D (wC a kc Ff Gf I Jf Z) r (ad a 44 s.heap.size)) args s 0 0 (ad a 44 s.heap.size)) (F0 m 36 ls []) := by
  intro F G J  H locs ls hf hfF hfG hfJ hP hS hl
  unfold p_X7_taken_b36 at hf
  refine lv_bipush (v := (-2)) X.1 X.2.1 dX7_taken_36 (by decide) ?_
  obtain ⟨r38, ho, hf⟩ := b1_s hf
  refine call_sl (rest := []) X (c_X7_asLong (-2) ho) q_2_143 q_2_144 q_1_1 q_2_145 ok_X7_asLong rfl ⟨Nat.le_of_ble_eq_true rfl, Nat.le_of_ble_eq_true rfl⟩ rfl rfl hl.1 rfl (Nat.le_of_ble_eq_true rfl) dX7_taken_38 hP hS (fun H locs hP hS => ?_)
  obtain ⟨e0, hf⟩ := o2 hf
  obtain ⟨e1, hf⟩ := o2 hf
  obtain ⟨e2, hf⟩ := o2 hf
  obtain ⟨e3, hf⟩ := o2 hf
  obtain ⟨e4, hf⟩ := o2 hf
  obtain ⟨e5, hf⟩ := o2 hf
  obtain ⟨e6, hf⟩ := o2 hf
  obtain ⟨e7, hf⟩ := o2 hf
  have e8 := o1 hf
  have EF : Ff = F := frm_eq hfF (frm_c (e1).symm frm_n)
  have EG : Gf = G := frm_eq hfG (frm_c (e2).symm (frm_c (e3).symm frm_n))
  have EJ : Jf = J := frm_eq hfJ (frm_c (e4).symm (frm_c (e5).symm (frm_c (e6).symm (frm_c (e7).symm (frm_c (e8).symm frm_n)))))
  exact ret_l X hS (by rw [EF, EG, EJ]; exact hP) e0 dX7_taken_41
set_option maxHeartbeats 4000000 in
set_option maxRecDepth 100000 in
theorem t_X7_taken_b70 {p : Program} {l : Launch} {e : Env} {s : State} {m : MethodId} {args : Array Value} {below : List Frame} {meth : Method} {c : Code} {D : va_G} {a : Nat → Nat} {kc : Nat → ClassId} (X : cx 44 p s m args meth c D (tyC kc) a cX7_taken 6 RX7 (some .long)) {I : Nat → Nat → Int32} {Z : Nat → Nat → Nat → Int32} {Ff : Nat → Int32} {Gf : Nat → Int64} {Jf : Nat → Nat → Int64} {r : Int64} :
    ∀ (F : Nat → Int32) (G : Nat → Int64) (J : Nat → Nat → Int64) (t0 : Int64) (x3 : Int32) (H : Heap) (locs : List Loc) (ls : Array Slot), p_X7_taken_b70 (F 0) (F 2) (F 3) (G 0) (G 1) (I 2) (I 4) (I 5) (I 6) (J 0) (J 1) (J 2) (J 3) (J 4) t0 x3 = some (r, (Ff 3), (Gf 0), (Gf 1), (Jf 0), (Jf 1), (Jf 2), (Jf 3), (Jf 4)) → (∀ k, k ∉ ([3] : List Nat) → Ff k = F k) → (∀ k, k ∉ ([0, 1] : List Nat) → Gf k = G k) → (∀ k, k ∉ ([0, 1, 2, 3, 4] : List Nat) → Jf k = J k) → va_P D vwCl (wC a kc F G I J Z) H → va_S (ad a 44 s.heap.size) s.heap H locs → lv_has ls 6 [(0, .ref (a 34)), (3, .int x3)] → W p l e rm_X7_taken s m args below meth c H locs 0 0 (MQ below (Ql D (wC a kc Ff Gf I Jf Z) r (ad a 44 s.heap.size)) args s 0 0 (ad a 44 s.heap.size)) (F0 m 70 ls [.long t0]) := by
  intro F G J t0 x3 H locs ls hf hfF hfG hfJ hP hS hl
  unfold p_X7_taken_b70 at hf
  refine lv_lstore (lv' := [(4, .long t0), (0, .ref (a 34)), (3, .int x3)]) X.1 X.2.1 dX7_taken_70 hl (by decide) rfl (fun ls hl => ?_)
  refine lv_lload X.1 X.2.1 dX7_taken_72 (lv_at hl 0 rfl) ?_
  refine lv_ldc2 (v := 182891520000) X.1 X.2.1 X.2.2.2.2.1 (X.2.2.2.2.2.1 _ q_2_198) dX7_taken_74 ?_
  refine lv_iload_n X.1 X.2.1 dX7_taken_77 rfl (lv_at hl 2 rfl) ?_
  obtain ⟨r78, ho, hf⟩ := b1_s hf
  refine call_sl (rest := []) X (c_X7_part t0 182891520000 x3 ho) q_2_199 q_2_200 q_1_1 q_2_201 ok_X7_part rfl ⟨Nat.le_of_ble_eq_true rfl, Nat.le_of_ble_eq_true rfl⟩ rfl rfl hl.1 rfl (Nat.le_of_ble_eq_true rfl) dX7_taken_78 hP hS (fun H locs hP hS => ?_)
  obtain ⟨e0, hf⟩ := o2 hf
  obtain ⟨e1, hf⟩ := o2 hf
  obtain ⟨e2, hf⟩ := o2 hf
  obtain ⟨e3, hf⟩ := o2 hf
  obtain ⟨e4, hf⟩ := o2 hf
  obtain ⟨e5, hf⟩ := o2 hf
  obtain ⟨e6, hf⟩ := o2 hf
  obtain ⟨e7, hf⟩ := o2 hf
  have e8 := o1 hf
  have EF : Ff = F := frm_eq hfF (frm_c (e1).symm frm_n)
  have EG : Gf = G := frm_eq hfG (frm_c (e2).symm (frm_c (e3).symm frm_n))
  have EJ : Jf = J := frm_eq hfJ (frm_c (e4).symm (frm_c (e5).symm (frm_c (e6).symm (frm_c (e7).symm (frm_c (e8).symm frm_n)))))
  exact ret_l X hS (by rw [EF, EG, EJ]; exact hP) e0 dX7_taken_81
set_option maxHeartbeats 4000000 in
set_option maxRecDepth 100000 in
theorem t_X7_taken_b0 {p : Program} {l : Launch} {e : Env} {s : State} {m : MethodId} {args : Array Value} {below : List Frame} {meth : Method} {c : Code} {D : va_G} {a : Nat → Nat} {kc : Nat → ClassId} (X : cx 44 p s m args meth c D (tyC kc) a cX7_taken 6 RX7 (some .long)) {I : Nat → Nat → Int32} {Z : Nat → Nat → Nat → Int32} {Ff : Nat → Int32} {Gf : Nat → Int64} {Jf : Nat → Nat → Int64} {r : Int64} :
    ∀ (F : Nat → Int32) (G : Nat → Int64) (J : Nat → Nat → Int64) (x1 : Int32) (x2 : Int32) (x3 : Int32) (H : Heap) (locs : List Loc) (ls : Array Slot), p_X7_taken_b0 (F 0) (F 2) (F 3) (G 0) (G 1) (I 2) (I 4) (I 5) (I 6) (J 0) (J 1) (J 2) (J 3) (J 4) x1 x2 x3 = some (r, (Ff 3), (Gf 0), (Gf 1), (Jf 0), (Jf 1), (Jf 2), (Jf 3), (Jf 4)) → (∀ k, k ∉ ([3] : List Nat) → Ff k = F k) → (∀ k, k ∉ ([0, 1] : List Nat) → Gf k = G k) → (∀ k, k ∉ ([0, 1, 2, 3, 4] : List Nat) → Jf k = J k) → va_P D vwCl (wC a kc F G I J Z) H → va_S (ad a 44 s.heap.size) s.heap H locs → lv_has ls 6 [(0, .ref (a 34)), (1, .int x1), (2, .int x2), (3, .int x3)] → W p l e rm_X7_taken s m args below meth c H locs 0 0 (MQ below (Ql D (wC a kc Ff Gf I Jf Z) r (ad a 44 s.heap.size)) args s 0 0 (ad a 44 s.heap.size)) (F0 m 0 ls []) := by
  intro F G J x1 x2 x3 H locs ls hf hfF hfG hfJ hP hS hl
  unfold p_X7_taken_b0 at hf
  refine lv_iload_n X.1 X.2.1 dX7_taken_0 rfl (lv_at hl 1 rfl) ?_
  refine lv_if_lt (tgt := 36) X.1 X.2.1 dX7_taken_1 (by decide) (fun c1 => ?_) (fun c1 => ?_)
  · have hf := it_s hf c1
    exact t_X7_taken_b36 X F G J  H locs ls hf hfF hfG hfJ hP hS (lv_sub hl [0] rfl)
  · have hf := ie_s hf c1
    refine lv_iload_n X.1 X.2.1 dX7_taken_4 rfl (lv_at hl 1 rfl) ?_
    refine lv_aload_n X.1 X.2.1 dX7_taken_5 rfl (lv_at hl 0 rfl) ?_
    refine gC_34_0 X q_2_64 dX7_taken_6 hP ?_
    refine gC_0_10 (F := F) X (v := (F 2)) rfl q_1_93 dX7_taken_9 hP ?_
    refine lv_icmp_gt (tgt := 36) X.1 X.2.1 dX7_taken_12 (by decide) (fun c12 => ?_) (fun c12 => ?_)
    · have hf := it_s hf c12
      exact t_X7_taken_b36 X F G J  H locs ls hf hfF hfG hfJ hP hS (lv_sub hl [0] rfl)
    · have hf := ie_s hf c12
      refine lv_iload_n X.1 X.2.1 dX7_taken_15 rfl (lv_at hl 2 rfl) ?_
      refine lv_aload_n X.1 X.2.1 dX7_taken_16 rfl (lv_at hl 0 rfl) ?_
      refine gC_34_0 X q_2_64 dX7_taken_17 hP ?_
      obtain ⟨r20, ho, hf⟩ := b1_s hf
      refine call_vi (rest := [.int x2]) X (c_X3_allSeats F G I J Z X.2.2.2.2.2.2.2.1  ho) q_2_209 q_2_160 q_2_161 q_1_2 q_2_162 ok_X3_allSeats rfl 0 rfl rfl ⟨Nat.le_of_ble_eq_true rfl, Nat.le_of_ble_eq_true rfl⟩ rfl rfl hl.1 rfl (Nat.le_of_ble_eq_true rfl) dX7_taken_20 hP hS (fun H locs hP hS => ?_)
      refine lv_iconst (v := (-1)) X.1 X.2.1 dX7_taken_23 (by decide) ?_
      refine lv_ixor X.1 X.2.1 dX7_taken_24 ?_
      refine lv_iand X.1 X.2.1 dX7_taken_25 ?_
      refine lv_if_ne (tgt := 36) X.1 X.2.1 dX7_taken_26 (by decide) (fun c26 => ?_) (fun c26 => ?_)
      · have hf := ie_s hf c26
        exact t_X7_taken_b36 X F G J  H locs ls hf hfF hfG hfJ hP hS (lv_sub hl [0] rfl)
      · have hf := it_s hf c26
        refine lv_iload_n X.1 X.2.1 dX7_taken_29 rfl (lv_at hl 3 rfl) ?_
        obtain ⟨r30, ho, hf⟩ := b1_s hf
        refine call_si (rest := []) X (c_X7_isNoPart x3 ho) q_2_136 q_2_137 q_1_1 q_2_138 ok_X7_isNoPart rfl ⟨Nat.le_of_ble_eq_true rfl, Nat.le_of_ble_eq_true rfl⟩ rfl rfl hl.1 rfl (Nat.le_of_ble_eq_true rfl) dX7_taken_30 hP hS (fun H locs hP hS => ?_)
        refine lv_if_eq (tgt := 42) X.1 X.2.1 dX7_taken_33 (by decide) (fun c33 => ?_) (fun c33 => ?_)
        · have hf := it_s hf c33
          refine lv_aload_n X.1 X.2.1 dX7_taken_42 rfl (lv_at hl 0 rfl) ?_
          refine gC_34_1 X q_2_65 dX7_taken_43 hP ?_
          obtain ⟨C_ready_46, C_meanWrong_46, C_meanLooks_46, C_reach_46, C_sits_46, C_wrongs_46, C_free_46, C_wrongIn_46, ho, hf⟩ := b8_s hf
          refine call_vv (rest := []) X (c_X0_refresh F G I J Z X.2.2.2.2.2.2.2.1  ho) q_2_147 q_2_148 q_2_149 q_1_4 q_2_150 ok_X0_refresh rfl 11 rfl rfl ⟨Nat.le_of_ble_eq_true rfl, Nat.le_of_ble_eq_true rfl⟩ rfl rfl hl.1 rfl (Nat.le_of_ble_eq_true rfl) dX7_taken_46 hP hS (fun H locs hP hS => ?_)
          refine lv_iload_n X.1 X.2.1 dX7_taken_49 rfl (lv_at hl 2 rfl) ?_
          obtain ⟨r50, ho, hf⟩ := b1_s hf
          refine call_si (rest := []) X (c_J6_bitCount_0f7a4 x2 ho) q_2_210 q_2_164 q_1_11 q_2_165 ok_J6_bitCount_0f7a4 rfl ⟨Nat.le_of_ble_eq_true rfl, Nat.le_of_ble_eq_true rfl⟩ rfl rfl hl.1 rfl (Nat.le_of_ble_eq_true rfl) dX7_taken_50 hP hS (fun H locs hP hS => ?_)
          refine lv_iload_n X.1 X.2.1 dX7_taken_53 rfl (lv_at hl 1 rfl) ?_
          refine lv_icmp_ne (tgt := 69) X.1 X.2.1 dX7_taken_54 (by decide) (fun c54 => ?_) (fun c54 => ?_)
          · have hf := ie_s hf c54
            refine lv_lconst (v := 0) X.1 X.2.1 dX7_taken_69 (by decide) ?_
            exact t_X7_taken_b70 X (va_up F 3 C_ready_46) (va_up (va_up G 0 C_meanWrong_46) 1 C_meanLooks_46) (va_up (va_up (va_up (va_up (va_up J 0 C_reach_46) 1 C_sits_46) 2 C_wrongs_46) 3 C_free_46) 4 C_wrongIn_46) 0 x3 H locs ls hf (frm_up hfF (by decide)) (frm_up (frm_up hfG (by decide)) (by decide)) (frm_up (frm_up (frm_up (frm_up (frm_up hfJ (by decide)) (by decide)) (by decide)) (by decide)) (by decide)) hP hS (lv_sub hl [0, 3] rfl)
          · have hf := it_s hf c54
            refine lv_aload_n X.1 X.2.1 dX7_taken_57 rfl (lv_at hl 0 rfl) ?_
            refine gC_34_1 X q_2_65 dX7_taken_58 hP ?_
            refine gC_11_0 X q_1_125 dX7_taken_61 hP ?_
            refine lv_iload_n X.1 X.2.1 dX7_taken_64 rfl (lv_at hl 2 rfl) ?_
            obtain ⟨h65, hf⟩ := gd_s hf
            refine lC_12 (J := (va_up (va_up (va_up (va_up (va_up J 0 C_reach_46) 1 C_sits_46) 2 C_wrongs_46) 3 C_free_46) 4 C_wrongIn_46)) X (f := C_reach_46) rfl h65 dX7_taken_65 hP ?_
            refine lv_goto (tgt := 70) X.1 X.2.1 dX7_taken_66 (by decide) ?_
            exact t_X7_taken_b70 X (va_up F 3 C_ready_46) (va_up (va_up G 0 C_meanWrong_46) 1 C_meanLooks_46) (va_up (va_up (va_up (va_up (va_up J 0 C_reach_46) 1 C_sits_46) 2 C_wrongs_46) 3 C_free_46) 4 C_wrongIn_46) (C_reach_46 x2.toNatClampNeg) x3 H locs ls hf (frm_up hfF (by decide)) (frm_up (frm_up hfG (by decide)) (by decide)) (frm_up (frm_up (frm_up (frm_up (frm_up hfJ (by decide)) (by decide)) (by decide)) (by decide)) (by decide)) hP hS (lv_sub hl [0, 3] rfl)
        · have hf := ie_s hf c33
          exact t_X7_taken_b36 X F G J  H locs ls hf hfF hfG hfJ hP hS (lv_sub hl [0] rfl)
set_option maxRecDepth 100000 in
theorem c_X7_taken {l : Launch} {D : va_G} {a : Nat → Nat} {kc : Nat → ClassId} (F : Nat → Int32) (G : Nat → Int64) (I : Nat → Nat → Int32) (J : Nat → Nat → Int64) (Z : Nat → Nat → Nat → Int32) (hAp : ∀ i j, i < 44 → j < 44 → a i = a j → i = j) (x1 : Int32) (x2 : Int32) (x3 : Int32) {o0 : Int64} {o1 : Int32} {o2 : Int64} {o3 : Int64} {o4 : Nat → Int64} {o5 : Nat → Int64} {o6 : Nat → Int64} {o7 : Nat → Int64} {o8 : Nat → Int64} (hf : p_X7_taken (F 0) (F 2) (F 3) (G 0) (G 1) (I 2) (I 4) (I 5) (I 6) (J 0) (J 1) (J 2) (J 3) (J 4) x1 x2 x3 = some (o0, o1, o2, o3, o4, o5, o6, o7, o8)) : Ct 44 l yX7_taken cX7_taken 6 (some .long) rm_X7_taken D (tyC kc) a (wC a kc F G I J Z) [.ref (a 34), .int x1, .int x2, .int x3] (Ql D (wC a kc (va_up F 3 o1) (va_up (va_up G 0 o2) 1 o3) I (va_up (va_up (va_up (va_up (va_up J 0 o4) 1 o5) 2 o6) 3 o7) 4 o8) Z) o0) :=
  Ct.of (by decide +kernel) hAp (Nat.le_of_ble_eq_true rfl) (fun p e s m args below meth c ls X hP hl => t_X7_taken_b0 X F G J x1 x2 x3 _ _ _ hf (frm_ul (fun k _ => rfl) (by decide)) (frm_ul (frm_ul (fun k _ => rfl) (by decide)) (by decide)) (frm_ul (frm_ul (frm_ul (frm_ul (frm_ul (fun k _ => rfl) (by decide)) (by decide)) (by decide)) (by decide)) (by decide)) hP va_S.rf hl)
abbrev rm_X7_wrong : Room := { frames := 4, cells := 0, slots := 0, locals := 99 }
set_option maxHeartbeats 4000000 in
set_option maxRecDepth 100000 in
theorem t_X7_wrong_b23 {p : Program} {l : Launch} {e : Env} {s : State} {m : MethodId} {args : Array Value} {below : List Frame} {meth : Method} {c : Code} {D : va_G} {a : Nat → Nat} {kc : Nat → ClassId} (X : cx 44 p s m args meth c D (tyC kc) a cX7_wrong 3 RX7 (some .long)) {I : Nat → Nat → Int32} {Z : Nat → Nat → Nat → Int32} {Ff : Nat → Int32} {Gf : Nat → Int64} {Jf : Nat → Nat → Int64} {r : Int64} :
    ∀ (F : Nat → Int32) (G : Nat → Int64) (J : Nat → Nat → Int64)  (H : Heap) (locs : List Loc) (ls : Array Slot), p_X7_wrong_b23 (F 0) (F 2) (F 3) (G 0) (G 1) (I 2) (I 4) (I 5) (I 6) (J 0) (J 1) (J 2) (J 3) (J 4)  = some (r, (Ff 3), (Gf 0), (Gf 1), (Jf 0), (Jf 1), (Jf 2), (Jf 3), (Jf 4)) → (∀ k, k ∉ ([3] : List Nat) → Ff k = F k) → (∀ k, k ∉ ([0, 1] : List Nat) → Gf k = G k) → (∀ k, k ∉ ([0, 1, 2, 3, 4] : List Nat) → Jf k = J k) → va_P D vwCl (wC a kc F G I J Z) H → va_S (ad a 44 s.heap.size) s.heap H locs → lv_has ls 3 [(0, .ref (a 34))] → W p l e rm_X7_wrong s m args below meth c H locs 0 0 (MQ below (Ql D (wC a kc Ff Gf I Jf Z) r (ad a 44 s.heap.size)) args s 0 0 (ad a 44 s.heap.size)) (F0 m 23 ls []) := by
  intro F G J  H locs ls hf hfF hfG hfJ hP hS hl
  unfold p_X7_wrong_b23 at hf
  refine lv_bipush (v := (-2)) X.1 X.2.1 dX7_wrong_23 (by decide) ?_
  obtain ⟨r25, ho, hf⟩ := b1_s hf
  refine call_sl (rest := []) X (c_X7_asLong (-2) ho) q_2_143 q_2_144 q_1_1 q_2_145 ok_X7_asLong rfl ⟨Nat.le_of_ble_eq_true rfl, Nat.le_of_ble_eq_true rfl⟩ rfl rfl hl.1 rfl (Nat.le_of_ble_eq_true rfl) dX7_wrong_25 hP hS (fun H locs hP hS => ?_)
  obtain ⟨e0, hf⟩ := o2 hf
  obtain ⟨e1, hf⟩ := o2 hf
  obtain ⟨e2, hf⟩ := o2 hf
  obtain ⟨e3, hf⟩ := o2 hf
  obtain ⟨e4, hf⟩ := o2 hf
  obtain ⟨e5, hf⟩ := o2 hf
  obtain ⟨e6, hf⟩ := o2 hf
  obtain ⟨e7, hf⟩ := o2 hf
  have e8 := o1 hf
  have EF : Ff = F := frm_eq hfF (frm_c (e1).symm frm_n)
  have EG : Gf = G := frm_eq hfG (frm_c (e2).symm (frm_c (e3).symm frm_n))
  have EJ : Jf = J := frm_eq hfJ (frm_c (e4).symm (frm_c (e5).symm (frm_c (e6).symm (frm_c (e7).symm (frm_c (e8).symm frm_n)))))
  exact ret_l X hS (by rw [EF, EG, EJ]; exact hP) e0 dX7_wrong_28
set_option maxHeartbeats 4000000 in
set_option maxRecDepth 100000 in
theorem t_X7_wrong_b60 {p : Program} {l : Launch} {e : Env} {s : State} {m : MethodId} {args : Array Value} {below : List Frame} {meth : Method} {c : Code} {D : va_G} {a : Nat → Nat} {kc : Nat → ClassId} (X : cx 44 p s m args meth c D (tyC kc) a cX7_wrong 3 RX7 (some .long)) {I : Nat → Nat → Int32} {Z : Nat → Nat → Nat → Int32} {Ff : Nat → Int32} {Gf : Nat → Int64} {Jf : Nat → Nat → Int64} {r : Int64} :
    ∀ (F : Nat → Int32) (G : Nat → Int64) (J : Nat → Nat → Int64) (t0 : Int64) (x2 : Int32) (H : Heap) (locs : List Loc) (ls : Array Slot), p_X7_wrong_b60 (F 0) (F 2) (F 3) (G 0) (G 1) (I 2) (I 4) (I 5) (I 6) (J 0) (J 1) (J 2) (J 3) (J 4) t0 x2 = some (r, (Ff 3), (Gf 0), (Gf 1), (Jf 0), (Jf 1), (Jf 2), (Jf 3), (Jf 4)) → (∀ k, k ∉ ([3] : List Nat) → Ff k = F k) → (∀ k, k ∉ ([0, 1] : List Nat) → Gf k = G k) → (∀ k, k ∉ ([0, 1, 2, 3, 4] : List Nat) → Jf k = J k) → va_P D vwCl (wC a kc F G I J Z) H → va_S (ad a 44 s.heap.size) s.heap H locs → lv_has ls 3 [(0, .ref (a 34)), (2, .int x2)] → W p l e rm_X7_wrong s m args below meth c H locs 0 0 (MQ below (Ql D (wC a kc Ff Gf I Jf Z) r (ad a 44 s.heap.size)) args s 0 0 (ad a 44 s.heap.size)) (F0 m 60 ls [.long t0]) := by
  intro F G J t0 x2 H locs ls hf hfF hfG hfJ hP hS hl
  unfold p_X7_wrong_b60 at hf
  refine lv_ldc2 (v := 182891520000) X.1 X.2.1 X.2.2.2.2.1 (X.2.2.2.2.2.1 _ q_2_198) dX7_wrong_60 ?_
  refine lv_iload_n X.1 X.2.1 dX7_wrong_63 rfl (lv_at hl 1 rfl) ?_
  obtain ⟨r64, ho, hf⟩ := b1_s hf
  refine call_sl (rest := []) X (c_X7_part t0 182891520000 x2 ho) q_2_199 q_2_200 q_1_1 q_2_201 ok_X7_part rfl ⟨Nat.le_of_ble_eq_true rfl, Nat.le_of_ble_eq_true rfl⟩ rfl rfl hl.1 rfl (Nat.le_of_ble_eq_true rfl) dX7_wrong_64 hP hS (fun H locs hP hS => ?_)
  obtain ⟨e0, hf⟩ := o2 hf
  obtain ⟨e1, hf⟩ := o2 hf
  obtain ⟨e2, hf⟩ := o2 hf
  obtain ⟨e3, hf⟩ := o2 hf
  obtain ⟨e4, hf⟩ := o2 hf
  obtain ⟨e5, hf⟩ := o2 hf
  obtain ⟨e6, hf⟩ := o2 hf
  obtain ⟨e7, hf⟩ := o2 hf
  have e8 := o1 hf
  have EF : Ff = F := frm_eq hfF (frm_c (e1).symm frm_n)
  have EG : Gf = G := frm_eq hfG (frm_c (e2).symm (frm_c (e3).symm frm_n))
  have EJ : Jf = J := frm_eq hfJ (frm_c (e4).symm (frm_c (e5).symm (frm_c (e6).symm (frm_c (e7).symm (frm_c (e8).symm frm_n)))))
  exact ret_l X hS (by rw [EF, EG, EJ]; exact hP) e0 dX7_wrong_67
set_option maxHeartbeats 4000000 in
set_option maxRecDepth 100000 in
theorem t_X7_wrong_b0 {p : Program} {l : Launch} {e : Env} {s : State} {m : MethodId} {args : Array Value} {below : List Frame} {meth : Method} {c : Code} {D : va_G} {a : Nat → Nat} {kc : Nat → ClassId} (X : cx 44 p s m args meth c D (tyC kc) a cX7_wrong 3 RX7 (some .long)) {I : Nat → Nat → Int32} {Z : Nat → Nat → Nat → Int32} {Ff : Nat → Int32} {Gf : Nat → Int64} {Jf : Nat → Nat → Int64} {r : Int64} :
    ∀ (F : Nat → Int32) (G : Nat → Int64) (J : Nat → Nat → Int64) (x1 : Int32) (x2 : Int32) (H : Heap) (locs : List Loc) (ls : Array Slot), p_X7_wrong_b0 (F 0) (F 2) (F 3) (G 0) (G 1) (I 2) (I 4) (I 5) (I 6) (J 0) (J 1) (J 2) (J 3) (J 4) x1 x2 = some (r, (Ff 3), (Gf 0), (Gf 1), (Jf 0), (Jf 1), (Jf 2), (Jf 3), (Jf 4)) → (∀ k, k ∉ ([3] : List Nat) → Ff k = F k) → (∀ k, k ∉ ([0, 1] : List Nat) → Gf k = G k) → (∀ k, k ∉ ([0, 1, 2, 3, 4] : List Nat) → Jf k = J k) → va_P D vwCl (wC a kc F G I J Z) H → va_S (ad a 44 s.heap.size) s.heap H locs → lv_has ls 3 [(0, .ref (a 34)), (1, .int x1), (2, .int x2)] → W p l e rm_X7_wrong s m args below meth c H locs 0 0 (MQ below (Ql D (wC a kc Ff Gf I Jf Z) r (ad a 44 s.heap.size)) args s 0 0 (ad a 44 s.heap.size)) (F0 m 0 ls []) := by
  intro F G J x1 x2 H locs ls hf hfF hfG hfJ hP hS hl
  unfold p_X7_wrong_b0 at hf
  refine lv_iload_n X.1 X.2.1 dX7_wrong_0 rfl (lv_at hl 1 rfl) ?_
  refine lv_iconst (v := (-1)) X.1 X.2.1 dX7_wrong_1 (by decide) ?_
  refine lv_icmp_lt (tgt := 23) X.1 X.2.1 dX7_wrong_2 (by decide) (fun c2 => ?_) (fun c2 => ?_)
  · have hf := it_s hf c2
    exact t_X7_wrong_b23 X F G J  H locs ls hf hfF hfG hfJ hP hS (lv_sub hl [0] rfl)
  · have hf := ie_s hf c2
    refine lv_iload_n X.1 X.2.1 dX7_wrong_5 rfl (lv_at hl 1 rfl) ?_
    refine lv_aload_n X.1 X.2.1 dX7_wrong_6 rfl (lv_at hl 0 rfl) ?_
    refine gC_34_0 X q_2_64 dX7_wrong_7 hP ?_
    refine gC_0_10 (F := F) X (v := (F 2)) rfl q_1_93 dX7_wrong_10 hP ?_
    refine lv_icmp_gt (tgt := 23) X.1 X.2.1 dX7_wrong_13 (by decide) (fun c13 => ?_) (fun c13 => ?_)
    · have hf := it_s hf c13
      exact t_X7_wrong_b23 X F G J  H locs ls hf hfF hfG hfJ hP hS (lv_sub hl [0] rfl)
    · have hf := ie_s hf c13
      refine lv_iload_n X.1 X.2.1 dX7_wrong_16 rfl (lv_at hl 2 rfl) ?_
      obtain ⟨r17, ho, hf⟩ := b1_s hf
      refine call_si (rest := []) X (c_X7_isNoPart x2 ho) q_2_136 q_2_137 q_1_1 q_2_138 ok_X7_isNoPart rfl ⟨Nat.le_of_ble_eq_true rfl, Nat.le_of_ble_eq_true rfl⟩ rfl rfl hl.1 rfl (Nat.le_of_ble_eq_true rfl) dX7_wrong_17 hP hS (fun H locs hP hS => ?_)
      refine lv_if_eq (tgt := 29) X.1 X.2.1 dX7_wrong_20 (by decide) (fun c20 => ?_) (fun c20 => ?_)
      · have hf := it_s hf c20
        refine lv_aload_n X.1 X.2.1 dX7_wrong_29 rfl (lv_at hl 0 rfl) ?_
        refine gC_34_1 X q_2_65 dX7_wrong_30 hP ?_
        obtain ⟨C_ready_33, C_meanWrong_33, C_meanLooks_33, C_reach_33, C_sits_33, C_wrongs_33, C_free_33, C_wrongIn_33, ho, hf⟩ := b8_s hf
        refine call_vv (rest := []) X (c_X0_refresh F G I J Z X.2.2.2.2.2.2.2.1  ho) q_2_147 q_2_148 q_2_149 q_1_4 q_2_150 ok_X0_refresh rfl 11 rfl rfl ⟨Nat.le_of_ble_eq_true rfl, Nat.le_of_ble_eq_true rfl⟩ rfl rfl hl.1 rfl (Nat.le_of_ble_eq_true rfl) dX7_wrong_33 hP hS (fun H locs hP hS => ?_)
        refine lv_iload_n X.1 X.2.1 dX7_wrong_36 rfl (lv_at hl 1 rfl) ?_
        refine lv_iconst (v := (-1)) X.1 X.2.1 dX7_wrong_37 (by decide) ?_
        refine lv_icmp_ne (tgt := 51) X.1 X.2.1 dX7_wrong_38 (by decide) (fun c38 => ?_) (fun c38 => ?_)
        · have hf := ie_s hf c38
          refine lv_aload_n X.1 X.2.1 dX7_wrong_51 rfl (lv_at hl 0 rfl) ?_
          refine gC_34_1 X q_2_65 dX7_wrong_52 hP ?_
          refine gC_11_2 X q_1_129 dX7_wrong_55 hP ?_
          refine lv_iload_n X.1 X.2.1 dX7_wrong_58 rfl (lv_at hl 1 rfl) ?_
          obtain ⟨h59, hf⟩ := gd_s hf
          refine lC_14 (J := (va_up (va_up (va_up (va_up (va_up J 0 C_reach_33) 1 C_sits_33) 2 C_wrongs_33) 3 C_free_33) 4 C_wrongIn_33)) X (f := C_wrongs_33) rfl h59 dX7_wrong_59 hP ?_
          exact t_X7_wrong_b60 X (va_up F 3 C_ready_33) (va_up (va_up G 0 C_meanWrong_33) 1 C_meanLooks_33) (va_up (va_up (va_up (va_up (va_up J 0 C_reach_33) 1 C_sits_33) 2 C_wrongs_33) 3 C_free_33) 4 C_wrongIn_33) (C_wrongs_33 x1.toNatClampNeg) x2 H locs ls hf (frm_up hfF (by decide)) (frm_up (frm_up hfG (by decide)) (by decide)) (frm_up (frm_up (frm_up (frm_up (frm_up hfJ (by decide)) (by decide)) (by decide)) (by decide)) (by decide)) hP hS (lv_sub hl [0, 2] rfl)
        · have hf := it_s hf c38
          refine lv_aload_n X.1 X.2.1 dX7_wrong_41 rfl (lv_at hl 0 rfl) ?_
          refine gC_34_1 X q_2_65 dX7_wrong_42 hP ?_
          refine gC_11_4 (G := (va_up (va_up G 0 C_meanWrong_33) 1 C_meanLooks_33)) X (v := C_meanWrong_33) rfl q_1_133 dX7_wrong_45 hP ?_
          refine lv_goto (tgt := 60) X.1 X.2.1 dX7_wrong_48 (by decide) ?_
          exact t_X7_wrong_b60 X (va_up F 3 C_ready_33) (va_up (va_up G 0 C_meanWrong_33) 1 C_meanLooks_33) (va_up (va_up (va_up (va_up (va_up J 0 C_reach_33) 1 C_sits_33) 2 C_wrongs_33) 3 C_free_33) 4 C_wrongIn_33) C_meanWrong_33 x2 H locs ls hf (frm_up hfF (by decide)) (frm_up (frm_up hfG (by decide)) (by decide)) (frm_up (frm_up (frm_up (frm_up (frm_up hfJ (by decide)) (by decide)) (by decide)) (by decide)) (by decide)) hP hS (lv_sub hl [0, 2] rfl)
      · have hf := ie_s hf c20
        exact t_X7_wrong_b23 X F G J  H locs ls hf hfF hfG hfJ hP hS (lv_sub hl [0] rfl)
set_option maxRecDepth 100000 in
theorem c_X7_wrong {l : Launch} {D : va_G} {a : Nat → Nat} {kc : Nat → ClassId} (F : Nat → Int32) (G : Nat → Int64) (I : Nat → Nat → Int32) (J : Nat → Nat → Int64) (Z : Nat → Nat → Nat → Int32) (hAp : ∀ i j, i < 44 → j < 44 → a i = a j → i = j) (x1 : Int32) (x2 : Int32) {o0 : Int64} {o1 : Int32} {o2 : Int64} {o3 : Int64} {o4 : Nat → Int64} {o5 : Nat → Int64} {o6 : Nat → Int64} {o7 : Nat → Int64} {o8 : Nat → Int64} (hf : p_X7_wrong (F 0) (F 2) (F 3) (G 0) (G 1) (I 2) (I 4) (I 5) (I 6) (J 0) (J 1) (J 2) (J 3) (J 4) x1 x2 = some (o0, o1, o2, o3, o4, o5, o6, o7, o8)) : Ct 44 l yX7_wrong cX7_wrong 3 (some .long) rm_X7_wrong D (tyC kc) a (wC a kc F G I J Z) [.ref (a 34), .int x1, .int x2] (Ql D (wC a kc (va_up F 3 o1) (va_up (va_up G 0 o2) 1 o3) I (va_up (va_up (va_up (va_up (va_up J 0 o4) 1 o5) 2 o6) 3 o7) 4 o8) Z) o0) :=
  Ct.of (by decide +kernel) hAp (Nat.le_of_ble_eq_true rfl) (fun p e s m args below meth c ls X hP hl => t_X7_wrong_b0 X F G J x1 x2 _ _ _ hf (frm_ul (fun k _ => rfl) (by decide)) (frm_ul (frm_ul (fun k _ => rfl) (by decide)) (by decide)) (frm_ul (frm_ul (frm_ul (frm_ul (frm_ul (fun k _ => rfl) (by decide)) (by decide)) (by decide)) (by decide)) (by decide)) hP va_S.rf hl)
