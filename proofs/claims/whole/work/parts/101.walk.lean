abbrev rm_X1_clearSets : Room := { frames := 1, cells := 0, slots := 0, locals := 22 }
set_option maxHeartbeats 4000000 in
set_option maxRecDepth 100000 in
theorem t_X1_clearSets_b44 {p : Program} {l : Launch} {e : Env} {s : State} {m : MethodId} {args : Array Value} {below : List Frame} {meth : Method} {c : Code} {D : va_G} {a : Nat → Nat} {kc : Nat → ClassId} (X : cx 44 p s m args meth c D (tyC kc) a cX1_clearSets 4 RX1 none) {F : Nat → Int32} {G : Nat → Int64} {I : Nat → Nat → Int32} {Z : Nat → Nat → Nat → Int32} {Jf : Nat → Nat → Int64}  :
    ∀ (J : Nat → Nat → Int64)  (H : Heap) (locs : List Loc) (ls : Array Slot), p_X1_clearSets_b44 (F 0) (J 5)  = some (Jf 5) → (∀ k, k ∉ ([5] : List Nat) → Jf k = J k) → va_P D vwCl (wC a kc F G I J Z) H → va_S (ad a 44 s.heap.size) s.heap H locs → lv_has ls 4 [(0, .ref (a 17))] → W p l e rm_X1_clearSets s m args below meth c H locs 0 0 (MQ below (Qv D (wC a kc F G I Jf Z) (ad a 44 s.heap.size)) args s 0 0 (ad a 44 s.heap.size)) (F0 m 44 ls []) := by
  intro J  H locs ls hf hfJ hP hS hl
  unfold p_X1_clearSets_b44 at hf
  have e0 := o1 hf
  have EJ : Jf = J := frm_eq hfJ (frm_c (e0).symm frm_n)
  exact ret_v X hS (by rw [EJ]; exact hP) dX1_clearSets_44
set_option maxHeartbeats 4000000 in
set_option maxRecDepth 100000 in
theorem t_X1_clearSets_b8x {p : Program} {l : Launch} {e : Env} {s : State} {m : MethodId} {args : Array Value} {below : List Frame} {meth : Method} {c : Code} {D : va_G} {a : Nat → Nat} {kc : Nat → ClassId} (X : cx 44 p s m args meth c D (tyC kc) a cX1_clearSets 4 RX1 none) {F : Nat → Int32} {G : Nat → Int64} {I : Nat → Nat → Int32} {Z : Nat → Nat → Nat → Int32} {Jf : Nat → Nat → Int64}  {K8 : Int32 → (Nat → Int64) → Int32 → Int32 → Option ((Nat → Int64))} (kh8 : ∀ (J : Nat → Nat → Int64) (x2 : Int32) (x3 : Int32) (H : Heap) (locs : List Loc) (ls : Array Slot), K8 (F 0) (J 5) x2 x3 = some (Jf 5) → (∀ k, k ∉ ([5] : List Nat) → Jf k = J k) → va_P D vwCl (wC a kc F G I J Z) H → va_S (ad a 44 s.heap.size) s.heap H locs → lv_has ls 4 [(0, .ref (a 17)), (2, .int x2), (3, .int x3)] → W p l e rm_X1_clearSets s m args below meth c H locs 0 0 (MQ below (Qv D (wC a kc F G I Jf Z) (ad a 44 s.heap.size)) args s 0 0 (ad a 44 s.heap.size)) (F0 m 8 ls [])) :
    ∀ (J : Nat → Nat → Int64) (x2 : Int32) (x3 : Int32) (H : Heap) (locs : List Loc) (ls : Array Slot), p_X1_clearSets_b8x K8 (F 0) (J 5) x2 x3 = some (Jf 5) → (∀ k, k ∉ ([5] : List Nat) → Jf k = J k) → va_P D vwCl (wC a kc F G I J Z) H → va_S (ad a 44 s.heap.size) s.heap H locs → lv_has ls 4 [(0, .ref (a 17)), (2, .int x2), (3, .int x3)] → W p l e rm_X1_clearSets s m args below meth c H locs 0 0 (MQ below (Qv D (wC a kc F G I Jf Z) (ad a 44 s.heap.size)) args s 0 0 (ad a 44 s.heap.size)) (F0 m 8 ls []) := by
  intro J x2 x3 H locs ls hf hfJ hP hS hl
  unfold p_X1_clearSets_b8x at hf
  refine lv_iload_n X.1 X.2.1 dX1_clearSets_8 rfl (lv_at hl 2 rfl) ?_
  refine lv_sipush (v := 256) X.1 X.2.1 dX1_clearSets_9 (by decide) ?_
  refine lv_icmp_ge (tgt := 44) X.1 X.2.1 dX1_clearSets_12 (by decide) (fun c12 => ?_) (fun c12 => ?_)
  · have hf := it_s hf c12
    exact t_X1_clearSets_b44 X J  H locs ls hf hfJ hP hS (lv_sub hl [0] rfl)
  · have hf := ie_s hf c12
    refine lv_iload_n X.1 X.2.1 dX1_clearSets_15 rfl (lv_at hl 1 rfl) ?_
    refine lv_aload_n X.1 X.2.1 dX1_clearSets_16 rfl (lv_at hl 0 rfl) ?_
    refine gC_17_3 X q_1_172 dX1_clearSets_17 hP ?_
    obtain ⟨r20, ho, hf⟩ := b1_s hf
    refine call_vi (rest := [.int x2]) X (c_X3_allSeats F G I J Z X.2.2.2.2.2.2.2.1  ho) q_3_75 q_2_160 q_2_161 q_1_2 q_2_162 ok_X3_allSeats rfl 0 rfl rfl ⟨Nat.le_of_ble_eq_true rfl, Nat.le_of_ble_eq_true rfl⟩ rfl rfl hl.1 rfl (Nat.le_of_ble_eq_true rfl) dX1_clearSets_20 hP hS (fun H locs hP hS => ?_)
    refine lv_icmp_gt (tgt := 44) X.1 X.2.1 dX1_clearSets_23 (by decide) (fun c23 => ?_) (fun c23 => ?_)
    · have hf := it_s hf c23
      exact t_X1_clearSets_b44 X J  H locs ls hf hfJ hP hS (lv_sub hl [0] rfl)
    · have hf := ie_s hf c23
      refine lv_aload_n X.1 X.2.1 dX1_clearSets_26 rfl (lv_at hl 0 rfl) ?_
      refine gC_17_5 X q_1_174 dX1_clearSets_27 hP ?_
      refine lv_iload_n X.1 X.2.1 dX1_clearSets_30 rfl (lv_at hl 1 rfl) ?_
      refine lv_lconst (v := 0) X.1 X.2.1 dX1_clearSets_31 (by decide) ?_
      obtain ⟨h32, hf⟩ := gd_s hf
      obtain ⟨D_reach_32, eD_reach_32, hf⟩ := nm_x hf
      refine sC_20 (J := J) X h32 eD_reach_32 dX1_clearSets_32 hP hS (fun H locs hP hS => ?_)
      refine lv_iload_n X.1 X.2.1 dX1_clearSets_33 rfl (lv_at hl 1 rfl) ?_
      obtain ⟨r34, ho, hf⟩ := b1_s hf
      refine call_si (rest := []) X (c_X1_nextAsLarge x2 ho) q_3_76 q_3_77 q_1_5 q_3_78 ok_X1_nextAsLarge rfl ⟨Nat.le_of_ble_eq_true rfl, Nat.le_of_ble_eq_true rfl⟩ rfl rfl hl.1 rfl (Nat.le_of_ble_eq_true rfl) dX1_clearSets_34 hP hS (fun H locs hP hS => ?_)
      refine lv_istore_n (lv' := [(2, .int r34), (0, .ref (a 17)), (3, .int x3)]) X.1 X.2.1 dX1_clearSets_37 rfl hl (by decide) rfl (fun ls hl => ?_)
      obtain ⟨x38, ex38, hf⟩ := nm_x hf
      refine lv_iinc (v := x38) (lv' := [(3, .int x38), (2, .int r34), (0, .ref (a 17))]) X.1 X.2.1 dX1_clearSets_38 hl (k := 2) rfl ex38 (by decide) rfl (fun ls hl => ?_)
      refine lv_goto (tgt := 8) X.1 X.2.1 dX1_clearSets_41 (by decide) ?_
      exact kh8 (va_up J 5 D_reach_32) r34 x38 H locs ls hf (frm_up hfJ (by decide)) hP hS (lv_sub hl [2, 1, 0] rfl)
set_option maxRecDepth 100000 in
theorem t_X1_clearSets_b8 {p : Program} {l : Launch} {e : Env} {s : State} {m : MethodId} {args : Array Value} {below : List Frame} {meth : Method} {c : Code} {D : va_G} {a : Nat → Nat} {kc : Nat → ClassId} (X : cx 44 p s m args meth c D (tyC kc) a cX1_clearSets 4 RX1 none) {F : Nat → Int32} {G : Nat → Int64} {I : Nat → Nat → Int32} {Z : Nat → Nat → Nat → Int32} {Jf : Nat → Nat → Int64}  :
    ∀ (n : Nat) (J : Nat → Nat → Int64) (x2 : Int32) (x3 : Int32) (H : Heap) (locs : List Loc) (ls : Array Slot), p_X1_clearSets_b8 n (F 0) (J 5) x2 x3 = some (Jf 5) → (∀ k, k ∉ ([5] : List Nat) → Jf k = J k) → va_P D vwCl (wC a kc F G I J Z) H → va_S (ad a 44 s.heap.size) s.heap H locs → lv_has ls 4 [(0, .ref (a 17)), (2, .int x2), (3, .int x3)] → W p l e rm_X1_clearSets s m args below meth c H locs 0 0 (MQ below (Qv D (wC a kc F G I Jf Z) (ad a 44 s.heap.size)) args s 0 0 (ad a 44 s.heap.size)) (F0 m 8 ls []) := by
  intro n
  induction n with
  | zero => intro J x2 x3 H locs ls hf hfJ hP hS hl; exact (nos hf).elim
  | succ n ih => exact t_X1_clearSets_b8x X ih
set_option maxHeartbeats 4000000 in
set_option maxRecDepth 100000 in
theorem t_X1_clearSets_b0 {p : Program} {l : Launch} {e : Env} {s : State} {m : MethodId} {args : Array Value} {below : List Frame} {meth : Method} {c : Code} {D : va_G} {a : Nat → Nat} {kc : Nat → ClassId} (X : cx 44 p s m args meth c D (tyC kc) a cX1_clearSets 4 RX1 none) {F : Nat → Int32} {G : Nat → Int64} {I : Nat → Nat → Int32} {Z : Nat → Nat → Nat → Int32} {Jf : Nat → Nat → Int64}  :
    ∀ (J : Nat → Nat → Int64) (x1 : Int32) (H : Heap) (locs : List Loc) (ls : Array Slot), p_X1_clearSets_b0 (F 0) (J 5) x1 = some (Jf 5) → (∀ k, k ∉ ([5] : List Nat) → Jf k = J k) → va_P D vwCl (wC a kc F G I J Z) H → va_S (ad a 44 s.heap.size) s.heap H locs → lv_has ls 4 [(0, .ref (a 17)), (1, .int x1)] → W p l e rm_X1_clearSets s m args below meth c H locs 0 0 (MQ below (Qv D (wC a kc F G I Jf Z) (ad a 44 s.heap.size)) args s 0 0 (ad a 44 s.heap.size)) (F0 m 0 ls []) := by
  intro J x1 H locs ls hf hfJ hP hS hl
  unfold p_X1_clearSets_b0 at hf
  refine lv_iconst (v := 1) X.1 X.2.1 dX1_clearSets_0 (by decide) ?_
  refine lv_iload_n X.1 X.2.1 dX1_clearSets_1 rfl (lv_at hl 1 rfl) ?_
  refine lv_ishl X.1 X.2.1 dX1_clearSets_2 ?_
  refine lv_iconst (v := 1) X.1 X.2.1 dX1_clearSets_3 (by decide) ?_
  refine lv_isub X.1 X.2.1 dX1_clearSets_4 ?_
  refine nm_i hf (fun x5 hf => ?_)
  refine lv_istore_n (lv' := [(2, .int x5), (0, .ref (a 17)), (1, .int x1)]) X.1 X.2.1 dX1_clearSets_5 rfl hl (by decide) rfl (fun ls hl => ?_)
  refine lv_iconst (v := 0) X.1 X.2.1 dX1_clearSets_6 (by decide) ?_
  refine lv_istore_n (lv' := [(3, .int 0), (2, .int x5), (0, .ref (a 17)), (1, .int x1)]) X.1 X.2.1 dX1_clearSets_7 rfl hl (by decide) rfl (fun ls hl => ?_)
  exact t_X1_clearSets_b8 X 4096 J x5 0 H locs ls hf hfJ hP hS (lv_sub hl [2, 1, 0] rfl)
set_option maxRecDepth 100000 in
theorem c_X1_clearSets {l : Launch} {D : va_G} {a : Nat → Nat} {kc : Nat → ClassId} (F : Nat → Int32) (G : Nat → Int64) (I : Nat → Nat → Int32) (J : Nat → Nat → Int64) (Z : Nat → Nat → Nat → Int32) (hAp : ∀ i j, i < 44 → j < 44 → a i = a j → i = j) (x1 : Int32) {o0 : Nat → Int64} (hf : p_X1_clearSets (F 0) (J 5) x1 = some o0) : Ct 44 l yX1_clearSets cX1_clearSets 4 none rm_X1_clearSets D (tyC kc) a (wC a kc F G I J Z) [.ref (a 17), .int x1] (Qv D (wC a kc F G I (va_up J 5 o0) Z)) :=
  Ct.of (by decide +kernel) hAp (Nat.le_of_ble_eq_true rfl) (fun p e s m args below meth c ls X hP hl => t_X1_clearSets_b0 X J x1 _ _ _ hf (frm_ul (fun k _ => rfl) (by decide)) hP va_S.rf hl)
abbrev rm_X1_copyTaken : Room := { frames := 0, cells := 0, slots := 0, locals := 0 }
set_option maxHeartbeats 4000000 in
set_option maxRecDepth 100000 in
theorem t_X1_copyTaken_b7x {p : Program} {l : Launch} {e : Env} {s : State} {m : MethodId} {args : Array Value} {below : List Frame} {meth : Method} {c : Code} {D : va_G} {a : Nat → Nat} {kc : Nat → ClassId} (X : cx 44 p s m args meth c D (tyC kc) a cX1_copyTaken 4 RX1 none) {F : Nat → Int32} {G : Nat → Int64} {I : Nat → Nat → Int32} {Z : Nat → Nat → Nat → Int32} {Jf : Nat → Nat → Int64}  {K7 : (Nat → Int64) → Int32 → Int32 → Option ((Nat → Int64))} (kh7 : ∀ (J : Nat → Nat → Int64) (x2 : Int32) (x3 : Int32) (H : Heap) (locs : List Loc) (ls : Array Slot), K7 (J 6) x2 x3 = some (Jf 6) → (∀ k, k ∉ ([6] : List Nat) → Jf k = J k) → va_P D vwCl (wC a kc F G I J Z) H → va_S (ad a 44 s.heap.size) s.heap H locs → lv_has ls 4 [(0, .ref (a 17)), (2, .int x2), (3, .int x3)] → W p l e rm_X1_copyTaken s m args below meth c H locs 0 0 (MQ below (Qv D (wC a kc F G I Jf Z) (ad a 44 s.heap.size)) args s 0 0 (ad a 44 s.heap.size)) (F0 m 7 ls [])) :
    ∀ (J : Nat → Nat → Int64) (x2 : Int32) (x3 : Int32) (H : Heap) (locs : List Loc) (ls : Array Slot), p_X1_copyTaken_b7x K7 (J 6) x2 x3 = some (Jf 6) → (∀ k, k ∉ ([6] : List Nat) → Jf k = J k) → va_P D vwCl (wC a kc F G I J Z) H → va_S (ad a 44 s.heap.size) s.heap H locs → lv_has ls 4 [(0, .ref (a 17)), (2, .int x2), (3, .int x3)] → W p l e rm_X1_copyTaken s m args below meth c H locs 0 0 (MQ below (Qv D (wC a kc F G I Jf Z) (ad a 44 s.heap.size)) args s 0 0 (ad a 44 s.heap.size)) (F0 m 7 ls []) := by
  intro J x2 x3 H locs ls hf hfJ hP hS hl
  unfold p_X1_copyTaken_b7x at hf
  refine lv_iload_n X.1 X.2.1 dX1_copyTaken_7 rfl (lv_at hl 2 rfl) ?_
  refine lv_bipush (v := 8) X.1 X.2.1 dX1_copyTaken_8 (by decide) ?_
  refine lv_icmp_ge (tgt := 38) X.1 X.2.1 dX1_copyTaken_10 (by decide) (fun c10 => ?_) (fun c10 => ?_)
  · have hf := it_s hf c10
    have e0 := o1 hf
    have EJ : Jf = J := frm_eq hfJ (frm_c (e0).symm frm_n)
    exact ret_v X hS (by rw [EJ]; exact hP) dX1_copyTaken_38
  · have hf := ie_s hf c10
    refine lv_aload_n X.1 X.2.1 dX1_copyTaken_13 rfl (lv_at hl 0 rfl) ?_
    refine gC_17_6 X q_1_175 dX1_copyTaken_14 hP ?_
    refine lv_iload_n X.1 X.2.1 dX1_copyTaken_17 rfl (lv_at hl 1 rfl) ?_
    refine lv_bipush (v := 8) X.1 X.2.1 dX1_copyTaken_18 (by decide) ?_
    refine lv_iadd X.1 X.2.1 dX1_copyTaken_20 ?_
    refine lv_iload_n X.1 X.2.1 dX1_copyTaken_21 rfl (lv_at hl 2 rfl) ?_
    refine lv_iadd X.1 X.2.1 dX1_copyTaken_22 ?_
    refine lv_aload_n X.1 X.2.1 dX1_copyTaken_23 rfl (lv_at hl 0 rfl) ?_
    refine gC_17_6 X q_1_175 dX1_copyTaken_24 hP ?_
    refine lv_iload_n X.1 X.2.1 dX1_copyTaken_27 rfl (lv_at hl 1 rfl) ?_
    refine lv_iload_n X.1 X.2.1 dX1_copyTaken_28 rfl (lv_at hl 2 rfl) ?_
    refine lv_iadd X.1 X.2.1 dX1_copyTaken_29 ?_
    obtain ⟨h30, hf⟩ := gd_s hf
    refine lC_21 (J := J) X (f := (J 6)) rfl h30 dX1_copyTaken_30 hP ?_
    obtain ⟨h31, hf⟩ := gd_s hf
    obtain ⟨D_takenBehind_31, eD_takenBehind_31, hf⟩ := nm_x hf
    refine sC_21 (J := J) X h31 eD_takenBehind_31 dX1_copyTaken_31 hP hS (fun H locs hP hS => ?_)
    obtain ⟨x32, ex32, hf⟩ := nm_x hf
    refine lv_iinc (v := x32) (lv' := [(3, .int x32), (0, .ref (a 17)), (2, .int x2)]) X.1 X.2.1 dX1_copyTaken_32 hl (k := 2) rfl ex32 (by decide) rfl (fun ls hl => ?_)
    refine lv_goto (tgt := 7) X.1 X.2.1 dX1_copyTaken_35 (by decide) ?_
    exact kh7 (va_up J 6 D_takenBehind_31) x2 x32 H locs ls hf (frm_up hfJ (by decide)) hP hS (lv_sub hl [1, 2, 0] rfl)
set_option maxRecDepth 100000 in
theorem t_X1_copyTaken_b7 {p : Program} {l : Launch} {e : Env} {s : State} {m : MethodId} {args : Array Value} {below : List Frame} {meth : Method} {c : Code} {D : va_G} {a : Nat → Nat} {kc : Nat → ClassId} (X : cx 44 p s m args meth c D (tyC kc) a cX1_copyTaken 4 RX1 none) {F : Nat → Int32} {G : Nat → Int64} {I : Nat → Nat → Int32} {Z : Nat → Nat → Nat → Int32} {Jf : Nat → Nat → Int64}  :
    ∀ (n : Nat) (J : Nat → Nat → Int64) (x2 : Int32) (x3 : Int32) (H : Heap) (locs : List Loc) (ls : Array Slot), p_X1_copyTaken_b7 n (J 6) x2 x3 = some (Jf 6) → (∀ k, k ∉ ([6] : List Nat) → Jf k = J k) → va_P D vwCl (wC a kc F G I J Z) H → va_S (ad a 44 s.heap.size) s.heap H locs → lv_has ls 4 [(0, .ref (a 17)), (2, .int x2), (3, .int x3)] → W p l e rm_X1_copyTaken s m args below meth c H locs 0 0 (MQ below (Qv D (wC a kc F G I Jf Z) (ad a 44 s.heap.size)) args s 0 0 (ad a 44 s.heap.size)) (F0 m 7 ls []) := by
  intro n
  induction n with
  | zero => intro J x2 x3 H locs ls hf hfJ hP hS hl; exact (nos hf).elim
  | succ n ih => exact t_X1_copyTaken_b7x X ih
set_option maxHeartbeats 4000000 in
set_option maxRecDepth 100000 in
theorem t_X1_copyTaken_b0 {p : Program} {l : Launch} {e : Env} {s : State} {m : MethodId} {args : Array Value} {below : List Frame} {meth : Method} {c : Code} {D : va_G} {a : Nat → Nat} {kc : Nat → ClassId} (X : cx 44 p s m args meth c D (tyC kc) a cX1_copyTaken 4 RX1 none) {F : Nat → Int32} {G : Nat → Int64} {I : Nat → Nat → Int32} {Z : Nat → Nat → Nat → Int32} {Jf : Nat → Nat → Int64}  :
    ∀ (J : Nat → Nat → Int64) (x1 : Int32) (H : Heap) (locs : List Loc) (ls : Array Slot), p_X1_copyTaken_b0 (J 6) x1 = some (Jf 6) → (∀ k, k ∉ ([6] : List Nat) → Jf k = J k) → va_P D vwCl (wC a kc F G I J Z) H → va_S (ad a 44 s.heap.size) s.heap H locs → lv_has ls 4 [(0, .ref (a 17)), (1, .int x1)] → W p l e rm_X1_copyTaken s m args below meth c H locs 0 0 (MQ below (Qv D (wC a kc F G I Jf Z) (ad a 44 s.heap.size)) args s 0 0 (ad a 44 s.heap.size)) (F0 m 0 ls []) := by
  intro J x1 H locs ls hf hfJ hP hS hl
  unfold p_X1_copyTaken_b0 at hf
  refine lv_iload_n X.1 X.2.1 dX1_copyTaken_0 rfl (lv_at hl 1 rfl) ?_
  refine lv_bipush (v := 8) X.1 X.2.1 dX1_copyTaken_1 (by decide) ?_
  refine lv_imul X.1 X.2.1 dX1_copyTaken_3 ?_
  refine nm_i hf (fun x4 hf => ?_)
  refine lv_istore_n (lv' := [(2, .int x4), (0, .ref (a 17)), (1, .int x1)]) X.1 X.2.1 dX1_copyTaken_4 rfl hl (by decide) rfl (fun ls hl => ?_)
  refine lv_iconst (v := 0) X.1 X.2.1 dX1_copyTaken_5 (by decide) ?_
  refine lv_istore_n (lv' := [(3, .int 0), (2, .int x4), (0, .ref (a 17)), (1, .int x1)]) X.1 X.2.1 dX1_copyTaken_6 rfl hl (by decide) rfl (fun ls hl => ?_)
  exact t_X1_copyTaken_b7 X 4096 J x4 0 H locs ls hf hfJ hP hS (lv_sub hl [2, 1, 0] rfl)
set_option maxRecDepth 100000 in
theorem c_X1_copyTaken {l : Launch} {D : va_G} {a : Nat → Nat} {kc : Nat → ClassId} (F : Nat → Int32) (G : Nat → Int64) (I : Nat → Nat → Int32) (J : Nat → Nat → Int64) (Z : Nat → Nat → Nat → Int32) (hAp : ∀ i j, i < 44 → j < 44 → a i = a j → i = j) (x1 : Int32) {o0 : Nat → Int64} (hf : p_X1_copyTaken (J 6) x1 = some o0) : Ct 44 l yX1_copyTaken cX1_copyTaken 4 none rm_X1_copyTaken D (tyC kc) a (wC a kc F G I J Z) [.ref (a 17), .int x1] (Qv D (wC a kc F G I (va_up J 6 o0) Z)) :=
  Ct.of (by decide +kernel) hAp (Nat.le_of_ble_eq_true rfl) (fun p e s m args below meth c ls X hP hl => t_X1_copyTaken_b0 X J x1 _ _ _ hf (frm_ul (fun k _ => rfl) (by decide)) hP va_S.rf hl)
abbrev rm_X1_spread : Room := { frames := 1, cells := 0, slots := 0, locals := 21 }
set_option maxHeartbeats 4000000 in
set_option maxRecDepth 100000 in
theorem t_X1_spread_b78 {p : Program} {l : Launch} {e : Env} {s : State} {m : MethodId} {args : Array Value} {below : List Frame} {meth : Method} {c : Code} {D : va_G} {a : Nat → Nat} {kc : Nat → ClassId} (X : cx 44 p s m args meth c D (tyC kc) a cX1_spread 8 RX1 none) {F : Nat → Int32} {G : Nat → Int64} {I : Nat → Nat → Int32} {Z : Nat → Nat → Nat → Int32} {Jf : Nat → Nat → Int64}  {K27 : Int32 → (Nat → Int64) → (Nat → Int64) → Int32 → Int32 → Int32 → Int64 → Int32 → Option ((Nat → Int64) × (Nat → Int64))} (kh27 : ∀ (J : Nat → Nat → Int64) (x1 : Int32) (x2 : Int32) (x3 : Int32) (x5 : Int64) (x7 : Int32) (H : Heap) (locs : List Loc) (ls : Array Slot), K27 (F 0) (J 5) (J 6) x1 x2 x3 x5 x7 = some ((Jf 5), (Jf 6)) → (∀ k, k ∉ ([5, 6] : List Nat) → Jf k = J k) → va_P D vwCl (wC a kc F G I J Z) H → va_S (ad a 44 s.heap.size) s.heap H locs → lv_has ls 8 [(0, .ref (a 17)), (1, .int x1), (2, .int x2), (3, .int x3), (5, .long x5), (7, .int x7)] → W p l e rm_X1_spread s m args below meth c H locs 0 0 (MQ below (Qv D (wC a kc F G I Jf Z) (ad a 44 s.heap.size)) args s 0 0 (ad a 44 s.heap.size)) (F0 m 27 ls [])) :
    ∀ (J : Nat → Nat → Int64) (x1 : Int32) (x2 : Int32) (x3 : Int32) (x5 : Int64) (x7 : Int32) (H : Heap) (locs : List Loc) (ls : Array Slot), p_X1_spread_b78 K27 (F 0) (J 5) (J 6) x1 x2 x3 x5 x7 = some ((Jf 5), (Jf 6)) → (∀ k, k ∉ ([5, 6] : List Nat) → Jf k = J k) → va_P D vwCl (wC a kc F G I J Z) H → va_S (ad a 44 s.heap.size) s.heap H locs → lv_has ls 8 [(0, .ref (a 17)), (1, .int x1), (2, .int x2), (3, .int x3), (5, .long x5), (7, .int x7)] → W p l e rm_X1_spread s m args below meth c H locs 0 0 (MQ below (Qv D (wC a kc F G I Jf Z) (ad a 44 s.heap.size)) args s 0 0 (ad a 44 s.heap.size)) (F0 m 78 ls []) := by
  intro J x1 x2 x3 x5 x7 H locs ls hf hfJ hP hS hl
  unfold p_X1_spread_b78 at hf
  obtain ⟨x78, ex78, hf⟩ := nm_x hf
  refine lv_iinc (v := x78) (lv' := [(7, .int x78), (0, .ref (a 17)), (1, .int x1), (2, .int x2), (3, .int x3), (5, .long x5)]) X.1 X.2.1 dX1_spread_78 hl (k := 5) rfl ex78 (by decide) rfl (fun ls hl => ?_)
  refine lv_goto (tgt := 27) X.1 X.2.1 dX1_spread_81 (by decide) ?_
  exact kh27 J x1 x2 x3 x5 x78 H locs ls hf hfJ hP hS (lv_sub hl [1, 2, 3, 4, 5, 0] rfl)
set_option maxHeartbeats 4000000 in
set_option maxRecDepth 100000 in
theorem t_X1_spread_b27x {p : Program} {l : Launch} {e : Env} {s : State} {m : MethodId} {args : Array Value} {below : List Frame} {meth : Method} {c : Code} {D : va_G} {a : Nat → Nat} {kc : Nat → ClassId} (X : cx 44 p s m args meth c D (tyC kc) a cX1_spread 8 RX1 none) {F : Nat → Int32} {G : Nat → Int64} {I : Nat → Nat → Int32} {Z : Nat → Nat → Nat → Int32} {Jf : Nat → Nat → Int64}  {K27 : Int32 → (Nat → Int64) → (Nat → Int64) → Int32 → Int32 → Int32 → Int64 → Int32 → Option ((Nat → Int64) × (Nat → Int64))} (kh27 : ∀ (J : Nat → Nat → Int64) (x1 : Int32) (x2 : Int32) (x3 : Int32) (x5 : Int64) (x7 : Int32) (H : Heap) (locs : List Loc) (ls : Array Slot), K27 (F 0) (J 5) (J 6) x1 x2 x3 x5 x7 = some ((Jf 5), (Jf 6)) → (∀ k, k ∉ ([5, 6] : List Nat) → Jf k = J k) → va_P D vwCl (wC a kc F G I J Z) H → va_S (ad a 44 s.heap.size) s.heap H locs → lv_has ls 8 [(0, .ref (a 17)), (1, .int x1), (2, .int x2), (3, .int x3), (5, .long x5), (7, .int x7)] → W p l e rm_X1_spread s m args below meth c H locs 0 0 (MQ below (Qv D (wC a kc F G I Jf Z) (ad a 44 s.heap.size)) args s 0 0 (ad a 44 s.heap.size)) (F0 m 27 ls [])) :
    ∀ (J : Nat → Nat → Int64) (x1 : Int32) (x2 : Int32) (x3 : Int32) (x5 : Int64) (x7 : Int32) (H : Heap) (locs : List Loc) (ls : Array Slot), p_X1_spread_b27x K27 (F 0) (J 5) (J 6) x1 x2 x3 x5 x7 = some ((Jf 5), (Jf 6)) → (∀ k, k ∉ ([5, 6] : List Nat) → Jf k = J k) → va_P D vwCl (wC a kc F G I J Z) H → va_S (ad a 44 s.heap.size) s.heap H locs → lv_has ls 8 [(0, .ref (a 17)), (1, .int x1), (2, .int x2), (3, .int x3), (5, .long x5), (7, .int x7)] → W p l e rm_X1_spread s m args below meth c H locs 0 0 (MQ below (Qv D (wC a kc F G I Jf Z) (ad a 44 s.heap.size)) args s 0 0 (ad a 44 s.heap.size)) (F0 m 27 ls []) := by
  intro J x1 x2 x3 x5 x7 H locs ls hf hfJ hP hS hl
  unfold p_X1_spread_b27x at hf
  refine lv_iload X.1 X.2.1 dX1_spread_27 (lv_at hl 5 rfl) ?_
  refine lv_aload_n X.1 X.2.1 dX1_spread_29 rfl (lv_at hl 0 rfl) ?_
  refine gC_17_3 X q_1_172 dX1_spread_30 hP ?_
  refine gC_0_8 (F := F) X (v := (F 0)) rfl q_1_83 dX1_spread_33 hP ?_
  refine lv_icmp_ge (tgt := 84) X.1 X.2.1 dX1_spread_36 (by decide) (fun c36 => ?_) (fun c36 => ?_)
  · have hf := it_s hf c36
    obtain ⟨e0, hf⟩ := o2 hf
    have e1 := o1 hf
    have EJ : Jf = J := frm_eq hfJ (frm_c (e0).symm (frm_c (e1).symm frm_n))
    exact ret_v X hS (by rw [EJ]; exact hP) dX1_spread_84
  · have hf := ie_s hf c36
    refine lv_iload_n X.1 X.2.1 dX1_spread_39 rfl (lv_at hl 2 rfl) ?_
    refine lv_iload X.1 X.2.1 dX1_spread_40 (lv_at hl 5 rfl) ?_
    obtain ⟨r42, ho, hf⟩ := b1_s hf
    refine call_si (rest := []) X (c_X3_has x2 x7 ho) q_3_46 q_2_178 q_1_2 q_2_179 ok_X3_has rfl ⟨Nat.le_of_ble_eq_true rfl, Nat.le_of_ble_eq_true rfl⟩ rfl rfl hl.1 rfl (Nat.le_of_ble_eq_true rfl) dX1_spread_42 hP hS (fun H locs hP hS => ?_)
    refine lv_if_eq (tgt := 78) X.1 X.2.1 dX1_spread_45 (by decide) (fun c45 => ?_) (fun c45 => ?_)
    · have hf := it_s hf c45
      exact t_X1_spread_b78 X kh27 J x1 x2 x3 x5 x7 H locs ls hf hfJ hP hS (lv_sub hl [0, 1, 2, 3, 4, 5] rfl)
    · have hf := ie_s hf c45
      refine lv_aload_n X.1 X.2.1 dX1_spread_48 rfl (lv_at hl 0 rfl) ?_
      refine gC_17_5 X q_1_174 dX1_spread_49 hP ?_
      refine lv_iload_n X.1 X.2.1 dX1_spread_52 rfl (lv_at hl 1 rfl) ?_
      refine lv_iconst (v := 1) X.1 X.2.1 dX1_spread_53 (by decide) ?_
      refine lv_iload X.1 X.2.1 dX1_spread_54 (lv_at hl 5 rfl) ?_
      refine lv_ishl X.1 X.2.1 dX1_spread_56 ?_
      refine lv_ior X.1 X.2.1 dX1_spread_57 ?_
      refine lv_dup2_11 X.1 X.2.1 dX1_spread_58 rfl rfl ?_
      obtain ⟨h59, hf⟩ := gd_s hf
      refine lC_20 (J := J) X (f := (J 5)) rfl h59 dX1_spread_59 hP ?_
      refine lv_lload X.1 X.2.1 dX1_spread_60 (lv_at hl 4 rfl) ?_
      refine lv_ladd X.1 X.2.1 dX1_spread_62 ?_
      obtain ⟨h63, hf⟩ := gd_s hf
      obtain ⟨D_reach_63, eD_reach_63, hf⟩ := nm_x hf
      refine sC_20 (J := J) X h63 eD_reach_63 dX1_spread_63 hP hS (fun H locs hP hS => ?_)
      refine lv_aload_n X.1 X.2.1 dX1_spread_64 rfl (lv_at hl 0 rfl) ?_
      refine gC_17_6 X q_1_175 dX1_spread_65 hP ?_
      refine lv_iload_n X.1 X.2.1 dX1_spread_68 rfl (lv_at hl 3 rfl) ?_
      refine lv_iload X.1 X.2.1 dX1_spread_69 (lv_at hl 5 rfl) ?_
      refine lv_iadd X.1 X.2.1 dX1_spread_71 ?_
      refine lv_dup2_11 X.1 X.2.1 dX1_spread_72 rfl rfl ?_
      obtain ⟨h73, hf⟩ := gd_s hf
      refine lC_21 (J := (va_up J 5 D_reach_63)) X (f := (J 6)) rfl h73 dX1_spread_73 hP ?_
      refine lv_lload X.1 X.2.1 dX1_spread_74 (lv_at hl 4 rfl) ?_
      refine lv_ladd X.1 X.2.1 dX1_spread_76 ?_
      obtain ⟨h77, hf⟩ := gd_s hf
      obtain ⟨D_takenBehind_77, eD_takenBehind_77, hf⟩ := nm_x hf
      refine sC_21 (J := (va_up J 5 D_reach_63)) X h77 eD_takenBehind_77 dX1_spread_77 hP hS (fun H locs hP hS => ?_)
      exact t_X1_spread_b78 X kh27 (va_up (va_up J 5 D_reach_63) 6 D_takenBehind_77) x1 x2 x3 x5 x7 H locs ls hf (frm_up (frm_up hfJ (by decide)) (by decide)) hP hS (lv_sub hl [0, 1, 2, 3, 4, 5] rfl)
set_option maxRecDepth 100000 in
theorem t_X1_spread_b27 {p : Program} {l : Launch} {e : Env} {s : State} {m : MethodId} {args : Array Value} {below : List Frame} {meth : Method} {c : Code} {D : va_G} {a : Nat → Nat} {kc : Nat → ClassId} (X : cx 44 p s m args meth c D (tyC kc) a cX1_spread 8 RX1 none) {F : Nat → Int32} {G : Nat → Int64} {I : Nat → Nat → Int32} {Z : Nat → Nat → Nat → Int32} {Jf : Nat → Nat → Int64}  :
    ∀ (n : Nat) (J : Nat → Nat → Int64) (x1 : Int32) (x2 : Int32) (x3 : Int32) (x5 : Int64) (x7 : Int32) (H : Heap) (locs : List Loc) (ls : Array Slot), p_X1_spread_b27 n (F 0) (J 5) (J 6) x1 x2 x3 x5 x7 = some ((Jf 5), (Jf 6)) → (∀ k, k ∉ ([5, 6] : List Nat) → Jf k = J k) → va_P D vwCl (wC a kc F G I J Z) H → va_S (ad a 44 s.heap.size) s.heap H locs → lv_has ls 8 [(0, .ref (a 17)), (1, .int x1), (2, .int x2), (3, .int x3), (5, .long x5), (7, .int x7)] → W p l e rm_X1_spread s m args below meth c H locs 0 0 (MQ below (Qv D (wC a kc F G I Jf Z) (ad a 44 s.heap.size)) args s 0 0 (ad a 44 s.heap.size)) (F0 m 27 ls []) := by
  intro n
  induction n with
  | zero => intro J x1 x2 x3 x5 x7 H locs ls hf hfJ hP hS hl; exact (nos hf).elim
  | succ n ih => exact t_X1_spread_b27x X ih
set_option maxHeartbeats 4000000 in
set_option maxRecDepth 100000 in
theorem t_X1_spread_b0 {p : Program} {l : Launch} {e : Env} {s : State} {m : MethodId} {args : Array Value} {below : List Frame} {meth : Method} {c : Code} {D : va_G} {a : Nat → Nat} {kc : Nat → ClassId} (X : cx 44 p s m args meth c D (tyC kc) a cX1_spread 8 RX1 none) {F : Nat → Int32} {G : Nat → Int64} {I : Nat → Nat → Int32} {Z : Nat → Nat → Nat → Int32} {Jf : Nat → Nat → Int64}  :
    ∀ (J : Nat → Nat → Int64) (x1 : Int32) (x2 : Int32) (x3 : Int32) (H : Heap) (locs : List Loc) (ls : Array Slot), p_X1_spread_b0 (F 0) (J 5) (J 6) x1 x2 x3 = some ((Jf 5), (Jf 6)) → (∀ k, k ∉ ([5, 6] : List Nat) → Jf k = J k) → va_P D vwCl (wC a kc F G I J Z) H → va_S (ad a 44 s.heap.size) s.heap H locs → lv_has ls 8 [(0, .ref (a 17)), (1, .int x1), (2, .int x2), (3, .int x3)] → W p l e rm_X1_spread s m args below meth c H locs 0 0 (MQ below (Qv D (wC a kc F G I Jf Z) (ad a 44 s.heap.size)) args s 0 0 (ad a 44 s.heap.size)) (F0 m 0 ls []) := by
  intro J x1 x2 x3 H locs ls hf hfJ hP hS hl
  unfold p_X1_spread_b0 at hf
  refine lv_iload_n X.1 X.2.1 dX1_spread_0 rfl (lv_at hl 2 rfl) ?_
  obtain ⟨r1, ho, hf⟩ := b1_s hf
  refine call_si (rest := []) X (c_J6_bitCount_0f7a4 x2 ho) q_3_88 q_2_164 q_1_11 q_2_165 ok_J6_bitCount_0f7a4 rfl ⟨Nat.le_of_ble_eq_true rfl, Nat.le_of_ble_eq_true rfl⟩ rfl rfl hl.1 rfl (Nat.le_of_ble_eq_true rfl) dX1_spread_1 hP hS (fun H locs hP hS => ?_)
  refine lv_istore (lv' := [(4, .int r1), (0, .ref (a 17)), (1, .int x1), (2, .int x2), (3, .int x3)]) X.1 X.2.1 dX1_spread_4 hl (by decide) rfl (fun ls hl => ?_)
  refine lv_iload X.1 X.2.1 dX1_spread_6 (lv_at hl 0 rfl) ?_
  refine lv_if_ne (tgt := 12) X.1 X.2.1 dX1_spread_8 (by decide) (fun c8 => ?_) (fun c8 => ?_)
  · have hf := ie_s hf c8
    refine lv_aload_n X.1 X.2.1 dX1_spread_12 rfl (lv_at hl 1 rfl) ?_
    refine gC_17_5 X q_1_174 dX1_spread_13 hP ?_
    refine lv_iload_n X.1 X.2.1 dX1_spread_16 rfl (lv_at hl 2 rfl) ?_
    obtain ⟨h17, hf⟩ := gd_s hf
    refine lC_20 (J := J) X (f := (J 5)) rfl h17 dX1_spread_17 hP ?_
    refine lv_iload X.1 X.2.1 dX1_spread_18 (lv_at hl 0 rfl) ?_
    refine lv_i2l X.1 X.2.1 dX1_spread_20 rfl ?_
    obtain ⟨h21, hf⟩ := gd_s hf
    refine lv_ldiv X.1 X.2.1 dX1_spread_21 (of_decide_eq_true h21) ?_
    refine nm_l hf (fun x22 hf => ?_)
    refine lv_lstore (lv' := [(5, .long x22), (4, .int r1), (0, .ref (a 17)), (1, .int x1), (2, .int x2), (3, .int x3)]) X.1 X.2.1 dX1_spread_22 hl (by decide) rfl (fun ls hl => ?_)
    refine lv_iconst (v := 0) X.1 X.2.1 dX1_spread_24 (by decide) ?_
    refine lv_istore (lv' := [(7, .int 0), (5, .long x22), (4, .int r1), (0, .ref (a 17)), (1, .int x1), (2, .int x2), (3, .int x3)]) X.1 X.2.1 dX1_spread_25 hl (by decide) rfl (fun ls hl => ?_)
    exact t_X1_spread_b27 X 4096 J x1 x2 x3 x22 0 H locs ls hf hfJ hP hS (lv_sub hl [3, 4, 5, 6, 1, 0] rfl)
  · have hf := it_s hf c8
    obtain ⟨e0, hf⟩ := o2 hf
    have e1 := o1 hf
    have EJ : Jf = J := frm_eq hfJ (frm_c (e0).symm (frm_c (e1).symm frm_n))
    exact ret_v X hS (by rw [EJ]; exact hP) dX1_spread_11
set_option maxRecDepth 100000 in
theorem c_X1_spread {l : Launch} {D : va_G} {a : Nat → Nat} {kc : Nat → ClassId} (F : Nat → Int32) (G : Nat → Int64) (I : Nat → Nat → Int32) (J : Nat → Nat → Int64) (Z : Nat → Nat → Nat → Int32) (hAp : ∀ i j, i < 44 → j < 44 → a i = a j → i = j) (x1 : Int32) (x2 : Int32) (x3 : Int32) {o0 : Nat → Int64} {o1 : Nat → Int64} (hf : p_X1_spread (F 0) (J 5) (J 6) x1 x2 x3 = some (o0, o1)) : Ct 44 l yX1_spread cX1_spread 8 none rm_X1_spread D (tyC kc) a (wC a kc F G I J Z) [.ref (a 17), .int x1, .int x2, .int x3] (Qv D (wC a kc F G I (va_up (va_up J 5 o0) 6 o1) Z)) :=
  Ct.of (by decide +kernel) hAp (Nat.le_of_ble_eq_true rfl) (fun p e s m args below meth c ls X hP hl => t_X1_spread_b0 X J x1 x2 x3 _ _ _ hf (frm_ul (frm_ul (fun k _ => rfl) (by decide)) (by decide)) hP va_S.rf hl)
abbrev rm_X1_seatNext : Room := { frames := 2, cells := 0, slots := 0, locals := 50 }
set_option maxHeartbeats 4000000 in
set_option maxRecDepth 100000 in
theorem t_X1_seatNext_b103 {p : Program} {l : Launch} {e : Env} {s : State} {m : MethodId} {args : Array Value} {below : List Frame} {meth : Method} {c : Code} {D : va_G} {a : Nat → Nat} {kc : Nat → ClassId} (X : cx 44 p s m args meth c D (tyC kc) a cX1_seatNext 6 RX1 none) {F : Nat → Int32} {G : Nat → Int64} {I : Nat → Nat → Int32} {Z : Nat → Nat → Nat → Int32} {Jf : Nat → Nat → Int64}  :
    ∀ (J : Nat → Nat → Int64)  (H : Heap) (locs : List Loc) (ls : Array Slot), p_X1_seatNext_b103 (F 0) (I 2) (I 4) (I 5) (I 6) (J 5) (J 6)  = some ((Jf 5), (Jf 6)) → (∀ k, k ∉ ([5, 6] : List Nat) → Jf k = J k) → va_P D vwCl (wC a kc F G I J Z) H → va_S (ad a 44 s.heap.size) s.heap H locs → lv_has ls 6 [(0, .ref (a 17))] → W p l e rm_X1_seatNext s m args below meth c H locs 0 0 (MQ below (Qv D (wC a kc F G I Jf Z) (ad a 44 s.heap.size)) args s 0 0 (ad a 44 s.heap.size)) (F0 m 103 ls []) := by
  intro J  H locs ls hf hfJ hP hS hl
  unfold p_X1_seatNext_b103 at hf
  obtain ⟨e0, hf⟩ := o2 hf
  have e1 := o1 hf
  have EJ : Jf = J := frm_eq hfJ (frm_c (e0).symm (frm_c (e1).symm frm_n))
  exact ret_v X hS (by rw [EJ]; exact hP) dX1_seatNext_103
set_option maxHeartbeats 4000000 in
set_option maxRecDepth 100000 in
theorem t_X1_seatNext_b92 {p : Program} {l : Launch} {e : Env} {s : State} {m : MethodId} {args : Array Value} {below : List Frame} {meth : Method} {c : Code} {D : va_G} {a : Nat → Nat} {kc : Nat → ClassId} (X : cx 44 p s m args meth c D (tyC kc) a cX1_seatNext 6 RX1 none) {F : Nat → Int32} {G : Nat → Int64} {I : Nat → Nat → Int32} {Z : Nat → Nat → Nat → Int32} {Jf : Nat → Nat → Int64}  {K21 : Int32 → (Nat → Int32) → (Nat → Int32) → (Nat → Int32) → (Nat → Int32) → (Nat → Int64) → (Nat → Int64) → Int32 → Int32 → Int32 → Int32 → Option ((Nat → Int64) × (Nat → Int64))} (kh21 : ∀ (J : Nat → Nat → Int64) (x1 : Int32) (x2 : Int32) (x3 : Int32) (x4 : Int32) (H : Heap) (locs : List Loc) (ls : Array Slot), K21 (F 0) (I 2) (I 4) (I 5) (I 6) (J 5) (J 6) x1 x2 x3 x4 = some ((Jf 5), (Jf 6)) → (∀ k, k ∉ ([5, 6] : List Nat) → Jf k = J k) → va_P D vwCl (wC a kc F G I J Z) H → va_S (ad a 44 s.heap.size) s.heap H locs → lv_has ls 6 [(0, .ref (a 17)), (1, .int x1), (2, .int x2), (3, .int x3), (4, .int x4)] → W p l e rm_X1_seatNext s m args below meth c H locs 0 0 (MQ below (Qv D (wC a kc F G I Jf Z) (ad a 44 s.heap.size)) args s 0 0 (ad a 44 s.heap.size)) (F0 m 21 ls [])) :
    ∀ (J : Nat → Nat → Int64) (x1 : Int32) (x2 : Int32) (x3 : Int32) (x4 : Int32) (H : Heap) (locs : List Loc) (ls : Array Slot), p_X1_seatNext_b92 K21 (F 0) (I 2) (I 4) (I 5) (I 6) (J 5) (J 6) x1 x2 x3 x4 = some ((Jf 5), (Jf 6)) → (∀ k, k ∉ ([5, 6] : List Nat) → Jf k = J k) → va_P D vwCl (wC a kc F G I J Z) H → va_S (ad a 44 s.heap.size) s.heap H locs → lv_has ls 6 [(0, .ref (a 17)), (1, .int x1), (2, .int x2), (3, .int x3), (4, .int x4)] → W p l e rm_X1_seatNext s m args below meth c H locs 0 0 (MQ below (Qv D (wC a kc F G I Jf Z) (ad a 44 s.heap.size)) args s 0 0 (ad a 44 s.heap.size)) (F0 m 92 ls []) := by
  intro J x1 x2 x3 x4 H locs ls hf hfJ hP hS hl
  unfold p_X1_seatNext_b92 at hf
  refine lv_iload_n X.1 X.2.1 dX1_seatNext_92 rfl (lv_at hl 3 rfl) ?_
  obtain ⟨r93, ho, hf⟩ := b1_s hf
  refine call_si (rest := []) X (c_X1_nextAsLarge x3 ho) q_3_76 q_3_77 q_1_5 q_3_78 ok_X1_nextAsLarge rfl ⟨Nat.le_of_ble_eq_true rfl, Nat.le_of_ble_eq_true rfl⟩ rfl rfl hl.1 rfl (Nat.le_of_ble_eq_true rfl) dX1_seatNext_93 hP hS (fun H locs hP hS => ?_)
  refine lv_istore_n (lv' := [(3, .int r93), (0, .ref (a 17)), (1, .int x1), (2, .int x2), (4, .int x4)]) X.1 X.2.1 dX1_seatNext_96 rfl hl (by decide) rfl (fun ls hl => ?_)
  obtain ⟨x97, ex97, hf⟩ := nm_x hf
  refine lv_iinc (v := x97) (lv' := [(4, .int x97), (3, .int r93), (0, .ref (a 17)), (1, .int x1), (2, .int x2)]) X.1 X.2.1 dX1_seatNext_97 hl (k := 4) rfl ex97 (by decide) rfl (fun ls hl => ?_)
  refine lv_goto (tgt := 21) X.1 X.2.1 dX1_seatNext_100 (by decide) ?_
  exact kh21 J x1 x2 r93 x97 H locs ls hf hfJ hP hS (lv_sub hl [2, 3, 4, 1, 0] rfl)
set_option maxHeartbeats 4000000 in
set_option maxRecDepth 100000 in
theorem t_X1_seatNext_b21x {p : Program} {l : Launch} {e : Env} {s : State} {m : MethodId} {args : Array Value} {below : List Frame} {meth : Method} {c : Code} {D : va_G} {a : Nat → Nat} {kc : Nat → ClassId} (X : cx 44 p s m args meth c D (tyC kc) a cX1_seatNext 6 RX1 none) {F : Nat → Int32} {G : Nat → Int64} {I : Nat → Nat → Int32} {Z : Nat → Nat → Nat → Int32} {Jf : Nat → Nat → Int64}  {K21 : Int32 → (Nat → Int32) → (Nat → Int32) → (Nat → Int32) → (Nat → Int32) → (Nat → Int64) → (Nat → Int64) → Int32 → Int32 → Int32 → Int32 → Option ((Nat → Int64) × (Nat → Int64))} (kh21 : ∀ (J : Nat → Nat → Int64) (x1 : Int32) (x2 : Int32) (x3 : Int32) (x4 : Int32) (H : Heap) (locs : List Loc) (ls : Array Slot), K21 (F 0) (I 2) (I 4) (I 5) (I 6) (J 5) (J 6) x1 x2 x3 x4 = some ((Jf 5), (Jf 6)) → (∀ k, k ∉ ([5, 6] : List Nat) → Jf k = J k) → va_P D vwCl (wC a kc F G I J Z) H → va_S (ad a 44 s.heap.size) s.heap H locs → lv_has ls 6 [(0, .ref (a 17)), (1, .int x1), (2, .int x2), (3, .int x3), (4, .int x4)] → W p l e rm_X1_seatNext s m args below meth c H locs 0 0 (MQ below (Qv D (wC a kc F G I Jf Z) (ad a 44 s.heap.size)) args s 0 0 (ad a 44 s.heap.size)) (F0 m 21 ls [])) :
    ∀ (J : Nat → Nat → Int64) (x1 : Int32) (x2 : Int32) (x3 : Int32) (x4 : Int32) (H : Heap) (locs : List Loc) (ls : Array Slot), p_X1_seatNext_b21x K21 (F 0) (I 2) (I 4) (I 5) (I 6) (J 5) (J 6) x1 x2 x3 x4 = some ((Jf 5), (Jf 6)) → (∀ k, k ∉ ([5, 6] : List Nat) → Jf k = J k) → va_P D vwCl (wC a kc F G I J Z) H → va_S (ad a 44 s.heap.size) s.heap H locs → lv_has ls 6 [(0, .ref (a 17)), (1, .int x1), (2, .int x2), (3, .int x3), (4, .int x4)] → W p l e rm_X1_seatNext s m args below meth c H locs 0 0 (MQ below (Qv D (wC a kc F G I Jf Z) (ad a 44 s.heap.size)) args s 0 0 (ad a 44 s.heap.size)) (F0 m 21 ls []) := by
  intro J x1 x2 x3 x4 H locs ls hf hfJ hP hS hl
  unfold p_X1_seatNext_b21x at hf
  refine lv_iload X.1 X.2.1 dX1_seatNext_21 (lv_at hl 4 rfl) ?_
  refine lv_sipush (v := 256) X.1 X.2.1 dX1_seatNext_23 (by decide) ?_
  refine lv_icmp_ge (tgt := 103) X.1 X.2.1 dX1_seatNext_26 (by decide) (fun c26 => ?_) (fun c26 => ?_)
  · have hf := it_s hf c26
    exact t_X1_seatNext_b103 X J  H locs ls hf hfJ hP hS (lv_sub hl [0] rfl)
  · have hf := ie_s hf c26
    refine lv_iload_n X.1 X.2.1 dX1_seatNext_29 rfl (lv_at hl 3 rfl) ?_
    refine lv_aload_n X.1 X.2.1 dX1_seatNext_30 rfl (lv_at hl 0 rfl) ?_
    refine gC_17_3 X q_1_172 dX1_seatNext_31 hP ?_
    obtain ⟨r34, ho, hf⟩ := b1_s hf
    refine call_vi (rest := [.int x3]) X (c_X3_allSeats F G I J Z X.2.2.2.2.2.2.2.1  ho) q_3_75 q_2_160 q_2_161 q_1_2 q_2_162 ok_X3_allSeats rfl 0 rfl rfl ⟨Nat.le_of_ble_eq_true rfl, Nat.le_of_ble_eq_true rfl⟩ rfl rfl hl.1 rfl (Nat.le_of_ble_eq_true rfl) dX1_seatNext_34 hP hS (fun H locs hP hS => ?_)
    refine lv_icmp_gt (tgt := 103) X.1 X.2.1 dX1_seatNext_37 (by decide) (fun c37 => ?_) (fun c37 => ?_)
    · have hf := it_s hf c37
      exact t_X1_seatNext_b103 X J  H locs ls hf hfJ hP hS (lv_sub hl [0] rfl)
    · have hf := ie_s hf c37
      refine lv_aload_n X.1 X.2.1 dX1_seatNext_40 rfl (lv_at hl 0 rfl) ?_
      refine gC_17_5 X q_1_174 dX1_seatNext_41 hP ?_
      refine lv_iload_n X.1 X.2.1 dX1_seatNext_44 rfl (lv_at hl 3 rfl) ?_
      obtain ⟨h45, hf⟩ := gd_s hf
      refine lC_20 (J := J) X (f := (J 5)) rfl h45 dX1_seatNext_45 hP ?_
      refine lv_lconst (v := 0) X.1 X.2.1 dX1_seatNext_46 (by decide) ?_
      refine W.lcmp X.1 X.2.1 dX1_seatNext_47 ?_
      refine lv_if_eq (tgt := 92) X.1 X.2.1 dX1_seatNext_48 (by decide) (fun c48 => ?_) (fun c48 => ?_)
      · have hf := it_s hf c48
        exact t_X1_seatNext_b92 X kh21 J x1 x2 x3 x4 H locs ls hf hfJ hP hS (lv_sub hl [0, 1, 2, 3, 4] rfl)
      · have hf := ie_s hf c48
        refine lv_aload_n X.1 X.2.1 dX1_seatNext_51 rfl (lv_at hl 0 rfl) ?_
        refine gC_17_3 X q_1_172 dX1_seatNext_52 hP ?_
        refine lv_iload_n X.1 X.2.1 dX1_seatNext_55 rfl (lv_at hl 3 rfl) ?_
        refine lv_aload_n X.1 X.2.1 dX1_seatNext_56 rfl (lv_at hl 0 rfl) ?_
        refine gC_17_3 X q_1_172 dX1_seatNext_57 hP ?_
        refine gC_0_6 X q_1_70 dX1_seatNext_60 hP ?_
        refine lv_iload_n X.1 X.2.1 dX1_seatNext_63 rfl (lv_at hl 2 rfl) ?_
        obtain ⟨h64, hf⟩ := gd_s hf
        refine lC_9 (I := I) X (f := (I 5)) rfl h64 dX1_seatNext_64 hP ?_
        refine lv_aload_n X.1 X.2.1 dX1_seatNext_65 rfl (lv_at hl 0 rfl) ?_
        refine gC_17_3 X q_1_172 dX1_seatNext_66 hP ?_
        refine gC_0_7 X q_1_74 dX1_seatNext_69 hP ?_
        refine lv_iload_n X.1 X.2.1 dX1_seatNext_72 rfl (lv_at hl 2 rfl) ?_
        obtain ⟨h73, hf⟩ := gd_s hf
        refine lC_10 (I := I) X (f := (I 6)) rfl h73 dX1_seatNext_73 hP ?_
        obtain ⟨r74, ho, hf⟩ := b1_s hf
        refine call_vi (rest := []) X (c_X3_choices F G I J Z X.2.2.2.2.2.2.2.1 x3 ((I 5) x2.toNatClampNeg) ((I 6) x2.toNatClampNeg) ho) q_3_83 q_2_181 q_2_182 q_1_2 q_2_183 ok_X3_choices rfl 0 rfl rfl ⟨Nat.le_of_ble_eq_true rfl, Nat.le_of_ble_eq_true rfl⟩ rfl rfl hl.1 rfl (Nat.le_of_ble_eq_true rfl) dX1_seatNext_74 hP hS (fun H locs hP hS => ?_)
        refine lv_istore (lv' := [(5, .int r74), (0, .ref (a 17)), (1, .int x1), (2, .int x2), (3, .int x3), (4, .int x4)]) X.1 X.2.1 dX1_seatNext_77 hl (by decide) rfl (fun ls hl => ?_)
        refine lv_aload_n X.1 X.2.1 dX1_seatNext_79 rfl (lv_at hl 1 rfl) ?_
        refine lv_iload_n X.1 X.2.1 dX1_seatNext_80 rfl (lv_at hl 4 rfl) ?_
        refine lv_iload X.1 X.2.1 dX1_seatNext_81 (lv_at hl 0 rfl) ?_
        refine lv_iload_n X.1 X.2.1 dX1_seatNext_83 rfl (lv_at hl 2 rfl) ?_
        refine lv_iconst (v := 1) X.1 X.2.1 dX1_seatNext_84 (by decide) ?_
        refine lv_iadd X.1 X.2.1 dX1_seatNext_85 ?_
        refine lv_bipush (v := 8) X.1 X.2.1 dX1_seatNext_86 (by decide) ?_
        refine lv_imul X.1 X.2.1 dX1_seatNext_88 ?_
        obtain ⟨D_reach_89, D_takenBehind_89, ho, hf⟩ := b2_s hf
        refine call_vv (rest := []) X (c_X1_spread F G I J Z X.2.2.2.2.2.2.2.1 x3 r74 ((x1 + 1) * 8) ho) q_3_84 q_3_86 qs_yX1_spread q_1_5 q_3_87 ok_X1_spread rfl 17 rfl rfl ⟨Nat.le_of_ble_eq_true rfl, Nat.le_of_ble_eq_true rfl⟩ rfl rfl hl.1 rfl (Nat.le_of_ble_eq_true rfl) dX1_seatNext_89 hP hS (fun H locs hP hS => ?_)
        exact t_X1_seatNext_b92 X kh21 (va_up (va_up J 5 D_reach_89) 6 D_takenBehind_89) x1 x2 x3 x4 H locs ls hf (frm_up (frm_up hfJ (by decide)) (by decide)) hP hS (lv_sub hl [1, 2, 3, 4, 5] rfl)
set_option maxRecDepth 100000 in
theorem t_X1_seatNext_b21 {p : Program} {l : Launch} {e : Env} {s : State} {m : MethodId} {args : Array Value} {below : List Frame} {meth : Method} {c : Code} {D : va_G} {a : Nat → Nat} {kc : Nat → ClassId} (X : cx 44 p s m args meth c D (tyC kc) a cX1_seatNext 6 RX1 none) {F : Nat → Int32} {G : Nat → Int64} {I : Nat → Nat → Int32} {Z : Nat → Nat → Nat → Int32} {Jf : Nat → Nat → Int64}  :
    ∀ (n : Nat) (J : Nat → Nat → Int64) (x1 : Int32) (x2 : Int32) (x3 : Int32) (x4 : Int32) (H : Heap) (locs : List Loc) (ls : Array Slot), p_X1_seatNext_b21 n (F 0) (I 2) (I 4) (I 5) (I 6) (J 5) (J 6) x1 x2 x3 x4 = some ((Jf 5), (Jf 6)) → (∀ k, k ∉ ([5, 6] : List Nat) → Jf k = J k) → va_P D vwCl (wC a kc F G I J Z) H → va_S (ad a 44 s.heap.size) s.heap H locs → lv_has ls 6 [(0, .ref (a 17)), (1, .int x1), (2, .int x2), (3, .int x3), (4, .int x4)] → W p l e rm_X1_seatNext s m args below meth c H locs 0 0 (MQ below (Qv D (wC a kc F G I Jf Z) (ad a 44 s.heap.size)) args s 0 0 (ad a 44 s.heap.size)) (F0 m 21 ls []) := by
  intro n
  induction n with
  | zero => intro J x1 x2 x3 x4 H locs ls hf hfJ hP hS hl; exact (nos hf).elim
  | succ n ih => exact t_X1_seatNext_b21x X ih
set_option maxHeartbeats 4000000 in
set_option maxRecDepth 100000 in
theorem t_X1_seatNext_b0 {p : Program} {l : Launch} {e : Env} {s : State} {m : MethodId} {args : Array Value} {below : List Frame} {meth : Method} {c : Code} {D : va_G} {a : Nat → Nat} {kc : Nat → ClassId} (X : cx 44 p s m args meth c D (tyC kc) a cX1_seatNext 6 RX1 none) {F : Nat → Int32} {G : Nat → Int64} {I : Nat → Nat → Int32} {Z : Nat → Nat → Nat → Int32} {Jf : Nat → Nat → Int64}  :
    ∀ (J : Nat → Nat → Int64) (x1 : Int32) (x2 : Int32) (H : Heap) (locs : List Loc) (ls : Array Slot), p_X1_seatNext_b0 (F 0) (I 2) (I 4) (I 5) (I 6) (J 5) (J 6) x1 x2 = some ((Jf 5), (Jf 6)) → (∀ k, k ∉ ([5, 6] : List Nat) → Jf k = J k) → va_P D vwCl (wC a kc F G I J Z) H → va_S (ad a 44 s.heap.size) s.heap H locs → lv_has ls 6 [(0, .ref (a 17)), (1, .int x1), (2, .int x2)] → W p l e rm_X1_seatNext s m args below meth c H locs 0 0 (MQ below (Qv D (wC a kc F G I Jf Z) (ad a 44 s.heap.size)) args s 0 0 (ad a 44 s.heap.size)) (F0 m 0 ls []) := by
  intro J x1 x2 H locs ls hf hfJ hP hS hl
  unfold p_X1_seatNext_b0 at hf
  refine lv_aload_n X.1 X.2.1 dX1_seatNext_0 rfl (lv_at hl 0 rfl) ?_
  refine lv_iload_n X.1 X.2.1 dX1_seatNext_1 rfl (lv_at hl 1 rfl) ?_
  refine lv_iconst (v := 1) X.1 X.2.1 dX1_seatNext_2 (by decide) ?_
  refine lv_iadd X.1 X.2.1 dX1_seatNext_3 ?_
  obtain ⟨D_reach_4, ho, hf⟩ := b1_s hf
  refine call_vv (rest := []) X (c_X1_clearSets F G I J Z X.2.2.2.2.2.2.2.1 (x1 + 1) ho) q_3_71 q_3_73 qs_yX1_clearSets q_1_5 q_3_74 ok_X1_clearSets rfl 17 rfl rfl ⟨Nat.le_of_ble_eq_true rfl, Nat.le_of_ble_eq_true rfl⟩ rfl rfl hl.1 rfl (Nat.le_of_ble_eq_true rfl) dX1_seatNext_4 hP hS (fun H locs hP hS => ?_)
  refine lv_aload_n X.1 X.2.1 dX1_seatNext_7 rfl (lv_at hl 0 rfl) ?_
  refine lv_iload_n X.1 X.2.1 dX1_seatNext_8 rfl (lv_at hl 1 rfl) ?_
  obtain ⟨D_takenBehind_9, ho, hf⟩ := b1_s hf
  refine call_vv (rest := []) X (c_X1_copyTaken F G I (va_up J 5 D_reach_4) Z X.2.2.2.2.2.2.2.1 x1 ho) q_3_79 q_3_81 qs_yX1_copyTaken q_1_5 q_3_82 ok_X1_copyTaken rfl 17 rfl rfl ⟨Nat.le_of_ble_eq_true rfl, Nat.le_of_ble_eq_true rfl⟩ rfl rfl hl.1 rfl (Nat.le_of_ble_eq_true rfl) dX1_seatNext_9 hP hS (fun H locs hP hS => ?_)
  refine lv_iconst (v := 1) X.1 X.2.1 dX1_seatNext_12 (by decide) ?_
  refine lv_iload_n X.1 X.2.1 dX1_seatNext_13 rfl (lv_at hl 1 rfl) ?_
  refine lv_ishl X.1 X.2.1 dX1_seatNext_14 ?_
  refine lv_iconst (v := 1) X.1 X.2.1 dX1_seatNext_15 (by decide) ?_
  refine lv_isub X.1 X.2.1 dX1_seatNext_16 ?_
  refine nm_i hf (fun x17 hf => ?_)
  refine lv_istore_n (lv' := [(3, .int x17), (0, .ref (a 17)), (1, .int x1), (2, .int x2)]) X.1 X.2.1 dX1_seatNext_17 rfl hl (by decide) rfl (fun ls hl => ?_)
  refine lv_iconst (v := 0) X.1 X.2.1 dX1_seatNext_18 (by decide) ?_
  refine lv_istore (lv' := [(4, .int 0), (3, .int x17), (0, .ref (a 17)), (1, .int x1), (2, .int x2)]) X.1 X.2.1 dX1_seatNext_19 hl (by decide) rfl (fun ls hl => ?_)
  exact t_X1_seatNext_b21 X 4096 (va_up (va_up J 5 D_reach_4) 6 D_takenBehind_9) x1 x2 x17 0 H locs ls hf (frm_up (frm_up hfJ (by decide)) (by decide)) hP hS (lv_sub hl [2, 3, 4, 1, 0] rfl)
set_option maxRecDepth 100000 in
theorem c_X1_seatNext {l : Launch} {D : va_G} {a : Nat → Nat} {kc : Nat → ClassId} (F : Nat → Int32) (G : Nat → Int64) (I : Nat → Nat → Int32) (J : Nat → Nat → Int64) (Z : Nat → Nat → Nat → Int32) (hAp : ∀ i j, i < 44 → j < 44 → a i = a j → i = j) (x1 : Int32) (x2 : Int32) {o0 : Nat → Int64} {o1 : Nat → Int64} (hf : p_X1_seatNext (F 0) (I 2) (I 4) (I 5) (I 6) (J 5) (J 6) x1 x2 = some (o0, o1)) : Ct 44 l yX1_seatNext cX1_seatNext 6 none rm_X1_seatNext D (tyC kc) a (wC a kc F G I J Z) [.ref (a 17), .int x1, .int x2] (Qv D (wC a kc F G I (va_up (va_up J 5 o0) 6 o1) Z)) :=
  Ct.of (by decide +kernel) hAp (Nat.le_of_ble_eq_true rfl) (fun p e s m args below meth c ls X hP hl => t_X1_seatNext_b0 X J x1 x2 _ _ _ hf (frm_ul (frm_ul (fun k _ => rfl) (by decide)) (by decide)) hP va_S.rf hl)
abbrev rm_X1_letIn (d : Nat) : Room := { frames := 3 + d, cells := 0, slots := 0, locals := 110 + d * 27 }
set_option maxHeartbeats 4000000 in
set_option maxRecDepth 100000 in
theorem t_X1_letIn_b17 {p : Program} {l : Launch} {e : Env} {s : State} {m : MethodId} {args : Array Value} {below : List Frame} {meth : Method} {c : Code} {D : va_G} {a : Nat → Nat} {kc : Nat → ClassId} (X : cx 44 p s m args meth c D (tyC kc) a cX1_letIn 8 RX1 none) {F : Nat → Int32} {Z : Nat → Nat → Nat → Int32} {Gf : Nat → Int64} {If : Nat → Nat → Int32} {Jf : Nat → Nat → Int64}  {rc : Int32 → Int32 → Int64 → (Nat → Int32) → (Nat → Int32) → (Nat → Int32) → (Nat → Int32) → (Nat → Int32) → (Nat → Int32) → (Nat → Int64) → (Nat → Int64) → Int32 → Int32 → Int64 → Option (Int64 × (Nat → Int32) × (Nat → Int32) × (Nat → Int64) × (Nat → Int64))} {d : Nat} (hrc : ∀ (F : Nat → Int32) (G : Nat → Int64) (I : Nat → Nat → Int32) (J : Nat → Nat → Int64) (Z : Nat → Nat → Nat → Int32) (x1 : Int32) (x2 : Int32) (x3 : Int64) {o0 : Int64} {o1 : Nat → Int32} {o2 : Nat → Int32} {o3 : Nat → Int64} {o4 : Nat → Int64}, rc (F 0) (F 2) (G 2) (I 2) (I 4) (I 5) (I 6) (I 7) (I 8) (J 5) (J 6) x1 x2 x3 = some (o0, o1, o2, o3, o4) → Ct 44 l yX1_letIn cX1_letIn 8 none (rm_X1_letIn d) D (tyC kc) a (wC a kc F G I J Z) [.ref (a 17), .int x1, .int x2, .long x3] (Qv D (wC a kc F (va_up G 2 o0) (va_up (va_up I 7 o1) 8 o2) (va_up (va_up J 5 o3) 6 o4) Z))) :
    ∀ (G : Nat → Int64) (I : Nat → Nat → Int32) (J : Nat → Nat → Int64) (x3 : Int64) (H : Heap) (locs : List Loc) (ls : Array Slot), p_X1_letIn_b17 rc (F 0) (F 2) (G 2) (I 2) (I 4) (I 5) (I 6) (I 7) (I 8) (J 5) (J 6) x3 = some ((Gf 2), (If 7), (If 8), (Jf 5), (Jf 6)) → (∀ k, k ∉ ([2] : List Nat) → Gf k = G k) → (∀ k, k ∉ ([7, 8] : List Nat) → If k = I k) → (∀ k, k ∉ ([5, 6] : List Nat) → Jf k = J k) → va_P D vwCl (wC a kc F G I J Z) H → va_S (ad a 44 s.heap.size) s.heap H locs → lv_has ls 8 [(0, .ref (a 17)), (3, .long x3)] → W p l e (rm_X1_letIn (d + 1)) s m args below meth c H locs 0 0 (MQ below (Qv D (wC a kc F Gf If Jf Z) (ad a 44 s.heap.size)) args s 0 0 (ad a 44 s.heap.size)) (F0 m 17 ls []) := by
  intro G I J x3 H locs ls hf hfG hfI hfJ hP hS hl
  unfold p_X1_letIn_b17 at hf
  refine lv_aload_n X.1 X.2.1 dX1_letIn_17 rfl (lv_at hl 0 rfl) ?_
  refine lv_lload_n X.1 X.2.1 dX1_letIn_18 rfl (lv_at hl 1 rfl) ?_
  obtain ⟨D_least_19, D_best_19, ho, hf⟩ := b2_s hf
  refine call_vv (rest := []) X (c_X1_keep F G I J Z X.2.2.2.2.2.2.2.1 x3 ho) q_3_35 q_3_37 qs_yX1_keep q_1_5 q_3_38 ok_X1_keep rfl 17 rfl rfl ⟨by simp only [rm_X1_letIn, rm_X1_keep]; omega, by simp only [rm_X1_letIn, rm_X1_keep]; omega⟩ rfl rfl hl.1 rfl (Nat.le_of_ble_eq_true rfl) dX1_letIn_19 hP hS (fun H locs hP hS => ?_)
  obtain ⟨e0, hf⟩ := o2 hf
  obtain ⟨e1, hf⟩ := o2 hf
  obtain ⟨e2, hf⟩ := o2 hf
  obtain ⟨e3, hf⟩ := o2 hf
  have e4 := o1 hf
  have EG : Gf = (va_up G 2 D_least_19) := frm_eq (frm_up hfG (by decide)) (frm_c (e0).symm frm_n)
  have EI : If = (va_up I 7 D_best_19) := frm_eq (frm_up hfI (by decide)) (frm_c (e1).symm (frm_c (e2).symm frm_n))
  have EJ : Jf = J := frm_eq hfJ (frm_c (e3).symm (frm_c (e4).symm frm_n))
  exact ret_v X hS (by rw [EG, EI, EJ]; exact hP) dX1_letIn_22
set_option maxHeartbeats 4000000 in
set_option maxRecDepth 100000 in
theorem t_X1_letIn_b144 {p : Program} {l : Launch} {e : Env} {s : State} {m : MethodId} {args : Array Value} {below : List Frame} {meth : Method} {c : Code} {D : va_G} {a : Nat → Nat} {kc : Nat → ClassId} (X : cx 44 p s m args meth c D (tyC kc) a cX1_letIn 8 RX1 none) {F : Nat → Int32} {Z : Nat → Nat → Nat → Int32} {Gf : Nat → Int64} {If : Nat → Nat → Int32} {Jf : Nat → Nat → Int64}  {rc : Int32 → Int32 → Int64 → (Nat → Int32) → (Nat → Int32) → (Nat → Int32) → (Nat → Int32) → (Nat → Int32) → (Nat → Int32) → (Nat → Int64) → (Nat → Int64) → Int32 → Int32 → Int64 → Option (Int64 × (Nat → Int32) × (Nat → Int32) × (Nat → Int64) × (Nat → Int64))} {d : Nat} (hrc : ∀ (F : Nat → Int32) (G : Nat → Int64) (I : Nat → Nat → Int32) (J : Nat → Nat → Int64) (Z : Nat → Nat → Nat → Int32) (x1 : Int32) (x2 : Int32) (x3 : Int64) {o0 : Int64} {o1 : Nat → Int32} {o2 : Nat → Int32} {o3 : Nat → Int64} {o4 : Nat → Int64}, rc (F 0) (F 2) (G 2) (I 2) (I 4) (I 5) (I 6) (I 7) (I 8) (J 5) (J 6) x1 x2 x3 = some (o0, o1, o2, o3, o4) → Ct 44 l yX1_letIn cX1_letIn 8 none (rm_X1_letIn d) D (tyC kc) a (wC a kc F G I J Z) [.ref (a 17), .int x1, .int x2, .long x3] (Qv D (wC a kc F (va_up G 2 o0) (va_up (va_up I 7 o1) 8 o2) (va_up (va_up J 5 o3) 6 o4) Z))) {K59 : Int32 → Int32 → Int64 → (Nat → Int32) → (Nat → Int32) → (Nat → Int32) → (Nat → Int32) → (Nat → Int32) → (Nat → Int32) → (Nat → Int64) → (Nat → Int64) → Int32 → Int32 → Int64 → Int32 → Option (Int64 × (Nat → Int32) × (Nat → Int32) × (Nat → Int64) × (Nat → Int64))} (kh59 : ∀ (G : Nat → Int64) (I : Nat → Nat → Int32) (J : Nat → Nat → Int64) (x1 : Int32) (x2 : Int32) (x3 : Int64) (x5 : Int32) (H : Heap) (locs : List Loc) (ls : Array Slot), K59 (F 0) (F 2) (G 2) (I 2) (I 4) (I 5) (I 6) (I 7) (I 8) (J 5) (J 6) x1 x2 x3 x5 = some ((Gf 2), (If 7), (If 8), (Jf 5), (Jf 6)) → (∀ k, k ∉ ([2] : List Nat) → Gf k = G k) → (∀ k, k ∉ ([7, 8] : List Nat) → If k = I k) → (∀ k, k ∉ ([5, 6] : List Nat) → Jf k = J k) → va_P D vwCl (wC a kc F G I J Z) H → va_S (ad a 44 s.heap.size) s.heap H locs → lv_has ls 8 [(0, .ref (a 17)), (1, .int x1), (2, .int x2), (3, .long x3), (5, .int x5)] → W p l e (rm_X1_letIn (d + 1)) s m args below meth c H locs 0 0 (MQ below (Qv D (wC a kc F Gf If Jf Z) (ad a 44 s.heap.size)) args s 0 0 (ad a 44 s.heap.size)) (F0 m 59 ls [])) :
    ∀ (G : Nat → Int64) (I : Nat → Nat → Int32) (J : Nat → Nat → Int64) (x1 : Int32) (x2 : Int32) (x3 : Int64) (x5 : Int32) (H : Heap) (locs : List Loc) (ls : Array Slot), p_X1_letIn_b144 rc K59 (F 0) (F 2) (G 2) (I 2) (I 4) (I 5) (I 6) (I 7) (I 8) (J 5) (J 6) x1 x2 x3 x5 = some ((Gf 2), (If 7), (If 8), (Jf 5), (Jf 6)) → (∀ k, k ∉ ([2] : List Nat) → Gf k = G k) → (∀ k, k ∉ ([7, 8] : List Nat) → If k = I k) → (∀ k, k ∉ ([5, 6] : List Nat) → Jf k = J k) → va_P D vwCl (wC a kc F G I J Z) H → va_S (ad a 44 s.heap.size) s.heap H locs → lv_has ls 8 [(0, .ref (a 17)), (1, .int x1), (2, .int x2), (3, .long x3), (5, .int x5)] → W p l e (rm_X1_letIn (d + 1)) s m args below meth c H locs 0 0 (MQ below (Qv D (wC a kc F Gf If Jf Z) (ad a 44 s.heap.size)) args s 0 0 (ad a 44 s.heap.size)) (F0 m 144 ls []) := by
  intro G I J x1 x2 x3 x5 H locs ls hf hfG hfI hfJ hP hS hl
  unfold p_X1_letIn_b144 at hf
  obtain ⟨x144, ex144, hf⟩ := nm_x hf
  refine lv_iinc (v := x144) (lv' := [(5, .int x144), (0, .ref (a 17)), (1, .int x1), (2, .int x2), (3, .long x3)]) X.1 X.2.1 dX1_letIn_144 hl (k := 4) rfl ex144 (by decide) rfl (fun ls hl => ?_)
  refine lv_goto (tgt := 59) X.1 X.2.1 dX1_letIn_147 (by decide) ?_
  exact kh59 G I J x1 x2 x3 x144 H locs ls hf hfG hfI hfJ hP hS (lv_sub hl [1, 2, 3, 4, 0] rfl)
set_option maxHeartbeats 4000000 in
set_option maxRecDepth 100000 in
theorem t_X1_letIn_b59x {p : Program} {l : Launch} {e : Env} {s : State} {m : MethodId} {args : Array Value} {below : List Frame} {meth : Method} {c : Code} {D : va_G} {a : Nat → Nat} {kc : Nat → ClassId} (X : cx 44 p s m args meth c D (tyC kc) a cX1_letIn 8 RX1 none) {F : Nat → Int32} {Z : Nat → Nat → Nat → Int32} {Gf : Nat → Int64} {If : Nat → Nat → Int32} {Jf : Nat → Nat → Int64}  {rc : Int32 → Int32 → Int64 → (Nat → Int32) → (Nat → Int32) → (Nat → Int32) → (Nat → Int32) → (Nat → Int32) → (Nat → Int32) → (Nat → Int64) → (Nat → Int64) → Int32 → Int32 → Int64 → Option (Int64 × (Nat → Int32) × (Nat → Int32) × (Nat → Int64) × (Nat → Int64))} {d : Nat} (hrc : ∀ (F : Nat → Int32) (G : Nat → Int64) (I : Nat → Nat → Int32) (J : Nat → Nat → Int64) (Z : Nat → Nat → Nat → Int32) (x1 : Int32) (x2 : Int32) (x3 : Int64) {o0 : Int64} {o1 : Nat → Int32} {o2 : Nat → Int32} {o3 : Nat → Int64} {o4 : Nat → Int64}, rc (F 0) (F 2) (G 2) (I 2) (I 4) (I 5) (I 6) (I 7) (I 8) (J 5) (J 6) x1 x2 x3 = some (o0, o1, o2, o3, o4) → Ct 44 l yX1_letIn cX1_letIn 8 none (rm_X1_letIn d) D (tyC kc) a (wC a kc F G I J Z) [.ref (a 17), .int x1, .int x2, .long x3] (Qv D (wC a kc F (va_up G 2 o0) (va_up (va_up I 7 o1) 8 o2) (va_up (va_up J 5 o3) 6 o4) Z))) {K59 : Int32 → Int32 → Int64 → (Nat → Int32) → (Nat → Int32) → (Nat → Int32) → (Nat → Int32) → (Nat → Int32) → (Nat → Int32) → (Nat → Int64) → (Nat → Int64) → Int32 → Int32 → Int64 → Int32 → Option (Int64 × (Nat → Int32) × (Nat → Int32) × (Nat → Int64) × (Nat → Int64))} (kh59 : ∀ (G : Nat → Int64) (I : Nat → Nat → Int32) (J : Nat → Nat → Int64) (x1 : Int32) (x2 : Int32) (x3 : Int64) (x5 : Int32) (H : Heap) (locs : List Loc) (ls : Array Slot), K59 (F 0) (F 2) (G 2) (I 2) (I 4) (I 5) (I 6) (I 7) (I 8) (J 5) (J 6) x1 x2 x3 x5 = some ((Gf 2), (If 7), (If 8), (Jf 5), (Jf 6)) → (∀ k, k ∉ ([2] : List Nat) → Gf k = G k) → (∀ k, k ∉ ([7, 8] : List Nat) → If k = I k) → (∀ k, k ∉ ([5, 6] : List Nat) → Jf k = J k) → va_P D vwCl (wC a kc F G I J Z) H → va_S (ad a 44 s.heap.size) s.heap H locs → lv_has ls 8 [(0, .ref (a 17)), (1, .int x1), (2, .int x2), (3, .long x3), (5, .int x5)] → W p l e (rm_X1_letIn (d + 1)) s m args below meth c H locs 0 0 (MQ below (Qv D (wC a kc F Gf If Jf Z) (ad a 44 s.heap.size)) args s 0 0 (ad a 44 s.heap.size)) (F0 m 59 ls [])) :
    ∀ (G : Nat → Int64) (I : Nat → Nat → Int32) (J : Nat → Nat → Int64) (x1 : Int32) (x2 : Int32) (x3 : Int64) (x5 : Int32) (H : Heap) (locs : List Loc) (ls : Array Slot), p_X1_letIn_b59x rc K59 (F 0) (F 2) (G 2) (I 2) (I 4) (I 5) (I 6) (I 7) (I 8) (J 5) (J 6) x1 x2 x3 x5 = some ((Gf 2), (If 7), (If 8), (Jf 5), (Jf 6)) → (∀ k, k ∉ ([2] : List Nat) → Gf k = G k) → (∀ k, k ∉ ([7, 8] : List Nat) → If k = I k) → (∀ k, k ∉ ([5, 6] : List Nat) → Jf k = J k) → va_P D vwCl (wC a kc F G I J Z) H → va_S (ad a 44 s.heap.size) s.heap H locs → lv_has ls 8 [(0, .ref (a 17)), (1, .int x1), (2, .int x2), (3, .long x3), (5, .int x5)] → W p l e (rm_X1_letIn (d + 1)) s m args below meth c H locs 0 0 (MQ below (Qv D (wC a kc F Gf If Jf Z) (ad a 44 s.heap.size)) args s 0 0 (ad a 44 s.heap.size)) (F0 m 59 ls []) := by
  intro G I J x1 x2 x3 x5 H locs ls hf hfG hfI hfJ hP hS hl
  unfold p_X1_letIn_b59x at hf
  refine lv_iload X.1 X.2.1 dX1_letIn_59 (lv_at hl 4 rfl) ?_
  refine lv_aload_n X.1 X.2.1 dX1_letIn_61 rfl (lv_at hl 0 rfl) ?_
  refine gC_17_3 X q_1_172 dX1_letIn_62 hP ?_
  refine gC_0_10 (F := F) X (v := (F 2)) rfl q_1_87 dX1_letIn_65 hP ?_
  refine lv_icmp_ge (tgt := 150) X.1 X.2.1 dX1_letIn_68 (by decide) (fun c68 => ?_) (fun c68 => ?_)
  · have hf := it_s hf c68
    obtain ⟨e0, hf⟩ := o2 hf
    obtain ⟨e1, hf⟩ := o2 hf
    obtain ⟨e2, hf⟩ := o2 hf
    obtain ⟨e3, hf⟩ := o2 hf
    have e4 := o1 hf
    have EG : Gf = G := frm_eq hfG (frm_c (e0).symm frm_n)
    have EI : If = I := frm_eq hfI (frm_c (e1).symm (frm_c (e2).symm frm_n))
    have EJ : Jf = J := frm_eq hfJ (frm_c (e3).symm (frm_c (e4).symm frm_n))
    exact ret_v X hS (by rw [EG, EI, EJ]; exact hP) dX1_letIn_150
  · have hf := ie_s hf c68
    refine lv_iload_n X.1 X.2.1 dX1_letIn_71 rfl (lv_at hl 2 rfl) ?_
    refine lv_iload X.1 X.2.1 dX1_letIn_72 (lv_at hl 4 rfl) ?_
    obtain ⟨r74, ho, hf⟩ := b1_s hf
    refine call_si (rest := []) X (c_X3_has x2 x5 ho) q_3_46 q_2_178 q_1_2 q_2_179 ok_X3_has rfl ⟨by simp only [rm_X1_letIn, rm_X3_has]; omega, by simp only [rm_X1_letIn, rm_X3_has]; omega⟩ rfl rfl hl.1 rfl (Nat.le_of_ble_eq_true rfl) dX1_letIn_74 hP hS (fun H locs hP hS => ?_)
    refine lv_if_ne (tgt := 144) X.1 X.2.1 dX1_letIn_77 (by decide) (fun c77 => ?_) (fun c77 => ?_)
    · have hf := ie_s hf c77
      exact t_X1_letIn_b144 X hrc kh59 G I J x1 x2 x3 x5 H locs ls hf hfG hfI hfJ hP hS (lv_sub hl [0, 1, 2, 3, 4] rfl)
    · have hf := it_s hf c77
      refine lv_aload_n X.1 X.2.1 dX1_letIn_80 rfl (lv_at hl 0 rfl) ?_
      refine lv_iload X.1 X.2.1 dX1_letIn_81 (lv_at hl 4 rfl) ?_
      refine lv_iload_n X.1 X.2.1 dX1_letIn_83 rfl (lv_at hl 2 rfl) ?_
      obtain ⟨r84, ho, hf⟩ := b1_s hf
      refine call_vi (rest := []) X (c_X1_hasTwinOutside F G I J Z X.2.2.2.2.2.2.2.1 x5 x2 ho) q_3_63 q_3_65 qs_yX1_hasTwinOutside q_1_5 q_3_66 ok_X1_hasTwinOutside rfl 17 rfl rfl ⟨by simp only [rm_X1_letIn, rm_X1_hasTwinOutside]; omega, by simp only [rm_X1_letIn, rm_X1_hasTwinOutside]; omega⟩ rfl rfl hl.1 rfl (Nat.le_of_ble_eq_true rfl) dX1_letIn_84 hP hS (fun H locs hP hS => ?_)
      refine lv_if_eq (tgt := 93) X.1 X.2.1 dX1_letIn_87 (by decide) (fun c87 => ?_) (fun c87 => ?_)
      · have hf := it_s hf c87
        refine lv_lload_n X.1 X.2.1 dX1_letIn_93 rfl (lv_at hl 3 rfl) ?_
        refine lv_aload_n X.1 X.2.1 dX1_letIn_94 rfl (lv_at hl 0 rfl) ?_
        refine lv_iload_n X.1 X.2.1 dX1_letIn_95 rfl (lv_at hl 1 rfl) ?_
        refine lv_iload X.1 X.2.1 dX1_letIn_96 (lv_at hl 4 rfl) ?_
        obtain ⟨r98, ho, hf⟩ := b1_s hf
        refine call_vl (rest := [.long x3]) X (c_X1_wrongNext F G I J Z X.2.2.2.2.2.2.2.1 x1 x5 ho) q_3_59 q_3_61 qs_yX1_wrongNext q_1_5 q_3_62 ok_X1_wrongNext rfl 17 rfl rfl ⟨by simp only [rm_X1_letIn, rm_X1_wrongNext]; omega, by simp only [rm_X1_letIn, rm_X1_wrongNext]; omega⟩ rfl rfl hl.1 rfl (Nat.le_of_ble_eq_true rfl) dX1_letIn_98 hP hS (fun H locs hP hS => ?_)
        refine lv_ladd X.1 X.2.1 dX1_letIn_101 ?_
        refine nm_l hf (fun x102 hf => ?_)
        refine lv_lstore (lv' := [(6, .long x102), (0, .ref (a 17)), (1, .int x1), (2, .int x2), (3, .long x3), (5, .int x5)]) X.1 X.2.1 dX1_letIn_102 hl (by decide) rfl (fun ls hl => ?_)
        refine lv_lload X.1 X.2.1 dX1_letIn_104 (lv_at hl 0 rfl) ?_
        refine lv_aload_n X.1 X.2.1 dX1_letIn_106 rfl (lv_at hl 1 rfl) ?_
        refine gC_17_1 (G := G) X (v := (G 2)) rfl q_1_168 dX1_letIn_107 hP ?_
        refine W.lcmp X.1 X.2.1 dX1_letIn_110 ?_
        refine lv_if_ge (tgt := 144) X.1 X.2.1 dX1_letIn_111 (by decide) (fun c111 => ?_) (fun c111 => ?_)
        · have hf := it_s hf c111
          exact t_X1_letIn_b144 X hrc kh59 G I J x1 x2 x3 x5 H locs ls hf hfG hfI hfJ hP hS (lv_sub hl [1, 2, 3, 4, 5] rfl)
        · have hf := ie_s hf c111
          refine lv_aload_n X.1 X.2.1 dX1_letIn_114 rfl (lv_at hl 1 rfl) ?_
          refine gC_17_4 X q_1_173 dX1_letIn_115 hP ?_
          refine lv_iload_n X.1 X.2.1 dX1_letIn_118 rfl (lv_at hl 2 rfl) ?_
          refine lv_iload X.1 X.2.1 dX1_letIn_119 (lv_at hl 5 rfl) ?_
          obtain ⟨h121, hf⟩ := gd_s hf
          obtain ⟨D_row_121, eD_row_121, hf⟩ := nm_x hf
          refine sC_19 (I := I) X h121 eD_row_121 dX1_letIn_121 hP hS (fun H locs hP hS => ?_)
          refine lv_aload_n X.1 X.2.1 dX1_letIn_122 rfl (lv_at hl 1 rfl) ?_
          refine lv_iload_n X.1 X.2.1 dX1_letIn_123 rfl (lv_at hl 2 rfl) ?_
          refine lv_iload X.1 X.2.1 dX1_letIn_124 (lv_at hl 5 rfl) ?_
          obtain ⟨D_reach_126, D_takenBehind_126, ho, hf⟩ := b2_s hf
          refine call_vv (rest := []) X (c_X1_seatNext F G (va_up I 8 D_row_121) J Z X.2.2.2.2.2.2.2.1 x1 x5 ho) q_3_67 q_3_69 qs_yX1_seatNext q_1_5 q_3_70 ok_X1_seatNext rfl 17 rfl rfl ⟨by simp only [rm_X1_letIn, rm_X1_seatNext]; omega, by simp only [rm_X1_letIn, rm_X1_seatNext]; omega⟩ rfl rfl hl.1 rfl (Nat.le_of_ble_eq_true rfl) dX1_letIn_126 hP hS (fun H locs hP hS => ?_)
          refine lv_aload_n X.1 X.2.1 dX1_letIn_129 rfl (lv_at hl 1 rfl) ?_
          refine lv_iload_n X.1 X.2.1 dX1_letIn_130 rfl (lv_at hl 2 rfl) ?_
          refine lv_iconst (v := 1) X.1 X.2.1 dX1_letIn_131 (by decide) ?_
          refine lv_iadd X.1 X.2.1 dX1_letIn_132 ?_
          refine lv_iload_n X.1 X.2.1 dX1_letIn_133 rfl (lv_at hl 3 rfl) ?_
          refine lv_iconst (v := 1) X.1 X.2.1 dX1_letIn_134 (by decide) ?_
          refine lv_iload X.1 X.2.1 dX1_letIn_135 (lv_at hl 5 rfl) ?_
          refine lv_ishl X.1 X.2.1 dX1_letIn_137 ?_
          refine lv_ior X.1 X.2.1 dX1_letIn_138 ?_
          refine lv_lload X.1 X.2.1 dX1_letIn_139 (lv_at hl 0 rfl) ?_
          obtain ⟨D_least_141, D_best_141, D_row_141, D_reach_141, D_takenBehind_141, ho, hf⟩ := b5_s hf
          refine call_vv (rest := []) X (hrc F G (va_up I 8 D_row_121) (va_up (va_up J 5 D_reach_126) 6 D_takenBehind_126) Z (x1 + 1) (x2 ||| ((1 : Int32) <<< (x5 &&& 31))) x102 ho) q_3_31 q_3_33 qs_yX1_letIn q_1_5 q_3_34 ok_X1_letIn rfl 17 rfl rfl ⟨by simp only [rm_X1_letIn, rm_X1_letIn]; omega, by simp only [rm_X1_letIn, rm_X1_letIn]; omega⟩ rfl rfl hl.1 rfl (Nat.le_of_ble_eq_true rfl) dX1_letIn_141 hP hS (fun H locs hP hS => ?_)
          exact t_X1_letIn_b144 X hrc kh59 (va_up G 2 D_least_141) (va_up (va_up (va_up I 8 D_row_121) 7 D_best_141) 8 D_row_141) (va_up (va_up (va_up (va_up J 5 D_reach_126) 6 D_takenBehind_126) 5 D_reach_141) 6 D_takenBehind_141) x1 x2 x3 x5 H locs ls hf (frm_up hfG (by decide)) (frm_up (frm_up (frm_up hfI (by decide)) (by decide)) (by decide)) (frm_up (frm_up (frm_up (frm_up hfJ (by decide)) (by decide)) (by decide)) (by decide)) hP hS (lv_sub hl [1, 2, 3, 4, 5] rfl)
      · have hf := ie_s hf c87
        refine lv_goto (tgt := 144) X.1 X.2.1 dX1_letIn_90 (by decide) ?_
        exact t_X1_letIn_b144 X hrc kh59 G I J x1 x2 x3 x5 H locs ls hf hfG hfI hfJ hP hS (lv_sub hl [0, 1, 2, 3, 4] rfl)
set_option maxRecDepth 100000 in
theorem t_X1_letIn_b59 {p : Program} {l : Launch} {e : Env} {s : State} {m : MethodId} {args : Array Value} {below : List Frame} {meth : Method} {c : Code} {D : va_G} {a : Nat → Nat} {kc : Nat → ClassId} (X : cx 44 p s m args meth c D (tyC kc) a cX1_letIn 8 RX1 none) {F : Nat → Int32} {Z : Nat → Nat → Nat → Int32} {Gf : Nat → Int64} {If : Nat → Nat → Int32} {Jf : Nat → Nat → Int64}  {rc : Int32 → Int32 → Int64 → (Nat → Int32) → (Nat → Int32) → (Nat → Int32) → (Nat → Int32) → (Nat → Int32) → (Nat → Int32) → (Nat → Int64) → (Nat → Int64) → Int32 → Int32 → Int64 → Option (Int64 × (Nat → Int32) × (Nat → Int32) × (Nat → Int64) × (Nat → Int64))} {d : Nat} (hrc : ∀ (F : Nat → Int32) (G : Nat → Int64) (I : Nat → Nat → Int32) (J : Nat → Nat → Int64) (Z : Nat → Nat → Nat → Int32) (x1 : Int32) (x2 : Int32) (x3 : Int64) {o0 : Int64} {o1 : Nat → Int32} {o2 : Nat → Int32} {o3 : Nat → Int64} {o4 : Nat → Int64}, rc (F 0) (F 2) (G 2) (I 2) (I 4) (I 5) (I 6) (I 7) (I 8) (J 5) (J 6) x1 x2 x3 = some (o0, o1, o2, o3, o4) → Ct 44 l yX1_letIn cX1_letIn 8 none (rm_X1_letIn d) D (tyC kc) a (wC a kc F G I J Z) [.ref (a 17), .int x1, .int x2, .long x3] (Qv D (wC a kc F (va_up G 2 o0) (va_up (va_up I 7 o1) 8 o2) (va_up (va_up J 5 o3) 6 o4) Z))) :
    ∀ (n : Nat) (G : Nat → Int64) (I : Nat → Nat → Int32) (J : Nat → Nat → Int64) (x1 : Int32) (x2 : Int32) (x3 : Int64) (x5 : Int32) (H : Heap) (locs : List Loc) (ls : Array Slot), p_X1_letIn_b59 rc n (F 0) (F 2) (G 2) (I 2) (I 4) (I 5) (I 6) (I 7) (I 8) (J 5) (J 6) x1 x2 x3 x5 = some ((Gf 2), (If 7), (If 8), (Jf 5), (Jf 6)) → (∀ k, k ∉ ([2] : List Nat) → Gf k = G k) → (∀ k, k ∉ ([7, 8] : List Nat) → If k = I k) → (∀ k, k ∉ ([5, 6] : List Nat) → Jf k = J k) → va_P D vwCl (wC a kc F G I J Z) H → va_S (ad a 44 s.heap.size) s.heap H locs → lv_has ls 8 [(0, .ref (a 17)), (1, .int x1), (2, .int x2), (3, .long x3), (5, .int x5)] → W p l e (rm_X1_letIn (d + 1)) s m args below meth c H locs 0 0 (MQ below (Qv D (wC a kc F Gf If Jf Z) (ad a 44 s.heap.size)) args s 0 0 (ad a 44 s.heap.size)) (F0 m 59 ls []) := by
  intro n
  induction n with
  | zero => intro G I J x1 x2 x3 x5 H locs ls hf hfG hfI hfJ hP hS hl; exact (nos hf).elim
  | succ n ih => exact t_X1_letIn_b59x X hrc ih
set_option maxHeartbeats 4000000 in
set_option maxRecDepth 100000 in
theorem t_X1_letIn_b0 {p : Program} {l : Launch} {e : Env} {s : State} {m : MethodId} {args : Array Value} {below : List Frame} {meth : Method} {c : Code} {D : va_G} {a : Nat → Nat} {kc : Nat → ClassId} (X : cx 44 p s m args meth c D (tyC kc) a cX1_letIn 8 RX1 none) {F : Nat → Int32} {Z : Nat → Nat → Nat → Int32} {Gf : Nat → Int64} {If : Nat → Nat → Int32} {Jf : Nat → Nat → Int64}  {rc : Int32 → Int32 → Int64 → (Nat → Int32) → (Nat → Int32) → (Nat → Int32) → (Nat → Int32) → (Nat → Int32) → (Nat → Int32) → (Nat → Int64) → (Nat → Int64) → Int32 → Int32 → Int64 → Option (Int64 × (Nat → Int32) × (Nat → Int32) × (Nat → Int64) × (Nat → Int64))} {d : Nat} (hrc : ∀ (F : Nat → Int32) (G : Nat → Int64) (I : Nat → Nat → Int32) (J : Nat → Nat → Int64) (Z : Nat → Nat → Nat → Int32) (x1 : Int32) (x2 : Int32) (x3 : Int64) {o0 : Int64} {o1 : Nat → Int32} {o2 : Nat → Int32} {o3 : Nat → Int64} {o4 : Nat → Int64}, rc (F 0) (F 2) (G 2) (I 2) (I 4) (I 5) (I 6) (I 7) (I 8) (J 5) (J 6) x1 x2 x3 = some (o0, o1, o2, o3, o4) → Ct 44 l yX1_letIn cX1_letIn 8 none (rm_X1_letIn d) D (tyC kc) a (wC a kc F G I J Z) [.ref (a 17), .int x1, .int x2, .long x3] (Qv D (wC a kc F (va_up G 2 o0) (va_up (va_up I 7 o1) 8 o2) (va_up (va_up J 5 o3) 6 o4) Z))) :
    ∀ (G : Nat → Int64) (I : Nat → Nat → Int32) (J : Nat → Nat → Int64) (x1 : Int32) (x2 : Int32) (x3 : Int64) (H : Heap) (locs : List Loc) (ls : Array Slot), p_X1_letIn_b0 rc (F 0) (F 2) (G 2) (I 2) (I 4) (I 5) (I 6) (I 7) (I 8) (J 5) (J 6) x1 x2 x3 = some ((Gf 2), (If 7), (If 8), (Jf 5), (Jf 6)) → (∀ k, k ∉ ([2] : List Nat) → Gf k = G k) → (∀ k, k ∉ ([7, 8] : List Nat) → If k = I k) → (∀ k, k ∉ ([5, 6] : List Nat) → Jf k = J k) → va_P D vwCl (wC a kc F G I J Z) H → va_S (ad a 44 s.heap.size) s.heap H locs → lv_has ls 8 [(0, .ref (a 17)), (1, .int x1), (2, .int x2), (3, .long x3)] → W p l e (rm_X1_letIn (d + 1)) s m args below meth c H locs 0 0 (MQ below (Qv D (wC a kc F Gf If Jf Z) (ad a 44 s.heap.size)) args s 0 0 (ad a 44 s.heap.size)) (F0 m 0 ls []) := by
  intro G I J x1 x2 x3 H locs ls hf hfG hfI hfJ hP hS hl
  unfold p_X1_letIn_b0 at hf
  refine lv_iload_n X.1 X.2.1 dX1_letIn_0 rfl (lv_at hl 1 rfl) ?_
  refine lv_aload_n X.1 X.2.1 dX1_letIn_1 rfl (lv_at hl 0 rfl) ?_
  refine gC_17_3 X q_1_172 dX1_letIn_2 hP ?_
  refine gC_0_10 (F := F) X (v := (F 2)) rfl q_1_87 dX1_letIn_5 hP ?_
  refine lv_icmp_ge (tgt := 17) X.1 X.2.1 dX1_letIn_8 (by decide) (fun c8 => ?_) (fun c8 => ?_)
  · have hf := it_s hf c8
    exact t_X1_letIn_b17 X hrc G I J x3 H locs ls hf hfG hfI hfJ hP hS (lv_sub hl [0, 3] rfl)
  · have hf := ie_s hf c8
    refine lv_iload_n X.1 X.2.1 dX1_letIn_11 rfl (lv_at hl 1 rfl) ?_
    refine lv_bipush (v := 6) X.1 X.2.1 dX1_letIn_12 (by decide) ?_
    refine lv_icmp_lt (tgt := 23) X.1 X.2.1 dX1_letIn_14 (by decide) (fun c14 => ?_) (fun c14 => ?_)
    · have hf := it_s hf c14
      refine lv_lload_n X.1 X.2.1 dX1_letIn_23 rfl (lv_at hl 3 rfl) ?_
      refine lv_aload_n X.1 X.2.1 dX1_letIn_24 rfl (lv_at hl 0 rfl) ?_
      refine lv_iload_n X.1 X.2.1 dX1_letIn_25 rfl (lv_at hl 1 rfl) ?_
      refine lv_iload_n X.1 X.2.1 dX1_letIn_26 rfl (lv_at hl 2 rfl) ?_
      obtain ⟨r27, ho, hf⟩ := b1_s hf
      refine call_vl (rest := [.long x3]) X (c_X1_leastToCome F G I J Z X.2.2.2.2.2.2.2.1 x1 x2 ho) q_3_42 q_3_44 qs_yX1_leastToCome q_1_5 q_3_45 ok_X1_leastToCome rfl 17 rfl rfl ⟨by simp only [rm_X1_letIn, rm_X1_leastToCome]; omega, by simp only [rm_X1_letIn, rm_X1_leastToCome]; omega⟩ rfl rfl hl.1 rfl (Nat.le_of_ble_eq_true rfl) dX1_letIn_27 hP hS (fun H locs hP hS => ?_)
      refine lv_ladd X.1 X.2.1 dX1_letIn_30 ?_
      refine lv_aload_n X.1 X.2.1 dX1_letIn_31 rfl (lv_at hl 0 rfl) ?_
      refine gC_17_1 (G := G) X (v := (G 2)) rfl q_1_168 dX1_letIn_32 hP ?_
      refine W.lcmp X.1 X.2.1 dX1_letIn_35 ?_
      refine lv_if_lt (tgt := 40) X.1 X.2.1 dX1_letIn_36 (by decide) (fun c36 => ?_) (fun c36 => ?_)
      · have hf := it_s hf c36
        refine lv_aload_n X.1 X.2.1 dX1_letIn_40 rfl (lv_at hl 0 rfl) ?_
        refine lv_iload_n X.1 X.2.1 dX1_letIn_41 rfl (lv_at hl 2 rfl) ?_
        obtain ⟨r42, ho, hf⟩ := b1_s hf
        refine call_vi (rest := []) X (c_X1_onlyLostOutside F G I J Z X.2.2.2.2.2.2.2.1 x2 ho) q_3_51 q_3_53 qs_yX1_onlyLostOutside q_1_5 q_3_54 ok_X1_onlyLostOutside rfl 17 rfl rfl ⟨by simp only [rm_X1_letIn, rm_X1_onlyLostOutside]; omega, by simp only [rm_X1_letIn, rm_X1_onlyLostOutside]; omega⟩ rfl rfl hl.1 rfl (Nat.le_of_ble_eq_true rfl) dX1_letIn_42 hP hS (fun H locs hP hS => ?_)
        refine lv_if_eq (tgt := 56) X.1 X.2.1 dX1_letIn_45 (by decide) (fun c45 => ?_) (fun c45 => ?_)
        · have hf := it_s hf c45
          refine lv_iconst (v := 0) X.1 X.2.1 dX1_letIn_56 (by decide) ?_
          refine lv_istore (lv' := [(5, .int 0), (0, .ref (a 17)), (1, .int x1), (2, .int x2), (3, .long x3)]) X.1 X.2.1 dX1_letIn_57 hl (by decide) rfl (fun ls hl => ?_)
          exact t_X1_letIn_b59 X hrc 4096 G I J x1 x2 x3 0 H locs ls hf hfG hfI hfJ hP hS (lv_sub hl [1, 2, 3, 4, 0] rfl)
        · have hf := ie_s hf c45
          refine lv_aload_n X.1 X.2.1 dX1_letIn_48 rfl (lv_at hl 0 rfl) ?_
          refine lv_iload_n X.1 X.2.1 dX1_letIn_49 rfl (lv_at hl 1 rfl) ?_
          refine lv_iload_n X.1 X.2.1 dX1_letIn_50 rfl (lv_at hl 2 rfl) ?_
          refine lv_lload_n X.1 X.2.1 dX1_letIn_51 rfl (lv_at hl 3 rfl) ?_
          obtain ⟨D_least_52, D_best_52, D_row_52, ho, hf⟩ := b3_s hf
          refine call_vv (rest := []) X (c_X1_letInLost F G I J Z X.2.2.2.2.2.2.2.1 x1 x2 x3 ho) q_3_55 q_3_57 qs_yX1_letInLost q_1_5 q_3_58 ok_X1_letInLost rfl 17 rfl rfl ⟨by simp only [rm_X1_letIn, rm_X1_letInLost]; omega, by simp only [rm_X1_letIn, rm_X1_letInLost]; omega⟩ rfl rfl hl.1 rfl (Nat.le_of_ble_eq_true rfl) dX1_letIn_52 hP hS (fun H locs hP hS => ?_)
          obtain ⟨e0, hf⟩ := o2 hf
          obtain ⟨e1, hf⟩ := o2 hf
          obtain ⟨e2, hf⟩ := o2 hf
          obtain ⟨e3, hf⟩ := o2 hf
          have e4 := o1 hf
          have EG : Gf = (va_up G 2 D_least_52) := frm_eq (frm_up hfG (by decide)) (frm_c (e0).symm frm_n)
          have EI : If = (va_up (va_up I 7 D_best_52) 8 D_row_52) := frm_eq (frm_up (frm_up hfI (by decide)) (by decide)) (frm_c (e1).symm (frm_c (e2).symm frm_n))
          have EJ : Jf = J := frm_eq hfJ (frm_c (e3).symm (frm_c (e4).symm frm_n))
          exact ret_v X hS (by rw [EG, EI, EJ]; exact hP) dX1_letIn_55
      · have hf := ie_s hf c36
        obtain ⟨e0, hf⟩ := o2 hf
        obtain ⟨e1, hf⟩ := o2 hf
        obtain ⟨e2, hf⟩ := o2 hf
        obtain ⟨e3, hf⟩ := o2 hf
        have e4 := o1 hf
        have EG : Gf = G := frm_eq hfG (frm_c (e0).symm frm_n)
        have EI : If = I := frm_eq hfI (frm_c (e1).symm (frm_c (e2).symm frm_n))
        have EJ : Jf = J := frm_eq hfJ (frm_c (e3).symm (frm_c (e4).symm frm_n))
        exact ret_v X hS (by rw [EG, EI, EJ]; exact hP) dX1_letIn_39
    · have hf := ie_s hf c14
      exact t_X1_letIn_b17 X hrc G I J x3 H locs ls hf hfG hfI hfJ hP hS (lv_sub hl [0, 3] rfl)
set_option maxRecDepth 100000 in
theorem c_X1_letInr {l : Launch} {D : va_G} {a : Nat → Nat} {kc : Nat → ClassId} (hAp : ∀ i j, i < 44 → j < 44 → a i = a j → i = j) (d : Nat) : ∀ (F : Nat → Int32) (G : Nat → Int64) (I : Nat → Nat → Int32) (J : Nat → Nat → Int64) (Z : Nat → Nat → Nat → Int32) (x1 : Int32) (x2 : Int32) (x3 : Int64) {o0 : Int64} {o1 : Nat → Int32} {o2 : Nat → Int32} {o3 : Nat → Int64} {o4 : Nat → Int64}, p_X1_letInr d (F 0) (F 2) (G 2) (I 2) (I 4) (I 5) (I 6) (I 7) (I 8) (J 5) (J 6) x1 x2 x3 = some (o0, o1, o2, o3, o4) → Ct 44 l yX1_letIn cX1_letIn 8 none (rm_X1_letIn d) D (tyC kc) a (wC a kc F G I J Z) [.ref (a 17), .int x1, .int x2, .long x3] (Qv D (wC a kc F (va_up G 2 o0) (va_up (va_up I 7 o1) 8 o2) (va_up (va_up J 5 o3) 6 o4) Z)) := by
  induction d with
  | zero => intro F G I J Z x1 x2 x3 o0 o1 o2 o3 o4 hf; exact (nos hf).elim
  | succ d ih =>
    intro F G I J Z x1 x2 x3 o0 o1 o2 o3 o4 hf
    exact Ct.of (by decide +kernel) hAp (Nat.le_of_ble_eq_true rfl) (fun p e s m args below meth c ls X hP hl => t_X1_letIn_b0 X ih G I J x1 x2 x3 _ _ _ hf (frm_ul (fun k _ => rfl) (by decide)) (frm_ul (frm_ul (fun k _ => rfl) (by decide)) (by decide)) (frm_ul (frm_ul (fun k _ => rfl) (by decide)) (by decide)) hP va_S.rf hl)
theorem c_X1_letIn {l : Launch} {D : va_G} {a : Nat → Nat} {kc : Nat → ClassId} (F : Nat → Int32) (G : Nat → Int64) (I : Nat → Nat → Int32) (J : Nat → Nat → Int64) (Z : Nat → Nat → Nat → Int32) (hAp : ∀ i j, i < 44 → j < 44 → a i = a j → i = j) (x1 : Int32) (x2 : Int32) (x3 : Int64) {o0 : Int64} {o1 : Nat → Int32} {o2 : Nat → Int32} {o3 : Nat → Int64} {o4 : Nat → Int64} (hf : p_X1_letIn (F 0) (F 2) (G 2) (I 2) (I 4) (I 5) (I 6) (I 7) (I 8) (J 5) (J 6) x1 x2 x3 = some (o0, o1, o2, o3, o4)) : Ct 44 l yX1_letIn cX1_letIn 8 none (rm_X1_letIn 9) D (tyC kc) a (wC a kc F G I J Z) [.ref (a 17), .int x1, .int x2, .long x3] (Qv D (wC a kc F (va_up G 2 o0) (va_up (va_up I 7 o1) 8 o2) (va_up (va_up J 5 o3) 6 o4) Z)) := c_X1_letInr hAp 9 F G I J Z x1 x2 x3 hf
abbrev rm_X1_refresh : Room := { frames := 13, cells := 0, slots := 0, locals := 380 }
set_option maxHeartbeats 4000000 in
set_option maxRecDepth 100000 in
theorem t_X1_refresh_b19 {p : Program} {l : Launch} {e : Env} {s : State} {m : MethodId} {args : Array Value} {below : List Frame} {meth : Method} {c : Code} {D : va_G} {a : Nat → Nat} {kc : Nat → ClassId} (X : cx 44 p s m args meth c D (tyC kc) a cX1_refresh 1 RX1 none) {Z : Nat → Nat → Nat → Int32} {Ff : Nat → Int32} {Gf : Nat → Int64} {If : Nat → Nat → Int32} {Jf : Nat → Nat → Int64}  :
    ∀ (F : Nat → Int32) (G : Nat → Int64) (I : Nat → Nat → Int32) (J : Nat → Nat → Int64)  (H : Heap) (locs : List Loc) (ls : Array Slot), p_X1_refresh_b19 (F 0) (F 2) (F 4) (G 2) (I 2) (I 4) (I 5) (I 6) (I 7) (I 8) (J 5) (J 6)  = some ((Ff 4), (Gf 2), (If 7), (If 8), (Jf 5), (Jf 6)) → (∀ k, k ∉ ([4] : List Nat) → Ff k = F k) → (∀ k, k ∉ ([2] : List Nat) → Gf k = G k) → (∀ k, k ∉ ([7, 8] : List Nat) → If k = I k) → (∀ k, k ∉ ([5, 6] : List Nat) → Jf k = J k) → va_P D vwCl (wC a kc F G I J Z) H → va_S (ad a 44 s.heap.size) s.heap H locs → lv_has ls 1 [(0, .ref (a 17))] → W p l e rm_X1_refresh s m args below meth c H locs 0 0 (MQ below (Qv D (wC a kc Ff Gf If Jf Z) (ad a 44 s.heap.size)) args s 0 0 (ad a 44 s.heap.size)) (F0 m 19 ls []) := by
  intro F G I J  H locs ls hf hfF hfG hfI hfJ hP hS hl
  unfold p_X1_refresh_b19 at hf
  obtain ⟨e0, hf⟩ := o2 hf
  obtain ⟨e1, hf⟩ := o2 hf
  obtain ⟨e2, hf⟩ := o2 hf
  obtain ⟨e3, hf⟩ := o2 hf
  obtain ⟨e4, hf⟩ := o2 hf
  have e5 := o1 hf
  have EF : Ff = F := frm_eq hfF (frm_c (e0).symm frm_n)
  have EG : Gf = G := frm_eq hfG (frm_c (e1).symm frm_n)
  have EI : If = I := frm_eq hfI (frm_c (e2).symm (frm_c (e3).symm frm_n))
  have EJ : Jf = J := frm_eq hfJ (frm_c (e4).symm (frm_c (e5).symm frm_n))
  exact ret_v X hS (by rw [EF, EG, EI, EJ]; exact hP) dX1_refresh_19
set_option maxHeartbeats 4000000 in
set_option maxRecDepth 100000 in
theorem t_X1_refresh_b0 {p : Program} {l : Launch} {e : Env} {s : State} {m : MethodId} {args : Array Value} {below : List Frame} {meth : Method} {c : Code} {D : va_G} {a : Nat → Nat} {kc : Nat → ClassId} (X : cx 44 p s m args meth c D (tyC kc) a cX1_refresh 1 RX1 none) {Z : Nat → Nat → Nat → Int32} {Ff : Nat → Int32} {Gf : Nat → Int64} {If : Nat → Nat → Int32} {Jf : Nat → Nat → Int64}  :
    ∀ (F : Nat → Int32) (G : Nat → Int64) (I : Nat → Nat → Int32) (J : Nat → Nat → Int64)  (H : Heap) (locs : List Loc) (ls : Array Slot), p_X1_refresh_b0 (F 0) (F 2) (F 4) (G 2) (I 2) (I 4) (I 5) (I 6) (I 7) (I 8) (J 5) (J 6)  = some ((Ff 4), (Gf 2), (If 7), (If 8), (Jf 5), (Jf 6)) → (∀ k, k ∉ ([4] : List Nat) → Ff k = F k) → (∀ k, k ∉ ([2] : List Nat) → Gf k = G k) → (∀ k, k ∉ ([7, 8] : List Nat) → If k = I k) → (∀ k, k ∉ ([5, 6] : List Nat) → Jf k = J k) → va_P D vwCl (wC a kc F G I J Z) H → va_S (ad a 44 s.heap.size) s.heap H locs → lv_has ls 1 [(0, .ref (a 17))] → W p l e rm_X1_refresh s m args below meth c H locs 0 0 (MQ below (Qv D (wC a kc Ff Gf If Jf Z) (ad a 44 s.heap.size)) args s 0 0 (ad a 44 s.heap.size)) (F0 m 0 ls []) := by
  intro F G I J  H locs ls hf hfF hfG hfI hfJ hP hS hl
  unfold p_X1_refresh_b0 at hf
  refine lv_aload_n X.1 X.2.1 dX1_refresh_0 rfl (lv_at hl 0 rfl) ?_
  refine gC_17_2 (F := F) X (v := (F 4)) rfl q_1_170 dX1_refresh_1 hP ?_
  refine lv_if_ne (tgt := 19) X.1 X.2.1 dX1_refresh_4 (by decide) (fun c4 => ?_) (fun c4 => ?_)
  · have hf := ie_s hf c4
    exact t_X1_refresh_b19 X F G I J  H locs ls hf hfF hfG hfI hfJ hP hS (lv_sub hl [0] rfl)
  · have hf := it_s hf c4
    refine lv_aload_n X.1 X.2.1 dX1_refresh_7 rfl (lv_at hl 0 rfl) ?_
    refine gC_17_3 X q_1_172 dX1_refresh_8 hP ?_
    refine gC_0_10 (F := F) X (v := (F 2)) rfl q_1_87 dX1_refresh_11 hP ?_
    refine lv_bipush (v := 6) X.1 X.2.1 dX1_refresh_14 (by decide) ?_
    refine lv_icmp_le (tgt := 20) X.1 X.2.1 dX1_refresh_16 (by decide) (fun c16 => ?_) (fun c16 => ?_)
    · have hf := it_s hf c16
      refine lv_aload_n X.1 X.2.1 dX1_refresh_20 rfl (lv_at hl 0 rfl) ?_
      refine lv_ldc2 (v := 9223372036854775807) X.1 X.2.1 X.2.2.2.2.1 (X.2.2.2.2.2.1 _ q_3_29) dX1_refresh_21 ?_
      refine pC_17_1 X q_1_168 dX1_refresh_24 hP hS (fun H locs hP hS => ?_)
      refine lv_aload_n X.1 X.2.1 dX1_refresh_27 rfl (lv_at hl 0 rfl) ?_
      refine gC_17_5 X q_1_174 dX1_refresh_28 hP ?_
      refine lv_iconst (v := 0) X.1 X.2.1 dX1_refresh_31 (by decide) ?_
      refine lv_ldc2 (v := 182891520000) X.1 X.2.1 X.2.2.2.2.1 (X.2.2.2.2.2.1 _ q_3_30) dX1_refresh_32 ?_
      obtain ⟨h35, hf⟩ := gd_s hf
      obtain ⟨D_reach_35, eD_reach_35, hf⟩ := nm_x hf
      refine sC_20 (J := J) X h35 eD_reach_35 dX1_refresh_35 hP hS (fun H locs hP hS => ?_)
      refine lv_aload_n X.1 X.2.1 dX1_refresh_36 rfl (lv_at hl 0 rfl) ?_
      refine lv_iconst (v := 0) X.1 X.2.1 dX1_refresh_37 (by decide) ?_
      refine lv_iconst (v := 0) X.1 X.2.1 dX1_refresh_38 (by decide) ?_
      refine lv_lconst (v := 0) X.1 X.2.1 dX1_refresh_39 (by decide) ?_
      obtain ⟨D_least_40, D_best_40, D_row_40, D_reach_40, D_takenBehind_40, ho, hf⟩ := b5_s hf
      refine call_vv (rest := []) X (c_X1_letIn F (va_up G 2 9223372036854775807) I (va_up J 5 D_reach_35) Z X.2.2.2.2.2.2.2.1 0 0 0 ho) q_3_31 q_3_33 qs_yX1_letIn q_1_5 q_3_34 ok_X1_letIn rfl 17 rfl rfl ⟨Nat.le_of_ble_eq_true rfl, Nat.le_of_ble_eq_true rfl⟩ rfl rfl hl.1 rfl (Nat.le_of_ble_eq_true rfl) dX1_refresh_40 hP hS (fun H locs hP hS => ?_)
      refine lv_aload_n X.1 X.2.1 dX1_refresh_43 rfl (lv_at hl 0 rfl) ?_
      refine lv_iconst (v := 1) X.1 X.2.1 dX1_refresh_44 (by decide) ?_
      refine pC_17_2 X (by decide) q_1_170 dX1_refresh_45 hP hS (fun H locs hP hS => ?_)
      obtain ⟨e0, hf⟩ := o2 hf
      obtain ⟨e1, hf⟩ := o2 hf
      obtain ⟨e2, hf⟩ := o2 hf
      obtain ⟨e3, hf⟩ := o2 hf
      obtain ⟨e4, hf⟩ := o2 hf
      have e5 := o1 hf
      have EF : Ff = (va_up F 4 1) := frm_eq (frm_up hfF (by decide)) (frm_c (e0).symm frm_n)
      have EG : Gf = (va_up (va_up G 2 9223372036854775807) 2 D_least_40) := frm_eq (frm_up (frm_up hfG (by decide)) (by decide)) (frm_c (e1).symm frm_n)
      have EI : If = (va_up (va_up I 7 D_best_40) 8 D_row_40) := frm_eq (frm_up (frm_up hfI (by decide)) (by decide)) (frm_c (e2).symm (frm_c (e3).symm frm_n))
      have EJ : Jf = (va_up (va_up (va_up J 5 D_reach_35) 5 D_reach_40) 6 D_takenBehind_40) := frm_eq (frm_up (frm_up (frm_up hfJ (by decide)) (by decide)) (by decide)) (frm_c (e4).symm (frm_c (e5).symm frm_n))
      exact ret_v X hS (by rw [EF, EG, EI, EJ]; exact hP) dX1_refresh_48
    · have hf := ie_s hf c16
      exact t_X1_refresh_b19 X F G I J  H locs ls hf hfF hfG hfI hfJ hP hS (lv_sub hl [0] rfl)
set_option maxRecDepth 100000 in
theorem c_X1_refresh {l : Launch} {D : va_G} {a : Nat → Nat} {kc : Nat → ClassId} (F : Nat → Int32) (G : Nat → Int64) (I : Nat → Nat → Int32) (J : Nat → Nat → Int64) (Z : Nat → Nat → Nat → Int32) (hAp : ∀ i j, i < 44 → j < 44 → a i = a j → i = j)  {o0 : Int32} {o1 : Int64} {o2 : Nat → Int32} {o3 : Nat → Int32} {o4 : Nat → Int64} {o5 : Nat → Int64} (hf : p_X1_refresh (F 0) (F 2) (F 4) (G 2) (I 2) (I 4) (I 5) (I 6) (I 7) (I 8) (J 5) (J 6)  = some (o0, o1, o2, o3, o4, o5)) : Ct 44 l yX1_refresh cX1_refresh 1 none rm_X1_refresh D (tyC kc) a (wC a kc F G I J Z) [.ref (a 17)] (Qv D (wC a kc (va_up F 4 o0) (va_up G 2 o1) (va_up (va_up I 7 o2) 8 o3) (va_up (va_up J 5 o4) 6 o5) Z)) :=
  Ct.of (by decide +kernel) hAp (Nat.le_of_ble_eq_true rfl) (fun p e s m args below meth c ls X hP hl => t_X1_refresh_b0 X F G I J  _ _ _ hf (frm_ul (fun k _ => rfl) (by decide)) (frm_ul (fun k _ => rfl) (by decide)) (frm_ul (frm_ul (fun k _ => rfl) (by decide)) (by decide)) (frm_ul (frm_ul (fun k _ => rfl) (by decide)) (by decide)) hP va_S.rf hl)
abbrev rm_X2_lot : Room := { frames := 0, cells := 0, slots := 0, locals := 0 }
set_option maxHeartbeats 4000000 in
set_option maxRecDepth 100000 in
theorem t_X2_lot_b32 {p : Program} {l : Launch} {e : Env} {s : State} {m : MethodId} {args : Array Value} {below : List Frame} {meth : Method} {c : Code} {D : va_G} {a : Nat → Nat} {kc : Nat → ClassId} (X : cx 44 p s m args meth c D (tyC kc) a cX2_lot 2 RX2 (some .int)) {G : Nat → Int64} {I : Nat → Nat → Int32} {J : Nat → Nat → Int64} {Z : Nat → Nat → Nat → Int32} {Ff : Nat → Int32} {r : Int32} :
    ∀ (F : Nat → Int32) (t0 : Int32) (H : Heap) (locs : List Loc) (ls : Array Slot), p_X2_lot_b32 (F 9) t0 = some (r, (Ff 9)) → (∀ k, k ∉ ([9] : List Nat) → Ff k = F k) → va_P D vwCl (wC a kc F G I J Z) H → va_S (ad a 44 s.heap.size) s.heap H locs → lv_has ls 2 [(0, .ref (a 30))] → W p l e rm_X2_lot s m args below meth c H locs 0 0 (MQ below (Qi D (wC a kc Ff G I J Z) r (ad a 44 s.heap.size)) args s 0 0 (ad a 44 s.heap.size)) (F0 m 32 ls [.int t0]) := by
  intro F t0 H locs ls hf hfF hP hS hl
  unfold p_X2_lot_b32 at hf
  obtain ⟨e0, hf⟩ := o2 hf
  have e1 := o1 hf
  have EF : Ff = F := frm_eq hfF (frm_c (e1).symm frm_n)
  exact ret_i X hS (by rw [EF]; exact hP) e0 dX2_lot_32
set_option maxHeartbeats 4000000 in
set_option maxRecDepth 100000 in
theorem t_X2_lot_b0 {p : Program} {l : Launch} {e : Env} {s : State} {m : MethodId} {args : Array Value} {below : List Frame} {meth : Method} {c : Code} {D : va_G} {a : Nat → Nat} {kc : Nat → ClassId} (X : cx 44 p s m args meth c D (tyC kc) a cX2_lot 2 RX2 (some .int)) {G : Nat → Int64} {I : Nat → Nat → Int32} {J : Nat → Nat → Int64} {Z : Nat → Nat → Nat → Int32} {Ff : Nat → Int32} {r : Int32} :
    ∀ (F : Nat → Int32) (x1 : Int32) (H : Heap) (locs : List Loc) (ls : Array Slot), p_X2_lot_b0 (F 9) x1 = some (r, (Ff 9)) → (∀ k, k ∉ ([9] : List Nat) → Ff k = F k) → va_P D vwCl (wC a kc F G I J Z) H → va_S (ad a 44 s.heap.size) s.heap H locs → lv_has ls 2 [(0, .ref (a 30)), (1, .int x1)] → W p l e rm_X2_lot s m args below meth c H locs 0 0 (MQ below (Qi D (wC a kc Ff G I J Z) r (ad a 44 s.heap.size)) args s 0 0 (ad a 44 s.heap.size)) (F0 m 0 ls []) := by
  intro F x1 H locs ls hf hfF hP hS hl
  unfold p_X2_lot_b0 at hf
  refine lv_aload_n X.1 X.2.1 dX2_lot_0 rfl (lv_at hl 0 rfl) ?_
  refine lv_ldc (v := 1103515245) X.1 X.2.1 X.2.2.2.2.1 (X.2.2.2.2.2.1 _ q_4_4) dX2_lot_1 ?_
  refine lv_aload_n X.1 X.2.1 dX2_lot_3 rfl (lv_at hl 0 rfl) ?_
  refine gC_30_3 (F := F) X (v := (F 9)) rfl q_2_10 dX2_lot_4 hP ?_
  refine lv_imul X.1 X.2.1 dX2_lot_7 ?_
  refine lv_sipush (v := 12345) X.1 X.2.1 dX2_lot_8 (by decide) ?_
  refine lv_iadd X.1 X.2.1 dX2_lot_11 ?_
  refine nm_i hf (fun E_state_12 hf => ?_)
  refine pC_30_3 X q_2_10 dX2_lot_12 hP hS (fun H locs hP hS => ?_)
  refine lv_iload_n X.1 X.2.1 dX2_lot_15 rfl (lv_at hl 1 rfl) ?_
  refine lv_if_le (tgt := 31) X.1 X.2.1 dX2_lot_16 (by decide) (fun c16 => ?_) (fun c16 => ?_)
  · have hf := it_s hf c16
    refine lv_iconst (v := 0) X.1 X.2.1 dX2_lot_31 (by decide) ?_
    exact t_X2_lot_b32 X (va_up F 9 E_state_12) 0 H locs ls hf (frm_up hfF (by decide)) hP hS (lv_sub hl [0] rfl)
  · have hf := ie_s hf c16
    refine lv_aload_n X.1 X.2.1 dX2_lot_19 rfl (lv_at hl 0 rfl) ?_
    refine gC_30_3 (F := (va_up F 9 E_state_12)) X (v := E_state_12) rfl q_2_10 dX2_lot_20 hP ?_
    refine lv_bipush (v := 16) X.1 X.2.1 dX2_lot_23 (by decide) ?_
    refine lv_iushr X.1 X.2.1 dX2_lot_25 rfl ?_
    refine lv_iload_n X.1 X.2.1 dX2_lot_26 rfl (lv_at hl 1 rfl) ?_
    obtain ⟨h27, hf⟩ := gd_s hf
    refine lv_irem X.1 X.2.1 dX2_lot_27 (of_decide_eq_true h27) ?_
    refine lv_goto (tgt := 32) X.1 X.2.1 dX2_lot_28 (by decide) ?_
    exact t_X2_lot_b32 X (va_up F 9 E_state_12) (((E_state_12.toUInt32 >>> ((16 : Int32).toUInt32 &&& Int32.toUInt32 31)).toInt32) - (((E_state_12.toUInt32 >>> ((16 : Int32).toUInt32 &&& Int32.toUInt32 31)).toInt32) / x1) * x1) H locs ls hf (frm_up hfF (by decide)) hP hS (lv_sub hl [0] rfl)
set_option maxRecDepth 100000 in
theorem c_X2_lot {l : Launch} {D : va_G} {a : Nat → Nat} {kc : Nat → ClassId} (F : Nat → Int32) (G : Nat → Int64) (I : Nat → Nat → Int32) (J : Nat → Nat → Int64) (Z : Nat → Nat → Nat → Int32) (hAp : ∀ i j, i < 44 → j < 44 → a i = a j → i = j) (x1 : Int32) {o0 : Int32} {o1 : Int32} (hf : p_X2_lot (F 9) x1 = some (o0, o1)) : Ct 44 l yX2_lot cX2_lot 2 (some .int) rm_X2_lot D (tyC kc) a (wC a kc F G I J Z) [.ref (a 30), .int x1] (Qi D (wC a kc (va_up F 9 o1) G I J Z) o0) :=
  Ct.of (by decide +kernel) hAp (Nat.le_of_ble_eq_true rfl) (fun p e s m args below meth c ls X hP hl => t_X2_lot_b0 X F x1 _ _ _ hf (frm_ul (fun k _ => rfl) (by decide)) hP va_S.rf hl)
abbrev rm_X2_member : Room := { frames := 1, cells := 0, slots := 0, locals := 21 }
set_option maxHeartbeats 4000000 in
set_option maxRecDepth 100000 in
theorem t_X2_member_b37 {p : Program} {l : Launch} {e : Env} {s : State} {m : MethodId} {args : Array Value} {below : List Frame} {meth : Method} {c : Code} {D : va_G} {a : Nat → Nat} {kc : Nat → ClassId} (X : cx 44 p s m args meth c D (tyC kc) a cX2_member 5 RX2 (some .int)) {F : Nat → Int32} {G : Nat → Int64} {I : Nat → Nat → Int32} {J : Nat → Nat → Int64} {Z : Nat → Nat → Nat → Int32}  {r : Int32} {K5 : Int32 → Int32 → Int32 → Int32 → Int32 → Option (Int32)} (kh5 : ∀  (x1 : Int32) (x2 : Int32) (x3 : Int32) (x4 : Int32) (H : Heap) (locs : List Loc) (ls : Array Slot), K5 (F 0) x1 x2 x3 x4 = some r → va_P D vwCl (wC a kc F G I J Z) H → va_S (ad a 44 s.heap.size) s.heap H locs → lv_has ls 5 [(0, .ref (a 30)), (1, .int x1), (2, .int x2), (3, .int x3), (4, .int x4)] → W p l e rm_X2_member s m args below meth c H locs 0 0 (MQ below (Qi D (wC a kc F G I J Z) r (ad a 44 s.heap.size)) args s 0 0 (ad a 44 s.heap.size)) (F0 m 5 ls [])) :
    ∀  (x1 : Int32) (x2 : Int32) (x3 : Int32) (x4 : Int32) (H : Heap) (locs : List Loc) (ls : Array Slot), p_X2_member_b37 K5 (F 0) x1 x2 x3 x4 = some r → va_P D vwCl (wC a kc F G I J Z) H → va_S (ad a 44 s.heap.size) s.heap H locs → lv_has ls 5 [(0, .ref (a 30)), (1, .int x1), (2, .int x2), (3, .int x3), (4, .int x4)] → W p l e rm_X2_member s m args below meth c H locs 0 0 (MQ below (Qi D (wC a kc F G I J Z) r (ad a 44 s.heap.size)) args s 0 0 (ad a 44 s.heap.size)) (F0 m 37 ls []) := by
  intro  x1 x2 x3 x4 H locs ls hf  hP hS hl
  unfold p_X2_member_b37 at hf
  obtain ⟨x37, ex37, hf⟩ := nm_x hf
  refine lv_iinc (v := x37) (lv' := [(4, .int x37), (0, .ref (a 30)), (1, .int x1), (2, .int x2), (3, .int x3)]) X.1 X.2.1 dX2_member_37 hl (k := 4) rfl ex37 (by decide) rfl (fun ls hl => ?_)
  refine lv_goto (tgt := 5) X.1 X.2.1 dX2_member_40 (by decide) ?_
  exact kh5  x1 x2 x3 x37 H locs ls hf  hP hS (lv_sub hl [1, 2, 3, 4, 0] rfl)
set_option maxHeartbeats 4000000 in
set_option maxRecDepth 100000 in
theorem t_X2_member_b5x {p : Program} {l : Launch} {e : Env} {s : State} {m : MethodId} {args : Array Value} {below : List Frame} {meth : Method} {c : Code} {D : va_G} {a : Nat → Nat} {kc : Nat → ClassId} (X : cx 44 p s m args meth c D (tyC kc) a cX2_member 5 RX2 (some .int)) {F : Nat → Int32} {G : Nat → Int64} {I : Nat → Nat → Int32} {J : Nat → Nat → Int64} {Z : Nat → Nat → Nat → Int32}  {r : Int32} {K5 : Int32 → Int32 → Int32 → Int32 → Int32 → Option (Int32)} (kh5 : ∀  (x1 : Int32) (x2 : Int32) (x3 : Int32) (x4 : Int32) (H : Heap) (locs : List Loc) (ls : Array Slot), K5 (F 0) x1 x2 x3 x4 = some r → va_P D vwCl (wC a kc F G I J Z) H → va_S (ad a 44 s.heap.size) s.heap H locs → lv_has ls 5 [(0, .ref (a 30)), (1, .int x1), (2, .int x2), (3, .int x3), (4, .int x4)] → W p l e rm_X2_member s m args below meth c H locs 0 0 (MQ below (Qi D (wC a kc F G I J Z) r (ad a 44 s.heap.size)) args s 0 0 (ad a 44 s.heap.size)) (F0 m 5 ls [])) :
    ∀  (x1 : Int32) (x2 : Int32) (x3 : Int32) (x4 : Int32) (H : Heap) (locs : List Loc) (ls : Array Slot), p_X2_member_b5x K5 (F 0) x1 x2 x3 x4 = some r → va_P D vwCl (wC a kc F G I J Z) H → va_S (ad a 44 s.heap.size) s.heap H locs → lv_has ls 5 [(0, .ref (a 30)), (1, .int x1), (2, .int x2), (3, .int x3), (4, .int x4)] → W p l e rm_X2_member s m args below meth c H locs 0 0 (MQ below (Qi D (wC a kc F G I J Z) r (ad a 44 s.heap.size)) args s 0 0 (ad a 44 s.heap.size)) (F0 m 5 ls []) := by
  intro  x1 x2 x3 x4 H locs ls hf  hP hS hl
  unfold p_X2_member_b5x at hf
  refine lv_iload X.1 X.2.1 dX2_member_5 (lv_at hl 4 rfl) ?_
  refine lv_aload_n X.1 X.2.1 dX2_member_7 rfl (lv_at hl 0 rfl) ?_
  refine gC_30_2 X q_2_9 dX2_member_8 hP ?_
  refine gC_0_8 (F := F) X (v := (F 0)) rfl q_1_81 dX2_member_11 hP ?_
  refine lv_icmp_ge (tgt := 43) X.1 X.2.1 dX2_member_14 (by decide) (fun c14 => ?_) (fun c14 => ?_)
  · have hf := it_s hf c14
    refine lv_iconst (v := 0) X.1 X.2.1 dX2_member_43 (by decide) ?_
    have e0 := o1 hf
    exact ret_i X hS hP e0 dX2_member_44
  · have hf := ie_s hf c14
    refine lv_iload_n X.1 X.2.1 dX2_member_17 rfl (lv_at hl 1 rfl) ?_
    refine lv_iload X.1 X.2.1 dX2_member_18 (lv_at hl 4 rfl) ?_
    obtain ⟨r20, ho, hf⟩ := b1_s hf
    refine call_si (rest := []) X (c_X3_has x1 x4 ho) q_3_238 q_2_178 q_1_2 q_2_179 ok_X3_has rfl ⟨Nat.le_of_ble_eq_true rfl, Nat.le_of_ble_eq_true rfl⟩ rfl rfl hl.1 rfl (Nat.le_of_ble_eq_true rfl) dX2_member_20 hP hS (fun H locs hP hS => ?_)
    refine lv_if_eq (tgt := 37) X.1 X.2.1 dX2_member_23 (by decide) (fun c23 => ?_) (fun c23 => ?_)
    · have hf := it_s hf c23
      exact t_X2_member_b37 X kh5  x1 x2 x3 x4 H locs ls hf  hP hS (lv_sub hl [0, 1, 2, 3, 4] rfl)
    · have hf := ie_s hf c23
      refine lv_iload_n X.1 X.2.1 dX2_member_26 rfl (lv_at hl 3 rfl) ?_
      refine lv_iload_n X.1 X.2.1 dX2_member_27 rfl (lv_at hl 2 rfl) ?_
      refine lv_icmp_ne (tgt := 34) X.1 X.2.1 dX2_member_28 (by decide) (fun c28 => ?_) (fun c28 => ?_)
      · have hf := ie_s hf c28
        obtain ⟨x34, ex34, hf⟩ := nm_x hf
        refine lv_iinc (v := x34) (lv' := [(3, .int x34), (0, .ref (a 30)), (1, .int x1), (2, .int x2), (4, .int x4)]) X.1 X.2.1 dX2_member_34 hl (k := 3) rfl ex34 (by decide) rfl (fun ls hl => ?_)
        exact t_X2_member_b37 X kh5  x1 x2 x34 x4 H locs ls hf  hP hS (lv_sub hl [1, 2, 3, 0, 4] rfl)
      · have hf := it_s hf c28
        refine lv_iload X.1 X.2.1 dX2_member_31 (lv_at hl 4 rfl) ?_
        have e0 := o1 hf
        exact ret_i X hS hP e0 dX2_member_33
set_option maxRecDepth 100000 in
theorem t_X2_member_b5 {p : Program} {l : Launch} {e : Env} {s : State} {m : MethodId} {args : Array Value} {below : List Frame} {meth : Method} {c : Code} {D : va_G} {a : Nat → Nat} {kc : Nat → ClassId} (X : cx 44 p s m args meth c D (tyC kc) a cX2_member 5 RX2 (some .int)) {F : Nat → Int32} {G : Nat → Int64} {I : Nat → Nat → Int32} {J : Nat → Nat → Int64} {Z : Nat → Nat → Nat → Int32}  {r : Int32} :
    ∀ (n : Nat)  (x1 : Int32) (x2 : Int32) (x3 : Int32) (x4 : Int32) (H : Heap) (locs : List Loc) (ls : Array Slot), p_X2_member_b5 n (F 0) x1 x2 x3 x4 = some r → va_P D vwCl (wC a kc F G I J Z) H → va_S (ad a 44 s.heap.size) s.heap H locs → lv_has ls 5 [(0, .ref (a 30)), (1, .int x1), (2, .int x2), (3, .int x3), (4, .int x4)] → W p l e rm_X2_member s m args below meth c H locs 0 0 (MQ below (Qi D (wC a kc F G I J Z) r (ad a 44 s.heap.size)) args s 0 0 (ad a 44 s.heap.size)) (F0 m 5 ls []) := by
  intro n
  induction n with
  | zero => intro  x1 x2 x3 x4 H locs ls hf  hP hS hl; exact (nos hf).elim
  | succ n ih => exact t_X2_member_b5x X ih
set_option maxHeartbeats 4000000 in
set_option maxRecDepth 100000 in
theorem t_X2_member_b0 {p : Program} {l : Launch} {e : Env} {s : State} {m : MethodId} {args : Array Value} {below : List Frame} {meth : Method} {c : Code} {D : va_G} {a : Nat → Nat} {kc : Nat → ClassId} (X : cx 44 p s m args meth c D (tyC kc) a cX2_member 5 RX2 (some .int)) {F : Nat → Int32} {G : Nat → Int64} {I : Nat → Nat → Int32} {J : Nat → Nat → Int64} {Z : Nat → Nat → Nat → Int32}  {r : Int32} :
    ∀  (x1 : Int32) (x2 : Int32) (H : Heap) (locs : List Loc) (ls : Array Slot), p_X2_member_b0 (F 0) x1 x2 = some r → va_P D vwCl (wC a kc F G I J Z) H → va_S (ad a 44 s.heap.size) s.heap H locs → lv_has ls 5 [(0, .ref (a 30)), (1, .int x1), (2, .int x2)] → W p l e rm_X2_member s m args below meth c H locs 0 0 (MQ below (Qi D (wC a kc F G I J Z) r (ad a 44 s.heap.size)) args s 0 0 (ad a 44 s.heap.size)) (F0 m 0 ls []) := by
  intro  x1 x2 H locs ls hf  hP hS hl
  unfold p_X2_member_b0 at hf
  refine lv_iconst (v := 0) X.1 X.2.1 dX2_member_0 (by decide) ?_
  refine lv_istore_n (lv' := [(3, .int 0), (0, .ref (a 30)), (1, .int x1), (2, .int x2)]) X.1 X.2.1 dX2_member_1 rfl hl (by decide) rfl (fun ls hl => ?_)
  refine lv_iconst (v := 0) X.1 X.2.1 dX2_member_2 (by decide) ?_
  refine lv_istore (lv' := [(4, .int 0), (3, .int 0), (0, .ref (a 30)), (1, .int x1), (2, .int x2)]) X.1 X.2.1 dX2_member_3 hl (by decide) rfl (fun ls hl => ?_)
  exact t_X2_member_b5 X 4096  x1 x2 0 0 H locs ls hf  hP hS (lv_sub hl [2, 3, 4, 1, 0] rfl)
set_option maxRecDepth 100000 in
theorem c_X2_member {l : Launch} {D : va_G} {a : Nat → Nat} {kc : Nat → ClassId} (F : Nat → Int32) (G : Nat → Int64) (I : Nat → Nat → Int32) (J : Nat → Nat → Int64) (Z : Nat → Nat → Nat → Int32) (hAp : ∀ i j, i < 44 → j < 44 → a i = a j → i = j) (x1 : Int32) (x2 : Int32) {o0 : Int32} (hf : p_X2_member (F 0) x1 x2 = some o0) : Ct 44 l yX2_member cX2_member 5 (some .int) rm_X2_member D (tyC kc) a (wC a kc F G I J Z) [.ref (a 30), .int x1, .int x2] (Qi D (wC a kc F G I J Z) o0) :=
  Ct.of (by decide +kernel) hAp (Nat.le_of_ble_eq_true rfl) (fun p e s m args below meth c ls X hP hl => t_X2_member_b0 X  x1 x2 _ _ _ hf  hP va_S.rf hl)
abbrev rm_X2_place : Room := { frames := 2, cells := 0, slots := 0, locals := 50 }
set_option maxHeartbeats 4000000 in
set_option maxRecDepth 100000 in
theorem t_X2_place_b58 {p : Program} {l : Launch} {e : Env} {s : State} {m : MethodId} {args : Array Value} {below : List Frame} {meth : Method} {c : Code} {D : va_G} {a : Nat → Nat} {kc : Nat → ClassId} (X : cx 44 p s m args meth c D (tyC kc) a cX2_place 6 RX2 (some .int)) {G : Nat → Int64} {I : Nat → Nat → Int32} {J : Nat → Nat → Int64} {Z : Nat → Nat → Nat → Int32} {Ff : Nat → Int32} {r : Int32} :
    ∀ (F : Nat → Int32) (t1 : Int32) (t2 : Int32) (H : Heap) (locs : List Loc) (ls : Array Slot), p_X2_place_b58 (F 0) (F 9) (I 2) (I 4) t1 t2 = some (r, (Ff 9)) → (∀ k, k ∉ ([9] : List Nat) → Ff k = F k) → va_P D vwCl (wC a kc F G I J Z) H → va_S (ad a 44 s.heap.size) s.heap H locs → lv_has ls 6 [(0, .ref (a 30))] → W p l e rm_X2_place s m args below meth c H locs 0 0 (MQ below (Qi D (wC a kc Ff G I J Z) r (ad a 44 s.heap.size)) args s 0 0 (ad a 44 s.heap.size)) (F0 m 58 ls [.int t2, .int t1, .ref (a 30)]) := by
  intro F t1 t2 H locs ls hf hfF hP hS hl
  unfold p_X2_place_b58 at hf
  obtain ⟨r58, ho, hf⟩ := b1_s hf
  refine call_vi (rest := []) X (c_X2_member F G I J Z X.2.2.2.2.2.2.2.1 t1 t2 ho) q_4_5 q_4_7 qs_yX2_member q_1_7 q_4_8 ok_X2_member rfl 30 rfl rfl ⟨Nat.le_of_ble_eq_true rfl, Nat.le_of_ble_eq_true rfl⟩ rfl rfl hl.1 rfl (Nat.le_of_ble_eq_true rfl) dX2_place_58 hP hS (fun H locs hP hS => ?_)
  obtain ⟨e0, hf⟩ := o2 hf
  have e1 := o1 hf
  have EF : Ff = F := frm_eq hfF (frm_c (e1).symm frm_n)
  exact ret_i X hS (by rw [EF]; exact hP) e0 dX2_place_61
set_option maxHeartbeats 4000000 in
set_option maxRecDepth 100000 in
theorem t_X2_place_b35 {p : Program} {l : Launch} {e : Env} {s : State} {m : MethodId} {args : Array Value} {below : List Frame} {meth : Method} {c : Code} {D : va_G} {a : Nat → Nat} {kc : Nat → ClassId} (X : cx 44 p s m args meth c D (tyC kc) a cX2_place 6 RX2 (some .int)) {G : Nat → Int64} {I : Nat → Nat → Int32} {J : Nat → Nat → Int64} {Z : Nat → Nat → Nat → Int32} {Ff : Nat → Int32} {r : Int32} :
    ∀ (F : Nat → Int32) (t0 : Int32) (x4 : Int32) (H : Heap) (locs : List Loc) (ls : Array Slot), p_X2_place_b35 (F 0) (F 9) (I 2) (I 4) t0 x4 = some (r, (Ff 9)) → (∀ k, k ∉ ([9] : List Nat) → Ff k = F k) → va_P D vwCl (wC a kc F G I J Z) H → va_S (ad a 44 s.heap.size) s.heap H locs → lv_has ls 6 [(0, .ref (a 30)), (4, .int x4)] → W p l e rm_X2_place s m args below meth c H locs 0 0 (MQ below (Qi D (wC a kc Ff G I J Z) r (ad a 44 s.heap.size)) args s 0 0 (ad a 44 s.heap.size)) (F0 m 35 ls [.int t0]) := by
  intro F t0 x4 H locs ls hf hfF hP hS hl
  unfold p_X2_place_b35 at hf
  refine lv_istore (lv' := [(5, .int t0), (0, .ref (a 30)), (4, .int x4)]) X.1 X.2.1 dX2_place_35 hl (by decide) rfl (fun ls hl => ?_)
  refine lv_aload_n X.1 X.2.1 dX2_place_37 rfl (lv_at hl 1 rfl) ?_
  refine lv_iload X.1 X.2.1 dX2_place_38 (lv_at hl 2 rfl) ?_
  refine lv_iload X.1 X.2.1 dX2_place_40 (lv_at hl 0 rfl) ?_
  refine lv_if_eq (tgt := 57) X.1 X.2.1 dX2_place_42 (by decide) (fun c42 => ?_) (fun c42 => ?_)
  · have hf := it_s hf c42
    refine lv_iconst (v := 0) X.1 X.2.1 dX2_place_57 (by decide) ?_
    exact t_X2_place_b58 X F x4 0 H locs ls hf hfF hP hS (lv_sub hl [1] rfl)
  · have hf := ie_s hf c42
    refine lv_aload_n X.1 X.2.1 dX2_place_45 rfl (lv_at hl 1 rfl) ?_
    refine lv_iload X.1 X.2.1 dX2_place_46 (lv_at hl 2 rfl) ?_
    obtain ⟨r48, ho, hf⟩ := b1_s hf
    refine call_si (rest := [.ref (a 30), .int x4, .ref (a 30)]) X (c_J6_bitCount_0f7a4 x4 ho) q_3_239 q_2_164 q_1_11 q_2_165 ok_J6_bitCount_0f7a4 rfl ⟨Nat.le_of_ble_eq_true rfl, Nat.le_of_ble_eq_true rfl⟩ rfl rfl hl.1 rfl (Nat.le_of_ble_eq_true rfl) dX2_place_48 hP hS (fun H locs hP hS => ?_)
    obtain ⟨r51, E_state_51, ho, hf⟩ := b2_s hf
    refine call_vi (rest := [.int x4, .ref (a 30)]) X (c_X2_lot F G I J Z X.2.2.2.2.2.2.2.1 r48 ho) q_4_0 q_4_2 qs_yX2_lot q_1_7 q_4_3 ok_X2_lot rfl 30 rfl rfl ⟨Nat.le_of_ble_eq_true rfl, Nat.le_of_ble_eq_true rfl⟩ rfl rfl hl.1 rfl (Nat.le_of_ble_eq_true rfl) dX2_place_51 hP hS (fun H locs hP hS => ?_)
    refine lv_goto (tgt := 58) X.1 X.2.1 dX2_place_54 (by decide) ?_
    exact t_X2_place_b58 X (va_up F 9 E_state_51) x4 r51 H locs ls hf (frm_up hfF (by decide)) hP hS (lv_sub hl [1] rfl)
set_option maxHeartbeats 4000000 in
set_option maxRecDepth 100000 in
theorem t_X2_place_b30 {p : Program} {l : Launch} {e : Env} {s : State} {m : MethodId} {args : Array Value} {below : List Frame} {meth : Method} {c : Code} {D : va_G} {a : Nat → Nat} {kc : Nat → ClassId} (X : cx 44 p s m args meth c D (tyC kc) a cX2_place 6 RX2 (some .int)) {G : Nat → Int64} {I : Nat → Nat → Int32} {J : Nat → Nat → Int64} {Z : Nat → Nat → Nat → Int32} {Ff : Nat → Int32} {r : Int32} :
    ∀ (F : Nat → Int32) (x4 : Int32) (H : Heap) (locs : List Loc) (ls : Array Slot), p_X2_place_b30 (F 0) (F 9) (I 2) (I 4) x4 = some (r, (Ff 9)) → (∀ k, k ∉ ([9] : List Nat) → Ff k = F k) → va_P D vwCl (wC a kc F G I J Z) H → va_S (ad a 44 s.heap.size) s.heap H locs → lv_has ls 6 [(0, .ref (a 30)), (4, .int x4)] → W p l e rm_X2_place s m args below meth c H locs 0 0 (MQ below (Qi D (wC a kc Ff G I J Z) r (ad a 44 s.heap.size)) args s 0 0 (ad a 44 s.heap.size)) (F0 m 30 ls []) := by
  intro F x4 H locs ls hf hfF hP hS hl
  unfold p_X2_place_b30 at hf
  refine lv_iconst (v := 1) X.1 X.2.1 dX2_place_30 (by decide) ?_
  refine lv_goto (tgt := 35) X.1 X.2.1 dX2_place_31 (by decide) ?_
  exact t_X2_place_b35 X F 1 x4 H locs ls hf hfF hP hS (lv_sub hl [0, 1] rfl)
set_option maxHeartbeats 4000000 in
set_option maxRecDepth 100000 in
theorem t_X2_place_b34 {p : Program} {l : Launch} {e : Env} {s : State} {m : MethodId} {args : Array Value} {below : List Frame} {meth : Method} {c : Code} {D : va_G} {a : Nat → Nat} {kc : Nat → ClassId} (X : cx 44 p s m args meth c D (tyC kc) a cX2_place 6 RX2 (some .int)) {G : Nat → Int64} {I : Nat → Nat → Int32} {J : Nat → Nat → Int64} {Z : Nat → Nat → Nat → Int32} {Ff : Nat → Int32} {r : Int32} :
    ∀ (F : Nat → Int32) (x4 : Int32) (H : Heap) (locs : List Loc) (ls : Array Slot), p_X2_place_b34 (F 0) (F 9) (I 2) (I 4) x4 = some (r, (Ff 9)) → (∀ k, k ∉ ([9] : List Nat) → Ff k = F k) → va_P D vwCl (wC a kc F G I J Z) H → va_S (ad a 44 s.heap.size) s.heap H locs → lv_has ls 6 [(0, .ref (a 30)), (4, .int x4)] → W p l e rm_X2_place s m args below meth c H locs 0 0 (MQ below (Qi D (wC a kc Ff G I J Z) r (ad a 44 s.heap.size)) args s 0 0 (ad a 44 s.heap.size)) (F0 m 34 ls []) := by
  intro F x4 H locs ls hf hfF hP hS hl
  unfold p_X2_place_b34 at hf
  refine lv_iconst (v := 0) X.1 X.2.1 dX2_place_34 (by decide) ?_
  exact t_X2_place_b35 X F 0 x4 H locs ls hf hfF hP hS (lv_sub hl [0, 1] rfl)
set_option maxHeartbeats 4000000 in
set_option maxRecDepth 100000 in
theorem t_X2_place_b0 {p : Program} {l : Launch} {e : Env} {s : State} {m : MethodId} {args : Array Value} {below : List Frame} {meth : Method} {c : Code} {D : va_G} {a : Nat → Nat} {kc : Nat → ClassId} (X : cx 44 p s m args meth c D (tyC kc) a cX2_place 6 RX2 (some .int)) {G : Nat → Int64} {I : Nat → Nat → Int32} {J : Nat → Nat → Int64} {Z : Nat → Nat → Nat → Int32} {Ff : Nat → Int32} {r : Int32} :
    ∀ (F : Nat → Int32) (x1 : Int32) (x2 : Int32) (x3 : Int32) (H : Heap) (locs : List Loc) (ls : Array Slot), p_X2_place_b0 (F 0) (F 9) (I 2) (I 4) x1 x2 x3 = some (r, (Ff 9)) → (∀ k, k ∉ ([9] : List Nat) → Ff k = F k) → va_P D vwCl (wC a kc F G I J Z) H → va_S (ad a 44 s.heap.size) s.heap H locs → lv_has ls 6 [(0, .ref (a 30)), (1, .int x1), (2, .int x2), (3, .int x3)] → W p l e rm_X2_place s m args below meth c H locs 0 0 (MQ below (Qi D (wC a kc Ff G I J Z) r (ad a 44 s.heap.size)) args s 0 0 (ad a 44 s.heap.size)) (F0 m 0 ls []) := by
  intro F x1 x2 x3 H locs ls hf hfF hP hS hl
  unfold p_X2_place_b0 at hf
  refine lv_aload_n X.1 X.2.1 dX2_place_0 rfl (lv_at hl 0 rfl) ?_
  refine gC_30_2 X q_2_9 dX2_place_1 hP ?_
  refine lv_iload_n X.1 X.2.1 dX2_place_4 rfl (lv_at hl 1 rfl) ?_
  refine lv_iload_n X.1 X.2.1 dX2_place_5 rfl (lv_at hl 2 rfl) ?_
  refine lv_iload_n X.1 X.2.1 dX2_place_6 rfl (lv_at hl 3 rfl) ?_
  obtain ⟨r7, ho, hf⟩ := b1_s hf
  refine call_vi (rest := []) X (c_X3_choices F G I J Z X.2.2.2.2.2.2.2.1 x1 x2 x3 ho) q_3_237 q_2_181 q_2_182 q_1_2 q_2_183 ok_X3_choices rfl 0 rfl rfl ⟨Nat.le_of_ble_eq_true rfl, Nat.le_of_ble_eq_true rfl⟩ rfl rfl hl.1 rfl (Nat.le_of_ble_eq_true rfl) dX2_place_7 hP hS (fun H locs hP hS => ?_)
  refine lv_istore (lv' := [(4, .int r7), (0, .ref (a 30)), (1, .int x1), (2, .int x2), (3, .int x3)]) X.1 X.2.1 dX2_place_10 hl (by decide) rfl (fun ls hl => ?_)
  refine lv_iload_n X.1 X.2.1 dX2_place_12 rfl (lv_at hl 4 rfl) ?_
  refine lv_iconst (v := 1) X.1 X.2.1 dX2_place_13 (by decide) ?_
  refine lv_icmp_eq (tgt := 30) X.1 X.2.1 dX2_place_14 (by decide) (fun c14 => ?_) (fun c14 => ?_)
  · have hf := it_s hf c14
    exact t_X2_place_b30 X F r7 H locs ls hf hfF hP hS (lv_sub hl [1, 0] rfl)
  · have hf := ie_s hf c14
    refine lv_iload_n X.1 X.2.1 dX2_place_17 rfl (lv_at hl 4 rfl) ?_
    refine lv_iconst (v := 2) X.1 X.2.1 dX2_place_18 (by decide) ?_
    refine lv_icmp_eq (tgt := 34) X.1 X.2.1 dX2_place_19 (by decide) (fun c19 => ?_) (fun c19 => ?_)
    · have hf := it_s hf c19
      exact t_X2_place_b34 X F r7 H locs ls hf hfF hP hS (lv_sub hl [1, 0] rfl)
    · have hf := ie_s hf c19
      refine lv_iload_n X.1 X.2.1 dX2_place_22 rfl (lv_at hl 2 rfl) ?_
      refine lv_iload_n X.1 X.2.1 dX2_place_23 rfl (lv_at hl 3 rfl) ?_
      obtain ⟨r24, ho, hf⟩ := b1_s hf
      refine call_si (rest := []) X (c_X3_has x1 x2 ho) q_3_238 q_2_178 q_1_2 q_2_179 ok_X3_has rfl ⟨Nat.le_of_ble_eq_true rfl, Nat.le_of_ble_eq_true rfl⟩ rfl rfl hl.1 rfl (Nat.le_of_ble_eq_true rfl) dX2_place_24 hP hS (fun H locs hP hS => ?_)
      refine lv_if_eq (tgt := 34) X.1 X.2.1 dX2_place_27 (by decide) (fun c27 => ?_) (fun c27 => ?_)
      · have hf := it_s hf c27
        exact t_X2_place_b34 X F r7 H locs ls hf hfF hP hS (lv_sub hl [1, 0] rfl)
      · have hf := ie_s hf c27
        exact t_X2_place_b30 X F r7 H locs ls hf hfF hP hS (lv_sub hl [1, 0] rfl)
set_option maxRecDepth 100000 in
theorem c_X2_place {l : Launch} {D : va_G} {a : Nat → Nat} {kc : Nat → ClassId} (F : Nat → Int32) (G : Nat → Int64) (I : Nat → Nat → Int32) (J : Nat → Nat → Int64) (Z : Nat → Nat → Nat → Int32) (hAp : ∀ i j, i < 44 → j < 44 → a i = a j → i = j) (x1 : Int32) (x2 : Int32) (x3 : Int32) {o0 : Int32} {o1 : Int32} (hf : p_X2_place (F 0) (F 9) (I 2) (I 4) x1 x2 x3 = some (o0, o1)) : Ct 44 l yX2_place cX2_place 6 (some .int) rm_X2_place D (tyC kc) a (wC a kc F G I J Z) [.ref (a 30), .int x1, .int x2, .int x3] (Qi D (wC a kc (va_up F 9 o1) G I J Z) o0) :=
  Ct.of (by decide +kernel) hAp (Nat.le_of_ble_eq_true rfl) (fun p e s m args below meth c ls X hP hl => t_X2_place_b0 X F x1 x2 x3 _ _ _ hf (frm_ul (fun k _ => rfl) (by decide)) hP va_S.rf hl)
abbrev rm_X2_run : Room := { frames := 3, cells := 0, slots := 0, locals := 75 }
set_option maxHeartbeats 4000000 in
set_option maxRecDepth 100000 in
theorem t_X2_run_b93 {p : Program} {l : Launch} {e : Env} {s : State} {m : MethodId} {args : Array Value} {below : List Frame} {meth : Method} {c : Code} {D : va_G} {a : Nat → Nat} {kc : Nat → ClassId} (X : cx 44 p s m args meth c D (tyC kc) a cX2_run 4 RX2 none) {G : Nat → Int64} {J : Nat → Nat → Int64} {Z : Nat → Nat → Nat → Int32} {Ff : Nat → Int32} {If : Nat → Nat → Int32}  {K14 : Int32 → Int32 → Int32 → Int32 → (Nat → Int32) → (Nat → Int32) → (Nat → Int32) → (Nat → Int32) → (Nat → Int32) → Int32 → Int32 → Option (Int32 × Int32 × (Nat → Int32))} (kh14 : ∀ (F : Nat → Int32) (I : Nat → Nat → Int32) (x2 : Int32) (x3 : Int32) (H : Heap) (locs : List Loc) (ls : Array Slot), K14 (F 0) (F 2) (F 8) (F 9) (I 2) (I 4) (I 5) (I 6) (I 14) x2 x3 = some ((Ff 8), (Ff 9), (If 14)) → (∀ k, k ∉ ([8, 9] : List Nat) → Ff k = F k) → (∀ k, k ∉ ([14] : List Nat) → If k = I k) → va_P D vwCl (wC a kc F G I J Z) H → va_S (ad a 44 s.heap.size) s.heap H locs → lv_has ls 4 [(0, .ref (a 30)), (2, .int x2), (3, .int x3)] → W p l e rm_X2_run s m args below meth c H locs 0 0 (MQ below (Qv D (wC a kc Ff G If J Z) (ad a 44 s.heap.size)) args s 0 0 (ad a 44 s.heap.size)) (F0 m 14 ls [])) :
    ∀ (F : Nat → Int32) (I : Nat → Nat → Int32) (t1 : Int32) (t2 : Int32) (x2 : Int32) (x3 : Int32) (H : Heap) (locs : List Loc) (ls : Array Slot), p_X2_run_b93 K14 (F 0) (F 2) (F 8) (F 9) (I 2) (I 4) (I 5) (I 6) (I 14) t1 t2 x2 x3 = some ((Ff 8), (Ff 9), (If 14)) → (∀ k, k ∉ ([8, 9] : List Nat) → Ff k = F k) → (∀ k, k ∉ ([14] : List Nat) → If k = I k) → va_P D vwCl (wC a kc F G I J Z) H → va_S (ad a 44 s.heap.size) s.heap H locs → lv_has ls 4 [(0, .ref (a 30)), (2, .int x2), (3, .int x3)] → W p l e rm_X2_run s m args below meth c H locs 0 0 (MQ below (Qv D (wC a kc Ff G If J Z) (ad a 44 s.heap.size)) args s 0 0 (ad a 44 s.heap.size)) (F0 m 93 ls [.int t2, .int t1, .ref (a 30)]) := by
  intro F I t1 t2 x2 x3 H locs ls hf hfF hfI hP hS hl
  unfold p_X2_run_b93 at hf
  refine lv_iadd X.1 X.2.1 dX2_run_93 ?_
  refine nm_i hf (fun E_wrongs_94 hf => ?_)
  refine pC_30_1 X q_2_7 dX2_run_94 hP hS (fun H locs hP hS => ?_)
  obtain ⟨x97, ex97, hf⟩ := nm_x hf
  refine lv_iinc (v := x97) (lv' := [(3, .int x97), (0, .ref (a 30)), (2, .int x2)]) X.1 X.2.1 dX2_run_97 hl (k := 2) rfl ex97 (by decide) rfl (fun ls hl => ?_)
  refine lv_goto (tgt := 14) X.1 X.2.1 dX2_run_100 (by decide) ?_
  exact kh14 (va_up F 8 E_wrongs_94) I x2 x97 H locs ls hf (frm_up hfF (by decide)) hfI hP hS (lv_sub hl [1, 2, 0] rfl)
set_option maxHeartbeats 4000000 in
set_option maxRecDepth 100000 in
theorem t_X2_run_b14x {p : Program} {l : Launch} {e : Env} {s : State} {m : MethodId} {args : Array Value} {below : List Frame} {meth : Method} {c : Code} {D : va_G} {a : Nat → Nat} {kc : Nat → ClassId} (X : cx 44 p s m args meth c D (tyC kc) a cX2_run 4 RX2 none) {G : Nat → Int64} {J : Nat → Nat → Int64} {Z : Nat → Nat → Nat → Int32} {Ff : Nat → Int32} {If : Nat → Nat → Int32}  {K14 : Int32 → Int32 → Int32 → Int32 → (Nat → Int32) → (Nat → Int32) → (Nat → Int32) → (Nat → Int32) → (Nat → Int32) → Int32 → Int32 → Option (Int32 × Int32 × (Nat → Int32))} (kh14 : ∀ (F : Nat → Int32) (I : Nat → Nat → Int32) (x2 : Int32) (x3 : Int32) (H : Heap) (locs : List Loc) (ls : Array Slot), K14 (F 0) (F 2) (F 8) (F 9) (I 2) (I 4) (I 5) (I 6) (I 14) x2 x3 = some ((Ff 8), (Ff 9), (If 14)) → (∀ k, k ∉ ([8, 9] : List Nat) → Ff k = F k) → (∀ k, k ∉ ([14] : List Nat) → If k = I k) → va_P D vwCl (wC a kc F G I J Z) H → va_S (ad a 44 s.heap.size) s.heap H locs → lv_has ls 4 [(0, .ref (a 30)), (2, .int x2), (3, .int x3)] → W p l e rm_X2_run s m args below meth c H locs 0 0 (MQ below (Qv D (wC a kc Ff G If J Z) (ad a 44 s.heap.size)) args s 0 0 (ad a 44 s.heap.size)) (F0 m 14 ls [])) :
    ∀ (F : Nat → Int32) (I : Nat → Nat → Int32) (x2 : Int32) (x3 : Int32) (H : Heap) (locs : List Loc) (ls : Array Slot), p_X2_run_b14x K14 (F 0) (F 2) (F 8) (F 9) (I 2) (I 4) (I 5) (I 6) (I 14) x2 x3 = some ((Ff 8), (Ff 9), (If 14)) → (∀ k, k ∉ ([8, 9] : List Nat) → Ff k = F k) → (∀ k, k ∉ ([14] : List Nat) → If k = I k) → va_P D vwCl (wC a kc F G I J Z) H → va_S (ad a 44 s.heap.size) s.heap H locs → lv_has ls 4 [(0, .ref (a 30)), (2, .int x2), (3, .int x3)] → W p l e rm_X2_run s m args below meth c H locs 0 0 (MQ below (Qv D (wC a kc Ff G If J Z) (ad a 44 s.heap.size)) args s 0 0 (ad a 44 s.heap.size)) (F0 m 14 ls []) := by
  intro F I x2 x3 H locs ls hf hfF hfI hP hS hl
  unfold p_X2_run_b14x at hf
  refine lv_iload_n X.1 X.2.1 dX2_run_14 rfl (lv_at hl 2 rfl) ?_
  refine lv_aload_n X.1 X.2.1 dX2_run_15 rfl (lv_at hl 0 rfl) ?_
  refine gC_30_2 X q_2_9 dX2_run_16 hP ?_
  refine gC_0_10 (F := F) X (v := (F 2)) rfl q_1_89 dX2_run_19 hP ?_
  refine lv_icmp_ge (tgt := 103) X.1 X.2.1 dX2_run_22 (by decide) (fun c22 => ?_) (fun c22 => ?_)
  · have hf := it_s hf c22
    obtain ⟨e0, hf⟩ := o2 hf
    obtain ⟨e1, hf⟩ := o2 hf
    have e2 := o1 hf
    have EF : Ff = F := frm_eq hfF (frm_c (e0).symm (frm_c (e1).symm frm_n))
    have EI : If = I := frm_eq hfI (frm_c (e2).symm frm_n)
    exact ret_v X hS (by rw [EF, EI]; exact hP) dX2_run_103
  · have hf := ie_s hf c22
    refine lv_aload_n X.1 X.2.1 dX2_run_25 rfl (lv_at hl 0 rfl) ?_
    refine gC_30_0 X q_2_5 dX2_run_26 hP ?_
    refine lv_iload_n X.1 X.2.1 dX2_run_29 rfl (lv_at hl 2 rfl) ?_
    refine lv_aload_n X.1 X.2.1 dX2_run_30 rfl (lv_at hl 0 rfl) ?_
    refine lv_iload_n X.1 X.2.1 dX2_run_31 rfl (lv_at hl 1 rfl) ?_
    refine lv_aload_n X.1 X.2.1 dX2_run_32 rfl (lv_at hl 0 rfl) ?_
    refine gC_30_2 X q_2_9 dX2_run_33 hP ?_
    refine gC_0_6 X q_1_67 dX2_run_36 hP ?_
    refine lv_iload_n X.1 X.2.1 dX2_run_39 rfl (lv_at hl 2 rfl) ?_
    obtain ⟨h40, hf⟩ := gd_s hf
    refine lC_9 (I := I) X (f := (I 5)) rfl h40 dX2_run_40 hP ?_
    refine lv_aload_n X.1 X.2.1 dX2_run_41 rfl (lv_at hl 0 rfl) ?_
    refine gC_30_2 X q_2_9 dX2_run_42 hP ?_
    refine gC_0_7 X q_1_73 dX2_run_45 hP ?_
    refine lv_iload_n X.1 X.2.1 dX2_run_48 rfl (lv_at hl 2 rfl) ?_
    obtain ⟨h49, hf⟩ := gd_s hf
    refine lC_10 (I := I) X (f := (I 6)) rfl h49 dX2_run_49 hP ?_
    obtain ⟨r50, E_state_50, ho, hf⟩ := b2_s hf
    refine call_vi (rest := [.int x3, .ref (a 31)]) X (c_X2_place F G I J Z X.2.2.2.2.2.2.2.1 x2 ((I 5) x3.toNatClampNeg) ((I 6) x3.toNatClampNeg) ho) q_3_233 q_3_235 qs_yX2_place q_1_7 q_3_236 ok_X2_place rfl 30 rfl rfl ⟨Nat.le_of_ble_eq_true rfl, Nat.le_of_ble_eq_true rfl⟩ rfl rfl hl.1 rfl (Nat.le_of_ble_eq_true rfl) dX2_run_50 hP hS (fun H locs hP hS => ?_)
    obtain ⟨h53, hf⟩ := gd_s hf
    obtain ⟨E_places_53, eE_places_53, hf⟩ := nm_x hf
    refine sC_31 (I := I) X h53 eE_places_53 dX2_run_53 hP hS (fun H locs hP hS => ?_)
    refine lv_iload_n X.1 X.2.1 dX2_run_54 rfl (lv_at hl 1 rfl) ?_
    refine lv_iconst (v := 1) X.1 X.2.1 dX2_run_55 (by decide) ?_
    refine lv_aload_n X.1 X.2.1 dX2_run_56 rfl (lv_at hl 0 rfl) ?_
    refine gC_30_0 X q_2_5 dX2_run_57 hP ?_
    refine lv_iload_n X.1 X.2.1 dX2_run_60 rfl (lv_at hl 2 rfl) ?_
    obtain ⟨h61, hf⟩ := gd_s hf
    refine lC_31 (I := (va_up I 14 E_places_53)) X (f := E_places_53) rfl h61 dX2_run_61 hP ?_
    refine lv_ishl X.1 X.2.1 dX2_run_62 ?_
    refine lv_ior X.1 X.2.1 dX2_run_63 ?_
    refine nm_i hf (fun x64 hf => ?_)
    refine lv_istore_n (lv' := [(2, .int x64), (0, .ref (a 30)), (3, .int x3)]) X.1 X.2.1 dX2_run_64 rfl hl (by decide) rfl (fun ls hl => ?_)
    refine lv_aload_n X.1 X.2.1 dX2_run_65 rfl (lv_at hl 1 rfl) ?_
    refine lv_dup X.1 X.2.1 dX2_run_66 rfl ?_
    refine gC_30_1 (F := (va_up F 9 E_state_50)) X (v := (F 8)) rfl q_2_7 dX2_run_67 hP ?_
    refine lv_aload_n X.1 X.2.1 dX2_run_70 rfl (lv_at hl 1 rfl) ?_
    refine gC_30_0 X q_2_5 dX2_run_71 hP ?_
    refine lv_iload_n X.1 X.2.1 dX2_run_74 rfl (lv_at hl 2 rfl) ?_
    obtain ⟨h75, hf⟩ := gd_s hf
    refine lC_31 (I := (va_up I 14 E_places_53)) X (f := E_places_53) rfl h75 dX2_run_75 hP ?_
    refine lv_aload_n X.1 X.2.1 dX2_run_76 rfl (lv_at hl 1 rfl) ?_
    refine gC_30_2 X q_2_9 dX2_run_77 hP ?_
    refine gC_0_6 X q_1_67 dX2_run_80 hP ?_
    refine lv_iload_n X.1 X.2.1 dX2_run_83 rfl (lv_at hl 2 rfl) ?_
    obtain ⟨h84, hf⟩ := gd_s hf
    refine lC_9 (I := (va_up I 14 E_places_53)) X (f := (I 5)) rfl h84 dX2_run_84 hP ?_
    refine lv_icmp_ne (tgt := 92) X.1 X.2.1 dX2_run_85 (by decide) (fun c85 => ?_) (fun c85 => ?_)
    · have hf := ie_s hf c85
      refine lv_iconst (v := 1) X.1 X.2.1 dX2_run_92 (by decide) ?_
      exact t_X2_run_b93 X kh14 (va_up F 9 E_state_50) (va_up I 14 E_places_53) (F 8) 1 x64 x3 H locs ls hf (frm_up hfF (by decide)) (frm_up hfI (by decide)) hP hS (lv_sub hl [1, 0, 2] rfl)
    · have hf := it_s hf c85
      refine lv_iconst (v := 0) X.1 X.2.1 dX2_run_88 (by decide) ?_
      refine lv_goto (tgt := 93) X.1 X.2.1 dX2_run_89 (by decide) ?_
      exact t_X2_run_b93 X kh14 (va_up F 9 E_state_50) (va_up I 14 E_places_53) (F 8) 0 x64 x3 H locs ls hf (frm_up hfF (by decide)) (frm_up hfI (by decide)) hP hS (lv_sub hl [1, 0, 2] rfl)
set_option maxRecDepth 100000 in
theorem t_X2_run_b14 {p : Program} {l : Launch} {e : Env} {s : State} {m : MethodId} {args : Array Value} {below : List Frame} {meth : Method} {c : Code} {D : va_G} {a : Nat → Nat} {kc : Nat → ClassId} (X : cx 44 p s m args meth c D (tyC kc) a cX2_run 4 RX2 none) {G : Nat → Int64} {J : Nat → Nat → Int64} {Z : Nat → Nat → Nat → Int32} {Ff : Nat → Int32} {If : Nat → Nat → Int32}  :
    ∀ (n : Nat) (F : Nat → Int32) (I : Nat → Nat → Int32) (x2 : Int32) (x3 : Int32) (H : Heap) (locs : List Loc) (ls : Array Slot), p_X2_run_b14 n (F 0) (F 2) (F 8) (F 9) (I 2) (I 4) (I 5) (I 6) (I 14) x2 x3 = some ((Ff 8), (Ff 9), (If 14)) → (∀ k, k ∉ ([8, 9] : List Nat) → Ff k = F k) → (∀ k, k ∉ ([14] : List Nat) → If k = I k) → va_P D vwCl (wC a kc F G I J Z) H → va_S (ad a 44 s.heap.size) s.heap H locs → lv_has ls 4 [(0, .ref (a 30)), (2, .int x2), (3, .int x3)] → W p l e rm_X2_run s m args below meth c H locs 0 0 (MQ below (Qv D (wC a kc Ff G If J Z) (ad a 44 s.heap.size)) args s 0 0 (ad a 44 s.heap.size)) (F0 m 14 ls []) := by
  intro n
  induction n with
  | zero => intro F I x2 x3 H locs ls hf hfF hfI hP hS hl; exact (nos hf).elim
  | succ n ih => exact t_X2_run_b14x X ih
set_option maxHeartbeats 4000000 in
set_option maxRecDepth 100000 in
theorem t_X2_run_b0 {p : Program} {l : Launch} {e : Env} {s : State} {m : MethodId} {args : Array Value} {below : List Frame} {meth : Method} {c : Code} {D : va_G} {a : Nat → Nat} {kc : Nat → ClassId} (X : cx 44 p s m args meth c D (tyC kc) a cX2_run 4 RX2 none) {G : Nat → Int64} {J : Nat → Nat → Int64} {Z : Nat → Nat → Nat → Int32} {Ff : Nat → Int32} {If : Nat → Nat → Int32}  :
    ∀ (F : Nat → Int32) (I : Nat → Nat → Int32) (x1 : Int32) (H : Heap) (locs : List Loc) (ls : Array Slot), p_X2_run_b0 (F 0) (F 2) (F 8) (F 9) (I 2) (I 4) (I 5) (I 6) (I 14) x1 = some ((Ff 8), (Ff 9), (If 14)) → (∀ k, k ∉ ([8, 9] : List Nat) → Ff k = F k) → (∀ k, k ∉ ([14] : List Nat) → If k = I k) → va_P D vwCl (wC a kc F G I J Z) H → va_S (ad a 44 s.heap.size) s.heap H locs → lv_has ls 4 [(0, .ref (a 30)), (1, .int x1)] → W p l e rm_X2_run s m args below meth c H locs 0 0 (MQ below (Qv D (wC a kc Ff G If J Z) (ad a 44 s.heap.size)) args s 0 0 (ad a 44 s.heap.size)) (F0 m 0 ls []) := by
  intro F I x1 H locs ls hf hfF hfI hP hS hl
  unfold p_X2_run_b0 at hf
  refine lv_aload_n X.1 X.2.1 dX2_run_0 rfl (lv_at hl 0 rfl) ?_
  refine lv_iload_n X.1 X.2.1 dX2_run_1 rfl (lv_at hl 1 rfl) ?_
  refine pC_30_3 X q_2_10 dX2_run_2 hP hS (fun H locs hP hS => ?_)
  refine lv_aload_n X.1 X.2.1 dX2_run_5 rfl (lv_at hl 0 rfl) ?_
  refine lv_iconst (v := 0) X.1 X.2.1 dX2_run_6 (by decide) ?_
  refine pC_30_1 X q_2_7 dX2_run_7 hP hS (fun H locs hP hS => ?_)
  refine lv_iconst (v := 0) X.1 X.2.1 dX2_run_10 (by decide) ?_
  refine lv_istore_n (lv' := [(2, .int 0), (0, .ref (a 30)), (1, .int x1)]) X.1 X.2.1 dX2_run_11 rfl hl (by decide) rfl (fun ls hl => ?_)
  refine lv_iconst (v := 0) X.1 X.2.1 dX2_run_12 (by decide) ?_
  refine lv_istore_n (lv' := [(3, .int 0), (2, .int 0), (0, .ref (a 30)), (1, .int x1)]) X.1 X.2.1 dX2_run_13 rfl hl (by decide) rfl (fun ls hl => ?_)
  exact t_X2_run_b14 X 4096 (va_up (va_up F 9 x1) 8 0) I 0 0 H locs ls hf (frm_up (frm_up hfF (by decide)) (by decide)) hfI hP hS (lv_sub hl [2, 1, 0] rfl)
set_option maxRecDepth 100000 in
theorem c_X2_run {l : Launch} {D : va_G} {a : Nat → Nat} {kc : Nat → ClassId} (F : Nat → Int32) (G : Nat → Int64) (I : Nat → Nat → Int32) (J : Nat → Nat → Int64) (Z : Nat → Nat → Nat → Int32) (hAp : ∀ i j, i < 44 → j < 44 → a i = a j → i = j) (x1 : Int32) {o0 : Int32} {o1 : Int32} {o2 : Nat → Int32} (hf : p_X2_run (F 0) (F 2) (F 8) (F 9) (I 2) (I 4) (I 5) (I 6) (I 14) x1 = some (o0, o1, o2)) : Ct 44 l yX2_run cX2_run 4 none rm_X2_run D (tyC kc) a (wC a kc F G I J Z) [.ref (a 30), .int x1] (Qv D (wC a kc (va_up (va_up F 8 o0) 9 o1) G (va_up I 14 o2) J Z)) :=
  Ct.of (by decide +kernel) hAp (Nat.le_of_ble_eq_true rfl) (fun p e s m args below meth c ls X hP hl => t_X2_run_b0 X F I x1 _ _ _ hf (frm_ul (frm_ul (fun k _ => rfl) (by decide)) (by decide)) (frm_ul (fun k _ => rfl) (by decide)) hP va_S.rf hl)
abbrev rm_X3_sortOf : Room := { frames := 0, cells := 0, slots := 0, locals := 0 }
set_option maxHeartbeats 4000000 in
set_option maxRecDepth 100000 in
theorem t_X3_sortOf_b0 {p : Program} {l : Launch} {e : Env} {s : State} {m : MethodId} {args : Array Value} {below : List Frame} {meth : Method} {c : Code} {D : va_G} {a : Nat → Nat} (X : cx 0 p s m args meth c D [] a cX3_sortOf 1 RX3 (some .int))   {r : Int32} :
    ∀  (x0 : Int32) (H : Heap) (locs : List Loc) (ls : Array Slot), p_X3_sortOf_b0  x0 = some r → va_P D vwCl [] H → va_S (ad a 0 s.heap.size) s.heap H locs → lv_has ls 1 [(0, .int x0)] → W p l e rm_X3_sortOf s m args below meth c H locs 0 0 (MQ below (Qi D [] r (ad a 0 s.heap.size)) args s 0 0 (ad a 0 s.heap.size)) (F0 m 0 ls []) := by
  intro  x0 H locs ls hf  hP hS hl
  unfold p_X3_sortOf_b0 at hf
  refine lv_iload_n X.1 X.2.1 dX3_sortOf_0 rfl (lv_at hl 0 rfl) ?_
  by_cases c1_97 : x0.toInt = 97
  · refine lv_lookup (off := 39) (tgt := 40) X.1 X.2.1 dX3_sortOf_1 (by decide) (by rw [c1_97]; rfl) (by decide) ?_
    have hf := it_s hf c1_97
    refine lv_iconst (v := 2) X.1 X.2.1 dX3_sortOf_40 (by decide) ?_
    have e0 := o1 hf
    exact ret_i X hS hP e0 dX3_sortOf_41
  · have hf := ie_s hf c1_97
    by_cases c1_109 : x0.toInt = 109
    · refine lv_lookup (off := 37) (tgt := 38) X.1 X.2.1 dX3_sortOf_1 (by decide) (by rw [c1_109]; rfl) (by decide) ?_
      have hf := it_s hf c1_109
      refine lv_iconst (v := 1) X.1 X.2.1 dX3_sortOf_38 (by decide) ?_
      have e0 := o1 hf
      exact ret_i X hS hP e0 dX3_sortOf_39
    · have hf := ie_s hf c1_109
      by_cases c1_119 : x0.toInt = 119
      · refine lv_lookup (off := 35) (tgt := 36) X.1 X.2.1 dX3_sortOf_1 (by decide) (by rw [c1_119]; rfl) (by decide) ?_
        have hf := it_s hf c1_119
        refine lv_iconst (v := 0) X.1 X.2.1 dX3_sortOf_36 (by decide) ?_
        have e0 := o1 hf
        exact ret_i X hS hP e0 dX3_sortOf_37
      · have hf := ie_s hf c1_119
        refine lv_lookup (off := 41) (tgt := 42) X.1 X.2.1 dX3_sortOf_1 (by decide) (by simp [Op.lookupswitch.offset, show ¬ (97 : Int) = x0.toInt from fun q => c1_97 q.symm, show ¬ (109 : Int) = x0.toInt from fun q => c1_109 q.symm, show ¬ (119 : Int) = x0.toInt from fun q => c1_119 q.symm]) (by decide) ?_
        refine lv_iconst (v := (-1)) X.1 X.2.1 dX3_sortOf_42 (by decide) ?_
        have e0 := o1 hf
        exact ret_i X hS hP e0 dX3_sortOf_43
set_option maxRecDepth 100000 in
theorem c_X3_sortOf {l : Launch} {D : va_G} {a : Nat → Nat}  (x0 : Int32) {o0 : Int32} (hf : p_X3_sortOf  x0 = some o0) : Ct 0 l yX3_sortOf cX3_sortOf 1 (some .int) rm_X3_sortOf D [] a [] [.int x0] (Qi D [] o0) :=
  Ct.of (by decide +kernel) (fun i j h => absurd h (Nat.not_lt_zero i)) (Nat.le_of_ble_eq_true rfl) (fun p e s m args below meth c ls X hP hl => t_X3_sortOf_b0 X  x0 _ _ _ hf  hP va_S.rf hl)
abbrev rm_X3_addSeat : Room := { frames := 1, cells := 0, slots := 0, locals := 24 }
set_option maxHeartbeats 4000000 in
set_option maxRecDepth 100000 in
theorem t_X3_addSeat_b15 {p : Program} {l : Launch} {e : Env} {s : State} {m : MethodId} {args : Array Value} {below : List Frame} {meth : Method} {c : Code} {D : va_G} {a : Nat → Nat} {kc : Nat → ClassId} (X : cx 44 p s m args meth c D (tyC kc) a cX3_addSeat 2 RX3 none) {G : Nat → Int64} {J : Nat → Nat → Int64} {Z : Nat → Nat → Nat → Int32} {Ff : Nat → Int32} {If : Nat → Nat → Int32}  :
    ∀ (F : Nat → Int32) (I : Nat → Nat → Int32) (x1 : Int32) (H : Heap) (locs : List Loc) (ls : Array Slot), p_X3_addSeat_b15 (F 0) (F 1) (I 2) (I 3) (I 4) x1 = some ((Ff 0), (If 2), (If 3), (If 4)) → (∀ k, k ∉ ([0] : List Nat) → Ff k = F k) → (∀ k, k ∉ ([2, 3, 4] : List Nat) → If k = I k) → va_P D vwCl (wC a kc F G I J Z) H → va_S (ad a 44 s.heap.size) s.heap H locs → lv_has ls 2 [(0, .ref (a 0)), (1, .int x1)] → W p l e rm_X3_addSeat s m args below meth c H locs 0 0 (MQ below (Qv D (wC a kc Ff G If J Z) (ad a 44 s.heap.size)) args s 0 0 (ad a 44 s.heap.size)) (F0 m 15 ls []) := by
  intro F I x1 H locs ls hf hfF hfI hP hS hl
  unfold p_X3_addSeat_b15 at hf
  refine lv_aload_n X.1 X.2.1 dX3_addSeat_15 rfl (lv_at hl 0 rfl) ?_
  refine gC_0_3 X q_1_60 dX3_addSeat_16 hP ?_
  refine lv_aload_n X.1 X.2.1 dX3_addSeat_19 rfl (lv_at hl 0 rfl) ?_
  refine gC_0_8 (F := F) X (v := (F 0)) rfl q_1_80 dX3_addSeat_20 hP ?_
  refine lv_iload_n X.1 X.2.1 dX3_addSeat_23 rfl (lv_at hl 1 rfl) ?_
  obtain ⟨h24, hf⟩ := gd_s hf
  obtain ⟨H_sorts_24, eH_sorts_24, hf⟩ := nm_x hf
  refine sC_6 (I := I) X h24 eH_sorts_24 dX3_addSeat_24 hP hS (fun H locs hP hS => ?_)
  refine lv_aload_n X.1 X.2.1 dX3_addSeat_25 rfl (lv_at hl 0 rfl) ?_
  refine gC_0_4 X q_1_62 dX3_addSeat_26 hP ?_
  refine lv_aload_n X.1 X.2.1 dX3_addSeat_29 rfl (lv_at hl 0 rfl) ?_
  refine gC_0_8 (F := F) X (v := (F 0)) rfl q_1_80 dX3_addSeat_30 hP ?_
  refine lv_aload_n X.1 X.2.1 dX3_addSeat_33 rfl (lv_at hl 0 rfl) ?_
  refine gC_0_9 (F := F) X (v := (F 1)) rfl q_1_85 dX3_addSeat_34 hP ?_
  refine lv_iconst (v := 1) X.1 X.2.1 dX3_addSeat_37 (by decide) ?_
  refine lv_isub X.1 X.2.1 dX3_addSeat_38 ?_
  obtain ⟨h39, hf⟩ := gd_s hf
  obtain ⟨H_rowOf_39, eH_rowOf_39, hf⟩ := nm_x hf
  refine sC_7 (I := (va_up I 2 H_sorts_24)) X h39 eH_rowOf_39 dX3_addSeat_39 hP hS (fun H locs hP hS => ?_)
  refine lv_aload_n X.1 X.2.1 dX3_addSeat_40 rfl (lv_at hl 0 rfl) ?_
  refine gC_0_5 X q_1_64 dX3_addSeat_41 hP ?_
  refine lv_iload_n X.1 X.2.1 dX3_addSeat_44 rfl (lv_at hl 1 rfl) ?_
  refine lv_dup2_11 X.1 X.2.1 dX3_addSeat_45 rfl rfl ?_
  obtain ⟨h46, hf⟩ := gd_s hf
  refine lC_8 (I := (va_up (va_up I 2 H_sorts_24) 3 H_rowOf_39)) X (f := (I 4)) rfl h46 dX3_addSeat_46 hP ?_
  refine lv_iconst (v := 1) X.1 X.2.1 dX3_addSeat_47 (by decide) ?_
  refine lv_aload_n X.1 X.2.1 dX3_addSeat_48 rfl (lv_at hl 0 rfl) ?_
  refine gC_0_8 (F := F) X (v := (F 0)) rfl q_1_80 dX3_addSeat_49 hP ?_
  refine lv_ishl X.1 X.2.1 dX3_addSeat_52 ?_
  refine lv_ior X.1 X.2.1 dX3_addSeat_53 ?_
  obtain ⟨h54, hf⟩ := gd_s hf
  obtain ⟨H_bySort_54, eH_bySort_54, hf⟩ := nm_x hf
  refine sC_8 (I := (va_up (va_up I 2 H_sorts_24) 3 H_rowOf_39)) X h54 eH_bySort_54 dX3_addSeat_54 hP hS (fun H locs hP hS => ?_)
  refine lv_aload_n X.1 X.2.1 dX3_addSeat_55 rfl (lv_at hl 0 rfl) ?_
  refine lv_dup X.1 X.2.1 dX3_addSeat_56 rfl ?_
  refine gC_0_8 (F := F) X (v := (F 0)) rfl q_1_80 dX3_addSeat_57 hP ?_
  refine lv_iconst (v := 1) X.1 X.2.1 dX3_addSeat_60 (by decide) ?_
  refine lv_iadd X.1 X.2.1 dX3_addSeat_61 ?_
  refine nm_i hf (fun H_seats_62 hf => ?_)
  refine pC_0_8 X q_1_80 dX3_addSeat_62 hP hS (fun H locs hP hS => ?_)
  obtain ⟨e0, hf⟩ := o2 hf
  obtain ⟨e1, hf⟩ := o2 hf
  obtain ⟨e2, hf⟩ := o2 hf
  have e3 := o1 hf
  have EF : Ff = (va_up F 0 H_seats_62) := frm_eq (frm_up hfF (by decide)) (frm_c (e0).symm frm_n)
  have EI : If = (va_up (va_up (va_up I 2 H_sorts_24) 3 H_rowOf_39) 4 H_bySort_54) := frm_eq (frm_up (frm_up (frm_up hfI (by decide)) (by decide)) (by decide)) (frm_c (e1).symm (frm_c (e2).symm (frm_c (e3).symm frm_n)))
  exact ret_v X hS (by rw [EF, EI]; exact hP) dX3_addSeat_65
set_option maxHeartbeats 4000000 in
set_option maxRecDepth 100000 in
theorem t_X3_addSeat_b0 {p : Program} {l : Launch} {e : Env} {s : State} {m : MethodId} {args : Array Value} {below : List Frame} {meth : Method} {c : Code} {D : va_G} {a : Nat → Nat} {kc : Nat → ClassId} (X : cx 44 p s m args meth c D (tyC kc) a cX3_addSeat 2 RX3 none) {G : Nat → Int64} {J : Nat → Nat → Int64} {Z : Nat → Nat → Nat → Int32} {Ff : Nat → Int32} {If : Nat → Nat → Int32}  :
    ∀ (F : Nat → Int32) (I : Nat → Nat → Int32) (x1 : Int32) (H : Heap) (locs : List Loc) (ls : Array Slot), p_X3_addSeat_b0 (F 0) (F 1) (I 2) (I 3) (I 4) x1 = some ((Ff 0), (If 2), (If 3), (If 4)) → (∀ k, k ∉ ([0] : List Nat) → Ff k = F k) → (∀ k, k ∉ ([2, 3, 4] : List Nat) → If k = I k) → va_P D vwCl (wC a kc F G I J Z) H → va_S (ad a 44 s.heap.size) s.heap H locs → lv_has ls 2 [(0, .ref (a 0)), (1, .int x1)] → W p l e rm_X3_addSeat s m args below meth c H locs 0 0 (MQ below (Qv D (wC a kc Ff G If J Z) (ad a 44 s.heap.size)) args s 0 0 (ad a 44 s.heap.size)) (F0 m 0 ls []) := by
  intro F I x1 H locs ls hf hfF hfI hP hS hl
  unfold p_X3_addSeat_b0 at hf
  refine lv_aload_n X.1 X.2.1 dX3_addSeat_0 rfl (lv_at hl 0 rfl) ?_
  refine gC_0_8 (F := F) X (v := (F 0)) rfl q_1_80 dX3_addSeat_1 hP ?_
  refine lv_if_ne (tgt := 15) X.1 X.2.1 dX3_addSeat_4 (by decide) (fun c4 => ?_) (fun c4 => ?_)
  · have hf := ie_s hf c4
    exact t_X3_addSeat_b15 X F I x1 H locs ls hf hfF hfI hP hS (lv_sub hl [0, 1] rfl)
  · have hf := it_s hf c4
    refine lv_aload_n X.1 X.2.1 dX3_addSeat_7 rfl (lv_at hl 0 rfl) ?_
    refine gC_0_5 X q_1_64 dX3_addSeat_8 hP ?_
    refine lv_iconst (v := 0) X.1 X.2.1 dX3_addSeat_11 (by decide) ?_
    obtain ⟨H_bySort_12, eH_bySort_12, hf⟩ := nm_x hf
    refine flC_8 (I := I) (rest := []) X eH_bySort_12 q_1_45 (Nat.le_of_ble_eq_true rfl) (Nat.le_of_ble_eq_true rfl) hl.1 (Nat.le_of_ble_eq_true rfl) dX3_addSeat_12 hP hS (fun H locs hP hS => ?_)
    exact t_X3_addSeat_b15 X F (va_up I 4 H_bySort_12) x1 H locs ls hf hfF (frm_up hfI (by decide)) hP hS (lv_sub hl [0, 1] rfl)
set_option maxRecDepth 100000 in
theorem c_X3_addSeat {l : Launch} {D : va_G} {a : Nat → Nat} {kc : Nat → ClassId} (F : Nat → Int32) (G : Nat → Int64) (I : Nat → Nat → Int32) (J : Nat → Nat → Int64) (Z : Nat → Nat → Nat → Int32) (hAp : ∀ i j, i < 44 → j < 44 → a i = a j → i = j) (x1 : Int32) {o0 : Int32} {o1 : Nat → Int32} {o2 : Nat → Int32} {o3 : Nat → Int32} (hf : p_X3_addSeat (F 0) (F 1) (I 2) (I 3) (I 4) x1 = some (o0, o1, o2, o3)) : Ct 44 l yX3_addSeat cX3_addSeat 2 none rm_X3_addSeat D (tyC kc) a (wC a kc F G I J Z) [.ref (a 0), .int x1] (Qv D (wC a kc (va_up F 0 o0) G (va_up (va_up (va_up I 2 o1) 3 o2) 4 o3) J Z)) :=
  Ct.of (by decide +kernel) hAp (Nat.le_of_ble_eq_true rfl) (fun p e s m args below meth c ls X hP hl => t_X3_addSeat_b0 X F I x1 _ _ _ hf (frm_ul (fun k _ => rfl) (by decide)) (frm_ul (frm_ul (frm_ul (fun k _ => rfl) (by decide)) (by decide)) (by decide)) hP va_S.rf hl)
abbrev rm_X3_parseSeats : Room := { frames := 2, cells := 0, slots := 0, locals := 45 }
set_option maxHeartbeats 4000000 in
set_option maxRecDepth 100000 in
theorem t_X3_parseSeats_b146 {p : Program} {l : Launch} {e : Env} {s : State} {m : MethodId} {args : Array Value} {below : List Frame} {meth : Method} {c : Code} {D : va_G} {a : Nat → Nat} {kc : Nat → ClassId} (X : cx 44 p s m args meth c D (tyC kc) a cX3_parseSeats 5 RX3 none) {G : Nat → Int64} {J : Nat → Nat → Int64} {Z : Nat → Nat → Nat → Int32} {Ff : Nat → Int32} {If : Nat → Nat → Int32}  :
    ∀ (F : Nat → Int32) (I : Nat → Nat → Int32)  (H : Heap) (locs : List Loc) (ls : Array Slot), p_X3_parseSeats_b146 (F 0) (F 1) (I 0) (I 1) (I 2) (I 3) (I 4) (Z 0)  = some ((Ff 0), (Ff 1), (If 1), (If 2), (If 3), (If 4)) → (∀ k, k ∉ ([0, 1] : List Nat) → Ff k = F k) → (∀ k, k ∉ ([1, 2, 3, 4] : List Nat) → If k = I k) → va_P D vwCl (wC a kc F G I J Z) H → va_S (ad a 44 s.heap.size) s.heap H locs → lv_has ls 5 [(0, .ref (a 0))] → W p l e rm_X3_parseSeats s m args below meth c H locs 0 0 (MQ below (Qv D (wC a kc Ff G If J Z) (ad a 44 s.heap.size)) args s 0 0 (ad a 44 s.heap.size)) (F0 m 146 ls []) := by
  intro F I  H locs ls hf hfF hfI hP hS hl
  unfold p_X3_parseSeats_b146 at hf
  obtain ⟨e0, hf⟩ := o2 hf
  obtain ⟨e1, hf⟩ := o2 hf
  obtain ⟨e2, hf⟩ := o2 hf
  obtain ⟨e3, hf⟩ := o2 hf
  obtain ⟨e4, hf⟩ := o2 hf
  have e5 := o1 hf
  have EF : Ff = F := frm_eq hfF (frm_c (e0).symm (frm_c (e1).symm frm_n))
  have EI : If = I := frm_eq hfI (frm_c (e2).symm (frm_c (e3).symm (frm_c (e4).symm (frm_c (e5).symm frm_n))))
  exact ret_v X hS (by rw [EF, EI]; exact hP) dX3_parseSeats_146
set_option maxHeartbeats 4000000 in
set_option maxRecDepth 100000 in
theorem t_X3_parseSeats_b125 {p : Program} {l : Launch} {e : Env} {s : State} {m : MethodId} {args : Array Value} {below : List Frame} {meth : Method} {c : Code} {D : va_G} {a : Nat → Nat} {kc : Nat → ClassId} (X : cx 44 p s m args meth c D (tyC kc) a cX3_parseSeats 5 RX3 none) {G : Nat → Int64} {J : Nat → Nat → Int64} {Z : Nat → Nat → Nat → Int32} {Ff : Nat → Int32} {If : Nat → Nat → Int32}  :
    ∀ (F : Nat → Int32) (I : Nat → Nat → Int32) (t1 : Int32) (t2 : Int32) (H : Heap) (locs : List Loc) (ls : Array Slot), p_X3_parseSeats_b125 (F 0) (F 1) (I 0) (I 1) (I 2) (I 3) (I 4) (Z 0) t1 t2 = some ((Ff 0), (Ff 1), (If 1), (If 2), (If 3), (If 4)) → (∀ k, k ∉ ([0, 1] : List Nat) → Ff k = F k) → (∀ k, k ∉ ([1, 2, 3, 4] : List Nat) → If k = I k) → va_P D vwCl (wC a kc F G I J Z) H → va_S (ad a 44 s.heap.size) s.heap H locs → lv_has ls 5 [(0, .ref (a 0))] → W p l e rm_X3_parseSeats s m args below meth c H locs 0 0 (MQ below (Qv D (wC a kc Ff G If J Z) (ad a 44 s.heap.size)) args s 0 0 (ad a 44 s.heap.size)) (F0 m 125 ls [.int t2, .int t1, .ref (a 5)]) := by
  intro F I t1 t2 H locs ls hf hfF hfI hP hS hl
  unfold p_X3_parseSeats_b125 at hf
  obtain ⟨h125, hf⟩ := gd_s hf
  obtain ⟨H_faults_125, eH_faults_125, hf⟩ := nm_x hf
  refine sC_5 (I := I) X h125 eH_faults_125 dX3_parseSeats_125 hP hS (fun H locs hP hS => ?_)
  refine lv_aload_n X.1 X.2.1 dX3_parseSeats_126 rfl (lv_at hl 0 rfl) ?_
  refine gC_0_2 X q_1_58 dX3_parseSeats_127 hP ?_
  refine lv_iconst (v := 0) X.1 X.2.1 dX3_parseSeats_130 (by decide) ?_
  obtain ⟨h131, hf⟩ := gd_s hf
  refine lC_5 (I := (va_up I 1 H_faults_125)) X (f := H_faults_125) rfl h131 dX3_parseSeats_131 hP ?_
  refine lv_iconst (v := (-1)) X.1 X.2.1 dX3_parseSeats_132 (by decide) ?_
  refine lv_icmp_eq (tgt := 146) X.1 X.2.1 dX3_parseSeats_133 (by decide) (fun c133 => ?_) (fun c133 => ?_)
  · have hf := it_s hf c133
    exact t_X3_parseSeats_b146 X F (va_up I 1 H_faults_125)  H locs ls hf hfF (frm_up hfI (by decide)) hP hS (lv_sub hl [0] rfl)
  · have hf := ie_s hf c133
    refine lv_aload_n X.1 X.2.1 dX3_parseSeats_136 rfl (lv_at hl 0 rfl) ?_
    refine lv_iconst (v := 0) X.1 X.2.1 dX3_parseSeats_137 (by decide) ?_
    refine pC_0_8 X q_1_80 dX3_parseSeats_138 hP hS (fun H locs hP hS => ?_)
    refine lv_aload_n X.1 X.2.1 dX3_parseSeats_141 rfl (lv_at hl 0 rfl) ?_
    refine lv_iconst (v := 0) X.1 X.2.1 dX3_parseSeats_142 (by decide) ?_
    refine pC_0_9 X q_1_85 dX3_parseSeats_143 hP hS (fun H locs hP hS => ?_)
    exact t_X3_parseSeats_b146 X (va_up (va_up F 0 0) 1 0) (va_up I 1 H_faults_125)  H locs ls hf (frm_up (frm_up hfF (by decide)) (by decide)) (frm_up hfI (by decide)) hP hS (lv_sub hl [0] rfl)
set_option maxHeartbeats 4000000 in
set_option maxRecDepth 100000 in
theorem t_X3_parseSeats_b124 {p : Program} {l : Launch} {e : Env} {s : State} {m : MethodId} {args : Array Value} {below : List Frame} {meth : Method} {c : Code} {D : va_G} {a : Nat → Nat} {kc : Nat → ClassId} (X : cx 44 p s m args meth c D (tyC kc) a cX3_parseSeats 5 RX3 none) {G : Nat → Int64} {J : Nat → Nat → Int64} {Z : Nat → Nat → Nat → Int32} {Ff : Nat → Int32} {If : Nat → Nat → Int32}  :
    ∀ (F : Nat → Int32) (I : Nat → Nat → Int32) (t1 : Int32) (x2 : Int32) (H : Heap) (locs : List Loc) (ls : Array Slot), p_X3_parseSeats_b124 (F 0) (F 1) (I 0) (I 1) (I 2) (I 3) (I 4) (Z 0) t1 x2 = some ((Ff 0), (Ff 1), (If 1), (If 2), (If 3), (If 4)) → (∀ k, k ∉ ([0, 1] : List Nat) → Ff k = F k) → (∀ k, k ∉ ([1, 2, 3, 4] : List Nat) → If k = I k) → va_P D vwCl (wC a kc F G I J Z) H → va_S (ad a 44 s.heap.size) s.heap H locs → lv_has ls 5 [(0, .ref (a 0)), (2, .int x2)] → W p l e rm_X3_parseSeats s m args below meth c H locs 0 0 (MQ below (Qv D (wC a kc Ff G If J Z) (ad a 44 s.heap.size)) args s 0 0 (ad a 44 s.heap.size)) (F0 m 124 ls [.int t1, .ref (a 5)]) := by
  intro F I t1 x2 H locs ls hf hfF hfI hP hS hl
  unfold p_X3_parseSeats_b124 at hf
  refine lv_iload_n X.1 X.2.1 dX3_parseSeats_124 rfl (lv_at hl 1 rfl) ?_
  exact t_X3_parseSeats_b125 X F I t1 x2 H locs ls hf hfF hfI hP hS (lv_sub hl [0] rfl)
set_option maxHeartbeats 4000000 in
set_option maxRecDepth 100000 in
theorem t_X3_parseSeats_b101 {p : Program} {l : Launch} {e : Env} {s : State} {m : MethodId} {args : Array Value} {below : List Frame} {meth : Method} {c : Code} {D : va_G} {a : Nat → Nat} {kc : Nat → ClassId} (X : cx 44 p s m args meth c D (tyC kc) a cX3_parseSeats 5 RX3 none) {G : Nat → Int64} {J : Nat → Nat → Int64} {Z : Nat → Nat → Nat → Int32} {Ff : Nat → Int32} {If : Nat → Nat → Int32}  :
    ∀ (F : Nat → Int32) (I : Nat → Nat → Int32) (x1 : Int32) (x2 : Int32) (H : Heap) (locs : List Loc) (ls : Array Slot), p_X3_parseSeats_b101 (F 0) (F 1) (I 0) (I 1) (I 2) (I 3) (I 4) (Z 0) x1 x2 = some ((Ff 0), (Ff 1), (If 1), (If 2), (If 3), (If 4)) → (∀ k, k ∉ ([0, 1] : List Nat) → Ff k = F k) → (∀ k, k ∉ ([1, 2, 3, 4] : List Nat) → If k = I k) → va_P D vwCl (wC a kc F G I J Z) H → va_S (ad a 44 s.heap.size) s.heap H locs → lv_has ls 5 [(0, .ref (a 0)), (1, .int x1), (2, .int x2)] → W p l e rm_X3_parseSeats s m args below meth c H locs 0 0 (MQ below (Qv D (wC a kc Ff G If J Z) (ad a 44 s.heap.size)) args s 0 0 (ad a 44 s.heap.size)) (F0 m 101 ls []) := by
  intro F I x1 x2 H locs ls hf hfF hfI hP hS hl
  unfold p_X3_parseSeats_b101 at hf
  refine lv_aload_n X.1 X.2.1 dX3_parseSeats_101 rfl (lv_at hl 0 rfl) ?_
  refine gC_0_2 X q_1_58 dX3_parseSeats_102 hP ?_
  refine lv_iconst (v := 0) X.1 X.2.1 dX3_parseSeats_105 (by decide) ?_
  refine lv_iload_n X.1 X.2.1 dX3_parseSeats_106 rfl (lv_at hl 2 rfl) ?_
  refine lv_aload_n X.1 X.2.1 dX3_parseSeats_107 rfl (lv_at hl 0 rfl) ?_
  refine gC_0_1 X q_1_56 dX3_parseSeats_108 hP ?_
  refine lv_iconst (v := 0) X.1 X.2.1 dX3_parseSeats_111 (by decide) ?_
  obtain ⟨h112, hf⟩ := gd_s hf
  refine lC_4 (I := I) X (f := (I 0)) rfl h112 dX3_parseSeats_112 hP ?_
  refine lv_icmp_ne (tgt := 124) X.1 X.2.1 dX3_parseSeats_113 (by decide) (fun c113 => ?_) (fun c113 => ?_)
  · have hf := ie_s hf c113
    exact t_X3_parseSeats_b124 X F I 0 x2 H locs ls hf hfF hfI hP hS (lv_sub hl [0, 2] rfl)
  · have hf := it_s hf c113
    refine lv_iload_n X.1 X.2.1 dX3_parseSeats_116 rfl (lv_at hl 1 rfl) ?_
    refine lv_if_eq (tgt := 124) X.1 X.2.1 dX3_parseSeats_117 (by decide) (fun c117 => ?_) (fun c117 => ?_)
    · have hf := it_s hf c117
      exact t_X3_parseSeats_b124 X F I 0 x2 H locs ls hf hfF hfI hP hS (lv_sub hl [0, 2] rfl)
    · have hf := ie_s hf c117
      refine lv_iconst (v := (-1)) X.1 X.2.1 dX3_parseSeats_120 (by decide) ?_
      refine lv_goto (tgt := 125) X.1 X.2.1 dX3_parseSeats_121 (by decide) ?_
      exact t_X3_parseSeats_b125 X F I 0 (-1) H locs ls hf hfF hfI hP hS (lv_sub hl [0] rfl)
set_option maxHeartbeats 4000000 in
set_option maxRecDepth 100000 in
theorem t_X3_parseSeats_b95 {p : Program} {l : Launch} {e : Env} {s : State} {m : MethodId} {args : Array Value} {below : List Frame} {meth : Method} {c : Code} {D : va_G} {a : Nat → Nat} {kc : Nat → ClassId} (X : cx 44 p s m args meth c D (tyC kc) a cX3_parseSeats 5 RX3 none) {G : Nat → Int64} {J : Nat → Nat → Int64} {Z : Nat → Nat → Nat → Int32} {Ff : Nat → Int32} {If : Nat → Nat → Int32}  {K14 : Int32 → Int32 → (Nat → Int32) → (Nat → Int32) → (Nat → Int32) → (Nat → Int32) → (Nat → Int32) → (Nat → Nat → Int32) → Int32 → Int32 → Option (Int32 × Int32 × (Nat → Int32) × (Nat → Int32) × (Nat → Int32) × (Nat → Int32))} (kh14 : ∀ (F : Nat → Int32) (I : Nat → Nat → Int32) (x1 : Int32) (x2 : Int32) (H : Heap) (locs : List Loc) (ls : Array Slot), K14 (F 0) (F 1) (I 0) (I 1) (I 2) (I 3) (I 4) (Z 0) x1 x2 = some ((Ff 0), (Ff 1), (If 1), (If 2), (If 3), (If 4)) → (∀ k, k ∉ ([0, 1] : List Nat) → Ff k = F k) → (∀ k, k ∉ ([1, 2, 3, 4] : List Nat) → If k = I k) → va_P D vwCl (wC a kc F G I J Z) H → va_S (ad a 44 s.heap.size) s.heap H locs → lv_has ls 5 [(0, .ref (a 0)), (1, .int x1), (2, .int x2)] → W p l e rm_X3_parseSeats s m args below meth c H locs 0 0 (MQ below (Qv D (wC a kc Ff G If J Z) (ad a 44 s.heap.size)) args s 0 0 (ad a 44 s.heap.size)) (F0 m 14 ls [])) :
    ∀ (F : Nat → Int32) (I : Nat → Nat → Int32) (x1 : Int32) (x2 : Int32) (H : Heap) (locs : List Loc) (ls : Array Slot), p_X3_parseSeats_b95 K14 (F 0) (F 1) (I 0) (I 1) (I 2) (I 3) (I 4) (Z 0) x1 x2 = some ((Ff 0), (Ff 1), (If 1), (If 2), (If 3), (If 4)) → (∀ k, k ∉ ([0, 1] : List Nat) → Ff k = F k) → (∀ k, k ∉ ([1, 2, 3, 4] : List Nat) → If k = I k) → va_P D vwCl (wC a kc F G I J Z) H → va_S (ad a 44 s.heap.size) s.heap H locs → lv_has ls 5 [(0, .ref (a 0)), (1, .int x1), (2, .int x2)] → W p l e rm_X3_parseSeats s m args below meth c H locs 0 0 (MQ below (Qv D (wC a kc Ff G If J Z) (ad a 44 s.heap.size)) args s 0 0 (ad a 44 s.heap.size)) (F0 m 95 ls []) := by
  intro F I x1 x2 H locs ls hf hfF hfI hP hS hl
  unfold p_X3_parseSeats_b95 at hf
  obtain ⟨x95, ex95, hf⟩ := nm_x hf
  refine lv_iinc (v := x95) (lv' := [(2, .int x95), (0, .ref (a 0)), (1, .int x1)]) X.1 X.2.1 dX3_parseSeats_95 hl (k := 2) rfl ex95 (by decide) rfl (fun ls hl => ?_)
  refine lv_goto (tgt := 14) X.1 X.2.1 dX3_parseSeats_98 (by decide) ?_
  exact kh14 F I x1 x95 H locs ls hf hfF hfI hP hS (lv_sub hl [1, 2, 0] rfl)
set_option maxHeartbeats 4000000 in
set_option maxRecDepth 100000 in
theorem t_X3_parseSeats_b83 {p : Program} {l : Launch} {e : Env} {s : State} {m : MethodId} {args : Array Value} {below : List Frame} {meth : Method} {c : Code} {D : va_G} {a : Nat → Nat} {kc : Nat → ClassId} (X : cx 44 p s m args meth c D (tyC kc) a cX3_parseSeats 5 RX3 none) {G : Nat → Int64} {J : Nat → Nat → Int64} {Z : Nat → Nat → Nat → Int32} {Ff : Nat → Int32} {If : Nat → Nat → Int32}  {K14 : Int32 → Int32 → (Nat → Int32) → (Nat → Int32) → (Nat → Int32) → (Nat → Int32) → (Nat → Int32) → (Nat → Nat → Int32) → Int32 → Int32 → Option (Int32 × Int32 × (Nat → Int32) × (Nat → Int32) × (Nat → Int32) × (Nat → Int32))} (kh14 : ∀ (F : Nat → Int32) (I : Nat → Nat → Int32) (x1 : Int32) (x2 : Int32) (H : Heap) (locs : List Loc) (ls : Array Slot), K14 (F 0) (F 1) (I 0) (I 1) (I 2) (I 3) (I 4) (Z 0) x1 x2 = some ((Ff 0), (Ff 1), (If 1), (If 2), (If 3), (If 4)) → (∀ k, k ∉ ([0, 1] : List Nat) → Ff k = F k) → (∀ k, k ∉ ([1, 2, 3, 4] : List Nat) → If k = I k) → va_P D vwCl (wC a kc F G I J Z) H → va_S (ad a 44 s.heap.size) s.heap H locs → lv_has ls 5 [(0, .ref (a 0)), (1, .int x1), (2, .int x2)] → W p l e rm_X3_parseSeats s m args below meth c H locs 0 0 (MQ below (Qv D (wC a kc Ff G If J Z) (ad a 44 s.heap.size)) args s 0 0 (ad a 44 s.heap.size)) (F0 m 14 ls [])) :
    ∀ (F : Nat → Int32) (I : Nat → Nat → Int32) (x1 : Int32) (x2 : Int32) (x3 : Int32) (H : Heap) (locs : List Loc) (ls : Array Slot), p_X3_parseSeats_b83 K14 (F 0) (F 1) (I 0) (I 1) (I 2) (I 3) (I 4) (Z 0) x1 x2 x3 = some ((Ff 0), (Ff 1), (If 1), (If 2), (If 3), (If 4)) → (∀ k, k ∉ ([0, 1] : List Nat) → Ff k = F k) → (∀ k, k ∉ ([1, 2, 3, 4] : List Nat) → If k = I k) → va_P D vwCl (wC a kc F G I J Z) H → va_S (ad a 44 s.heap.size) s.heap H locs → lv_has ls 5 [(0, .ref (a 0)), (1, .int x1), (2, .int x2), (3, .int x3)] → W p l e rm_X3_parseSeats s m args below meth c H locs 0 0 (MQ below (Qv D (wC a kc Ff G If J Z) (ad a 44 s.heap.size)) args s 0 0 (ad a 44 s.heap.size)) (F0 m 83 ls []) := by
  intro F I x1 x2 x3 H locs ls hf hfF hfI hP hS hl
  unfold p_X3_parseSeats_b83 at hf
  refine lv_iload_n X.1 X.2.1 dX3_parseSeats_83 rfl (lv_at hl 3 rfl) ?_
  refine lv_bipush (v := 59) X.1 X.2.1 dX3_parseSeats_84 (by decide) ?_
  refine lv_icmp_ne (tgt := 101) X.1 X.2.1 dX3_parseSeats_86 (by decide) (fun c86 => ?_) (fun c86 => ?_)
  · have hf := ie_s hf c86
    exact t_X3_parseSeats_b101 X F I x1 x2 H locs ls hf hfF hfI hP hS (lv_sub hl [0, 1, 2] rfl)
  · have hf := it_s hf c86
    refine lv_iload_n X.1 X.2.1 dX3_parseSeats_89 rfl (lv_at hl 1 rfl) ?_
    refine lv_if_eq (tgt := 101) X.1 X.2.1 dX3_parseSeats_90 (by decide) (fun c90 => ?_) (fun c90 => ?_)
    · have hf := it_s hf c90
      exact t_X3_parseSeats_b101 X F I x1 x2 H locs ls hf hfF hfI hP hS (lv_sub hl [0, 1, 2] rfl)
    · have hf := ie_s hf c90
      refine lv_iconst (v := 0) X.1 X.2.1 dX3_parseSeats_93 (by decide) ?_
      refine lv_istore_n (lv' := [(1, .int 0), (0, .ref (a 0)), (2, .int x2), (3, .int x3)]) X.1 X.2.1 dX3_parseSeats_94 rfl hl (by decide) rfl (fun ls hl => ?_)
      exact t_X3_parseSeats_b95 X kh14 F I 0 x2 H locs ls hf hfF hfI hP hS (lv_sub hl [1, 0, 2] rfl)
set_option maxHeartbeats 4000000 in
set_option maxRecDepth 100000 in
theorem t_X3_parseSeats_b68 {p : Program} {l : Launch} {e : Env} {s : State} {m : MethodId} {args : Array Value} {below : List Frame} {meth : Method} {c : Code} {D : va_G} {a : Nat → Nat} {kc : Nat → ClassId} (X : cx 44 p s m args meth c D (tyC kc) a cX3_parseSeats 5 RX3 none) {G : Nat → Int64} {J : Nat → Nat → Int64} {Z : Nat → Nat → Nat → Int32} {Ff : Nat → Int32} {If : Nat → Nat → Int32}  {K14 : Int32 → Int32 → (Nat → Int32) → (Nat → Int32) → (Nat → Int32) → (Nat → Int32) → (Nat → Int32) → (Nat → Nat → Int32) → Int32 → Int32 → Option (Int32 × Int32 × (Nat → Int32) × (Nat → Int32) × (Nat → Int32) × (Nat → Int32))} (kh14 : ∀ (F : Nat → Int32) (I : Nat → Nat → Int32) (x1 : Int32) (x2 : Int32) (H : Heap) (locs : List Loc) (ls : Array Slot), K14 (F 0) (F 1) (I 0) (I 1) (I 2) (I 3) (I 4) (Z 0) x1 x2 = some ((Ff 0), (Ff 1), (If 1), (If 2), (If 3), (If 4)) → (∀ k, k ∉ ([0, 1] : List Nat) → Ff k = F k) → (∀ k, k ∉ ([1, 2, 3, 4] : List Nat) → If k = I k) → va_P D vwCl (wC a kc F G I J Z) H → va_S (ad a 44 s.heap.size) s.heap H locs → lv_has ls 5 [(0, .ref (a 0)), (1, .int x1), (2, .int x2)] → W p l e rm_X3_parseSeats s m args below meth c H locs 0 0 (MQ below (Qv D (wC a kc Ff G If J Z) (ad a 44 s.heap.size)) args s 0 0 (ad a 44 s.heap.size)) (F0 m 14 ls [])) :
    ∀ (F : Nat → Int32) (I : Nat → Nat → Int32) (t1 : Int32) (t2 : Int32) (x2 : Int32) (x4 : Int32) (H : Heap) (locs : List Loc) (ls : Array Slot), p_X3_parseSeats_b68 K14 (F 0) (F 1) (I 0) (I 1) (I 2) (I 3) (I 4) (Z 0) t1 t2 x2 x4 = some ((Ff 0), (Ff 1), (If 1), (If 2), (If 3), (If 4)) → (∀ k, k ∉ ([0, 1] : List Nat) → Ff k = F k) → (∀ k, k ∉ ([1, 2, 3, 4] : List Nat) → If k = I k) → va_P D vwCl (wC a kc F G I J Z) H → va_S (ad a 44 s.heap.size) s.heap H locs → lv_has ls 5 [(0, .ref (a 0)), (2, .int x2), (4, .int x4)] → W p l e rm_X3_parseSeats s m args below meth c H locs 0 0 (MQ below (Qv D (wC a kc Ff G If J Z) (ad a 44 s.heap.size)) args s 0 0 (ad a 44 s.heap.size)) (F0 m 68 ls [.int t2, .int t1, .ref (a 0)]) := by
  intro F I t1 t2 x2 x4 H locs ls hf hfF hfI hP hS hl
  unfold p_X3_parseSeats_b68 at hf
  refine lv_iadd X.1 X.2.1 dX3_parseSeats_68 ?_
  refine nm_i hf (fun H_rows_69 hf => ?_)
  refine pC_0_9 X q_1_85 dX3_parseSeats_69 hP hS (fun H locs hP hS => ?_)
  refine lv_iconst (v := 1) X.1 X.2.1 dX3_parseSeats_72 (by decide) ?_
  refine lv_istore_n (lv' := [(1, .int 1), (0, .ref (a 0)), (2, .int x2), (4, .int x4)]) X.1 X.2.1 dX3_parseSeats_73 rfl hl (by decide) rfl (fun ls hl => ?_)
  refine lv_aload_n X.1 X.2.1 dX3_parseSeats_74 rfl (lv_at hl 1 rfl) ?_
  refine lv_iload X.1 X.2.1 dX3_parseSeats_75 (lv_at hl 3 rfl) ?_
  obtain ⟨H_seats_77, H_sorts_77, H_rowOf_77, H_bySort_77, ho, hf⟩ := b4_s hf
  refine call_vv (rest := []) X (c_X3_addSeat (va_up F 1 H_rows_69) G I J Z X.2.2.2.2.2.2.2.1 x4 ho) q_1_41 q_1_43 qs_yX3_addSeat q_1_2 q_1_44 ok_X3_addSeat rfl 0 rfl rfl ⟨Nat.le_of_ble_eq_true rfl, Nat.le_of_ble_eq_true rfl⟩ rfl rfl hl.1 rfl (Nat.le_of_ble_eq_true rfl) dX3_parseSeats_77 hP hS (fun H locs hP hS => ?_)
  refine lv_goto (tgt := 95) X.1 X.2.1 dX3_parseSeats_80 (by decide) ?_
  exact t_X3_parseSeats_b95 X kh14 (va_up (va_up F 1 H_rows_69) 0 H_seats_77) (va_up (va_up (va_up I 2 H_sorts_77) 3 H_rowOf_77) 4 H_bySort_77) 1 x2 H locs ls hf (frm_up (frm_up hfF (by decide)) (by decide)) (frm_up (frm_up (frm_up hfI (by decide)) (by decide)) (by decide)) hP hS (lv_sub hl [1, 0, 2] rfl)
set_option maxHeartbeats 4000000 in
set_option maxRecDepth 100000 in
theorem t_X3_parseSeats_b14x {p : Program} {l : Launch} {e : Env} {s : State} {m : MethodId} {args : Array Value} {below : List Frame} {meth : Method} {c : Code} {D : va_G} {a : Nat → Nat} {kc : Nat → ClassId} (X : cx 44 p s m args meth c D (tyC kc) a cX3_parseSeats 5 RX3 none) {G : Nat → Int64} {J : Nat → Nat → Int64} {Z : Nat → Nat → Nat → Int32} {Ff : Nat → Int32} {If : Nat → Nat → Int32}  {K14 : Int32 → Int32 → (Nat → Int32) → (Nat → Int32) → (Nat → Int32) → (Nat → Int32) → (Nat → Int32) → (Nat → Nat → Int32) → Int32 → Int32 → Option (Int32 × Int32 × (Nat → Int32) × (Nat → Int32) × (Nat → Int32) × (Nat → Int32))} (kh14 : ∀ (F : Nat → Int32) (I : Nat → Nat → Int32) (x1 : Int32) (x2 : Int32) (H : Heap) (locs : List Loc) (ls : Array Slot), K14 (F 0) (F 1) (I 0) (I 1) (I 2) (I 3) (I 4) (Z 0) x1 x2 = some ((Ff 0), (Ff 1), (If 1), (If 2), (If 3), (If 4)) → (∀ k, k ∉ ([0, 1] : List Nat) → Ff k = F k) → (∀ k, k ∉ ([1, 2, 3, 4] : List Nat) → If k = I k) → va_P D vwCl (wC a kc F G I J Z) H → va_S (ad a 44 s.heap.size) s.heap H locs → lv_has ls 5 [(0, .ref (a 0)), (1, .int x1), (2, .int x2)] → W p l e rm_X3_parseSeats s m args below meth c H locs 0 0 (MQ below (Qv D (wC a kc Ff G If J Z) (ad a 44 s.heap.size)) args s 0 0 (ad a 44 s.heap.size)) (F0 m 14 ls [])) :
    ∀ (F : Nat → Int32) (I : Nat → Nat → Int32) (x1 : Int32) (x2 : Int32) (H : Heap) (locs : List Loc) (ls : Array Slot), p_X3_parseSeats_b14x K14 (F 0) (F 1) (I 0) (I 1) (I 2) (I 3) (I 4) (Z 0) x1 x2 = some ((Ff 0), (Ff 1), (If 1), (If 2), (If 3), (If 4)) → (∀ k, k ∉ ([0, 1] : List Nat) → Ff k = F k) → (∀ k, k ∉ ([1, 2, 3, 4] : List Nat) → If k = I k) → va_P D vwCl (wC a kc F G I J Z) H → va_S (ad a 44 s.heap.size) s.heap H locs → lv_has ls 5 [(0, .ref (a 0)), (1, .int x1), (2, .int x2)] → W p l e rm_X3_parseSeats s m args below meth c H locs 0 0 (MQ below (Qv D (wC a kc Ff G If J Z) (ad a 44 s.heap.size)) args s 0 0 (ad a 44 s.heap.size)) (F0 m 14 ls []) := by
  intro F I x1 x2 H locs ls hf hfF hfI hP hS hl
  unfold p_X3_parseSeats_b14x at hf
  refine lv_iload_n X.1 X.2.1 dX3_parseSeats_14 rfl (lv_at hl 2 rfl) ?_
  refine lv_aload_n X.1 X.2.1 dX3_parseSeats_15 rfl (lv_at hl 0 rfl) ?_
  refine gC_0_1 X q_1_56 dX3_parseSeats_16 hP ?_
  refine lv_iconst (v := 0) X.1 X.2.1 dX3_parseSeats_19 (by decide) ?_
  obtain ⟨h20, hf⟩ := gd_s hf
  refine lC_4 (I := I) X (f := (I 0)) rfl h20 dX3_parseSeats_20 hP ?_
  refine lv_icmp_ge (tgt := 101) X.1 X.2.1 dX3_parseSeats_21 (by decide) (fun c21 => ?_) (fun c21 => ?_)
  · have hf := it_s hf c21
    exact t_X3_parseSeats_b101 X F I x1 x2 H locs ls hf hfF hfI hP hS (lv_sub hl [0, 1, 2] rfl)
  · have hf := ie_s hf c21
    refine lv_aload_n X.1 X.2.1 dX3_parseSeats_24 rfl (lv_at hl 0 rfl) ?_
    refine gC_0_0 X q_1_55 dX3_parseSeats_25 hP ?_
    refine lv_iconst (v := 0) X.1 X.2.1 dX3_parseSeats_28 (by decide) ?_
    obtain ⟨h29, hf⟩ := gd_s hf
    refine alC_1 X h29 dX3_parseSeats_29 hP ?_
    refine lv_iload_n X.1 X.2.1 dX3_parseSeats_30 rfl (lv_at hl 2 rfl) ?_
    obtain ⟨h31s, hf⟩ := gd_s hf
    obtain ⟨h31, hf⟩ := gd_s hf
    refine ldC_2 (Z := Z) X (of_decide_eq_true h31s) (f := (Z 0)) rfl h31 dX3_parseSeats_31 hP ?_
    refine nm_i hf (fun x32 hf => ?_)
    refine lv_istore_n (lv' := [(3, .int x32), (0, .ref (a 0)), (1, .int x1), (2, .int x2)]) X.1 X.2.1 dX3_parseSeats_32 rfl hl (by decide) rfl (fun ls hl => ?_)
    refine lv_iload_n X.1 X.2.1 dX3_parseSeats_33 rfl (lv_at hl 0 rfl) ?_
    obtain ⟨r34, ho, hf⟩ := b1_s hf
    refine call_si (rest := []) X (c_X3_sortOf x32 ho) q_1_38 q_1_39 q_1_2 q_1_40 ok_X3_sortOf rfl ⟨Nat.le_of_ble_eq_true rfl, Nat.le_of_ble_eq_true rfl⟩ rfl rfl hl.1 rfl (Nat.le_of_ble_eq_true rfl) dX3_parseSeats_34 hP hS (fun H locs hP hS => ?_)
    refine lv_istore (lv' := [(4, .int r34), (3, .int x32), (0, .ref (a 0)), (1, .int x1), (2, .int x2)]) X.1 X.2.1 dX3_parseSeats_37 hl (by decide) rfl (fun ls hl => ?_)
    refine lv_iload X.1 X.2.1 dX3_parseSeats_39 (lv_at hl 0 rfl) ?_
    refine lv_iconst (v := (-1)) X.1 X.2.1 dX3_parseSeats_41 (by decide) ?_
    refine lv_icmp_eq (tgt := 83) X.1 X.2.1 dX3_parseSeats_42 (by decide) (fun c42 => ?_) (fun c42 => ?_)
    · have hf := it_s hf c42
      exact t_X3_parseSeats_b83 X kh14 F I x1 x2 x32 H locs ls hf hfF hfI hP hS (lv_sub hl [2, 3, 4, 1] rfl)
    · have hf := ie_s hf c42
      refine lv_aload_n X.1 X.2.1 dX3_parseSeats_45 rfl (lv_at hl 2 rfl) ?_
      refine gC_0_8 (F := F) X (v := (F 0)) rfl q_1_80 dX3_parseSeats_46 hP ?_
      refine lv_bipush (v := 8) X.1 X.2.1 dX3_parseSeats_49 (by decide) ?_
      refine lv_icmp_ge (tgt := 83) X.1 X.2.1 dX3_parseSeats_51 (by decide) (fun c51 => ?_) (fun c51 => ?_)
      · have hf := it_s hf c51
        exact t_X3_parseSeats_b83 X kh14 F I x1 x2 x32 H locs ls hf hfF hfI hP hS (lv_sub hl [2, 3, 4, 1] rfl)
      · have hf := ie_s hf c51
        refine lv_aload_n X.1 X.2.1 dX3_parseSeats_54 rfl (lv_at hl 2 rfl) ?_
        refine lv_dup X.1 X.2.1 dX3_parseSeats_55 rfl ?_
        refine gC_0_9 (F := F) X (v := (F 1)) rfl q_1_85 dX3_parseSeats_56 hP ?_
        refine lv_iload_n X.1 X.2.1 dX3_parseSeats_59 rfl (lv_at hl 3 rfl) ?_
        refine lv_if_eq (tgt := 67) X.1 X.2.1 dX3_parseSeats_60 (by decide) (fun c60 => ?_) (fun c60 => ?_)
        · have hf := it_s hf c60
          refine lv_iconst (v := 1) X.1 X.2.1 dX3_parseSeats_67 (by decide) ?_
          exact t_X3_parseSeats_b68 X kh14 F I (F 1) 1 x2 r34 H locs ls hf hfF hfI hP hS (lv_sub hl [2, 4, 0] rfl)
        · have hf := ie_s hf c60
          refine lv_iconst (v := 0) X.1 X.2.1 dX3_parseSeats_63 (by decide) ?_
          refine lv_goto (tgt := 68) X.1 X.2.1 dX3_parseSeats_64 (by decide) ?_
          exact t_X3_parseSeats_b68 X kh14 F I (F 1) 0 x2 r34 H locs ls hf hfF hfI hP hS (lv_sub hl [2, 4, 0] rfl)
set_option maxRecDepth 100000 in
theorem t_X3_parseSeats_b14 {p : Program} {l : Launch} {e : Env} {s : State} {m : MethodId} {args : Array Value} {below : List Frame} {meth : Method} {c : Code} {D : va_G} {a : Nat → Nat} {kc : Nat → ClassId} (X : cx 44 p s m args meth c D (tyC kc) a cX3_parseSeats 5 RX3 none) {G : Nat → Int64} {J : Nat → Nat → Int64} {Z : Nat → Nat → Nat → Int32} {Ff : Nat → Int32} {If : Nat → Nat → Int32}  :
    ∀ (n : Nat) (F : Nat → Int32) (I : Nat → Nat → Int32) (x1 : Int32) (x2 : Int32) (H : Heap) (locs : List Loc) (ls : Array Slot), p_X3_parseSeats_b14 n (F 0) (F 1) (I 0) (I 1) (I 2) (I 3) (I 4) (Z 0) x1 x2 = some ((Ff 0), (Ff 1), (If 1), (If 2), (If 3), (If 4)) → (∀ k, k ∉ ([0, 1] : List Nat) → Ff k = F k) → (∀ k, k ∉ ([1, 2, 3, 4] : List Nat) → If k = I k) → va_P D vwCl (wC a kc F G I J Z) H → va_S (ad a 44 s.heap.size) s.heap H locs → lv_has ls 5 [(0, .ref (a 0)), (1, .int x1), (2, .int x2)] → W p l e rm_X3_parseSeats s m args below meth c H locs 0 0 (MQ below (Qv D (wC a kc Ff G If J Z) (ad a 44 s.heap.size)) args s 0 0 (ad a 44 s.heap.size)) (F0 m 14 ls []) := by
  intro n
  induction n with
  | zero => intro F I x1 x2 H locs ls hf hfF hfI hP hS hl; exact (nos hf).elim
  | succ n ih => exact t_X3_parseSeats_b14x X ih
set_option maxHeartbeats 4000000 in
set_option maxRecDepth 100000 in
theorem t_X3_parseSeats_b0 {p : Program} {l : Launch} {e : Env} {s : State} {m : MethodId} {args : Array Value} {below : List Frame} {meth : Method} {c : Code} {D : va_G} {a : Nat → Nat} {kc : Nat → ClassId} (X : cx 44 p s m args meth c D (tyC kc) a cX3_parseSeats 5 RX3 none) {G : Nat → Int64} {J : Nat → Nat → Int64} {Z : Nat → Nat → Nat → Int32} {Ff : Nat → Int32} {If : Nat → Nat → Int32}  :
    ∀ (F : Nat → Int32) (I : Nat → Nat → Int32)  (H : Heap) (locs : List Loc) (ls : Array Slot), p_X3_parseSeats_b0 (F 0) (F 1) (I 0) (I 1) (I 2) (I 3) (I 4) (Z 0)  = some ((Ff 0), (Ff 1), (If 1), (If 2), (If 3), (If 4)) → (∀ k, k ∉ ([0, 1] : List Nat) → Ff k = F k) → (∀ k, k ∉ ([1, 2, 3, 4] : List Nat) → If k = I k) → va_P D vwCl (wC a kc F G I J Z) H → va_S (ad a 44 s.heap.size) s.heap H locs → lv_has ls 5 [(0, .ref (a 0))] → W p l e rm_X3_parseSeats s m args below meth c H locs 0 0 (MQ below (Qv D (wC a kc Ff G If J Z) (ad a 44 s.heap.size)) args s 0 0 (ad a 44 s.heap.size)) (F0 m 0 ls []) := by
  intro F I  H locs ls hf hfF hfI hP hS hl
  unfold p_X3_parseSeats_b0 at hf
  refine lv_aload_n X.1 X.2.1 dX3_parseSeats_0 rfl (lv_at hl 0 rfl) ?_
  refine lv_iconst (v := 0) X.1 X.2.1 dX3_parseSeats_1 (by decide) ?_
  refine pC_0_8 X q_1_80 dX3_parseSeats_2 hP hS (fun H locs hP hS => ?_)
  refine lv_aload_n X.1 X.2.1 dX3_parseSeats_5 rfl (lv_at hl 0 rfl) ?_
  refine lv_iconst (v := 0) X.1 X.2.1 dX3_parseSeats_6 (by decide) ?_
  refine pC_0_9 X q_1_85 dX3_parseSeats_7 hP hS (fun H locs hP hS => ?_)
  refine lv_iconst (v := 0) X.1 X.2.1 dX3_parseSeats_10 (by decide) ?_
  refine lv_istore_n (lv' := [(1, .int 0), (0, .ref (a 0))]) X.1 X.2.1 dX3_parseSeats_11 rfl hl (by decide) rfl (fun ls hl => ?_)
  refine lv_iconst (v := 0) X.1 X.2.1 dX3_parseSeats_12 (by decide) ?_
  refine lv_istore_n (lv' := [(2, .int 0), (1, .int 0), (0, .ref (a 0))]) X.1 X.2.1 dX3_parseSeats_13 rfl hl (by decide) rfl (fun ls hl => ?_)
  exact t_X3_parseSeats_b14 X 4096 (va_up (va_up F 0 0) 1 0) I 0 0 H locs ls hf (frm_up (frm_up hfF (by decide)) (by decide)) hfI hP hS (lv_sub hl [2, 1, 0] rfl)
set_option maxRecDepth 100000 in
theorem c_X3_parseSeats {l : Launch} {D : va_G} {a : Nat → Nat} {kc : Nat → ClassId} (F : Nat → Int32) (G : Nat → Int64) (I : Nat → Nat → Int32) (J : Nat → Nat → Int64) (Z : Nat → Nat → Nat → Int32) (hAp : ∀ i j, i < 44 → j < 44 → a i = a j → i = j)  {o0 : Int32} {o1 : Int32} {o2 : Nat → Int32} {o3 : Nat → Int32} {o4 : Nat → Int32} {o5 : Nat → Int32} (hf : p_X3_parseSeats (F 0) (F 1) (I 0) (I 1) (I 2) (I 3) (I 4) (Z 0)  = some (o0, o1, o2, o3, o4, o5)) : Ct 44 l yX3_parseSeats cX3_parseSeats 5 none rm_X3_parseSeats D (tyC kc) a (wC a kc F G I J Z) [.ref (a 0)] (Qv D (wC a kc (va_up (va_up F 0 o0) 1 o1) G (va_up (va_up (va_up (va_up I 1 o2) 2 o3) 3 o4) 4 o5) J Z)) :=
  Ct.of (by decide +kernel) hAp (Nat.le_of_ble_eq_true rfl) (fun p e s m args below meth c ls X hP hl => t_X3_parseSeats_b0 X F I  _ _ _ hf (frm_ul (frm_ul (fun k _ => rfl) (by decide)) (by decide)) (frm_ul (frm_ul (frm_ul (frm_ul (fun k _ => rfl) (by decide)) (by decide)) (by decide)) (by decide)) hP va_S.rf hl)
abbrev rm_X3_kindOf : Room := { frames := 0, cells := 0, slots := 0, locals := 0 }
set_option maxHeartbeats 4000000 in
set_option maxRecDepth 100000 in
theorem t_X3_kindOf_b0 {p : Program} {l : Launch} {e : Env} {s : State} {m : MethodId} {args : Array Value} {below : List Frame} {meth : Method} {c : Code} {D : va_G} {a : Nat → Nat} (X : cx 0 p s m args meth c D [] a cX3_kindOf 1 RX3 (some .int))   {r : Int32} :
    ∀  (x0 : Int32) (H : Heap) (locs : List Loc) (ls : Array Slot), p_X3_kindOf_b0  x0 = some r → va_P D vwCl [] H → va_S (ad a 0 s.heap.size) s.heap H locs → lv_has ls 1 [(0, .int x0)] → W p l e rm_X3_kindOf s m args below meth c H locs 0 0 (MQ below (Qi D [] r (ad a 0 s.heap.size)) args s 0 0 (ad a 0 s.heap.size)) (F0 m 0 ls []) := by
  intro  x0 H locs ls hf  hP hS hl
  unfold p_X3_kindOf_b0 at hf
  refine lv_iload_n X.1 X.2.1 dX3_kindOf_0 rfl (lv_at hl 0 rfl) ?_
  by_cases c1_108 : x0.toInt = 108
  · refine lv_tableIn (off := 49) (tgt := 50) X.1 X.2.1 dX3_kindOf_1 (by omega) (by omega) (by rw [c1_108]; rfl) (by decide) ?_
    have hf := it_s hf c1_108
    refine lv_iconst (v := 1) X.1 X.2.1 dX3_kindOf_50 (by decide) ?_
    have e0 := o1 hf
    exact ret_i X hS hP e0 dX3_kindOf_51
  · have hf := ie_s hf c1_108
    by_cases c1_110 : x0.toInt = 110
    · refine lv_tableIn (off := 51) (tgt := 52) X.1 X.2.1 dX3_kindOf_1 (by omega) (by omega) (by rw [c1_110]; rfl) (by decide) ?_
      have hf := it_s hf c1_110
      refine lv_iconst (v := 2) X.1 X.2.1 dX3_kindOf_52 (by decide) ?_
      have e0 := o1 hf
      exact ret_i X hS hP e0 dX3_kindOf_53
    · have hf := ie_s hf c1_110
      by_cases c1_111 : x0.toInt = 111
      · refine lv_tableIn (off := 47) (tgt := 48) X.1 X.2.1 dX3_kindOf_1 (by omega) (by omega) (by rw [c1_111]; rfl) (by decide) ?_
        have hf := it_s hf c1_111
        refine lv_iconst (v := 0) X.1 X.2.1 dX3_kindOf_48 (by decide) ?_
        have e0 := o1 hf
        exact ret_i X hS hP e0 dX3_kindOf_49
      · have hf := ie_s hf c1_111
        by_cases c1_115 : x0.toInt = 115
        · refine lv_tableIn (off := 53) (tgt := 54) X.1 X.2.1 dX3_kindOf_1 (by omega) (by omega) (by rw [c1_115]; rfl) (by decide) ?_
          have hf := it_s hf c1_115
          refine lv_iconst (v := 3) X.1 X.2.1 dX3_kindOf_54 (by decide) ?_
          have e0 := o1 hf
          exact ret_i X hS hP e0 dX3_kindOf_55
        · have hf := ie_s hf c1_115
          by_cases d1_109 : x0.toInt = 109
          · refine lv_tableIn (off := 55) (tgt := 56) X.1 X.2.1 dX3_kindOf_1 (by omega) (by omega) (by rw [d1_109]; rfl) (by decide) ?_
            refine lv_iconst (v := (-1)) X.1 X.2.1 dX3_kindOf_56 (by decide) ?_
            have e0 := o1 hf
            exact ret_i X hS hP e0 dX3_kindOf_57
          · by_cases d1_112 : x0.toInt = 112
            · refine lv_tableIn (off := 55) (tgt := 56) X.1 X.2.1 dX3_kindOf_1 (by omega) (by omega) (by rw [d1_112]; rfl) (by decide) ?_
              refine lv_iconst (v := (-1)) X.1 X.2.1 dX3_kindOf_56 (by decide) ?_
              have e0 := o1 hf
              exact ret_i X hS hP e0 dX3_kindOf_57
            · by_cases d1_113 : x0.toInt = 113
              · refine lv_tableIn (off := 55) (tgt := 56) X.1 X.2.1 dX3_kindOf_1 (by omega) (by omega) (by rw [d1_113]; rfl) (by decide) ?_
                refine lv_iconst (v := (-1)) X.1 X.2.1 dX3_kindOf_56 (by decide) ?_
                have e0 := o1 hf
                exact ret_i X hS hP e0 dX3_kindOf_57
              · by_cases d1_114 : x0.toInt = 114
                · refine lv_tableIn (off := 55) (tgt := 56) X.1 X.2.1 dX3_kindOf_1 (by omega) (by omega) (by rw [d1_114]; rfl) (by decide) ?_
                  refine lv_iconst (v := (-1)) X.1 X.2.1 dX3_kindOf_56 (by decide) ?_
                  have e0 := o1 hf
                  exact ret_i X hS hP e0 dX3_kindOf_57
                · refine lv_tableOut (tgt := 56) X.1 X.2.1 dX3_kindOf_1 (by omega) (by decide) ?_
                  refine lv_iconst (v := (-1)) X.1 X.2.1 dX3_kindOf_56 (by decide) ?_
                  have e0 := o1 hf
                  exact ret_i X hS hP e0 dX3_kindOf_57
set_option maxRecDepth 100000 in
theorem c_X3_kindOf {l : Launch} {D : va_G} {a : Nat → Nat}  (x0 : Int32) {o0 : Int32} (hf : p_X3_kindOf  x0 = some o0) : Ct 0 l yX3_kindOf cX3_kindOf 1 (some .int) rm_X3_kindOf D [] a [] [.int x0] (Qi D [] o0) :=
  Ct.of (by decide +kernel) (fun i j h => absurd h (Nat.not_lt_zero i)) (Nat.le_of_ble_eq_true rfl) (fun p e s m args below meth c ls X hP hl => t_X3_kindOf_b0 X  x0 _ _ _ hf  hP va_S.rf hl)
abbrev rm_X3_parsePeople : Room := { frames := 1, cells := 0, slots := 0, locals := 20 }
set_option maxHeartbeats 4000000 in
set_option maxRecDepth 100000 in
theorem t_X3_parsePeople_b167 {p : Program} {l : Launch} {e : Env} {s : State} {m : MethodId} {args : Array Value} {below : List Frame} {meth : Method} {c : Code} {D : va_G} {a : Nat → Nat} {kc : Nat → ClassId} (X : cx 44 p s m args meth c D (tyC kc) a cX3_parsePeople 5 RX3 none) {G : Nat → Int64} {J : Nat → Nat → Int64} {Z : Nat → Nat → Nat → Int32} {Ff : Nat → Int32} {If : Nat → Nat → Int32}  :
    ∀ (F : Nat → Int32) (I : Nat → Nat → Int32)  (H : Heap) (locs : List Loc) (ls : Array Slot), p_X3_parsePeople_b167 (F 0) (F 2) (I 0) (I 1) (I 5) (I 6) (Z 0)  = some ((Ff 2), (If 1), (If 5), (If 6)) → (∀ k, k ∉ ([2] : List Nat) → Ff k = F k) → (∀ k, k ∉ ([1, 5, 6] : List Nat) → If k = I k) → va_P D vwCl (wC a kc F G I J Z) H → va_S (ad a 44 s.heap.size) s.heap H locs → lv_has ls 5 [(0, .ref (a 0))] → W p l e rm_X3_parsePeople s m args below meth c H locs 0 0 (MQ below (Qv D (wC a kc Ff G If J Z) (ad a 44 s.heap.size)) args s 0 0 (ad a 44 s.heap.size)) (F0 m 167 ls []) := by
  intro F I  H locs ls hf hfF hfI hP hS hl
  unfold p_X3_parsePeople_b167 at hf
  obtain ⟨e0, hf⟩ := o2 hf
  obtain ⟨e1, hf⟩ := o2 hf
  obtain ⟨e2, hf⟩ := o2 hf
  have e3 := o1 hf
  have EF : Ff = F := frm_eq hfF (frm_c (e0).symm frm_n)
  have EI : If = I := frm_eq hfI (frm_c (e1).symm (frm_c (e2).symm (frm_c (e3).symm frm_n)))
  exact ret_v X hS (by rw [EF, EI]; exact hP) dX3_parsePeople_167
set_option maxHeartbeats 4000000 in
set_option maxRecDepth 100000 in
theorem t_X3_parsePeople_b151 {p : Program} {l : Launch} {e : Env} {s : State} {m : MethodId} {args : Array Value} {below : List Frame} {meth : Method} {c : Code} {D : va_G} {a : Nat → Nat} {kc : Nat → ClassId} (X : cx 44 p s m args meth c D (tyC kc) a cX3_parsePeople 5 RX3 none) {G : Nat → Int64} {J : Nat → Nat → Int64} {Z : Nat → Nat → Nat → Int32} {Ff : Nat → Int32} {If : Nat → Nat → Int32}  :
    ∀ (F : Nat → Int32) (I : Nat → Nat → Int32) (t1 : Int32) (t2 : Int32) (H : Heap) (locs : List Loc) (ls : Array Slot), p_X3_parsePeople_b151 (F 0) (F 2) (I 0) (I 1) (I 5) (I 6) (Z 0) t1 t2 = some ((Ff 2), (If 1), (If 5), (If 6)) → (∀ k, k ∉ ([2] : List Nat) → Ff k = F k) → (∀ k, k ∉ ([1, 5, 6] : List Nat) → If k = I k) → va_P D vwCl (wC a kc F G I J Z) H → va_S (ad a 44 s.heap.size) s.heap H locs → lv_has ls 5 [(0, .ref (a 0))] → W p l e rm_X3_parsePeople s m args below meth c H locs 0 0 (MQ below (Qv D (wC a kc Ff G If J Z) (ad a 44 s.heap.size)) args s 0 0 (ad a 44 s.heap.size)) (F0 m 151 ls [.int t2, .int t1, .ref (a 5)]) := by
  intro F I t1 t2 H locs ls hf hfF hfI hP hS hl
  unfold p_X3_parsePeople_b151 at hf
  obtain ⟨h151, hf⟩ := gd_s hf
  obtain ⟨H_faults_151, eH_faults_151, hf⟩ := nm_x hf
  refine sC_5 (I := I) X h151 eH_faults_151 dX3_parsePeople_151 hP hS (fun H locs hP hS => ?_)
  refine lv_aload_n X.1 X.2.1 dX3_parsePeople_152 rfl (lv_at hl 0 rfl) ?_
  refine gC_0_2 X q_1_58 dX3_parsePeople_153 hP ?_
  refine lv_iconst (v := 1) X.1 X.2.1 dX3_parsePeople_156 (by decide) ?_
  obtain ⟨h157, hf⟩ := gd_s hf
  refine lC_5 (I := (va_up I 1 H_faults_151)) X (f := H_faults_151) rfl h157 dX3_parsePeople_157 hP ?_
  refine lv_iconst (v := (-1)) X.1 X.2.1 dX3_parsePeople_158 (by decide) ?_
  refine lv_icmp_eq (tgt := 167) X.1 X.2.1 dX3_parsePeople_159 (by decide) (fun c159 => ?_) (fun c159 => ?_)
  · have hf := it_s hf c159
    exact t_X3_parsePeople_b167 X F (va_up I 1 H_faults_151)  H locs ls hf hfF (frm_up hfI (by decide)) hP hS (lv_sub hl [0] rfl)
  · have hf := ie_s hf c159
    refine lv_aload_n X.1 X.2.1 dX3_parsePeople_162 rfl (lv_at hl 0 rfl) ?_
    refine lv_iconst (v := 0) X.1 X.2.1 dX3_parsePeople_163 (by decide) ?_
    refine pC_0_10 X q_1_92 dX3_parsePeople_164 hP hS (fun H locs hP hS => ?_)
    exact t_X3_parsePeople_b167 X (va_up F 2 0) (va_up I 1 H_faults_151)  H locs ls hf (frm_up hfF (by decide)) (frm_up hfI (by decide)) hP hS (lv_sub hl [0] rfl)
set_option maxHeartbeats 4000000 in
set_option maxRecDepth 100000 in
theorem t_X3_parsePeople_b150 {p : Program} {l : Launch} {e : Env} {s : State} {m : MethodId} {args : Array Value} {below : List Frame} {meth : Method} {c : Code} {D : va_G} {a : Nat → Nat} {kc : Nat → ClassId} (X : cx 44 p s m args meth c D (tyC kc) a cX3_parsePeople 5 RX3 none) {G : Nat → Int64} {J : Nat → Nat → Int64} {Z : Nat → Nat → Nat → Int32} {Ff : Nat → Int32} {If : Nat → Nat → Int32}  :
    ∀ (F : Nat → Int32) (I : Nat → Nat → Int32) (t1 : Int32) (x2 : Int32) (H : Heap) (locs : List Loc) (ls : Array Slot), p_X3_parsePeople_b150 (F 0) (F 2) (I 0) (I 1) (I 5) (I 6) (Z 0) t1 x2 = some ((Ff 2), (If 1), (If 5), (If 6)) → (∀ k, k ∉ ([2] : List Nat) → Ff k = F k) → (∀ k, k ∉ ([1, 5, 6] : List Nat) → If k = I k) → va_P D vwCl (wC a kc F G I J Z) H → va_S (ad a 44 s.heap.size) s.heap H locs → lv_has ls 5 [(0, .ref (a 0)), (2, .int x2)] → W p l e rm_X3_parsePeople s m args below meth c H locs 0 0 (MQ below (Qv D (wC a kc Ff G If J Z) (ad a 44 s.heap.size)) args s 0 0 (ad a 44 s.heap.size)) (F0 m 150 ls [.int t1, .ref (a 5)]) := by
  intro F I t1 x2 H locs ls hf hfF hfI hP hS hl
  unfold p_X3_parsePeople_b150 at hf
  refine lv_iload_n X.1 X.2.1 dX3_parsePeople_150 rfl (lv_at hl 1 rfl) ?_
  exact t_X3_parsePeople_b151 X F I t1 x2 H locs ls hf hfF hfI hP hS (lv_sub hl [0] rfl)
set_option maxHeartbeats 4000000 in
set_option maxRecDepth 100000 in
theorem t_X3_parsePeople_b126 {p : Program} {l : Launch} {e : Env} {s : State} {m : MethodId} {args : Array Value} {below : List Frame} {meth : Method} {c : Code} {D : va_G} {a : Nat → Nat} {kc : Nat → ClassId} (X : cx 44 p s m args meth c D (tyC kc) a cX3_parsePeople 5 RX3 none) {G : Nat → Int64} {J : Nat → Nat → Int64} {Z : Nat → Nat → Nat → Int32} {Ff : Nat → Int32} {If : Nat → Nat → Int32}  :
    ∀ (F : Nat → Int32) (I : Nat → Nat → Int32) (x1 : Int32) (x2 : Int32) (H : Heap) (locs : List Loc) (ls : Array Slot), p_X3_parsePeople_b126 (F 0) (F 2) (I 0) (I 1) (I 5) (I 6) (Z 0) x1 x2 = some ((Ff 2), (If 1), (If 5), (If 6)) → (∀ k, k ∉ ([2] : List Nat) → Ff k = F k) → (∀ k, k ∉ ([1, 5, 6] : List Nat) → If k = I k) → va_P D vwCl (wC a kc F G I J Z) H → va_S (ad a 44 s.heap.size) s.heap H locs → lv_has ls 5 [(0, .ref (a 0)), (1, .int x1), (2, .int x2)] → W p l e rm_X3_parsePeople s m args below meth c H locs 0 0 (MQ below (Qv D (wC a kc Ff G If J Z) (ad a 44 s.heap.size)) args s 0 0 (ad a 44 s.heap.size)) (F0 m 126 ls []) := by
  intro F I x1 x2 H locs ls hf hfF hfI hP hS hl
  unfold p_X3_parsePeople_b126 at hf
  refine lv_aload_n X.1 X.2.1 dX3_parsePeople_126 rfl (lv_at hl 0 rfl) ?_
  refine gC_0_2 X q_1_58 dX3_parsePeople_127 hP ?_
  refine lv_iconst (v := 1) X.1 X.2.1 dX3_parsePeople_130 (by decide) ?_
  refine lv_iload_n X.1 X.2.1 dX3_parsePeople_131 rfl (lv_at hl 2 rfl) ?_
  refine lv_aload_n X.1 X.2.1 dX3_parsePeople_132 rfl (lv_at hl 0 rfl) ?_
  refine gC_0_1 X q_1_56 dX3_parsePeople_133 hP ?_
  refine lv_iconst (v := 1) X.1 X.2.1 dX3_parsePeople_136 (by decide) ?_
  obtain ⟨h137, hf⟩ := gd_s hf
  refine lC_4 (I := I) X (f := (I 0)) rfl h137 dX3_parsePeople_137 hP ?_
  refine lv_icmp_ne (tgt := 150) X.1 X.2.1 dX3_parsePeople_138 (by decide) (fun c138 => ?_) (fun c138 => ?_)
  · have hf := ie_s hf c138
    exact t_X3_parsePeople_b150 X F I 1 x2 H locs ls hf hfF hfI hP hS (lv_sub hl [0, 2] rfl)
  · have hf := it_s hf c138
    refine lv_iload_n X.1 X.2.1 dX3_parsePeople_141 rfl (lv_at hl 1 rfl) ?_
    refine lv_iconst (v := (-1)) X.1 X.2.1 dX3_parsePeople_142 (by decide) ?_
    refine lv_icmp_ne (tgt := 150) X.1 X.2.1 dX3_parsePeople_143 (by decide) (fun c143 => ?_) (fun c143 => ?_)
    · have hf := ie_s hf c143
      exact t_X3_parsePeople_b150 X F I 1 x2 H locs ls hf hfF hfI hP hS (lv_sub hl [0, 2] rfl)
    · have hf := it_s hf c143
      refine lv_iconst (v := (-1)) X.1 X.2.1 dX3_parsePeople_146 (by decide) ?_
      refine lv_goto (tgt := 151) X.1 X.2.1 dX3_parsePeople_147 (by decide) ?_
      exact t_X3_parsePeople_b151 X F I 1 (-1) H locs ls hf hfF hfI hP hS (lv_sub hl [0] rfl)
set_option maxHeartbeats 4000000 in
set_option maxRecDepth 100000 in
theorem t_X3_parsePeople_b120 {p : Program} {l : Launch} {e : Env} {s : State} {m : MethodId} {args : Array Value} {below : List Frame} {meth : Method} {c : Code} {D : va_G} {a : Nat → Nat} {kc : Nat → ClassId} (X : cx 44 p s m args meth c D (tyC kc) a cX3_parsePeople 5 RX3 none) {G : Nat → Int64} {J : Nat → Nat → Int64} {Z : Nat → Nat → Nat → Int32} {Ff : Nat → Int32} {If : Nat → Nat → Int32}  {K9 : Int32 → Int32 → (Nat → Int32) → (Nat → Int32) → (Nat → Int32) → (Nat → Int32) → (Nat → Nat → Int32) → Int32 → Int32 → Option (Int32 × (Nat → Int32) × (Nat → Int32) × (Nat → Int32))} (kh9 : ∀ (F : Nat → Int32) (I : Nat → Nat → Int32) (x1 : Int32) (x2 : Int32) (H : Heap) (locs : List Loc) (ls : Array Slot), K9 (F 0) (F 2) (I 0) (I 1) (I 5) (I 6) (Z 0) x1 x2 = some ((Ff 2), (If 1), (If 5), (If 6)) → (∀ k, k ∉ ([2] : List Nat) → Ff k = F k) → (∀ k, k ∉ ([1, 5, 6] : List Nat) → If k = I k) → va_P D vwCl (wC a kc F G I J Z) H → va_S (ad a 44 s.heap.size) s.heap H locs → lv_has ls 5 [(0, .ref (a 0)), (1, .int x1), (2, .int x2)] → W p l e rm_X3_parsePeople s m args below meth c H locs 0 0 (MQ below (Qv D (wC a kc Ff G If J Z) (ad a 44 s.heap.size)) args s 0 0 (ad a 44 s.heap.size)) (F0 m 9 ls [])) :
    ∀ (F : Nat → Int32) (I : Nat → Nat → Int32) (x1 : Int32) (x2 : Int32) (H : Heap) (locs : List Loc) (ls : Array Slot), p_X3_parsePeople_b120 K9 (F 0) (F 2) (I 0) (I 1) (I 5) (I 6) (Z 0) x1 x2 = some ((Ff 2), (If 1), (If 5), (If 6)) → (∀ k, k ∉ ([2] : List Nat) → Ff k = F k) → (∀ k, k ∉ ([1, 5, 6] : List Nat) → If k = I k) → va_P D vwCl (wC a kc F G I J Z) H → va_S (ad a 44 s.heap.size) s.heap H locs → lv_has ls 5 [(0, .ref (a 0)), (1, .int x1), (2, .int x2)] → W p l e rm_X3_parsePeople s m args below meth c H locs 0 0 (MQ below (Qv D (wC a kc Ff G If J Z) (ad a 44 s.heap.size)) args s 0 0 (ad a 44 s.heap.size)) (F0 m 120 ls []) := by
  intro F I x1 x2 H locs ls hf hfF hfI hP hS hl
  unfold p_X3_parsePeople_b120 at hf
  obtain ⟨x120, ex120, hf⟩ := nm_x hf
  refine lv_iinc (v := x120) (lv' := [(2, .int x120), (0, .ref (a 0)), (1, .int x1)]) X.1 X.2.1 dX3_parsePeople_120 hl (k := 2) rfl ex120 (by decide) rfl (fun ls hl => ?_)
  refine lv_goto (tgt := 9) X.1 X.2.1 dX3_parsePeople_123 (by decide) ?_
  exact kh9 F I x1 x120 H locs ls hf hfF hfI hP hS (lv_sub hl [1, 2, 0] rfl)
set_option maxHeartbeats 4000000 in
set_option maxRecDepth 100000 in
theorem t_X3_parsePeople_b9x {p : Program} {l : Launch} {e : Env} {s : State} {m : MethodId} {args : Array Value} {below : List Frame} {meth : Method} {c : Code} {D : va_G} {a : Nat → Nat} {kc : Nat → ClassId} (X : cx 44 p s m args meth c D (tyC kc) a cX3_parsePeople 5 RX3 none) {G : Nat → Int64} {J : Nat → Nat → Int64} {Z : Nat → Nat → Nat → Int32} {Ff : Nat → Int32} {If : Nat → Nat → Int32}  {K9 : Int32 → Int32 → (Nat → Int32) → (Nat → Int32) → (Nat → Int32) → (Nat → Int32) → (Nat → Nat → Int32) → Int32 → Int32 → Option (Int32 × (Nat → Int32) × (Nat → Int32) × (Nat → Int32))} (kh9 : ∀ (F : Nat → Int32) (I : Nat → Nat → Int32) (x1 : Int32) (x2 : Int32) (H : Heap) (locs : List Loc) (ls : Array Slot), K9 (F 0) (F 2) (I 0) (I 1) (I 5) (I 6) (Z 0) x1 x2 = some ((Ff 2), (If 1), (If 5), (If 6)) → (∀ k, k ∉ ([2] : List Nat) → Ff k = F k) → (∀ k, k ∉ ([1, 5, 6] : List Nat) → If k = I k) → va_P D vwCl (wC a kc F G I J Z) H → va_S (ad a 44 s.heap.size) s.heap H locs → lv_has ls 5 [(0, .ref (a 0)), (1, .int x1), (2, .int x2)] → W p l e rm_X3_parsePeople s m args below meth c H locs 0 0 (MQ below (Qv D (wC a kc Ff G If J Z) (ad a 44 s.heap.size)) args s 0 0 (ad a 44 s.heap.size)) (F0 m 9 ls [])) :
    ∀ (F : Nat → Int32) (I : Nat → Nat → Int32) (x1 : Int32) (x2 : Int32) (H : Heap) (locs : List Loc) (ls : Array Slot), p_X3_parsePeople_b9x K9 (F 0) (F 2) (I 0) (I 1) (I 5) (I 6) (Z 0) x1 x2 = some ((Ff 2), (If 1), (If 5), (If 6)) → (∀ k, k ∉ ([2] : List Nat) → Ff k = F k) → (∀ k, k ∉ ([1, 5, 6] : List Nat) → If k = I k) → va_P D vwCl (wC a kc F G I J Z) H → va_S (ad a 44 s.heap.size) s.heap H locs → lv_has ls 5 [(0, .ref (a 0)), (1, .int x1), (2, .int x2)] → W p l e rm_X3_parsePeople s m args below meth c H locs 0 0 (MQ below (Qv D (wC a kc Ff G If J Z) (ad a 44 s.heap.size)) args s 0 0 (ad a 44 s.heap.size)) (F0 m 9 ls []) := by
  intro F I x1 x2 H locs ls hf hfF hfI hP hS hl
  unfold p_X3_parsePeople_b9x at hf
  refine lv_iload_n X.1 X.2.1 dX3_parsePeople_9 rfl (lv_at hl 2 rfl) ?_
  refine lv_aload_n X.1 X.2.1 dX3_parsePeople_10 rfl (lv_at hl 0 rfl) ?_
  refine gC_0_1 X q_1_56 dX3_parsePeople_11 hP ?_
  refine lv_iconst (v := 1) X.1 X.2.1 dX3_parsePeople_14 (by decide) ?_
  obtain ⟨h15, hf⟩ := gd_s hf
  refine lC_4 (I := I) X (f := (I 0)) rfl h15 dX3_parsePeople_15 hP ?_
  refine lv_icmp_ge (tgt := 126) X.1 X.2.1 dX3_parsePeople_16 (by decide) (fun c16 => ?_) (fun c16 => ?_)
  · have hf := it_s hf c16
    exact t_X3_parsePeople_b126 X F I x1 x2 H locs ls hf hfF hfI hP hS (lv_sub hl [0, 1, 2] rfl)
  · have hf := ie_s hf c16
    refine lv_aload_n X.1 X.2.1 dX3_parsePeople_19 rfl (lv_at hl 0 rfl) ?_
    refine gC_0_0 X q_1_55 dX3_parsePeople_20 hP ?_
    refine lv_iconst (v := 1) X.1 X.2.1 dX3_parsePeople_23 (by decide) ?_
    obtain ⟨h24, hf⟩ := gd_s hf
    refine alC_1 X h24 dX3_parsePeople_24 hP ?_
    refine lv_iload_n X.1 X.2.1 dX3_parsePeople_25 rfl (lv_at hl 2 rfl) ?_
    obtain ⟨h26s, hf⟩ := gd_s hf
    obtain ⟨h26, hf⟩ := gd_s hf
    refine ldC_2 (Z := Z) X (of_decide_eq_true h26s) (f := (Z 0)) rfl h26 dX3_parsePeople_26 hP ?_
    refine nm_i hf (fun x27 hf => ?_)
    refine lv_istore_n (lv' := [(3, .int x27), (0, .ref (a 0)), (1, .int x1), (2, .int x2)]) X.1 X.2.1 dX3_parsePeople_27 rfl hl (by decide) rfl (fun ls hl => ?_)
    refine lv_iload_n X.1 X.2.1 dX3_parsePeople_28 rfl (lv_at hl 2 rfl) ?_
    refine lv_iconst (v := (-1)) X.1 X.2.1 dX3_parsePeople_29 (by decide) ?_
    refine lv_icmp_ne (tgt := 72) X.1 X.2.1 dX3_parsePeople_30 (by decide) (fun c30 => ?_) (fun c30 => ?_)
    · have hf := ie_s hf c30
      refine lv_iload_n X.1 X.2.1 dX3_parsePeople_72 rfl (lv_at hl 0 rfl) ?_
      obtain ⟨r73, ho, hf⟩ := b1_s hf
      refine call_si (rest := []) X (c_X3_kindOf x27 ho) q_1_52 q_1_53 q_1_2 q_1_54 ok_X3_kindOf rfl ⟨Nat.le_of_ble_eq_true rfl, Nat.le_of_ble_eq_true rfl⟩ rfl rfl hl.1 rfl (Nat.le_of_ble_eq_true rfl) dX3_parsePeople_73 hP hS (fun H locs hP hS => ?_)
      refine lv_istore (lv' := [(4, .int r73), (3, .int x27), (0, .ref (a 0)), (1, .int x1), (2, .int x2)]) X.1 X.2.1 dX3_parsePeople_76 hl (by decide) rfl (fun ls hl => ?_)
      refine lv_iload X.1 X.2.1 dX3_parsePeople_78 (lv_at hl 0 rfl) ?_
      refine lv_iconst (v := (-1)) X.1 X.2.1 dX3_parsePeople_80 (by decide) ?_
      refine lv_icmp_ne (tgt := 87) X.1 X.2.1 dX3_parsePeople_81 (by decide) (fun c81 => ?_) (fun c81 => ?_)
      · have hf := ie_s hf c81
        refine lv_aload_n X.1 X.2.1 dX3_parsePeople_87 rfl (lv_at hl 2 rfl) ?_
        refine gC_0_6 X q_1_65 dX3_parsePeople_88 hP ?_
        refine lv_aload_n X.1 X.2.1 dX3_parsePeople_91 rfl (lv_at hl 2 rfl) ?_
        refine gC_0_10 (F := F) X (v := (F 2)) rfl q_1_92 dX3_parsePeople_92 hP ?_
        refine lv_iload_n X.1 X.2.1 dX3_parsePeople_95 rfl (lv_at hl 3 rfl) ?_
        obtain ⟨h96, hf⟩ := gd_s hf
        obtain ⟨H_owns_96, eH_owns_96, hf⟩ := nm_x hf
        refine sC_9 (I := I) X h96 eH_owns_96 dX3_parsePeople_96 hP hS (fun H locs hP hS => ?_)
        refine lv_aload_n X.1 X.2.1 dX3_parsePeople_97 rfl (lv_at hl 2 rfl) ?_
        refine gC_0_7 X q_1_72 dX3_parsePeople_98 hP ?_
        refine lv_aload_n X.1 X.2.1 dX3_parsePeople_101 rfl (lv_at hl 2 rfl) ?_
        refine gC_0_10 (F := F) X (v := (F 2)) rfl q_1_92 dX3_parsePeople_102 hP ?_
        refine lv_iload X.1 X.2.1 dX3_parsePeople_105 (lv_at hl 0 rfl) ?_
        obtain ⟨h107, hf⟩ := gd_s hf
        obtain ⟨H_kinds_107, eH_kinds_107, hf⟩ := nm_x hf
        refine sC_10 (I := (va_up I 5 H_owns_96)) X h107 eH_kinds_107 dX3_parsePeople_107 hP hS (fun H locs hP hS => ?_)
        refine lv_aload_n X.1 X.2.1 dX3_parsePeople_108 rfl (lv_at hl 2 rfl) ?_
        refine lv_dup X.1 X.2.1 dX3_parsePeople_109 rfl ?_
        refine gC_0_10 (F := F) X (v := (F 2)) rfl q_1_92 dX3_parsePeople_110 hP ?_
        refine lv_iconst (v := 1) X.1 X.2.1 dX3_parsePeople_113 (by decide) ?_
        refine lv_iadd X.1 X.2.1 dX3_parsePeople_114 ?_
        refine nm_i hf (fun H_people_115 hf => ?_)
        refine pC_0_10 X q_1_92 dX3_parsePeople_115 hP hS (fun H locs hP hS => ?_)
        refine lv_iconst (v := (-1)) X.1 X.2.1 dX3_parsePeople_118 (by decide) ?_
        refine lv_istore_n (lv' := [(1, .int (-1)), (4, .int r73), (3, .int x27), (0, .ref (a 0)), (2, .int x2)]) X.1 X.2.1 dX3_parsePeople_119 rfl hl (by decide) rfl (fun ls hl => ?_)
        exact t_X3_parsePeople_b120 X kh9 (va_up F 2 H_people_115) (va_up (va_up I 5 H_owns_96) 6 H_kinds_107) (-1) x2 H locs ls hf (frm_up hfF (by decide)) (frm_up (frm_up hfI (by decide)) (by decide)) hP hS (lv_sub hl [3, 0, 4] rfl)
      · have hf := it_s hf c81
        refine lv_goto (tgt := 126) X.1 X.2.1 dX3_parsePeople_84 (by decide) ?_
        exact t_X3_parsePeople_b126 X F I x1 x2 H locs ls hf hfF hfI hP hS (lv_sub hl [2, 3, 4] rfl)
    · have hf := it_s hf c30
      refine lv_aload_n X.1 X.2.1 dX3_parsePeople_33 rfl (lv_at hl 1 rfl) ?_
      refine gC_0_10 (F := F) X (v := (F 2)) rfl q_1_92 dX3_parsePeople_34 hP ?_
      refine lv_aload_n X.1 X.2.1 dX3_parsePeople_37 rfl (lv_at hl 1 rfl) ?_
      refine gC_0_8 (F := F) X (v := (F 0)) rfl q_1_80 dX3_parsePeople_38 hP ?_
      refine lv_icmp_ge (tgt := 126) X.1 X.2.1 dX3_parsePeople_41 (by decide) (fun c41 => ?_) (fun c41 => ?_)
      · have hf := it_s hf c41
        exact t_X3_parsePeople_b126 X F I x1 x2 H locs ls hf hfF hfI hP hS (lv_sub hl [1, 2, 3] rfl)
      · have hf := ie_s hf c41
        refine lv_iload_n X.1 X.2.1 dX3_parsePeople_44 rfl (lv_at hl 0 rfl) ?_
        refine lv_bipush (v := 48) X.1 X.2.1 dX3_parsePeople_45 (by decide) ?_
        refine lv_icmp_lt (tgt := 126) X.1 X.2.1 dX3_parsePeople_47 (by decide) (fun c47 => ?_) (fun c47 => ?_)
        · have hf := it_s hf c47
          exact t_X3_parsePeople_b126 X F I x1 x2 H locs ls hf hfF hfI hP hS (lv_sub hl [1, 2, 3] rfl)
        · have hf := ie_s hf c47
          refine lv_iload_n X.1 X.2.1 dX3_parsePeople_50 rfl (lv_at hl 0 rfl) ?_
          refine lv_bipush (v := 48) X.1 X.2.1 dX3_parsePeople_51 (by decide) ?_
          refine lv_aload_n X.1 X.2.1 dX3_parsePeople_53 rfl (lv_at hl 1 rfl) ?_
          refine gC_0_8 (F := F) X (v := (F 0)) rfl q_1_80 dX3_parsePeople_54 hP ?_
          refine lv_iadd X.1 X.2.1 dX3_parsePeople_57 ?_
          refine lv_icmp_lt (tgt := 64) X.1 X.2.1 dX3_parsePeople_58 (by decide) (fun c58 => ?_) (fun c58 => ?_)
          · have hf := it_s hf c58
            refine lv_iload_n X.1 X.2.1 dX3_parsePeople_64 rfl (lv_at hl 0 rfl) ?_
            refine lv_bipush (v := 48) X.1 X.2.1 dX3_parsePeople_65 (by decide) ?_
            refine lv_isub X.1 X.2.1 dX3_parsePeople_67 ?_
            refine nm_i hf (fun x68 hf => ?_)
            refine lv_istore_n (lv' := [(1, .int x68), (3, .int x27), (0, .ref (a 0)), (2, .int x2)]) X.1 X.2.1 dX3_parsePeople_68 rfl hl (by decide) rfl (fun ls hl => ?_)
            refine lv_goto (tgt := 120) X.1 X.2.1 dX3_parsePeople_69 (by decide) ?_
            exact t_X3_parsePeople_b120 X kh9 F I x68 x2 H locs ls hf hfF hfI hP hS (lv_sub hl [2, 0, 3] rfl)
          · have hf := ie_s hf c58
            refine lv_goto (tgt := 126) X.1 X.2.1 dX3_parsePeople_61 (by decide) ?_
            exact t_X3_parsePeople_b126 X F I x1 x2 H locs ls hf hfF hfI hP hS (lv_sub hl [1, 2, 3] rfl)
set_option maxRecDepth 100000 in
theorem t_X3_parsePeople_b9 {p : Program} {l : Launch} {e : Env} {s : State} {m : MethodId} {args : Array Value} {below : List Frame} {meth : Method} {c : Code} {D : va_G} {a : Nat → Nat} {kc : Nat → ClassId} (X : cx 44 p s m args meth c D (tyC kc) a cX3_parsePeople 5 RX3 none) {G : Nat → Int64} {J : Nat → Nat → Int64} {Z : Nat → Nat → Nat → Int32} {Ff : Nat → Int32} {If : Nat → Nat → Int32}  :
    ∀ (n : Nat) (F : Nat → Int32) (I : Nat → Nat → Int32) (x1 : Int32) (x2 : Int32) (H : Heap) (locs : List Loc) (ls : Array Slot), p_X3_parsePeople_b9 n (F 0) (F 2) (I 0) (I 1) (I 5) (I 6) (Z 0) x1 x2 = some ((Ff 2), (If 1), (If 5), (If 6)) → (∀ k, k ∉ ([2] : List Nat) → Ff k = F k) → (∀ k, k ∉ ([1, 5, 6] : List Nat) → If k = I k) → va_P D vwCl (wC a kc F G I J Z) H → va_S (ad a 44 s.heap.size) s.heap H locs → lv_has ls 5 [(0, .ref (a 0)), (1, .int x1), (2, .int x2)] → W p l e rm_X3_parsePeople s m args below meth c H locs 0 0 (MQ below (Qv D (wC a kc Ff G If J Z) (ad a 44 s.heap.size)) args s 0 0 (ad a 44 s.heap.size)) (F0 m 9 ls []) := by
  intro n
  induction n with
  | zero => intro F I x1 x2 H locs ls hf hfF hfI hP hS hl; exact (nos hf).elim
  | succ n ih => exact t_X3_parsePeople_b9x X ih
set_option maxHeartbeats 4000000 in
set_option maxRecDepth 100000 in
theorem t_X3_parsePeople_b0 {p : Program} {l : Launch} {e : Env} {s : State} {m : MethodId} {args : Array Value} {below : List Frame} {meth : Method} {c : Code} {D : va_G} {a : Nat → Nat} {kc : Nat → ClassId} (X : cx 44 p s m args meth c D (tyC kc) a cX3_parsePeople 5 RX3 none) {G : Nat → Int64} {J : Nat → Nat → Int64} {Z : Nat → Nat → Nat → Int32} {Ff : Nat → Int32} {If : Nat → Nat → Int32}  :
    ∀ (F : Nat → Int32) (I : Nat → Nat → Int32)  (H : Heap) (locs : List Loc) (ls : Array Slot), p_X3_parsePeople_b0 (F 0) (F 2) (I 0) (I 1) (I 5) (I 6) (Z 0)  = some ((Ff 2), (If 1), (If 5), (If 6)) → (∀ k, k ∉ ([2] : List Nat) → Ff k = F k) → (∀ k, k ∉ ([1, 5, 6] : List Nat) → If k = I k) → va_P D vwCl (wC a kc F G I J Z) H → va_S (ad a 44 s.heap.size) s.heap H locs → lv_has ls 5 [(0, .ref (a 0))] → W p l e rm_X3_parsePeople s m args below meth c H locs 0 0 (MQ below (Qv D (wC a kc Ff G If J Z) (ad a 44 s.heap.size)) args s 0 0 (ad a 44 s.heap.size)) (F0 m 0 ls []) := by
  intro F I  H locs ls hf hfF hfI hP hS hl
  unfold p_X3_parsePeople_b0 at hf
  refine lv_aload_n X.1 X.2.1 dX3_parsePeople_0 rfl (lv_at hl 0 rfl) ?_
  refine lv_iconst (v := 0) X.1 X.2.1 dX3_parsePeople_1 (by decide) ?_
  refine pC_0_10 X q_1_92 dX3_parsePeople_2 hP hS (fun H locs hP hS => ?_)
  refine lv_iconst (v := (-1)) X.1 X.2.1 dX3_parsePeople_5 (by decide) ?_
  refine lv_istore_n (lv' := [(1, .int (-1)), (0, .ref (a 0))]) X.1 X.2.1 dX3_parsePeople_6 rfl hl (by decide) rfl (fun ls hl => ?_)
  refine lv_iconst (v := 0) X.1 X.2.1 dX3_parsePeople_7 (by decide) ?_
  refine lv_istore_n (lv' := [(2, .int 0), (1, .int (-1)), (0, .ref (a 0))]) X.1 X.2.1 dX3_parsePeople_8 rfl hl (by decide) rfl (fun ls hl => ?_)
  exact t_X3_parsePeople_b9 X 4096 (va_up F 2 0) I (-1) 0 H locs ls hf (frm_up hfF (by decide)) hfI hP hS (lv_sub hl [2, 1, 0] rfl)
set_option maxRecDepth 100000 in
theorem c_X3_parsePeople {l : Launch} {D : va_G} {a : Nat → Nat} {kc : Nat → ClassId} (F : Nat → Int32) (G : Nat → Int64) (I : Nat → Nat → Int32) (J : Nat → Nat → Int64) (Z : Nat → Nat → Nat → Int32) (hAp : ∀ i j, i < 44 → j < 44 → a i = a j → i = j)  {o0 : Int32} {o1 : Nat → Int32} {o2 : Nat → Int32} {o3 : Nat → Int32} (hf : p_X3_parsePeople (F 0) (F 2) (I 0) (I 1) (I 5) (I 6) (Z 0)  = some (o0, o1, o2, o3)) : Ct 44 l yX3_parsePeople cX3_parsePeople 5 none rm_X3_parsePeople D (tyC kc) a (wC a kc F G I J Z) [.ref (a 0)] (Qv D (wC a kc (va_up F 2 o0) G (va_up (va_up (va_up I 1 o1) 5 o2) 6 o3) J Z)) :=
  Ct.of (by decide +kernel) hAp (Nat.le_of_ble_eq_true rfl) (fun p e s m args below meth c ls X hP hl => t_X3_parsePeople_b0 X F I  _ _ _ hf (frm_ul (fun k _ => rfl) (by decide)) (frm_ul (frm_ul (frm_ul (fun k _ => rfl) (by decide)) (by decide)) (by decide)) hP va_S.rf hl)
