abbrev rm_X7_write : Room := { frames := 4, cells := 0, slots := 0, locals := 98 }
set_option maxHeartbeats 4000000 in
set_option maxRecDepth 100000 in
theorem t_X7_write_b45x {p : Program} {l : Launch} {e : Env} {s : State} {m : MethodId} {args : Array Value} {below : List Frame} {meth : Method} {c : Code} {D : va_G} {a : Nat → Nat} {kc : Nat → ClassId} (X : cx 44 p s m args meth c D (tyC kc) a cX7_write 6 RX7 (some .int)) {G : Nat → Int64} {J : Nat → Nat → Int64} {Ff : Nat → Int32} {If : Nat → Nat → Int32} {Zf : Nat → Nat → Nat → Int32} {r : Int32} {K45 : Int32 → Int32 → Int32 → Int32 → Int32 → (Nat → Int32) → (Nat → Int32) → (Nat → Int32) → (Nat → Int32) → (Nat → Int32) → (Nat → Int32) → (Nat → Int32) → (Nat → Nat → Int32) → Int32 → Int32 → Int32 → Option (Int32 × Int32 × Int32 × Int32 × (Nat → Int32) × (Nat → Nat → Int32))} (kh45 : ∀ (F : Nat → Int32) (I : Nat → Nat → Int32) (Z : Nat → Nat → Nat → Int32) (x2 : Int32) (x4 : Int32) (x5 : Int32) (H : Heap) (locs : List Loc) (ls : Array Slot), K45 (F 0) (F 2) (F 8) (F 9) (F 13) (I 2) (I 4) (I 5) (I 6) (I 14) (I 16) (I 17) (Z 1) x2 x4 x5 = some (r, (Ff 8), (Ff 9), (Ff 13), (If 14), (Zf 1)) → (∀ k, k ∉ ([8, 9, 13] : List Nat) → Ff k = F k) → (∀ k, k ∉ ([14] : List Nat) → If k = I k) → (∀ k, k ∉ ([1] : List Nat) → Zf k = Z k) → va_P D vwCl (wC a kc F G I J Z) H → va_S (ad a 44 s.heap.size) s.heap H locs → lv_has ls 6 [(0, .ref (a 34)), (2, .int x2), (4, .int x4), (5, .int x5)] → W p l e rm_X7_write s m args below meth c H locs 0 0 (MQ below (Qi D (wC a kc Ff G If J Zf) r (ad a 44 s.heap.size)) args s 0 0 (ad a 44 s.heap.size)) (F0 m 45 ls [])) :
    ∀ (F : Nat → Int32) (I : Nat → Nat → Int32) (Z : Nat → Nat → Nat → Int32) (x2 : Int32) (x4 : Int32) (x5 : Int32) (H : Heap) (locs : List Loc) (ls : Array Slot), p_X7_write_b45x K45 (F 0) (F 2) (F 8) (F 9) (F 13) (I 2) (I 4) (I 5) (I 6) (I 14) (I 16) (I 17) (Z 1) x2 x4 x5 = some (r, (Ff 8), (Ff 9), (Ff 13), (If 14), (Zf 1)) → (∀ k, k ∉ ([8, 9, 13] : List Nat) → Ff k = F k) → (∀ k, k ∉ ([14] : List Nat) → If k = I k) → (∀ k, k ∉ ([1] : List Nat) → Zf k = Z k) → va_P D vwCl (wC a kc F G I J Z) H → va_S (ad a 44 s.heap.size) s.heap H locs → lv_has ls 6 [(0, .ref (a 34)), (2, .int x2), (4, .int x4), (5, .int x5)] → W p l e rm_X7_write s m args below meth c H locs 0 0 (MQ below (Qi D (wC a kc Ff G If J Zf) r (ad a 44 s.heap.size)) args s 0 0 (ad a 44 s.heap.size)) (F0 m 45 ls []) := by
  intro F I Z x2 x4 x5 H locs ls hf hfF hfI hfZ hP hS hl
  unfold p_X7_write_b45x at hf
  refine lv_iload X.1 X.2.1 dX7_write_45 (lv_at hl 3 rfl) ?_
  refine lv_iload X.1 X.2.1 dX7_write_47 (lv_at hl 2 rfl) ?_
  refine lv_icmp_ge (tgt := 79) X.1 X.2.1 dX7_write_49 (by decide) (fun c49 => ?_) (fun c49 => ?_)
  · have hf := it_s hf c49
    refine lv_iload X.1 X.2.1 dX7_write_79 (lv_at hl 2 rfl) ?_
    obtain ⟨e0, hf⟩ := o2 hf
    obtain ⟨e1, hf⟩ := o2 hf
    obtain ⟨e2, hf⟩ := o2 hf
    obtain ⟨e3, hf⟩ := o2 hf
    obtain ⟨e4, hf⟩ := o2 hf
    have e5 := o1 hf
    have EF : Ff = F := frm_eq hfF (frm_c (e1).symm (frm_c (e2).symm (frm_c (e3).symm frm_n)))
    have EI : If = I := frm_eq hfI (frm_c (e4).symm frm_n)
    have EZ : Zf = Z := frm_eq hfZ (frm_c (e5).symm frm_n)
    exact ret_i X hS (by rw [EF, EI, EZ]; exact hP) e0 dX7_write_81
  · have hf := ie_s hf c49
    refine lv_aload_n X.1 X.2.1 dX7_write_52 rfl (lv_at hl 0 rfl) ?_
    refine gC_34_6 X q_2_70 dX7_write_53 hP ?_
    refine lv_iload_n X.1 X.2.1 dX7_write_56 rfl (lv_at hl 1 rfl) ?_
    obtain ⟨h57, hf⟩ := gd_s hf
    refine alC_35 X h57 dX7_write_57 hP ?_
    refine lv_iload X.1 X.2.1 dX7_write_58 (lv_at hl 3 rfl) ?_
    refine lv_aload_n X.1 X.2.1 dX7_write_60 rfl (lv_at hl 0 rfl) ?_
    refine gC_34_4 X q_2_68 dX7_write_61 hP ?_
    refine gC_30_0 X q_2_6 dX7_write_64 hP ?_
    refine lv_iload X.1 X.2.1 dX7_write_67 (lv_at hl 3 rfl) ?_
    obtain ⟨h69, hf⟩ := gd_s hf
    refine lC_31 (I := I) X (f := (I 14)) rfl h69 dX7_write_69 hP ?_
    obtain ⟨h70, hf⟩ := gd_s hf
    obtain ⟨S_items_70, ho, hf⟩ := b1_s hf
    refine call_vv (rest := []) X (c_X5_put F G I J Z X.2.2.2.2.2.2.2.1 x2.toNatClampNeg x5 ((I 14) x5.toNatClampNeg) ho) q_4_37 q_4_38 q_4_39 q_1_9 q_4_40 ok_X5_put rfl (36 + x2.toNatClampNeg) (atC_36 (of_decide_eq_true h70)) rfl ⟨Nat.le_of_ble_eq_true rfl, Nat.le_of_ble_eq_true rfl⟩ rfl rfl hl.1 rfl (Nat.le_of_ble_eq_true rfl) dX7_write_70 hP hS (fun H locs hP hS => ?_)
    obtain ⟨x73, ex73, hf⟩ := nm_x hf
    refine lv_iinc (v := x73) (lv' := [(5, .int x73), (0, .ref (a 34)), (2, .int x2), (4, .int x4)]) X.1 X.2.1 dX7_write_73 hl (k := 3) rfl ex73 (by decide) rfl (fun ls hl => ?_)
    refine lv_goto (tgt := 45) X.1 X.2.1 dX7_write_76 (by decide) ?_
    exact kh45 F I (va_up Z 1 S_items_70) x2 x4 x73 H locs ls hf hfF hfI (frm_up hfZ (by decide)) hP hS (lv_sub hl [1, 2, 3, 0] rfl)
set_option maxRecDepth 100000 in
theorem t_X7_write_b45 {p : Program} {l : Launch} {e : Env} {s : State} {m : MethodId} {args : Array Value} {below : List Frame} {meth : Method} {c : Code} {D : va_G} {a : Nat → Nat} {kc : Nat → ClassId} (X : cx 44 p s m args meth c D (tyC kc) a cX7_write 6 RX7 (some .int)) {G : Nat → Int64} {J : Nat → Nat → Int64} {Ff : Nat → Int32} {If : Nat → Nat → Int32} {Zf : Nat → Nat → Nat → Int32} {r : Int32} :
    ∀ (n : Nat) (F : Nat → Int32) (I : Nat → Nat → Int32) (Z : Nat → Nat → Nat → Int32) (x2 : Int32) (x4 : Int32) (x5 : Int32) (H : Heap) (locs : List Loc) (ls : Array Slot), p_X7_write_b45 n (F 0) (F 2) (F 8) (F 9) (F 13) (I 2) (I 4) (I 5) (I 6) (I 14) (I 16) (I 17) (Z 1) x2 x4 x5 = some (r, (Ff 8), (Ff 9), (Ff 13), (If 14), (Zf 1)) → (∀ k, k ∉ ([8, 9, 13] : List Nat) → Ff k = F k) → (∀ k, k ∉ ([14] : List Nat) → If k = I k) → (∀ k, k ∉ ([1] : List Nat) → Zf k = Z k) → va_P D vwCl (wC a kc F G I J Z) H → va_S (ad a 44 s.heap.size) s.heap H locs → lv_has ls 6 [(0, .ref (a 34)), (2, .int x2), (4, .int x4), (5, .int x5)] → W p l e rm_X7_write s m args below meth c H locs 0 0 (MQ below (Qi D (wC a kc Ff G If J Zf) r (ad a 44 s.heap.size)) args s 0 0 (ad a 44 s.heap.size)) (F0 m 45 ls []) := by
  intro n
  induction n with
  | zero => intro F I Z x2 x4 x5 H locs ls hf hfF hfI hfZ hP hS hl; exact (nos hf).elim
  | succ n ih => exact t_X7_write_b45x X ih
set_option maxHeartbeats 4000000 in
set_option maxRecDepth 100000 in
theorem t_X7_write_b0 {p : Program} {l : Launch} {e : Env} {s : State} {m : MethodId} {args : Array Value} {below : List Frame} {meth : Method} {c : Code} {D : va_G} {a : Nat → Nat} {kc : Nat → ClassId} (X : cx 44 p s m args meth c D (tyC kc) a cX7_write 6 RX7 (some .int)) {G : Nat → Int64} {J : Nat → Nat → Int64} {Ff : Nat → Int32} {If : Nat → Nat → Int32} {Zf : Nat → Nat → Nat → Int32} {r : Int32} :
    ∀ (F : Nat → Int32) (I : Nat → Nat → Int32) (Z : Nat → Nat → Nat → Int32) (x1 : Int32) (x2 : Int32) (H : Heap) (locs : List Loc) (ls : Array Slot), p_X7_write_b0 (F 0) (F 2) (F 8) (F 9) (F 13) (I 2) (I 4) (I 5) (I 6) (I 14) (I 16) (I 17) (Z 1) x1 x2 = some (r, (Ff 8), (Ff 9), (Ff 13), (If 14), (Zf 1)) → (∀ k, k ∉ ([8, 9, 13] : List Nat) → Ff k = F k) → (∀ k, k ∉ ([14] : List Nat) → If k = I k) → (∀ k, k ∉ ([1] : List Nat) → Zf k = Z k) → va_P D vwCl (wC a kc F G I J Z) H → va_S (ad a 44 s.heap.size) s.heap H locs → lv_has ls 6 [(0, .ref (a 34)), (1, .int x1), (2, .int x2)] → W p l e rm_X7_write s m args below meth c H locs 0 0 (MQ below (Qi D (wC a kc Ff G If J Zf) r (ad a 44 s.heap.size)) args s 0 0 (ad a 44 s.heap.size)) (F0 m 0 ls []) := by
  intro F I Z x1 x2 H locs ls hf hfF hfI hfZ hP hS hl
  unfold p_X7_write_b0 at hf
  refine lv_aload_n X.1 X.2.1 dX7_write_0 rfl (lv_at hl 0 rfl) ?_
  refine lv_iload_n X.1 X.2.1 dX7_write_1 rfl (lv_at hl 2 rfl) ?_
  refine lv_iconst (v := 1) X.1 X.2.1 dX7_write_2 (by decide) ?_
  obtain ⟨r3, T_finding_3, ho, hf⟩ := b2_s hf
  refine call_vi (rest := []) X (c_X7_refuseSheet F G I J Z X.2.2.2.2.2.2.2.1 x2 1 ho) q_2_231 q_2_233 qs_yX7_refuseSheet q_1_1 q_2_234 ok_X7_refuseSheet rfl 34 rfl rfl ⟨Nat.le_of_ble_eq_true rfl, Nat.le_of_ble_eq_true rfl⟩ rfl rfl hl.1 rfl (Nat.le_of_ble_eq_true rfl) dX7_write_3 hP hS (fun H locs hP hS => ?_)
  refine lv_istore_n (lv' := [(3, .int r3), (0, .ref (a 34)), (1, .int x1), (2, .int x2)]) X.1 X.2.1 dX7_write_6 rfl hl (by decide) rfl (fun ls hl => ?_)
  refine lv_iload_n X.1 X.2.1 dX7_write_7 rfl (lv_at hl 0 rfl) ?_
  refine lv_if_eq (tgt := 13) X.1 X.2.1 dX7_write_8 (by decide) (fun c8 => ?_) (fun c8 => ?_)
  · have hf := it_s hf c8
    refine lv_aload_n X.1 X.2.1 dX7_write_13 rfl (lv_at hl 1 rfl) ?_
    refine gC_34_4 X q_2_68 dX7_write_14 hP ?_
    refine lv_iload_n X.1 X.2.1 dX7_write_17 rfl (lv_at hl 2 rfl) ?_
    obtain ⟨E_wrongs_18, E_state_18, E_places_18, ho, hf⟩ := b3_s hf
    refine call_vv (rest := []) X (c_X2_run (va_up F 13 T_finding_3) G I J Z X.2.2.2.2.2.2.2.1 x1 ho) q_3_229 q_3_230 q_3_231 q_1_7 q_3_232 ok_X2_run rfl 30 rfl rfl ⟨Nat.le_of_ble_eq_true rfl, Nat.le_of_ble_eq_true rfl⟩ rfl rfl hl.1 rfl (Nat.le_of_ble_eq_true rfl) dX7_write_18 hP hS (fun H locs hP hS => ?_)
    refine lv_aload_n X.1 X.2.1 dX7_write_21 rfl (lv_at hl 1 rfl) ?_
    refine gC_34_0 X q_2_64 dX7_write_22 hP ?_
    refine gC_0_10 (F := (va_up (va_up (va_up F 13 T_finding_3) 8 E_wrongs_18) 9 E_state_18)) X (v := (F 2)) rfl q_1_93 dX7_write_25 hP ?_
    refine lv_aload_n X.1 X.2.1 dX7_write_28 rfl (lv_at hl 1 rfl) ?_
    refine gC_34_6 X q_2_70 dX7_write_29 hP ?_
    refine lv_iload_n X.1 X.2.1 dX7_write_32 rfl (lv_at hl 3 rfl) ?_
    obtain ⟨h33, hf⟩ := gd_s hf
    refine alC_35 X h33 dX7_write_33 hP ?_
    obtain ⟨h34, hf⟩ := gd_s hf
    refine gC_sh_2 (I := (va_up I 14 E_places_18)) X (of_decide_eq_true h34) (f := (I 17)) rfl q_2_56 dX7_write_34 hP ?_
    refine va_mmin X.1 X.2.1 (by rw [X.2.2.1, hl.1]) X.2.2.2.2.1 (X.2.2.2.2.2.1 _ q_4_55) (X.2.2.2.2.2.1 _ q_4_56) (X.2.2.2.2.2.1 _ q_1_13) (X.2.2.2.2.2.1 _ q_4_57) (Nat.le_of_ble_eq_true rfl) (Nat.le_of_ble_eq_true rfl) (Nat.zero_le _) (Nat.zero_le _) dX7_write_37 ?_
    refine nm_i hf (fun x40 hf => ?_)
    refine lv_istore (lv' := [(4, .int x40), (3, .int r3), (0, .ref (a 34)), (1, .int x1), (2, .int x2)]) X.1 X.2.1 dX7_write_40 hl (by decide) rfl (fun ls hl => ?_)
    refine lv_iconst (v := 0) X.1 X.2.1 dX7_write_42 (by decide) ?_
    refine lv_istore (lv' := [(5, .int 0), (4, .int x40), (3, .int r3), (0, .ref (a 34)), (1, .int x1), (2, .int x2)]) X.1 X.2.1 dX7_write_43 hl (by decide) rfl (fun ls hl => ?_)
    exact t_X7_write_b45 X 4096 (va_up (va_up (va_up F 13 T_finding_3) 8 E_wrongs_18) 9 E_state_18) (va_up I 14 E_places_18) Z x2 x40 0 H locs ls hf (frm_up (frm_up (frm_up hfF (by decide)) (by decide)) (by decide)) (frm_up hfI (by decide)) hfZ hP hS (lv_sub hl [3, 5, 1, 0] rfl)
  · have hf := ie_s hf c8
    refine lv_iload_n X.1 X.2.1 dX7_write_11 rfl (lv_at hl 0 rfl) ?_
    obtain ⟨e0, hf⟩ := o2 hf
    obtain ⟨e1, hf⟩ := o2 hf
    obtain ⟨e2, hf⟩ := o2 hf
    obtain ⟨e3, hf⟩ := o2 hf
    obtain ⟨e4, hf⟩ := o2 hf
    have e5 := o1 hf
    have EF : Ff = (va_up F 13 T_finding_3) := frm_eq (frm_up hfF (by decide)) (frm_c (e1).symm (frm_c (e2).symm (frm_c (e3).symm frm_n)))
    have EI : If = I := frm_eq hfI (frm_c (e4).symm frm_n)
    have EZ : Zf = Z := frm_eq hfZ (frm_c (e5).symm frm_n)
    exact ret_i X hS (by rw [EF, EI, EZ]; exact hP) e0 dX7_write_12
set_option maxRecDepth 100000 in
theorem c_X7_write {l : Launch} {D : va_G} {a : Nat → Nat} {kc : Nat → ClassId} (F : Nat → Int32) (G : Nat → Int64) (I : Nat → Nat → Int32) (J : Nat → Nat → Int64) (Z : Nat → Nat → Nat → Int32) (hAp : ∀ i j, i < 44 → j < 44 → a i = a j → i = j) (x1 : Int32) (x2 : Int32) {o0 : Int32} {o1 : Int32} {o2 : Int32} {o3 : Int32} {o4 : Nat → Int32} {o5 : Nat → Nat → Int32} (hf : p_X7_write (F 0) (F 2) (F 8) (F 9) (F 13) (I 2) (I 4) (I 5) (I 6) (I 14) (I 16) (I 17) (Z 1) x1 x2 = some (o0, o1, o2, o3, o4, o5)) : Ct 44 l yX7_write cX7_write 6 (some .int) rm_X7_write D (tyC kc) a (wC a kc F G I J Z) [.ref (a 34), .int x1, .int x2] (Qi D (wC a kc (va_up (va_up (va_up F 8 o1) 9 o2) 13 o3) G (va_up I 14 o4) J (va_up Z 1 o5)) o0) :=
  Ct.of (by decide +kernel) hAp (Nat.le_of_ble_eq_true rfl) (fun p e s m args below meth c ls X hP hl => t_X7_write_b0 X F I Z x1 x2 _ _ _ hf (frm_ul (frm_ul (frm_ul (fun k _ => rfl) (by decide)) (by decide)) (by decide)) (frm_ul (fun k _ => rfl) (by decide)) (frm_ul (fun k _ => rfl) (by decide)) hP va_S.rf hl)
abbrev rm_X7_count : Room := { frames := 2, cells := 0, slots := 0, locals := 45 }
set_option maxHeartbeats 4000000 in
set_option maxRecDepth 100000 in
theorem t_X7_count_b0 {p : Program} {l : Launch} {e : Env} {s : State} {m : MethodId} {args : Array Value} {below : List Frame} {meth : Method} {c : Code} {D : va_G} {a : Nat → Nat} {kc : Nat → ClassId} (X : cx 44 p s m args meth c D (tyC kc) a cX7_count 2 RX7 (some .int)) {F : Nat → Int32} {G : Nat → Int64} {I : Nat → Nat → Int32} {J : Nat → Nat → Int64} {Z : Nat → Nat → Nat → Int32}  {r : Int32} :
    ∀  (x1 : Int32) (H : Heap) (locs : List Loc) (ls : Array Slot), p_X7_count_b0 (F 0) (F 1) (F 2) (F 5) (F 13) (I 0) (I 5) (I 6) x1 = some r → va_P D vwCl (wC a kc F G I J Z) H → va_S (ad a 44 s.heap.size) s.heap H locs → lv_has ls 2 [(0, .ref (a 34)), (1, .int x1)] → W p l e rm_X7_count s m args below meth c H locs 0 0 (MQ below (Qi D (wC a kc F G I J Z) r (ad a 44 s.heap.size)) args s 0 0 (ad a 44 s.heap.size)) (F0 m 0 ls []) := by
  intro  x1 H locs ls hf  hP hS hl
  unfold p_X7_count_b0 at hf
  refine lv_iload_n X.1 X.2.1 dX7_count_0 rfl (lv_at hl 1 rfl) ?_
  by_cases c1_0 : x1.toInt = 0
  · refine lv_tableIn (off := 51) (tgt := 52) X.1 X.2.1 dX7_count_1 (by omega) (by omega) (by rw [c1_0]; rfl) (by decide) ?_
    have hf := it_s hf c1_0
    refine lv_aload_n X.1 X.2.1 dX7_count_52 rfl (lv_at hl 0 rfl) ?_
    refine gC_34_0 X q_2_64 dX7_count_53 hP ?_
    refine gC_0_8 (F := F) X (v := (F 0)) rfl q_1_84 dX7_count_56 hP ?_
    have e0 := o1 hf
    exact ret_i X hS hP e0 dX7_count_59
  · have hf := ie_s hf c1_0
    by_cases c1_1 : x1.toInt = 1
    · refine lv_tableIn (off := 59) (tgt := 60) X.1 X.2.1 dX7_count_1 (by omega) (by omega) (by rw [c1_1]; rfl) (by decide) ?_
      have hf := it_s hf c1_1
      refine lv_aload_n X.1 X.2.1 dX7_count_60 rfl (lv_at hl 0 rfl) ?_
      refine gC_34_0 X q_2_64 dX7_count_61 hP ?_
      refine gC_0_9 (F := F) X (v := (F 1)) rfl q_1_86 dX7_count_64 hP ?_
      have e0 := o1 hf
      exact ret_i X hS hP e0 dX7_count_67
    · have hf := ie_s hf c1_1
      by_cases c1_2 : x1.toInt = 2
      · refine lv_tableIn (off := 67) (tgt := 68) X.1 X.2.1 dX7_count_1 (by omega) (by omega) (by rw [c1_2]; rfl) (by decide) ?_
        have hf := it_s hf c1_2
        refine lv_aload_n X.1 X.2.1 dX7_count_68 rfl (lv_at hl 0 rfl) ?_
        refine gC_34_0 X q_2_64 dX7_count_69 hP ?_
        refine gC_0_10 (F := F) X (v := (F 2)) rfl q_1_93 dX7_count_72 hP ?_
        have e0 := o1 hf
        exact ret_i X hS hP e0 dX7_count_75
      · have hf := ie_s hf c1_2
        by_cases c1_3 : x1.toInt = 3
        · refine lv_tableIn (off := 75) (tgt := 76) X.1 X.2.1 dX7_count_1 (by omega) (by omega) (by rw [c1_3]; rfl) (by decide) ?_
          have hf := it_s hf c1_3
          refine lv_aload_n X.1 X.2.1 dX7_count_76 rfl (lv_at hl 0 rfl) ?_
          refine gC_34_0 X q_2_64 dX7_count_77 hP ?_
          refine gC_0_1 X q_1_57 dX7_count_80 hP ?_
          refine lv_iconst (v := 0) X.1 X.2.1 dX7_count_83 (by decide) ?_
          obtain ⟨h84, hf⟩ := gd_s hf
          refine lC_4 (I := I) X (f := (I 0)) rfl h84 dX7_count_84 hP ?_
          have e0 := o1 hf
          exact ret_i X hS hP e0 dX7_count_85
        · have hf := ie_s hf c1_3
          by_cases c1_4 : x1.toInt = 4
          · refine lv_tableIn (off := 85) (tgt := 86) X.1 X.2.1 dX7_count_1 (by omega) (by omega) (by rw [c1_4]; rfl) (by decide) ?_
            have hf := it_s hf c1_4
            refine lv_aload_n X.1 X.2.1 dX7_count_86 rfl (lv_at hl 0 rfl) ?_
            refine gC_34_0 X q_2_64 dX7_count_87 hP ?_
            refine gC_0_1 X q_1_57 dX7_count_90 hP ?_
            refine lv_iconst (v := 1) X.1 X.2.1 dX7_count_93 (by decide) ?_
            obtain ⟨h94, hf⟩ := gd_s hf
            refine lC_4 (I := I) X (f := (I 0)) rfl h94 dX7_count_94 hP ?_
            have e0 := o1 hf
            exact ret_i X hS hP e0 dX7_count_95
          · have hf := ie_s hf c1_4
            by_cases c1_5 : x1.toInt = 5
            · refine lv_tableIn (off := 95) (tgt := 96) X.1 X.2.1 dX7_count_1 (by omega) (by omega) (by rw [c1_5]; rfl) (by decide) ?_
              have hf := it_s hf c1_5
              refine lv_aload_n X.1 X.2.1 dX7_count_96 rfl (lv_at hl 0 rfl) ?_
              refine gC_34_3 X q_2_67 dX7_count_97 hP ?_
              refine gC_22_1 (F := F) X (v := (F 5)) rfl q_1_200 dX7_count_100 hP ?_
              have e0 := o1 hf
              exact ret_i X hS hP e0 dX7_count_103
            · have hf := ie_s hf c1_5
              by_cases c1_6 : x1.toInt = 6
              · refine lv_tableIn (off := 103) (tgt := 104) X.1 X.2.1 dX7_count_1 (by omega) (by omega) (by rw [c1_6]; rfl) (by decide) ?_
                have hf := it_s hf c1_6
                refine lv_aload_n X.1 X.2.1 dX7_count_104 rfl (lv_at hl 0 rfl) ?_
                refine gC_34_0 X q_2_64 dX7_count_105 hP ?_
                obtain ⟨r108, ho, hf⟩ := b1_s hf
                refine call_vi (rest := []) X (c_X3_countLost F G I J Z X.2.2.2.2.2.2.2.1  ho) q_4_62 q_4_63 q_4_64 q_1_2 q_4_65 ok_X3_countLost rfl 0 rfl rfl ⟨Nat.le_of_ble_eq_true rfl, Nat.le_of_ble_eq_true rfl⟩ rfl rfl hl.1 rfl (Nat.le_of_ble_eq_true rfl) dX7_count_108 hP hS (fun H locs hP hS => ?_)
                have e0 := o1 hf
                exact ret_i X hS hP e0 dX7_count_111
              · have hf := ie_s hf c1_6
                by_cases c1_7 : x1.toInt = 7
                · refine lv_tableIn (off := 111) (tgt := 112) X.1 X.2.1 dX7_count_1 (by omega) (by omega) (by rw [c1_7]; rfl) (by decide) ?_
                  have hf := it_s hf c1_7
                  refine lv_aload_n X.1 X.2.1 dX7_count_112 rfl (lv_at hl 0 rfl) ?_
                  refine gC_34_0 X q_2_64 dX7_count_113 hP ?_
                  obtain ⟨r116, ho, hf⟩ := b1_s hf
                  refine call_vi (rest := []) X (c_X3_countUnowned F G I J Z X.2.2.2.2.2.2.2.1  ho) q_4_66 q_4_67 q_4_68 q_1_2 q_4_69 ok_X3_countUnowned rfl 0 rfl rfl ⟨Nat.le_of_ble_eq_true rfl, Nat.le_of_ble_eq_true rfl⟩ rfl rfl hl.1 rfl (Nat.le_of_ble_eq_true rfl) dX7_count_116 hP hS (fun H locs hP hS => ?_)
                  have e0 := o1 hf
                  exact ret_i X hS hP e0 dX7_count_119
                · have hf := ie_s hf c1_7
                  by_cases c1_8 : x1.toInt = 8
                  · refine lv_tableIn (off := 119) (tgt := 120) X.1 X.2.1 dX7_count_1 (by omega) (by omega) (by rw [c1_8]; rfl) (by decide) ?_
                    have hf := it_s hf c1_8
                    refine lv_aload_n X.1 X.2.1 dX7_count_120 rfl (lv_at hl 0 rfl) ?_
                    refine gC_34_7 (F := F) X (v := (F 13)) rfl q_2_71 dX7_count_121 hP ?_
                    have e0 := o1 hf
                    exact ret_i X hS hP e0 dX7_count_124
                  · have hf := ie_s hf c1_8
                    refine lv_tableOut (tgt := 125) X.1 X.2.1 dX7_count_1 (by omega) (by decide) ?_
                    refine lv_bipush (v := (-2)) X.1 X.2.1 dX7_count_125 (by decide) ?_
                    have e0 := o1 hf
                    exact ret_i X hS hP e0 dX7_count_127
set_option maxRecDepth 100000 in
theorem c_X7_count {l : Launch} {D : va_G} {a : Nat → Nat} {kc : Nat → ClassId} (F : Nat → Int32) (G : Nat → Int64) (I : Nat → Nat → Int32) (J : Nat → Nat → Int64) (Z : Nat → Nat → Nat → Int32) (hAp : ∀ i j, i < 44 → j < 44 → a i = a j → i = j) (x1 : Int32) {o0 : Int32} (hf : p_X7_count (F 0) (F 1) (F 2) (F 5) (F 13) (I 0) (I 5) (I 6) x1 = some o0) : Ct 44 l yX7_count cX7_count 2 (some .int) rm_X7_count D (tyC kc) a (wC a kc F G I J Z) [.ref (a 34), .int x1] (Qi D (wC a kc F G I J Z) o0) :=
  Ct.of (by decide +kernel) hAp (Nat.le_of_ble_eq_true rfl) (fun p e s m args below meth c ls X hP hl => t_X7_count_b0 X  x1 _ _ _ hf  hP va_S.rf hl)
abbrev rm_X7_mix : Room := { frames := 0, cells := 0, slots := 0, locals := 0 }
set_option maxHeartbeats 4000000 in
set_option maxRecDepth 100000 in
theorem t_X7_mix_b0 {p : Program} {l : Launch} {e : Env} {s : State} {m : MethodId} {args : Array Value} {below : List Frame} {meth : Method} {c : Code} {D : va_G} {a : Nat → Nat} (X : cx 0 p s m args meth c D [] a cX7_mix 6 RX7 (some .long))   {r : Int64} :
    ∀  (x0 : Int64) (x2 : Int64) (x4 : Int64) (H : Heap) (locs : List Loc) (ls : Array Slot), p_X7_mix_b0  x0 x2 x4 = some r → va_P D vwCl [] H → va_S (ad a 0 s.heap.size) s.heap H locs → lv_has ls 6 [(0, .long x0), (2, .long x2), (4, .long x4)] → W p l e rm_X7_mix s m args below meth c H locs 0 0 (MQ below (Ql D [] r (ad a 0 s.heap.size)) args s 0 0 (ad a 0 s.heap.size)) (F0 m 0 ls []) := by
  intro  x0 x2 x4 H locs ls hf  hP hS hl
  unfold p_X7_mix_b0 at hf
  refine lv_ldc2 (v := 31) X.1 X.2.1 X.2.2.2.2.1 (X.2.2.2.2.2.1 _ q_4_76) dX7_mix_0 ?_
  refine lv_ldc2 (v := 31) X.1 X.2.1 X.2.2.2.2.1 (X.2.2.2.2.2.1 _ q_4_76) dX7_mix_3 ?_
  refine lv_lload_n X.1 X.2.1 dX7_mix_6 rfl (lv_at hl 0 rfl) ?_
  refine lv_lmul X.1 X.2.1 dX7_mix_7 ?_
  refine lv_lload_n X.1 X.2.1 dX7_mix_8 rfl (lv_at hl 1 rfl) ?_
  refine lv_ladd X.1 X.2.1 dX7_mix_9 ?_
  refine lv_lmul X.1 X.2.1 dX7_mix_10 ?_
  refine lv_lload X.1 X.2.1 dX7_mix_11 (lv_at hl 2 rfl) ?_
  refine lv_ladd X.1 X.2.1 dX7_mix_13 ?_
  have e0 := o1 hf
  exact ret_l X hS hP e0 dX7_mix_14
set_option maxRecDepth 100000 in
theorem c_X7_mix {l : Launch} {D : va_G} {a : Nat → Nat}  (x0 : Int64) (x2 : Int64) (x4 : Int64) {o0 : Int64} (hf : p_X7_mix  x0 x2 x4 = some o0) : Ct 0 l yX7_mix cX7_mix 6 (some .long) rm_X7_mix D [] a [] [.long x0, .long x2, .long x4] (Ql D [] o0) :=
  Ct.of (by decide +kernel) (fun i j h => absurd h (Nat.not_lt_zero i)) (Nat.le_of_ble_eq_true rfl) (fun p e s m args below meth c ls X hP hl => t_X7_mix_b0 X  x0 x2 x4 _ _ _ hf  hP va_S.rf hl)
abbrev rm_X7_mixSeats : Room := { frames := 5, cells := 0, slots := 0, locals := 121 }
set_option maxHeartbeats 4000000 in
set_option maxRecDepth 100000 in
theorem t_X7_mixSeats_b20x {p : Program} {l : Launch} {e : Env} {s : State} {m : MethodId} {args : Array Value} {below : List Frame} {meth : Method} {c : Code} {D : va_G} {a : Nat → Nat} {kc : Nat → ClassId} (X : cx 44 p s m args meth c D (tyC kc) a cX7_mixSeats 7 RX7 (some .long)) {I : Nat → Nat → Int32} {Z : Nat → Nat → Nat → Int32} {Ff : Nat → Int32} {Gf : Nat → Int64} {Jf : Nat → Nat → Int64} {r : Int64} {K5 : Int32 → Int32 → Int32 → Int64 → Int64 → (Nat → Int32) → (Nat → Int32) → (Nat → Int32) → (Nat → Int32) → (Nat → Int32) → (Nat → Int64) → (Nat → Int64) → (Nat → Int64) → (Nat → Int64) → (Nat → Int64) → Int64 → Int32 → Option (Int64 × Int32 × Int64 × Int64 × (Nat → Int64) × (Nat → Int64) × (Nat → Int64) × (Nat → Int64) × (Nat → Int64))} (kh5 : ∀ (F : Nat → Int32) (G : Nat → Int64) (J : Nat → Nat → Int64) (x3 : Int64) (x5 : Int32) (H : Heap) (locs : List Loc) (ls : Array Slot), K5 (F 0) (F 2) (F 3) (G 0) (G 1) (I 2) (I 3) (I 4) (I 5) (I 6) (J 0) (J 1) (J 2) (J 3) (J 4) x3 x5 = some (r, (Ff 3), (Gf 0), (Gf 1), (Jf 0), (Jf 1), (Jf 2), (Jf 3), (Jf 4)) → (∀ k, k ∉ ([3] : List Nat) → Ff k = F k) → (∀ k, k ∉ ([0, 1] : List Nat) → Gf k = G k) → (∀ k, k ∉ ([0, 1, 2, 3, 4] : List Nat) → Jf k = J k) → va_P D vwCl (wC a kc F G I J Z) H → va_S (ad a 44 s.heap.size) s.heap H locs → lv_has ls 7 [(0, .ref (a 34)), (3, .long x3), (5, .int x5)] → W p l e rm_X7_mixSeats s m args below meth c H locs 0 0 (MQ below (Ql D (wC a kc Ff Gf I Jf Z) r (ad a 44 s.heap.size)) args s 0 0 (ad a 44 s.heap.size)) (F0 m 5 ls [])) {K20 : Int32 → Int32 → Int32 → Int64 → Int64 → (Nat → Int32) → (Nat → Int32) → (Nat → Int32) → (Nat → Int32) → (Nat → Int32) → (Nat → Int64) → (Nat → Int64) → (Nat → Int64) → (Nat → Int64) → (Nat → Int64) → Int64 → Int32 → Int32 → Option (Int64 × Int32 × Int64 × Int64 × (Nat → Int64) × (Nat → Int64) × (Nat → Int64) × (Nat → Int64) × (Nat → Int64))} (kh20 : ∀ (F : Nat → Int32) (G : Nat → Int64) (J : Nat → Nat → Int64) (x3 : Int64) (x5 : Int32) (x6 : Int32) (H : Heap) (locs : List Loc) (ls : Array Slot), K20 (F 0) (F 2) (F 3) (G 0) (G 1) (I 2) (I 3) (I 4) (I 5) (I 6) (J 0) (J 1) (J 2) (J 3) (J 4) x3 x5 x6 = some (r, (Ff 3), (Gf 0), (Gf 1), (Jf 0), (Jf 1), (Jf 2), (Jf 3), (Jf 4)) → (∀ k, k ∉ ([3] : List Nat) → Ff k = F k) → (∀ k, k ∉ ([0, 1] : List Nat) → Gf k = G k) → (∀ k, k ∉ ([0, 1, 2, 3, 4] : List Nat) → Jf k = J k) → va_P D vwCl (wC a kc F G I J Z) H → va_S (ad a 44 s.heap.size) s.heap H locs → lv_has ls 7 [(0, .ref (a 34)), (3, .long x3), (5, .int x5), (6, .int x6)] → W p l e rm_X7_mixSeats s m args below meth c H locs 0 0 (MQ below (Ql D (wC a kc Ff Gf I Jf Z) r (ad a 44 s.heap.size)) args s 0 0 (ad a 44 s.heap.size)) (F0 m 20 ls [])) :
    ∀ (F : Nat → Int32) (G : Nat → Int64) (J : Nat → Nat → Int64) (x3 : Int64) (x5 : Int32) (x6 : Int32) (H : Heap) (locs : List Loc) (ls : Array Slot), p_X7_mixSeats_b20x K5 K20 (F 0) (F 2) (F 3) (G 0) (G 1) (I 2) (I 3) (I 4) (I 5) (I 6) (J 0) (J 1) (J 2) (J 3) (J 4) x3 x5 x6 = some (r, (Ff 3), (Gf 0), (Gf 1), (Jf 0), (Jf 1), (Jf 2), (Jf 3), (Jf 4)) → (∀ k, k ∉ ([3] : List Nat) → Ff k = F k) → (∀ k, k ∉ ([0, 1] : List Nat) → Gf k = G k) → (∀ k, k ∉ ([0, 1, 2, 3, 4] : List Nat) → Jf k = J k) → va_P D vwCl (wC a kc F G I J Z) H → va_S (ad a 44 s.heap.size) s.heap H locs → lv_has ls 7 [(0, .ref (a 34)), (3, .long x3), (5, .int x5), (6, .int x6)] → W p l e rm_X7_mixSeats s m args below meth c H locs 0 0 (MQ below (Ql D (wC a kc Ff Gf I Jf Z) r (ad a 44 s.heap.size)) args s 0 0 (ad a 44 s.heap.size)) (F0 m 20 ls []) := by
  intro F G J x3 x5 x6 H locs ls hf hfF hfG hfJ hP hS hl
  unfold p_X7_mixSeats_b20x at hf
  refine lv_iload X.1 X.2.1 dX7_mixSeats_20 (lv_at hl 3 rfl) ?_
  refine lv_iconst (v := 2) X.1 X.2.1 dX7_mixSeats_22 (by decide) ?_
  refine lv_icmp_gt (tgt := 48) X.1 X.2.1 dX7_mixSeats_23 (by decide) (fun c23 => ?_) (fun c23 => ?_)
  · have hf := it_s hf c23
    refine lv_lload_n X.1 X.2.1 dX7_mixSeats_48 rfl (lv_at hl 1 rfl) ?_
    refine lv_aload_n X.1 X.2.1 dX7_mixSeats_49 rfl (lv_at hl 0 rfl) ?_
    refine lv_iload X.1 X.2.1 dX7_mixSeats_50 (lv_at hl 2 rfl) ?_
    refine lv_iconst (v := 0) X.1 X.2.1 dX7_mixSeats_52 (by decide) ?_
    obtain ⟨r53, C_ready_53, C_meanWrong_53, C_meanLooks_53, C_reach_53, C_sits_53, C_wrongs_53, C_free_53, C_wrongIn_53, ho, hf⟩ := b9_s hf
    refine call_vl (rest := [.long x3]) X (c_X7_left F G I J Z X.2.2.2.2.2.2.2.1 x5 0 ho) q_4_84 q_2_216 q_2_217 q_1_1 q_2_218 ok_X7_left rfl 34 rfl rfl ⟨Nat.le_of_ble_eq_true rfl, Nat.le_of_ble_eq_true rfl⟩ rfl rfl hl.1 rfl (Nat.le_of_ble_eq_true rfl) dX7_mixSeats_53 hP hS (fun H locs hP hS => ?_)
    refine lv_aload_n X.1 X.2.1 dX7_mixSeats_56 rfl (lv_at hl 0 rfl) ?_
    refine lv_iload X.1 X.2.1 dX7_mixSeats_57 (lv_at hl 2 rfl) ?_
    refine lv_iconst (v := 1) X.1 X.2.1 dX7_mixSeats_59 (by decide) ?_
    obtain ⟨r60, C_ready_60, C_meanWrong_60, C_meanLooks_60, C_reach_60, C_sits_60, C_wrongs_60, C_free_60, C_wrongIn_60, ho, hf⟩ := b9_s hf
    refine call_vl (rest := [.long r53, .long x3]) X (c_X7_left (va_up F 3 C_ready_53) (va_up (va_up G 0 C_meanWrong_53) 1 C_meanLooks_53) I (va_up (va_up (va_up (va_up (va_up J 0 C_reach_53) 1 C_sits_53) 2 C_wrongs_53) 3 C_free_53) 4 C_wrongIn_53) Z X.2.2.2.2.2.2.2.1 x5 1 ho) q_4_84 q_2_216 q_2_217 q_1_1 q_2_218 ok_X7_left rfl 34 rfl rfl ⟨Nat.le_of_ble_eq_true rfl, Nat.le_of_ble_eq_true rfl⟩ rfl rfl hl.1 rfl (Nat.le_of_ble_eq_true rfl) dX7_mixSeats_60 hP hS (fun H locs hP hS => ?_)
    obtain ⟨r63, ho, hf⟩ := b1_s hf
    refine call_sl (rest := []) X (c_X7_mix x3 r53 r60 ho) q_4_85 q_4_86 q_1_1 q_4_87 ok_X7_mix rfl ⟨Nat.le_of_ble_eq_true rfl, Nat.le_of_ble_eq_true rfl⟩ rfl rfl hl.1 rfl (Nat.le_of_ble_eq_true rfl) dX7_mixSeats_63 hP hS (fun H locs hP hS => ?_)
    refine lv_lstore_n (lv' := [(3, .long r63), (0, .ref (a 34)), (5, .int x5), (6, .int x6)]) X.1 X.2.1 dX7_mixSeats_66 rfl hl (by decide) rfl (fun ls hl => ?_)
    obtain ⟨x67, ex67, hf⟩ := nm_x hf
    refine lv_iinc (v := x67) (lv' := [(5, .int x67), (3, .long r63), (0, .ref (a 34)), (6, .int x6)]) X.1 X.2.1 dX7_mixSeats_67 hl (k := 2) rfl ex67 (by decide) rfl (fun ls hl => ?_)
    refine lv_goto (tgt := 5) X.1 X.2.1 dX7_mixSeats_70 (by decide) ?_
    exact kh5 (va_up (va_up F 3 C_ready_53) 3 C_ready_60) (va_up (va_up (va_up (va_up G 0 C_meanWrong_53) 1 C_meanLooks_53) 0 C_meanWrong_60) 1 C_meanLooks_60) (va_up (va_up (va_up (va_up (va_up (va_up (va_up (va_up (va_up (va_up J 0 C_reach_53) 1 C_sits_53) 2 C_wrongs_53) 3 C_free_53) 4 C_wrongIn_53) 0 C_reach_60) 1 C_sits_60) 2 C_wrongs_60) 3 C_free_60) 4 C_wrongIn_60) r63 x67 H locs ls hf (frm_up (frm_up hfF (by decide)) (by decide)) (frm_up (frm_up (frm_up (frm_up hfG (by decide)) (by decide)) (by decide)) (by decide)) (frm_up (frm_up (frm_up (frm_up (frm_up (frm_up (frm_up (frm_up (frm_up (frm_up hfJ (by decide)) (by decide)) (by decide)) (by decide)) (by decide)) (by decide)) (by decide)) (by decide)) (by decide)) (by decide)) hP hS (lv_sub hl [2, 1, 0] rfl)
  · have hf := ie_s hf c23
    refine lv_ldc2 (v := 31) X.1 X.2.1 X.2.2.2.2.1 (X.2.2.2.2.2.1 _ q_4_76) dX7_mixSeats_26 ?_
    refine lv_lload_n X.1 X.2.1 dX7_mixSeats_29 rfl (lv_at hl 1 rfl) ?_
    refine lv_lmul X.1 X.2.1 dX7_mixSeats_30 ?_
    refine lv_aload_n X.1 X.2.1 dX7_mixSeats_31 rfl (lv_at hl 0 rfl) ?_
    refine lv_iload X.1 X.2.1 dX7_mixSeats_32 (lv_at hl 2 rfl) ?_
    refine lv_iload X.1 X.2.1 dX7_mixSeats_34 (lv_at hl 3 rfl) ?_
    obtain ⟨r36, ho, hf⟩ := b1_s hf
    refine call_vi (rest := [.long (31 * x3)]) X (c_X7_seat F G I J Z X.2.2.2.2.2.2.2.1 x5 x6 ho) q_4_83 q_2_117 q_2_118 q_1_1 q_2_119 ok_X7_seat rfl 34 rfl rfl ⟨Nat.le_of_ble_eq_true rfl, Nat.le_of_ble_eq_true rfl⟩ rfl rfl hl.1 rfl (Nat.le_of_ble_eq_true rfl) dX7_mixSeats_36 hP hS (fun H locs hP hS => ?_)
    refine lv_i2l X.1 X.2.1 dX7_mixSeats_39 rfl ?_
    refine lv_ladd X.1 X.2.1 dX7_mixSeats_40 ?_
    refine nm_l hf (fun x41 hf => ?_)
    refine lv_lstore_n (lv' := [(3, .long x41), (0, .ref (a 34)), (5, .int x5), (6, .int x6)]) X.1 X.2.1 dX7_mixSeats_41 rfl hl (by decide) rfl (fun ls hl => ?_)
    obtain ⟨x42, ex42, hf⟩ := nm_x hf
    refine lv_iinc (v := x42) (lv' := [(6, .int x42), (3, .long x41), (0, .ref (a 34)), (5, .int x5)]) X.1 X.2.1 dX7_mixSeats_42 hl (k := 3) rfl ex42 (by decide) rfl (fun ls hl => ?_)
    refine lv_goto (tgt := 20) X.1 X.2.1 dX7_mixSeats_45 (by decide) ?_
    exact kh20 F G J x41 x5 x42 H locs ls hf hfF hfG hfJ hP hS (lv_sub hl [2, 1, 3, 0] rfl)
set_option maxRecDepth 100000 in
theorem t_X7_mixSeats_b20 {p : Program} {l : Launch} {e : Env} {s : State} {m : MethodId} {args : Array Value} {below : List Frame} {meth : Method} {c : Code} {D : va_G} {a : Nat → Nat} {kc : Nat → ClassId} (X : cx 44 p s m args meth c D (tyC kc) a cX7_mixSeats 7 RX7 (some .long)) {I : Nat → Nat → Int32} {Z : Nat → Nat → Nat → Int32} {Ff : Nat → Int32} {Gf : Nat → Int64} {Jf : Nat → Nat → Int64} {r : Int64} {K5 : Int32 → Int32 → Int32 → Int64 → Int64 → (Nat → Int32) → (Nat → Int32) → (Nat → Int32) → (Nat → Int32) → (Nat → Int32) → (Nat → Int64) → (Nat → Int64) → (Nat → Int64) → (Nat → Int64) → (Nat → Int64) → Int64 → Int32 → Option (Int64 × Int32 × Int64 × Int64 × (Nat → Int64) × (Nat → Int64) × (Nat → Int64) × (Nat → Int64) × (Nat → Int64))} (kh5 : ∀ (F : Nat → Int32) (G : Nat → Int64) (J : Nat → Nat → Int64) (x3 : Int64) (x5 : Int32) (H : Heap) (locs : List Loc) (ls : Array Slot), K5 (F 0) (F 2) (F 3) (G 0) (G 1) (I 2) (I 3) (I 4) (I 5) (I 6) (J 0) (J 1) (J 2) (J 3) (J 4) x3 x5 = some (r, (Ff 3), (Gf 0), (Gf 1), (Jf 0), (Jf 1), (Jf 2), (Jf 3), (Jf 4)) → (∀ k, k ∉ ([3] : List Nat) → Ff k = F k) → (∀ k, k ∉ ([0, 1] : List Nat) → Gf k = G k) → (∀ k, k ∉ ([0, 1, 2, 3, 4] : List Nat) → Jf k = J k) → va_P D vwCl (wC a kc F G I J Z) H → va_S (ad a 44 s.heap.size) s.heap H locs → lv_has ls 7 [(0, .ref (a 34)), (3, .long x3), (5, .int x5)] → W p l e rm_X7_mixSeats s m args below meth c H locs 0 0 (MQ below (Ql D (wC a kc Ff Gf I Jf Z) r (ad a 44 s.heap.size)) args s 0 0 (ad a 44 s.heap.size)) (F0 m 5 ls [])) :
    ∀ (n : Nat) (F : Nat → Int32) (G : Nat → Int64) (J : Nat → Nat → Int64) (x3 : Int64) (x5 : Int32) (x6 : Int32) (H : Heap) (locs : List Loc) (ls : Array Slot), p_X7_mixSeats_b20 K5 n (F 0) (F 2) (F 3) (G 0) (G 1) (I 2) (I 3) (I 4) (I 5) (I 6) (J 0) (J 1) (J 2) (J 3) (J 4) x3 x5 x6 = some (r, (Ff 3), (Gf 0), (Gf 1), (Jf 0), (Jf 1), (Jf 2), (Jf 3), (Jf 4)) → (∀ k, k ∉ ([3] : List Nat) → Ff k = F k) → (∀ k, k ∉ ([0, 1] : List Nat) → Gf k = G k) → (∀ k, k ∉ ([0, 1, 2, 3, 4] : List Nat) → Jf k = J k) → va_P D vwCl (wC a kc F G I J Z) H → va_S (ad a 44 s.heap.size) s.heap H locs → lv_has ls 7 [(0, .ref (a 34)), (3, .long x3), (5, .int x5), (6, .int x6)] → W p l e rm_X7_mixSeats s m args below meth c H locs 0 0 (MQ below (Ql D (wC a kc Ff Gf I Jf Z) r (ad a 44 s.heap.size)) args s 0 0 (ad a 44 s.heap.size)) (F0 m 20 ls []) := by
  intro n
  induction n with
  | zero => intro F G J x3 x5 x6 H locs ls hf hfF hfG hfJ hP hS hl; exact (nos hf).elim
  | succ n ih => exact t_X7_mixSeats_b20x X kh5 ih
set_option maxHeartbeats 4000000 in
set_option maxRecDepth 100000 in
theorem t_X7_mixSeats_b5x {p : Program} {l : Launch} {e : Env} {s : State} {m : MethodId} {args : Array Value} {below : List Frame} {meth : Method} {c : Code} {D : va_G} {a : Nat → Nat} {kc : Nat → ClassId} (X : cx 44 p s m args meth c D (tyC kc) a cX7_mixSeats 7 RX7 (some .long)) {I : Nat → Nat → Int32} {Z : Nat → Nat → Nat → Int32} {Ff : Nat → Int32} {Gf : Nat → Int64} {Jf : Nat → Nat → Int64} {r : Int64} {K5 : Int32 → Int32 → Int32 → Int64 → Int64 → (Nat → Int32) → (Nat → Int32) → (Nat → Int32) → (Nat → Int32) → (Nat → Int32) → (Nat → Int64) → (Nat → Int64) → (Nat → Int64) → (Nat → Int64) → (Nat → Int64) → Int64 → Int32 → Option (Int64 × Int32 × Int64 × Int64 × (Nat → Int64) × (Nat → Int64) × (Nat → Int64) × (Nat → Int64) × (Nat → Int64))} (kh5 : ∀ (F : Nat → Int32) (G : Nat → Int64) (J : Nat → Nat → Int64) (x3 : Int64) (x5 : Int32) (H : Heap) (locs : List Loc) (ls : Array Slot), K5 (F 0) (F 2) (F 3) (G 0) (G 1) (I 2) (I 3) (I 4) (I 5) (I 6) (J 0) (J 1) (J 2) (J 3) (J 4) x3 x5 = some (r, (Ff 3), (Gf 0), (Gf 1), (Jf 0), (Jf 1), (Jf 2), (Jf 3), (Jf 4)) → (∀ k, k ∉ ([3] : List Nat) → Ff k = F k) → (∀ k, k ∉ ([0, 1] : List Nat) → Gf k = G k) → (∀ k, k ∉ ([0, 1, 2, 3, 4] : List Nat) → Jf k = J k) → va_P D vwCl (wC a kc F G I J Z) H → va_S (ad a 44 s.heap.size) s.heap H locs → lv_has ls 7 [(0, .ref (a 34)), (3, .long x3), (5, .int x5)] → W p l e rm_X7_mixSeats s m args below meth c H locs 0 0 (MQ below (Ql D (wC a kc Ff Gf I Jf Z) r (ad a 44 s.heap.size)) args s 0 0 (ad a 44 s.heap.size)) (F0 m 5 ls [])) :
    ∀ (F : Nat → Int32) (G : Nat → Int64) (J : Nat → Nat → Int64) (x3 : Int64) (x5 : Int32) (H : Heap) (locs : List Loc) (ls : Array Slot), p_X7_mixSeats_b5x K5 (F 0) (F 2) (F 3) (G 0) (G 1) (I 2) (I 3) (I 4) (I 5) (I 6) (J 0) (J 1) (J 2) (J 3) (J 4) x3 x5 = some (r, (Ff 3), (Gf 0), (Gf 1), (Jf 0), (Jf 1), (Jf 2), (Jf 3), (Jf 4)) → (∀ k, k ∉ ([3] : List Nat) → Ff k = F k) → (∀ k, k ∉ ([0, 1] : List Nat) → Gf k = G k) → (∀ k, k ∉ ([0, 1, 2, 3, 4] : List Nat) → Jf k = J k) → va_P D vwCl (wC a kc F G I J Z) H → va_S (ad a 44 s.heap.size) s.heap H locs → lv_has ls 7 [(0, .ref (a 34)), (3, .long x3), (5, .int x5)] → W p l e rm_X7_mixSeats s m args below meth c H locs 0 0 (MQ below (Ql D (wC a kc Ff Gf I Jf Z) r (ad a 44 s.heap.size)) args s 0 0 (ad a 44 s.heap.size)) (F0 m 5 ls []) := by
  intro F G J x3 x5 H locs ls hf hfF hfG hfJ hP hS hl
  unfold p_X7_mixSeats_b5x at hf
  refine lv_iload X.1 X.2.1 dX7_mixSeats_5 (lv_at hl 2 rfl) ?_
  refine lv_aload_n X.1 X.2.1 dX7_mixSeats_7 rfl (lv_at hl 0 rfl) ?_
  refine gC_34_0 X q_2_64 dX7_mixSeats_8 hP ?_
  refine gC_0_8 (F := F) X (v := (F 0)) rfl q_1_84 dX7_mixSeats_11 hP ?_
  refine lv_icmp_ge (tgt := 73) X.1 X.2.1 dX7_mixSeats_14 (by decide) (fun c14 => ?_) (fun c14 => ?_)
  · have hf := it_s hf c14
    refine lv_lload_n X.1 X.2.1 dX7_mixSeats_73 rfl (lv_at hl 1 rfl) ?_
    obtain ⟨e0, hf⟩ := o2 hf
    obtain ⟨e1, hf⟩ := o2 hf
    obtain ⟨e2, hf⟩ := o2 hf
    obtain ⟨e3, hf⟩ := o2 hf
    obtain ⟨e4, hf⟩ := o2 hf
    obtain ⟨e5, hf⟩ := o2 hf
    obtain ⟨e6, hf⟩ := o2 hf
    obtain ⟨e7, hf⟩ := o2 hf
    have e8 := o1 hf
    have EF : Ff = F := frm_eq hfF (frm_c (e1).symm frm_n)
    have EG : Gf = G := frm_eq hfG (frm_c (e2).symm (frm_c (e3).symm frm_n))
    have EJ : Jf = J := frm_eq hfJ (frm_c (e4).symm (frm_c (e5).symm (frm_c (e6).symm (frm_c (e7).symm (frm_c (e8).symm frm_n)))))
    exact ret_l X hS (by rw [EF, EG, EJ]; exact hP) e0 dX7_mixSeats_74
  · have hf := ie_s hf c14
    refine lv_iconst (v := 0) X.1 X.2.1 dX7_mixSeats_17 (by decide) ?_
    refine lv_istore (lv' := [(6, .int 0), (0, .ref (a 34)), (3, .long x3), (5, .int x5)]) X.1 X.2.1 dX7_mixSeats_18 hl (by decide) rfl (fun ls hl => ?_)
    exact t_X7_mixSeats_b20 X kh5 4096 F G J x3 x5 0 H locs ls hf hfF hfG hfJ hP hS (lv_sub hl [1, 2, 3, 0] rfl)
set_option maxRecDepth 100000 in
theorem t_X7_mixSeats_b5 {p : Program} {l : Launch} {e : Env} {s : State} {m : MethodId} {args : Array Value} {below : List Frame} {meth : Method} {c : Code} {D : va_G} {a : Nat → Nat} {kc : Nat → ClassId} (X : cx 44 p s m args meth c D (tyC kc) a cX7_mixSeats 7 RX7 (some .long)) {I : Nat → Nat → Int32} {Z : Nat → Nat → Nat → Int32} {Ff : Nat → Int32} {Gf : Nat → Int64} {Jf : Nat → Nat → Int64} {r : Int64} :
    ∀ (n : Nat) (F : Nat → Int32) (G : Nat → Int64) (J : Nat → Nat → Int64) (x3 : Int64) (x5 : Int32) (H : Heap) (locs : List Loc) (ls : Array Slot), p_X7_mixSeats_b5 n (F 0) (F 2) (F 3) (G 0) (G 1) (I 2) (I 3) (I 4) (I 5) (I 6) (J 0) (J 1) (J 2) (J 3) (J 4) x3 x5 = some (r, (Ff 3), (Gf 0), (Gf 1), (Jf 0), (Jf 1), (Jf 2), (Jf 3), (Jf 4)) → (∀ k, k ∉ ([3] : List Nat) → Ff k = F k) → (∀ k, k ∉ ([0, 1] : List Nat) → Gf k = G k) → (∀ k, k ∉ ([0, 1, 2, 3, 4] : List Nat) → Jf k = J k) → va_P D vwCl (wC a kc F G I J Z) H → va_S (ad a 44 s.heap.size) s.heap H locs → lv_has ls 7 [(0, .ref (a 34)), (3, .long x3), (5, .int x5)] → W p l e rm_X7_mixSeats s m args below meth c H locs 0 0 (MQ below (Ql D (wC a kc Ff Gf I Jf Z) r (ad a 44 s.heap.size)) args s 0 0 (ad a 44 s.heap.size)) (F0 m 5 ls []) := by
  intro n
  induction n with
  | zero => intro F G J x3 x5 H locs ls hf hfF hfG hfJ hP hS hl; exact (nos hf).elim
  | succ n ih => exact t_X7_mixSeats_b5x X ih
set_option maxHeartbeats 4000000 in
set_option maxRecDepth 100000 in
theorem t_X7_mixSeats_b0 {p : Program} {l : Launch} {e : Env} {s : State} {m : MethodId} {args : Array Value} {below : List Frame} {meth : Method} {c : Code} {D : va_G} {a : Nat → Nat} {kc : Nat → ClassId} (X : cx 44 p s m args meth c D (tyC kc) a cX7_mixSeats 7 RX7 (some .long)) {I : Nat → Nat → Int32} {Z : Nat → Nat → Nat → Int32} {Ff : Nat → Int32} {Gf : Nat → Int64} {Jf : Nat → Nat → Int64} {r : Int64} :
    ∀ (F : Nat → Int32) (G : Nat → Int64) (J : Nat → Nat → Int64) (x1 : Int64) (H : Heap) (locs : List Loc) (ls : Array Slot), p_X7_mixSeats_b0 (F 0) (F 2) (F 3) (G 0) (G 1) (I 2) (I 3) (I 4) (I 5) (I 6) (J 0) (J 1) (J 2) (J 3) (J 4) x1 = some (r, (Ff 3), (Gf 0), (Gf 1), (Jf 0), (Jf 1), (Jf 2), (Jf 3), (Jf 4)) → (∀ k, k ∉ ([3] : List Nat) → Ff k = F k) → (∀ k, k ∉ ([0, 1] : List Nat) → Gf k = G k) → (∀ k, k ∉ ([0, 1, 2, 3, 4] : List Nat) → Jf k = J k) → va_P D vwCl (wC a kc F G I J Z) H → va_S (ad a 44 s.heap.size) s.heap H locs → lv_has ls 7 [(0, .ref (a 34)), (1, .long x1)] → W p l e rm_X7_mixSeats s m args below meth c H locs 0 0 (MQ below (Ql D (wC a kc Ff Gf I Jf Z) r (ad a 44 s.heap.size)) args s 0 0 (ad a 44 s.heap.size)) (F0 m 0 ls []) := by
  intro F G J x1 H locs ls hf hfF hfG hfJ hP hS hl
  unfold p_X7_mixSeats_b0 at hf
  refine lv_lload_n X.1 X.2.1 dX7_mixSeats_0 rfl (lv_at hl 1 rfl) ?_
  refine lv_lstore_n (lv' := [(3, .long x1), (0, .ref (a 34)), (1, .long x1)]) X.1 X.2.1 dX7_mixSeats_1 rfl hl (by decide) rfl (fun ls hl => ?_)
  refine lv_iconst (v := 0) X.1 X.2.1 dX7_mixSeats_2 (by decide) ?_
  refine lv_istore (lv' := [(5, .int 0), (3, .long x1), (0, .ref (a 34)), (1, .long x1)]) X.1 X.2.1 dX7_mixSeats_3 hl (by decide) rfl (fun ls hl => ?_)
  exact t_X7_mixSeats_b5 X 4096 F G J x1 0 H locs ls hf hfF hfG hfJ hP hS (lv_sub hl [2, 1, 0] rfl)
set_option maxRecDepth 100000 in
theorem c_X7_mixSeats {l : Launch} {D : va_G} {a : Nat → Nat} {kc : Nat → ClassId} (F : Nat → Int32) (G : Nat → Int64) (I : Nat → Nat → Int32) (J : Nat → Nat → Int64) (Z : Nat → Nat → Nat → Int32) (hAp : ∀ i j, i < 44 → j < 44 → a i = a j → i = j) (x1 : Int64) {o0 : Int64} {o1 : Int32} {o2 : Int64} {o3 : Int64} {o4 : Nat → Int64} {o5 : Nat → Int64} {o6 : Nat → Int64} {o7 : Nat → Int64} {o8 : Nat → Int64} (hf : p_X7_mixSeats (F 0) (F 2) (F 3) (G 0) (G 1) (I 2) (I 3) (I 4) (I 5) (I 6) (J 0) (J 1) (J 2) (J 3) (J 4) x1 = some (o0, o1, o2, o3, o4, o5, o6, o7, o8)) : Ct 44 l yX7_mixSeats cX7_mixSeats 7 (some .long) rm_X7_mixSeats D (tyC kc) a (wC a kc F G I J Z) [.ref (a 34), .long x1] (Ql D (wC a kc (va_up F 3 o1) (va_up (va_up G 0 o2) 1 o3) I (va_up (va_up (va_up (va_up (va_up J 0 o4) 1 o5) 2 o6) 3 o7) 4 o8) Z) o0) :=
  Ct.of (by decide +kernel) hAp (Nat.le_of_ble_eq_true rfl) (fun p e s m args below meth c ls X hP hl => t_X7_mixSeats_b0 X F G J x1 _ _ _ hf (frm_ul (fun k _ => rfl) (by decide)) (frm_ul (frm_ul (fun k _ => rfl) (by decide)) (by decide)) (frm_ul (frm_ul (frm_ul (frm_ul (frm_ul (fun k _ => rfl) (by decide)) (by decide)) (by decide)) (by decide)) (by decide)) hP va_S.rf hl)
abbrev rm_X7_mixPeople : Room := { frames := 5, cells := 0, slots := 0, locals := 122 }
set_option maxHeartbeats 4000000 in
set_option maxRecDepth 100000 in
theorem t_X7_mixPeople_b5x {p : Program} {l : Launch} {e : Env} {s : State} {m : MethodId} {args : Array Value} {below : List Frame} {meth : Method} {c : Code} {D : va_G} {a : Nat → Nat} {kc : Nat → ClassId} (X : cx 44 p s m args meth c D (tyC kc) a cX7_mixPeople 7 RX7 (some .long)) {I : Nat → Nat → Int32} {Z : Nat → Nat → Nat → Int32} {Ff : Nat → Int32} {Gf : Nat → Int64} {Jf : Nat → Nat → Int64} {r : Int64} {K5 : Int32 → Int32 → Int32 → Int64 → Int64 → (Nat → Int32) → (Nat → Int32) → (Nat → Int32) → (Nat → Int32) → (Nat → Int64) → (Nat → Int64) → (Nat → Int64) → (Nat → Int64) → (Nat → Int64) → Int64 → Int32 → Option (Int64 × Int32 × Int64 × Int64 × (Nat → Int64) × (Nat → Int64) × (Nat → Int64) × (Nat → Int64) × (Nat → Int64))} (kh5 : ∀ (F : Nat → Int32) (G : Nat → Int64) (J : Nat → Nat → Int64) (x3 : Int64) (x5 : Int32) (H : Heap) (locs : List Loc) (ls : Array Slot), K5 (F 0) (F 2) (F 3) (G 0) (G 1) (I 2) (I 4) (I 5) (I 6) (J 0) (J 1) (J 2) (J 3) (J 4) x3 x5 = some (r, (Ff 3), (Gf 0), (Gf 1), (Jf 0), (Jf 1), (Jf 2), (Jf 3), (Jf 4)) → (∀ k, k ∉ ([3] : List Nat) → Ff k = F k) → (∀ k, k ∉ ([0, 1] : List Nat) → Gf k = G k) → (∀ k, k ∉ ([0, 1, 2, 3, 4] : List Nat) → Jf k = J k) → va_P D vwCl (wC a kc F G I J Z) H → va_S (ad a 44 s.heap.size) s.heap H locs → lv_has ls 7 [(0, .ref (a 34)), (3, .long x3), (5, .int x5)] → W p l e rm_X7_mixPeople s m args below meth c H locs 0 0 (MQ below (Ql D (wC a kc Ff Gf I Jf Z) r (ad a 44 s.heap.size)) args s 0 0 (ad a 44 s.heap.size)) (F0 m 5 ls [])) :
    ∀ (F : Nat → Int32) (G : Nat → Int64) (J : Nat → Nat → Int64) (x3 : Int64) (x5 : Int32) (H : Heap) (locs : List Loc) (ls : Array Slot), p_X7_mixPeople_b5x K5 (F 0) (F 2) (F 3) (G 0) (G 1) (I 2) (I 4) (I 5) (I 6) (J 0) (J 1) (J 2) (J 3) (J 4) x3 x5 = some (r, (Ff 3), (Gf 0), (Gf 1), (Jf 0), (Jf 1), (Jf 2), (Jf 3), (Jf 4)) → (∀ k, k ∉ ([3] : List Nat) → Ff k = F k) → (∀ k, k ∉ ([0, 1] : List Nat) → Gf k = G k) → (∀ k, k ∉ ([0, 1, 2, 3, 4] : List Nat) → Jf k = J k) → va_P D vwCl (wC a kc F G I J Z) H → va_S (ad a 44 s.heap.size) s.heap H locs → lv_has ls 7 [(0, .ref (a 34)), (3, .long x3), (5, .int x5)] → W p l e rm_X7_mixPeople s m args below meth c H locs 0 0 (MQ below (Ql D (wC a kc Ff Gf I Jf Z) r (ad a 44 s.heap.size)) args s 0 0 (ad a 44 s.heap.size)) (F0 m 5 ls []) := by
  intro F G J x3 x5 H locs ls hf hfF hfG hfJ hP hS hl
  unfold p_X7_mixPeople_b5x at hf
  refine lv_iload X.1 X.2.1 dX7_mixPeople_5 (lv_at hl 2 rfl) ?_
  refine lv_aload_n X.1 X.2.1 dX7_mixPeople_7 rfl (lv_at hl 0 rfl) ?_
  refine gC_34_0 X q_2_64 dX7_mixPeople_8 hP ?_
  refine gC_0_10 (F := F) X (v := (F 2)) rfl q_1_93 dX7_mixPeople_11 hP ?_
  refine lv_icmp_ge (tgt := 71) X.1 X.2.1 dX7_mixPeople_14 (by decide) (fun c14 => ?_) (fun c14 => ?_)
  · have hf := it_s hf c14
    refine lv_lload_n X.1 X.2.1 dX7_mixPeople_71 rfl (lv_at hl 1 rfl) ?_
    obtain ⟨e0, hf⟩ := o2 hf
    obtain ⟨e1, hf⟩ := o2 hf
    obtain ⟨e2, hf⟩ := o2 hf
    obtain ⟨e3, hf⟩ := o2 hf
    obtain ⟨e4, hf⟩ := o2 hf
    obtain ⟨e5, hf⟩ := o2 hf
    obtain ⟨e6, hf⟩ := o2 hf
    obtain ⟨e7, hf⟩ := o2 hf
    have e8 := o1 hf
    have EF : Ff = F := frm_eq hfF (frm_c (e1).symm frm_n)
    have EG : Gf = G := frm_eq hfG (frm_c (e2).symm (frm_c (e3).symm frm_n))
    have EJ : Jf = J := frm_eq hfJ (frm_c (e4).symm (frm_c (e5).symm (frm_c (e6).symm (frm_c (e7).symm (frm_c (e8).symm frm_n)))))
    exact ret_l X hS (by rw [EF, EG, EJ]; exact hP) e0 dX7_mixPeople_72
  · have hf := ie_s hf c14
    refine lv_aload_n X.1 X.2.1 dX7_mixPeople_17 rfl (lv_at hl 0 rfl) ?_
    refine lv_iload X.1 X.2.1 dX7_mixPeople_18 (lv_at hl 2 rfl) ?_
    refine lv_iconst (v := 0) X.1 X.2.1 dX7_mixPeople_20 (by decide) ?_
    obtain ⟨r21, ho, hf⟩ := b1_s hf
    refine call_vi (rest := []) X (c_X7_person F G I J Z X.2.2.2.2.2.2.2.1 x5 0 ho) q_4_92 q_2_129 q_2_130 q_1_1 q_2_131 ok_X7_person rfl 34 rfl rfl ⟨Nat.le_of_ble_eq_true rfl, Nat.le_of_ble_eq_true rfl⟩ rfl rfl hl.1 rfl (Nat.le_of_ble_eq_true rfl) dX7_mixPeople_21 hP hS (fun H locs hP hS => ?_)
    refine lv_istore (lv' := [(6, .int r21), (0, .ref (a 34)), (3, .long x3), (5, .int x5)]) X.1 X.2.1 dX7_mixPeople_24 hl (by decide) rfl (fun ls hl => ?_)
    refine lv_lload_n X.1 X.2.1 dX7_mixPeople_26 rfl (lv_at hl 2 rfl) ?_
    refine lv_iload X.1 X.2.1 dX7_mixPeople_27 (lv_at hl 0 rfl) ?_
    refine lv_i2l X.1 X.2.1 dX7_mixPeople_29 rfl ?_
    refine lv_aload_n X.1 X.2.1 dX7_mixPeople_30 rfl (lv_at hl 1 rfl) ?_
    refine lv_iload X.1 X.2.1 dX7_mixPeople_31 (lv_at hl 3 rfl) ?_
    refine lv_iconst (v := 1) X.1 X.2.1 dX7_mixPeople_33 (by decide) ?_
    obtain ⟨r34, ho, hf⟩ := b1_s hf
    refine call_vi (rest := [.long r21.toInt64, .long x3]) X (c_X7_person F G I J Z X.2.2.2.2.2.2.2.1 x5 1 ho) q_4_92 q_2_129 q_2_130 q_1_1 q_2_131 ok_X7_person rfl 34 rfl rfl ⟨Nat.le_of_ble_eq_true rfl, Nat.le_of_ble_eq_true rfl⟩ rfl rfl hl.1 rfl (Nat.le_of_ble_eq_true rfl) dX7_mixPeople_34 hP hS (fun H locs hP hS => ?_)
    refine lv_i2l X.1 X.2.1 dX7_mixPeople_37 rfl ?_
    obtain ⟨r38, ho, hf⟩ := b1_s hf
    refine call_sl (rest := []) X (c_X7_mix x3 r21.toInt64 r34.toInt64 ho) q_4_85 q_4_86 q_1_1 q_4_87 ok_X7_mix rfl ⟨Nat.le_of_ble_eq_true rfl, Nat.le_of_ble_eq_true rfl⟩ rfl rfl hl.1 rfl (Nat.le_of_ble_eq_true rfl) dX7_mixPeople_38 hP hS (fun H locs hP hS => ?_)
    refine lv_lstore_n (lv' := [(3, .long r38), (6, .int r21), (0, .ref (a 34)), (5, .int x5)]) X.1 X.2.1 dX7_mixPeople_41 rfl hl (by decide) rfl (fun ls hl => ?_)
    refine lv_lload_n X.1 X.2.1 dX7_mixPeople_42 rfl (lv_at hl 0 rfl) ?_
    refine lv_aload_n X.1 X.2.1 dX7_mixPeople_43 rfl (lv_at hl 2 rfl) ?_
    refine lv_iload X.1 X.2.1 dX7_mixPeople_44 (lv_at hl 3 rfl) ?_
    refine lv_iload X.1 X.2.1 dX7_mixPeople_46 (lv_at hl 1 rfl) ?_
    refine lv_iconst (v := 0) X.1 X.2.1 dX7_mixPeople_48 (by decide) ?_
    obtain ⟨r49, C_ready_49, C_meanWrong_49, C_meanLooks_49, C_reach_49, C_sits_49, C_wrongs_49, C_free_49, C_wrongIn_49, ho, hf⟩ := b9_s hf
    refine call_vl (rest := [.long r38]) X (c_X7_likely F G I J Z X.2.2.2.2.2.2.2.1 x5 r21 0 ho) q_4_93 q_2_140 q_2_141 q_1_1 q_2_142 ok_X7_likely rfl 34 rfl rfl ⟨Nat.le_of_ble_eq_true rfl, Nat.le_of_ble_eq_true rfl⟩ rfl rfl hl.1 rfl (Nat.le_of_ble_eq_true rfl) dX7_mixPeople_49 hP hS (fun H locs hP hS => ?_)
    refine lv_aload_n X.1 X.2.1 dX7_mixPeople_52 rfl (lv_at hl 2 rfl) ?_
    refine lv_iload X.1 X.2.1 dX7_mixPeople_53 (lv_at hl 3 rfl) ?_
    refine lv_iload X.1 X.2.1 dX7_mixPeople_55 (lv_at hl 1 rfl) ?_
    refine lv_iconst (v := 1) X.1 X.2.1 dX7_mixPeople_57 (by decide) ?_
    obtain ⟨r58, C_ready_58, C_meanWrong_58, C_meanLooks_58, C_reach_58, C_sits_58, C_wrongs_58, C_free_58, C_wrongIn_58, ho, hf⟩ := b9_s hf
    refine call_vl (rest := [.long r49, .long r38]) X (c_X7_likely (va_up F 3 C_ready_49) (va_up (va_up G 0 C_meanWrong_49) 1 C_meanLooks_49) I (va_up (va_up (va_up (va_up (va_up J 0 C_reach_49) 1 C_sits_49) 2 C_wrongs_49) 3 C_free_49) 4 C_wrongIn_49) Z X.2.2.2.2.2.2.2.1 x5 r21 1 ho) q_4_93 q_2_140 q_2_141 q_1_1 q_2_142 ok_X7_likely rfl 34 rfl rfl ⟨Nat.le_of_ble_eq_true rfl, Nat.le_of_ble_eq_true rfl⟩ rfl rfl hl.1 rfl (Nat.le_of_ble_eq_true rfl) dX7_mixPeople_58 hP hS (fun H locs hP hS => ?_)
    obtain ⟨r61, ho, hf⟩ := b1_s hf
    refine call_sl (rest := []) X (c_X7_mix r38 r49 r58 ho) q_4_85 q_4_86 q_1_1 q_4_87 ok_X7_mix rfl ⟨Nat.le_of_ble_eq_true rfl, Nat.le_of_ble_eq_true rfl⟩ rfl rfl hl.1 rfl (Nat.le_of_ble_eq_true rfl) dX7_mixPeople_61 hP hS (fun H locs hP hS => ?_)
    refine lv_lstore_n (lv' := [(3, .long r61), (6, .int r21), (0, .ref (a 34)), (5, .int x5)]) X.1 X.2.1 dX7_mixPeople_64 rfl hl (by decide) rfl (fun ls hl => ?_)
    obtain ⟨x65, ex65, hf⟩ := nm_x hf
    refine lv_iinc (v := x65) (lv' := [(5, .int x65), (3, .long r61), (6, .int r21), (0, .ref (a 34))]) X.1 X.2.1 dX7_mixPeople_65 hl (k := 3) rfl ex65 (by decide) rfl (fun ls hl => ?_)
    refine lv_goto (tgt := 5) X.1 X.2.1 dX7_mixPeople_68 (by decide) ?_
    exact kh5 (va_up (va_up F 3 C_ready_49) 3 C_ready_58) (va_up (va_up (va_up (va_up G 0 C_meanWrong_49) 1 C_meanLooks_49) 0 C_meanWrong_58) 1 C_meanLooks_58) (va_up (va_up (va_up (va_up (va_up (va_up (va_up (va_up (va_up (va_up J 0 C_reach_49) 1 C_sits_49) 2 C_wrongs_49) 3 C_free_49) 4 C_wrongIn_49) 0 C_reach_58) 1 C_sits_58) 2 C_wrongs_58) 3 C_free_58) 4 C_wrongIn_58) r61 x65 H locs ls hf (frm_up (frm_up hfF (by decide)) (by decide)) (frm_up (frm_up (frm_up (frm_up hfG (by decide)) (by decide)) (by decide)) (by decide)) (frm_up (frm_up (frm_up (frm_up (frm_up (frm_up (frm_up (frm_up (frm_up (frm_up hfJ (by decide)) (by decide)) (by decide)) (by decide)) (by decide)) (by decide)) (by decide)) (by decide)) (by decide)) (by decide)) hP hS (lv_sub hl [3, 1, 0] rfl)
set_option maxRecDepth 100000 in
theorem t_X7_mixPeople_b5 {p : Program} {l : Launch} {e : Env} {s : State} {m : MethodId} {args : Array Value} {below : List Frame} {meth : Method} {c : Code} {D : va_G} {a : Nat → Nat} {kc : Nat → ClassId} (X : cx 44 p s m args meth c D (tyC kc) a cX7_mixPeople 7 RX7 (some .long)) {I : Nat → Nat → Int32} {Z : Nat → Nat → Nat → Int32} {Ff : Nat → Int32} {Gf : Nat → Int64} {Jf : Nat → Nat → Int64} {r : Int64} :
    ∀ (n : Nat) (F : Nat → Int32) (G : Nat → Int64) (J : Nat → Nat → Int64) (x3 : Int64) (x5 : Int32) (H : Heap) (locs : List Loc) (ls : Array Slot), p_X7_mixPeople_b5 n (F 0) (F 2) (F 3) (G 0) (G 1) (I 2) (I 4) (I 5) (I 6) (J 0) (J 1) (J 2) (J 3) (J 4) x3 x5 = some (r, (Ff 3), (Gf 0), (Gf 1), (Jf 0), (Jf 1), (Jf 2), (Jf 3), (Jf 4)) → (∀ k, k ∉ ([3] : List Nat) → Ff k = F k) → (∀ k, k ∉ ([0, 1] : List Nat) → Gf k = G k) → (∀ k, k ∉ ([0, 1, 2, 3, 4] : List Nat) → Jf k = J k) → va_P D vwCl (wC a kc F G I J Z) H → va_S (ad a 44 s.heap.size) s.heap H locs → lv_has ls 7 [(0, .ref (a 34)), (3, .long x3), (5, .int x5)] → W p l e rm_X7_mixPeople s m args below meth c H locs 0 0 (MQ below (Ql D (wC a kc Ff Gf I Jf Z) r (ad a 44 s.heap.size)) args s 0 0 (ad a 44 s.heap.size)) (F0 m 5 ls []) := by
  intro n
  induction n with
  | zero => intro F G J x3 x5 H locs ls hf hfF hfG hfJ hP hS hl; exact (nos hf).elim
  | succ n ih => exact t_X7_mixPeople_b5x X ih
set_option maxHeartbeats 4000000 in
set_option maxRecDepth 100000 in
theorem t_X7_mixPeople_b0 {p : Program} {l : Launch} {e : Env} {s : State} {m : MethodId} {args : Array Value} {below : List Frame} {meth : Method} {c : Code} {D : va_G} {a : Nat → Nat} {kc : Nat → ClassId} (X : cx 44 p s m args meth c D (tyC kc) a cX7_mixPeople 7 RX7 (some .long)) {I : Nat → Nat → Int32} {Z : Nat → Nat → Nat → Int32} {Ff : Nat → Int32} {Gf : Nat → Int64} {Jf : Nat → Nat → Int64} {r : Int64} :
    ∀ (F : Nat → Int32) (G : Nat → Int64) (J : Nat → Nat → Int64) (x1 : Int64) (H : Heap) (locs : List Loc) (ls : Array Slot), p_X7_mixPeople_b0 (F 0) (F 2) (F 3) (G 0) (G 1) (I 2) (I 4) (I 5) (I 6) (J 0) (J 1) (J 2) (J 3) (J 4) x1 = some (r, (Ff 3), (Gf 0), (Gf 1), (Jf 0), (Jf 1), (Jf 2), (Jf 3), (Jf 4)) → (∀ k, k ∉ ([3] : List Nat) → Ff k = F k) → (∀ k, k ∉ ([0, 1] : List Nat) → Gf k = G k) → (∀ k, k ∉ ([0, 1, 2, 3, 4] : List Nat) → Jf k = J k) → va_P D vwCl (wC a kc F G I J Z) H → va_S (ad a 44 s.heap.size) s.heap H locs → lv_has ls 7 [(0, .ref (a 34)), (1, .long x1)] → W p l e rm_X7_mixPeople s m args below meth c H locs 0 0 (MQ below (Ql D (wC a kc Ff Gf I Jf Z) r (ad a 44 s.heap.size)) args s 0 0 (ad a 44 s.heap.size)) (F0 m 0 ls []) := by
  intro F G J x1 H locs ls hf hfF hfG hfJ hP hS hl
  unfold p_X7_mixPeople_b0 at hf
  refine lv_lload_n X.1 X.2.1 dX7_mixPeople_0 rfl (lv_at hl 1 rfl) ?_
  refine lv_lstore_n (lv' := [(3, .long x1), (0, .ref (a 34)), (1, .long x1)]) X.1 X.2.1 dX7_mixPeople_1 rfl hl (by decide) rfl (fun ls hl => ?_)
  refine lv_iconst (v := 0) X.1 X.2.1 dX7_mixPeople_2 (by decide) ?_
  refine lv_istore (lv' := [(5, .int 0), (3, .long x1), (0, .ref (a 34)), (1, .long x1)]) X.1 X.2.1 dX7_mixPeople_3 hl (by decide) rfl (fun ls hl => ?_)
  exact t_X7_mixPeople_b5 X 4096 F G J x1 0 H locs ls hf hfF hfG hfJ hP hS (lv_sub hl [2, 1, 0] rfl)
set_option maxRecDepth 100000 in
theorem c_X7_mixPeople {l : Launch} {D : va_G} {a : Nat → Nat} {kc : Nat → ClassId} (F : Nat → Int32) (G : Nat → Int64) (I : Nat → Nat → Int32) (J : Nat → Nat → Int64) (Z : Nat → Nat → Nat → Int32) (hAp : ∀ i j, i < 44 → j < 44 → a i = a j → i = j) (x1 : Int64) {o0 : Int64} {o1 : Int32} {o2 : Int64} {o3 : Int64} {o4 : Nat → Int64} {o5 : Nat → Int64} {o6 : Nat → Int64} {o7 : Nat → Int64} {o8 : Nat → Int64} (hf : p_X7_mixPeople (F 0) (F 2) (F 3) (G 0) (G 1) (I 2) (I 4) (I 5) (I 6) (J 0) (J 1) (J 2) (J 3) (J 4) x1 = some (o0, o1, o2, o3, o4, o5, o6, o7, o8)) : Ct 44 l yX7_mixPeople cX7_mixPeople 7 (some .long) rm_X7_mixPeople D (tyC kc) a (wC a kc F G I J Z) [.ref (a 34), .long x1] (Ql D (wC a kc (va_up F 3 o1) (va_up (va_up G 0 o2) 1 o3) I (va_up (va_up (va_up (va_up (va_up J 0 o4) 1 o5) 2 o6) 3 o7) 4 o8) Z) o0) :=
  Ct.of (by decide +kernel) hAp (Nat.le_of_ble_eq_true rfl) (fun p e s m args below meth c ls X hP hl => t_X7_mixPeople_b0 X F G J x1 _ _ _ hf (frm_ul (fun k _ => rfl) (by decide)) (frm_ul (frm_ul (fun k _ => rfl) (by decide)) (by decide)) (frm_ul (frm_ul (frm_ul (frm_ul (frm_ul (fun k _ => rfl) (by decide)) (by decide)) (by decide)) (by decide)) (by decide)) hP va_S.rf hl)
abbrev rm_X7_digest : Room := { frames := 15, cells := 0, slots := 0, locals := 421 }
set_option maxHeartbeats 4000000 in
set_option maxRecDepth 100000 in
theorem t_X7_digest_b6x {p : Program} {l : Launch} {e : Env} {s : State} {m : MethodId} {args : Array Value} {below : List Frame} {meth : Method} {c : Code} {D : va_G} {a : Nat → Nat} {kc : Nat → ClassId} (X : cx 44 p s m args meth c D (tyC kc) a cX7_digest 4 RX7 (some .long)) {Z : Nat → Nat → Nat → Int32} {Ff : Nat → Int32} {Gf : Nat → Int64} {If : Nat → Nat → Int32} {Jf : Nat → Nat → Int64} {r : Int64} {K6 : Int32 → Int32 → Int32 → Int32 → Int32 → Int32 → Int32 → Int32 → Int32 → Int32 → Int32 → Int64 → Int64 → Int64 → Int64 → (Nat → Int32) → (Nat → Int32) → (Nat → Int32) → (Nat → Int32) → (Nat → Int32) → (Nat → Int32) → (Nat → Int32) → (Nat → Int32) → (Nat → Int32) → (Nat → Int32) → (Nat → Int32) → (Nat → Int32) → (Nat → Int32) → (Nat → Int32) → (Nat → Int32) → (Nat → Int64) → (Nat → Int64) → (Nat → Int64) → (Nat → Int64) → (Nat → Int64) → (Nat → Int64) → (Nat → Int64) → (Nat → Int64) → (Nat → Int64) → Int64 → Int32 → Option (Int64 × Int32 × Int32 × Int32 × Int32 × Int32 × Int32 × Int64 × Int64 × Int64 × Int64 × (Nat → Int32) × (Nat → Int32) × (Nat → Int32) × (Nat → Int32) × (Nat → Int32) × (Nat → Int32) × (Nat → Int64) × (Nat → Int64) × (Nat → Int64) × (Nat → Int64) × (Nat → Int64) × (Nat → Int64) × (Nat → Int64) × (Nat → Int64) × (Nat → Int64))} (kh6 : ∀ (F : Nat → Int32) (G : Nat → Int64) (I : Nat → Nat → Int32) (J : Nat → Nat → Int64) (x1 : Int64) (x3 : Int32) (H : Heap) (locs : List Loc) (ls : Array Slot), K6 (F 0) (F 1) (F 2) (F 3) (F 4) (F 5) (F 6) (F 7) (F 8) (F 9) (F 13) (G 0) (G 1) (G 2) (G 3) (I 0) (I 1) (I 2) (I 3) (I 4) (I 5) (I 6) (I 7) (I 8) (I 9) (I 10) (I 11) (I 12) (I 13) (I 14) (J 0) (J 1) (J 2) (J 3) (J 4) (J 5) (J 6) (J 7) (J 8) x1 x3 = some (r, (Ff 3), (Ff 4), (Ff 6), (Ff 7), (Ff 8), (Ff 9), (Gf 0), (Gf 1), (Gf 2), (Gf 3), (If 7), (If 8), (If 11), (If 12), (If 13), (If 14), (Jf 0), (Jf 1), (Jf 2), (Jf 3), (Jf 4), (Jf 5), (Jf 6), (Jf 7), (Jf 8)) → (∀ k, k ∉ ([3, 4, 6, 7, 8, 9] : List Nat) → Ff k = F k) → (∀ k, k ∉ ([0, 1, 2, 3] : List Nat) → Gf k = G k) → (∀ k, k ∉ ([7, 8, 11, 12, 13, 14] : List Nat) → If k = I k) → (∀ k, k ∉ ([0, 1, 2, 3, 4, 5, 6, 7, 8] : List Nat) → Jf k = J k) → va_P D vwCl (wC a kc F G I J Z) H → va_S (ad a 44 s.heap.size) s.heap H locs → lv_has ls 4 [(0, .ref (a 34)), (1, .long x1), (3, .int x3)] → W p l e rm_X7_digest s m args below meth c H locs 0 0 (MQ below (Ql D (wC a kc Ff Gf If Jf Z) r (ad a 44 s.heap.size)) args s 0 0 (ad a 44 s.heap.size)) (F0 m 6 ls [])) :
    ∀ (F : Nat → Int32) (G : Nat → Int64) (I : Nat → Nat → Int32) (J : Nat → Nat → Int64) (x1 : Int64) (x3 : Int32) (H : Heap) (locs : List Loc) (ls : Array Slot), p_X7_digest_b6x K6 (F 0) (F 1) (F 2) (F 3) (F 4) (F 5) (F 6) (F 7) (F 8) (F 9) (F 13) (G 0) (G 1) (G 2) (G 3) (I 0) (I 1) (I 2) (I 3) (I 4) (I 5) (I 6) (I 7) (I 8) (I 9) (I 10) (I 11) (I 12) (I 13) (I 14) (J 0) (J 1) (J 2) (J 3) (J 4) (J 5) (J 6) (J 7) (J 8) x1 x3 = some (r, (Ff 3), (Ff 4), (Ff 6), (Ff 7), (Ff 8), (Ff 9), (Gf 0), (Gf 1), (Gf 2), (Gf 3), (If 7), (If 8), (If 11), (If 12), (If 13), (If 14), (Jf 0), (Jf 1), (Jf 2), (Jf 3), (Jf 4), (Jf 5), (Jf 6), (Jf 7), (Jf 8)) → (∀ k, k ∉ ([3, 4, 6, 7, 8, 9] : List Nat) → Ff k = F k) → (∀ k, k ∉ ([0, 1, 2, 3] : List Nat) → Gf k = G k) → (∀ k, k ∉ ([7, 8, 11, 12, 13, 14] : List Nat) → If k = I k) → (∀ k, k ∉ ([0, 1, 2, 3, 4, 5, 6, 7, 8] : List Nat) → Jf k = J k) → va_P D vwCl (wC a kc F G I J Z) H → va_S (ad a 44 s.heap.size) s.heap H locs → lv_has ls 4 [(0, .ref (a 34)), (1, .long x1), (3, .int x3)] → W p l e rm_X7_digest s m args below meth c H locs 0 0 (MQ below (Ql D (wC a kc Ff Gf If Jf Z) r (ad a 44 s.heap.size)) args s 0 0 (ad a 44 s.heap.size)) (F0 m 6 ls []) := by
  intro F G I J x1 x3 H locs ls hf hfF hfG hfI hfJ hP hS hl
  unfold p_X7_digest_b6x at hf
  refine lv_iload_n X.1 X.2.1 dX7_digest_6 rfl (lv_at hl 2 rfl) ?_
  refine lv_bipush (v := 7) X.1 X.2.1 dX7_digest_7 (by decide) ?_
  refine lv_icmp_gt (tgt := 31) X.1 X.2.1 dX7_digest_9 (by decide) (fun c9 => ?_) (fun c9 => ?_)
  · have hf := it_s hf c9
    refine lv_ldc2 (v := 31) X.1 X.2.1 X.2.2.2.2.1 (X.2.2.2.2.2.1 _ q_4_76) dX7_digest_31 ?_
    refine lv_lload_n X.1 X.2.1 dX7_digest_34 rfl (lv_at hl 1 rfl) ?_
    refine lv_lmul X.1 X.2.1 dX7_digest_35 ?_
    refine lv_aload_n X.1 X.2.1 dX7_digest_36 rfl (lv_at hl 0 rfl) ?_
    refine lv_iconst (v := 0) X.1 X.2.1 dX7_digest_37 (by decide) ?_
    obtain ⟨r38, ho, hf⟩ := b1_s hf
    refine call_vi (rest := [.long (31 * x1)]) X (c_X7_fault F G I J Z X.2.2.2.2.2.2.2.1 0 ho) q_4_78 q_2_113 q_2_114 q_1_1 q_2_115 ok_X7_fault rfl 34 rfl rfl ⟨Nat.le_of_ble_eq_true rfl, Nat.le_of_ble_eq_true rfl⟩ rfl rfl hl.1 rfl (Nat.le_of_ble_eq_true rfl) dX7_digest_38 hP hS (fun H locs hP hS => ?_)
    refine lv_i2l X.1 X.2.1 dX7_digest_41 rfl ?_
    refine lv_ladd X.1 X.2.1 dX7_digest_42 ?_
    refine nm_l hf (fun x43 hf => ?_)
    refine lv_lstore_n (lv' := [(1, .long x43), (0, .ref (a 34)), (3, .int x3)]) X.1 X.2.1 dX7_digest_43 rfl hl (by decide) rfl (fun ls hl => ?_)
    refine lv_ldc2 (v := 31) X.1 X.2.1 X.2.2.2.2.1 (X.2.2.2.2.2.1 _ q_4_76) dX7_digest_44 ?_
    refine lv_lload_n X.1 X.2.1 dX7_digest_47 rfl (lv_at hl 0 rfl) ?_
    refine lv_lmul X.1 X.2.1 dX7_digest_48 ?_
    refine lv_aload_n X.1 X.2.1 dX7_digest_49 rfl (lv_at hl 1 rfl) ?_
    refine lv_iconst (v := 1) X.1 X.2.1 dX7_digest_50 (by decide) ?_
    obtain ⟨r51, ho, hf⟩ := b1_s hf
    refine call_vi (rest := [.long (31 * x43)]) X (c_X7_fault F G I J Z X.2.2.2.2.2.2.2.1 1 ho) q_4_78 q_2_113 q_2_114 q_1_1 q_2_115 ok_X7_fault rfl 34 rfl rfl ⟨Nat.le_of_ble_eq_true rfl, Nat.le_of_ble_eq_true rfl⟩ rfl rfl hl.1 rfl (Nat.le_of_ble_eq_true rfl) dX7_digest_51 hP hS (fun H locs hP hS => ?_)
    refine lv_i2l X.1 X.2.1 dX7_digest_54 rfl ?_
    refine lv_ladd X.1 X.2.1 dX7_digest_55 ?_
    refine nm_l hf (fun x56 hf => ?_)
    refine lv_lstore_n (lv' := [(1, .long x56), (0, .ref (a 34)), (3, .int x3)]) X.1 X.2.1 dX7_digest_56 rfl hl (by decide) rfl (fun ls hl => ?_)
    refine lv_aload_n X.1 X.2.1 dX7_digest_57 rfl (lv_at hl 1 rfl) ?_
    refine lv_lload_n X.1 X.2.1 dX7_digest_58 rfl (lv_at hl 0 rfl) ?_
    obtain ⟨r59, C_ready_59, C_meanWrong_59, C_meanLooks_59, C_reach_59, C_sits_59, C_wrongs_59, C_free_59, C_wrongIn_59, ho, hf⟩ := b9_s hf
    refine call_vl (rest := []) X (c_X7_mixSeats F G I J Z X.2.2.2.2.2.2.2.1 x56 ho) q_4_79 q_4_81 qs_yX7_mixSeats q_1_1 q_4_82 ok_X7_mixSeats rfl 34 rfl rfl ⟨Nat.le_of_ble_eq_true rfl, Nat.le_of_ble_eq_true rfl⟩ rfl rfl hl.1 rfl (Nat.le_of_ble_eq_true rfl) dX7_digest_59 hP hS (fun H locs hP hS => ?_)
    refine lv_lstore_n (lv' := [(1, .long r59), (0, .ref (a 34)), (3, .int x3)]) X.1 X.2.1 dX7_digest_62 rfl hl (by decide) rfl (fun ls hl => ?_)
    refine lv_aload_n X.1 X.2.1 dX7_digest_63 rfl (lv_at hl 1 rfl) ?_
    refine lv_lload_n X.1 X.2.1 dX7_digest_64 rfl (lv_at hl 0 rfl) ?_
    obtain ⟨r65, C_ready_65, C_meanWrong_65, C_meanLooks_65, C_reach_65, C_sits_65, C_wrongs_65, C_free_65, C_wrongIn_65, ho, hf⟩ := b9_s hf
    refine call_vl (rest := []) X (c_X7_mixPeople (va_up F 3 C_ready_59) (va_up (va_up G 0 C_meanWrong_59) 1 C_meanLooks_59) I (va_up (va_up (va_up (va_up (va_up J 0 C_reach_59) 1 C_sits_59) 2 C_wrongs_59) 3 C_free_59) 4 C_wrongIn_59) Z X.2.2.2.2.2.2.2.1 r59 ho) q_4_88 q_4_90 qs_yX7_mixPeople q_1_1 q_4_91 ok_X7_mixPeople rfl 34 rfl rfl ⟨Nat.le_of_ble_eq_true rfl, Nat.le_of_ble_eq_true rfl⟩ rfl rfl hl.1 rfl (Nat.le_of_ble_eq_true rfl) dX7_digest_65 hP hS (fun H locs hP hS => ?_)
    refine lv_lstore_n (lv' := [(1, .long r65), (0, .ref (a 34)), (3, .int x3)]) X.1 X.2.1 dX7_digest_68 rfl hl (by decide) rfl (fun ls hl => ?_)
    refine lv_lload_n X.1 X.2.1 dX7_digest_69 rfl (lv_at hl 0 rfl) ?_
    refine lv_aload_n X.1 X.2.1 dX7_digest_70 rfl (lv_at hl 1 rfl) ?_
    refine lv_iconst (v := (-1)) X.1 X.2.1 dX7_digest_71 (by decide) ?_
    refine lv_iconst (v := 0) X.1 X.2.1 dX7_digest_72 (by decide) ?_
    obtain ⟨r73, C_ready_73, C_meanWrong_73, C_meanLooks_73, C_reach_73, C_sits_73, C_wrongs_73, C_free_73, C_wrongIn_73, ho, hf⟩ := b9_s hf
    refine call_vl (rest := [.long r65]) X (c_X7_wrong (va_up (va_up F 3 C_ready_59) 3 C_ready_65) (va_up (va_up (va_up (va_up G 0 C_meanWrong_59) 1 C_meanLooks_59) 0 C_meanWrong_65) 1 C_meanLooks_65) I (va_up (va_up (va_up (va_up (va_up (va_up (va_up (va_up (va_up (va_up J 0 C_reach_59) 1 C_sits_59) 2 C_wrongs_59) 3 C_free_59) 4 C_wrongIn_59) 0 C_reach_65) 1 C_sits_65) 2 C_wrongs_65) 3 C_free_65) 4 C_wrongIn_65) Z X.2.2.2.2.2.2.2.1 (-1) 0 ho) q_4_94 q_2_212 q_2_213 q_1_1 q_2_214 ok_X7_wrong rfl 34 rfl rfl ⟨Nat.le_of_ble_eq_true rfl, Nat.le_of_ble_eq_true rfl⟩ rfl rfl hl.1 rfl (Nat.le_of_ble_eq_true rfl) dX7_digest_73 hP hS (fun H locs hP hS => ?_)
    refine lv_aload_n X.1 X.2.1 dX7_digest_76 rfl (lv_at hl 1 rfl) ?_
    refine lv_iconst (v := (-1)) X.1 X.2.1 dX7_digest_77 (by decide) ?_
    refine lv_iconst (v := 1) X.1 X.2.1 dX7_digest_78 (by decide) ?_
    obtain ⟨r79, C_ready_79, C_meanWrong_79, C_meanLooks_79, C_reach_79, C_sits_79, C_wrongs_79, C_free_79, C_wrongIn_79, ho, hf⟩ := b9_s hf
    refine call_vl (rest := [.long r73, .long r65]) X (c_X7_wrong (va_up (va_up (va_up F 3 C_ready_59) 3 C_ready_65) 3 C_ready_73) (va_up (va_up (va_up (va_up (va_up (va_up G 0 C_meanWrong_59) 1 C_meanLooks_59) 0 C_meanWrong_65) 1 C_meanLooks_65) 0 C_meanWrong_73) 1 C_meanLooks_73) I (va_up (va_up (va_up (va_up (va_up (va_up (va_up (va_up (va_up (va_up (va_up (va_up (va_up (va_up (va_up J 0 C_reach_59) 1 C_sits_59) 2 C_wrongs_59) 3 C_free_59) 4 C_wrongIn_59) 0 C_reach_65) 1 C_sits_65) 2 C_wrongs_65) 3 C_free_65) 4 C_wrongIn_65) 0 C_reach_73) 1 C_sits_73) 2 C_wrongs_73) 3 C_free_73) 4 C_wrongIn_73) Z X.2.2.2.2.2.2.2.1 (-1) 1 ho) q_4_94 q_2_212 q_2_213 q_1_1 q_2_214 ok_X7_wrong rfl 34 rfl rfl ⟨Nat.le_of_ble_eq_true rfl, Nat.le_of_ble_eq_true rfl⟩ rfl rfl hl.1 rfl (Nat.le_of_ble_eq_true rfl) dX7_digest_79 hP hS (fun H locs hP hS => ?_)
    obtain ⟨r82, ho, hf⟩ := b1_s hf
    refine call_sl (rest := []) X (c_X7_mix r65 r73 r79 ho) q_4_85 q_4_86 q_1_1 q_4_87 ok_X7_mix rfl ⟨Nat.le_of_ble_eq_true rfl, Nat.le_of_ble_eq_true rfl⟩ rfl rfl hl.1 rfl (Nat.le_of_ble_eq_true rfl) dX7_digest_82 hP hS (fun H locs hP hS => ?_)
    refine lv_lstore_n (lv' := [(1, .long r82), (0, .ref (a 34)), (3, .int x3)]) X.1 X.2.1 dX7_digest_85 rfl hl (by decide) rfl (fun ls hl => ?_)
    refine lv_lload_n X.1 X.2.1 dX7_digest_86 rfl (lv_at hl 0 rfl) ?_
    refine lv_aload_n X.1 X.2.1 dX7_digest_87 rfl (lv_at hl 1 rfl) ?_
    refine lv_iconst (v := 0) X.1 X.2.1 dX7_digest_88 (by decide) ?_
    obtain ⟨r89, C_ready_89, C_meanWrong_89, C_meanLooks_89, C_reach_89, C_sits_89, C_wrongs_89, C_free_89, C_wrongIn_89, ho, hf⟩ := b9_s hf
    refine call_vl (rest := [.long r82]) X (c_X7_looks (va_up (va_up (va_up (va_up F 3 C_ready_59) 3 C_ready_65) 3 C_ready_73) 3 C_ready_79) (va_up (va_up (va_up (va_up (va_up (va_up (va_up (va_up G 0 C_meanWrong_59) 1 C_meanLooks_59) 0 C_meanWrong_65) 1 C_meanLooks_65) 0 C_meanWrong_73) 1 C_meanLooks_73) 0 C_meanWrong_79) 1 C_meanLooks_79) I (va_up (va_up (va_up (va_up (va_up (va_up (va_up (va_up (va_up (va_up (va_up (va_up (va_up (va_up (va_up (va_up (va_up (va_up (va_up (va_up J 0 C_reach_59) 1 C_sits_59) 2 C_wrongs_59) 3 C_free_59) 4 C_wrongIn_59) 0 C_reach_65) 1 C_sits_65) 2 C_wrongs_65) 3 C_free_65) 4 C_wrongIn_65) 0 C_reach_73) 1 C_sits_73) 2 C_wrongs_73) 3 C_free_73) 4 C_wrongIn_73) 0 C_reach_79) 1 C_sits_79) 2 C_wrongs_79) 3 C_free_79) 4 C_wrongIn_79) Z X.2.2.2.2.2.2.2.1 0 ho) q_4_95 q_2_220 q_2_221 q_1_1 q_2_222 ok_X7_looks rfl 34 rfl rfl ⟨Nat.le_of_ble_eq_true rfl, Nat.le_of_ble_eq_true rfl⟩ rfl rfl hl.1 rfl (Nat.le_of_ble_eq_true rfl) dX7_digest_89 hP hS (fun H locs hP hS => ?_)
    refine lv_aload_n X.1 X.2.1 dX7_digest_92 rfl (lv_at hl 1 rfl) ?_
    refine lv_iconst (v := 1) X.1 X.2.1 dX7_digest_93 (by decide) ?_
    obtain ⟨r94, C_ready_94, C_meanWrong_94, C_meanLooks_94, C_reach_94, C_sits_94, C_wrongs_94, C_free_94, C_wrongIn_94, ho, hf⟩ := b9_s hf
    refine call_vl (rest := [.long r89, .long r82]) X (c_X7_looks (va_up (va_up (va_up (va_up (va_up F 3 C_ready_59) 3 C_ready_65) 3 C_ready_73) 3 C_ready_79) 3 C_ready_89) (va_up (va_up (va_up (va_up (va_up (va_up (va_up (va_up (va_up (va_up G 0 C_meanWrong_59) 1 C_meanLooks_59) 0 C_meanWrong_65) 1 C_meanLooks_65) 0 C_meanWrong_73) 1 C_meanLooks_73) 0 C_meanWrong_79) 1 C_meanLooks_79) 0 C_meanWrong_89) 1 C_meanLooks_89) I (va_up (va_up (va_up (va_up (va_up (va_up (va_up (va_up (va_up (va_up (va_up (va_up (va_up (va_up (va_up (va_up (va_up (va_up (va_up (va_up (va_up (va_up (va_up (va_up (va_up J 0 C_reach_59) 1 C_sits_59) 2 C_wrongs_59) 3 C_free_59) 4 C_wrongIn_59) 0 C_reach_65) 1 C_sits_65) 2 C_wrongs_65) 3 C_free_65) 4 C_wrongIn_65) 0 C_reach_73) 1 C_sits_73) 2 C_wrongs_73) 3 C_free_73) 4 C_wrongIn_73) 0 C_reach_79) 1 C_sits_79) 2 C_wrongs_79) 3 C_free_79) 4 C_wrongIn_79) 0 C_reach_89) 1 C_sits_89) 2 C_wrongs_89) 3 C_free_89) 4 C_wrongIn_89) Z X.2.2.2.2.2.2.2.1 1 ho) q_4_95 q_2_220 q_2_221 q_1_1 q_2_222 ok_X7_looks rfl 34 rfl rfl ⟨Nat.le_of_ble_eq_true rfl, Nat.le_of_ble_eq_true rfl⟩ rfl rfl hl.1 rfl (Nat.le_of_ble_eq_true rfl) dX7_digest_94 hP hS (fun H locs hP hS => ?_)
    obtain ⟨r97, ho, hf⟩ := b1_s hf
    refine call_sl (rest := []) X (c_X7_mix r82 r89 r94 ho) q_4_85 q_4_86 q_1_1 q_4_87 ok_X7_mix rfl ⟨Nat.le_of_ble_eq_true rfl, Nat.le_of_ble_eq_true rfl⟩ rfl rfl hl.1 rfl (Nat.le_of_ble_eq_true rfl) dX7_digest_97 hP hS (fun H locs hP hS => ?_)
    refine lv_lstore_n (lv' := [(1, .long r97), (0, .ref (a 34)), (3, .int x3)]) X.1 X.2.1 dX7_digest_100 rfl hl (by decide) rfl (fun ls hl => ?_)
    refine lv_iconst (v := 1) X.1 X.2.1 dX7_digest_101 (by decide) ?_
    refine lv_aload_n X.1 X.2.1 dX7_digest_102 rfl (lv_at hl 1 rfl) ?_
    refine gC_34_0 X q_2_64 dX7_digest_103 hP ?_
    refine gC_0_10 (F := (va_up (va_up (va_up (va_up (va_up (va_up F 3 C_ready_59) 3 C_ready_65) 3 C_ready_73) 3 C_ready_79) 3 C_ready_89) 3 C_ready_94)) X (v := (F 2)) rfl q_1_93 dX7_digest_106 hP ?_
    refine lv_ishl X.1 X.2.1 dX7_digest_109 ?_
    refine lv_iconst (v := 1) X.1 X.2.1 dX7_digest_110 (by decide) ?_
    refine lv_isub X.1 X.2.1 dX7_digest_111 ?_
    refine nm_i hf (fun x112 hf => ?_)
    refine lv_istore_n (lv' := [(3, .int x112), (1, .long r97), (0, .ref (a 34))]) X.1 X.2.1 dX7_digest_112 rfl hl (by decide) rfl (fun ls hl => ?_)
    refine lv_lload_n X.1 X.2.1 dX7_digest_113 rfl (lv_at hl 1 rfl) ?_
    refine lv_aload_n X.1 X.2.1 dX7_digest_114 rfl (lv_at hl 2 rfl) ?_
    refine lv_aload_n X.1 X.2.1 dX7_digest_115 rfl (lv_at hl 2 rfl) ?_
    refine gC_34_0 X q_2_64 dX7_digest_116 hP ?_
    refine gC_0_10 (F := (va_up (va_up (va_up (va_up (va_up (va_up F 3 C_ready_59) 3 C_ready_65) 3 C_ready_73) 3 C_ready_79) 3 C_ready_89) 3 C_ready_94)) X (v := (F 2)) rfl q_1_93 dX7_digest_119 hP ?_
    refine lv_iload_n X.1 X.2.1 dX7_digest_122 rfl (lv_at hl 0 rfl) ?_
    refine lv_iconst (v := 0) X.1 X.2.1 dX7_digest_123 (by decide) ?_
    obtain ⟨r124, C_ready_124, C_meanWrong_124, C_meanLooks_124, C_reach_124, C_sits_124, C_wrongs_124, C_free_124, C_wrongIn_124, ho, hf⟩ := b9_s hf
    refine call_vl (rest := [.long r97]) X (c_X7_taken (va_up (va_up (va_up (va_up (va_up (va_up F 3 C_ready_59) 3 C_ready_65) 3 C_ready_73) 3 C_ready_79) 3 C_ready_89) 3 C_ready_94) (va_up (va_up (va_up (va_up (va_up (va_up (va_up (va_up (va_up (va_up (va_up (va_up G 0 C_meanWrong_59) 1 C_meanLooks_59) 0 C_meanWrong_65) 1 C_meanLooks_65) 0 C_meanWrong_73) 1 C_meanLooks_73) 0 C_meanWrong_79) 1 C_meanLooks_79) 0 C_meanWrong_89) 1 C_meanLooks_89) 0 C_meanWrong_94) 1 C_meanLooks_94) I (va_up (va_up (va_up (va_up (va_up (va_up (va_up (va_up (va_up (va_up (va_up (va_up (va_up (va_up (va_up (va_up (va_up (va_up (va_up (va_up (va_up (va_up (va_up (va_up (va_up (va_up (va_up (va_up (va_up (va_up J 0 C_reach_59) 1 C_sits_59) 2 C_wrongs_59) 3 C_free_59) 4 C_wrongIn_59) 0 C_reach_65) 1 C_sits_65) 2 C_wrongs_65) 3 C_free_65) 4 C_wrongIn_65) 0 C_reach_73) 1 C_sits_73) 2 C_wrongs_73) 3 C_free_73) 4 C_wrongIn_73) 0 C_reach_79) 1 C_sits_79) 2 C_wrongs_79) 3 C_free_79) 4 C_wrongIn_79) 0 C_reach_89) 1 C_sits_89) 2 C_wrongs_89) 3 C_free_89) 4 C_wrongIn_89) 0 C_reach_94) 1 C_sits_94) 2 C_wrongs_94) 3 C_free_94) 4 C_wrongIn_94) Z X.2.2.2.2.2.2.2.1 (F 2) x112 0 ho) q_4_96 q_2_206 q_2_207 q_1_1 q_2_208 ok_X7_taken rfl 34 rfl rfl ⟨Nat.le_of_ble_eq_true rfl, Nat.le_of_ble_eq_true rfl⟩ rfl rfl hl.1 rfl (Nat.le_of_ble_eq_true rfl) dX7_digest_124 hP hS (fun H locs hP hS => ?_)
    refine lv_aload_n X.1 X.2.1 dX7_digest_127 rfl (lv_at hl 2 rfl) ?_
    refine lv_aload_n X.1 X.2.1 dX7_digest_128 rfl (lv_at hl 2 rfl) ?_
    refine gC_34_0 X q_2_64 dX7_digest_129 hP ?_
    refine gC_0_10 (F := (va_up (va_up (va_up (va_up (va_up (va_up (va_up F 3 C_ready_59) 3 C_ready_65) 3 C_ready_73) 3 C_ready_79) 3 C_ready_89) 3 C_ready_94) 3 C_ready_124)) X (v := (F 2)) rfl q_1_93 dX7_digest_132 hP ?_
    refine lv_iload_n X.1 X.2.1 dX7_digest_135 rfl (lv_at hl 0 rfl) ?_
    refine lv_iconst (v := 1) X.1 X.2.1 dX7_digest_136 (by decide) ?_
    obtain ⟨r137, C_ready_137, C_meanWrong_137, C_meanLooks_137, C_reach_137, C_sits_137, C_wrongs_137, C_free_137, C_wrongIn_137, ho, hf⟩ := b9_s hf
    refine call_vl (rest := [.long r124, .long r97]) X (c_X7_taken (va_up (va_up (va_up (va_up (va_up (va_up (va_up F 3 C_ready_59) 3 C_ready_65) 3 C_ready_73) 3 C_ready_79) 3 C_ready_89) 3 C_ready_94) 3 C_ready_124) (va_up (va_up (va_up (va_up (va_up (va_up (va_up (va_up (va_up (va_up (va_up (va_up (va_up (va_up G 0 C_meanWrong_59) 1 C_meanLooks_59) 0 C_meanWrong_65) 1 C_meanLooks_65) 0 C_meanWrong_73) 1 C_meanLooks_73) 0 C_meanWrong_79) 1 C_meanLooks_79) 0 C_meanWrong_89) 1 C_meanLooks_89) 0 C_meanWrong_94) 1 C_meanLooks_94) 0 C_meanWrong_124) 1 C_meanLooks_124) I (va_up (va_up (va_up (va_up (va_up (va_up (va_up (va_up (va_up (va_up (va_up (va_up (va_up (va_up (va_up (va_up (va_up (va_up (va_up (va_up (va_up (va_up (va_up (va_up (va_up (va_up (va_up (va_up (va_up (va_up (va_up (va_up (va_up (va_up (va_up J 0 C_reach_59) 1 C_sits_59) 2 C_wrongs_59) 3 C_free_59) 4 C_wrongIn_59) 0 C_reach_65) 1 C_sits_65) 2 C_wrongs_65) 3 C_free_65) 4 C_wrongIn_65) 0 C_reach_73) 1 C_sits_73) 2 C_wrongs_73) 3 C_free_73) 4 C_wrongIn_73) 0 C_reach_79) 1 C_sits_79) 2 C_wrongs_79) 3 C_free_79) 4 C_wrongIn_79) 0 C_reach_89) 1 C_sits_89) 2 C_wrongs_89) 3 C_free_89) 4 C_wrongIn_89) 0 C_reach_94) 1 C_sits_94) 2 C_wrongs_94) 3 C_free_94) 4 C_wrongIn_94) 0 C_reach_124) 1 C_sits_124) 2 C_wrongs_124) 3 C_free_124) 4 C_wrongIn_124) Z X.2.2.2.2.2.2.2.1 (F 2) x112 1 ho) q_4_96 q_2_206 q_2_207 q_1_1 q_2_208 ok_X7_taken rfl 34 rfl rfl ⟨Nat.le_of_ble_eq_true rfl, Nat.le_of_ble_eq_true rfl⟩ rfl rfl hl.1 rfl (Nat.le_of_ble_eq_true rfl) dX7_digest_137 hP hS (fun H locs hP hS => ?_)
    obtain ⟨r140, ho, hf⟩ := b1_s hf
    refine call_sl (rest := []) X (c_X7_mix r97 r124 r137 ho) q_4_85 q_4_86 q_1_1 q_4_87 ok_X7_mix rfl ⟨Nat.le_of_ble_eq_true rfl, Nat.le_of_ble_eq_true rfl⟩ rfl rfl hl.1 rfl (Nat.le_of_ble_eq_true rfl) dX7_digest_140 hP hS (fun H locs hP hS => ?_)
    refine lv_lstore_n (lv' := [(1, .long r140), (3, .int x112), (0, .ref (a 34))]) X.1 X.2.1 dX7_digest_143 rfl hl (by decide) rfl (fun ls hl => ?_)
    refine lv_lload_n X.1 X.2.1 dX7_digest_144 rfl (lv_at hl 0 rfl) ?_
    refine lv_aload_n X.1 X.2.1 dX7_digest_145 rfl (lv_at hl 2 rfl) ?_
    refine lv_iconst (v := 0) X.1 X.2.1 dX7_digest_146 (by decide) ?_
    obtain ⟨r147, D_ready_147, D_least_147, D_best_147, D_row_147, D_reach_147, D_takenBehind_147, ho, hf⟩ := b7_s hf
    refine call_vl (rest := [.long r140]) X (c_X7_best (va_up (va_up (va_up (va_up (va_up (va_up (va_up (va_up F 3 C_ready_59) 3 C_ready_65) 3 C_ready_73) 3 C_ready_79) 3 C_ready_89) 3 C_ready_94) 3 C_ready_124) 3 C_ready_137) (va_up (va_up (va_up (va_up (va_up (va_up (va_up (va_up (va_up (va_up (va_up (va_up (va_up (va_up (va_up (va_up G 0 C_meanWrong_59) 1 C_meanLooks_59) 0 C_meanWrong_65) 1 C_meanLooks_65) 0 C_meanWrong_73) 1 C_meanLooks_73) 0 C_meanWrong_79) 1 C_meanLooks_79) 0 C_meanWrong_89) 1 C_meanLooks_89) 0 C_meanWrong_94) 1 C_meanLooks_94) 0 C_meanWrong_124) 1 C_meanLooks_124) 0 C_meanWrong_137) 1 C_meanLooks_137) I (va_up (va_up (va_up (va_up (va_up (va_up (va_up (va_up (va_up (va_up (va_up (va_up (va_up (va_up (va_up (va_up (va_up (va_up (va_up (va_up (va_up (va_up (va_up (va_up (va_up (va_up (va_up (va_up (va_up (va_up (va_up (va_up (va_up (va_up (va_up (va_up (va_up (va_up (va_up (va_up J 0 C_reach_59) 1 C_sits_59) 2 C_wrongs_59) 3 C_free_59) 4 C_wrongIn_59) 0 C_reach_65) 1 C_sits_65) 2 C_wrongs_65) 3 C_free_65) 4 C_wrongIn_65) 0 C_reach_73) 1 C_sits_73) 2 C_wrongs_73) 3 C_free_73) 4 C_wrongIn_73) 0 C_reach_79) 1 C_sits_79) 2 C_wrongs_79) 3 C_free_79) 4 C_wrongIn_79) 0 C_reach_89) 1 C_sits_89) 2 C_wrongs_89) 3 C_free_89) 4 C_wrongIn_89) 0 C_reach_94) 1 C_sits_94) 2 C_wrongs_94) 3 C_free_94) 4 C_wrongIn_94) 0 C_reach_124) 1 C_sits_124) 2 C_wrongs_124) 3 C_free_124) 4 C_wrongIn_124) 0 C_reach_137) 1 C_sits_137) 2 C_wrongs_137) 3 C_free_137) 4 C_wrongIn_137) Z X.2.2.2.2.2.2.2.1 0 ho) q_4_97 q_3_90 q_3_91 q_1_1 q_3_92 ok_X7_best rfl 34 rfl rfl ⟨Nat.le_of_ble_eq_true rfl, Nat.le_of_ble_eq_true rfl⟩ rfl rfl hl.1 rfl (Nat.le_of_ble_eq_true rfl) dX7_digest_147 hP hS (fun H locs hP hS => ?_)
    refine lv_aload_n X.1 X.2.1 dX7_digest_150 rfl (lv_at hl 2 rfl) ?_
    refine lv_iconst (v := 1) X.1 X.2.1 dX7_digest_151 (by decide) ?_
    obtain ⟨r152, D_ready_152, D_least_152, D_best_152, D_row_152, D_reach_152, D_takenBehind_152, ho, hf⟩ := b7_s hf
    refine call_vl (rest := [.long r147, .long r140]) X (c_X7_best (va_up (va_up (va_up (va_up (va_up (va_up (va_up (va_up (va_up F 3 C_ready_59) 3 C_ready_65) 3 C_ready_73) 3 C_ready_79) 3 C_ready_89) 3 C_ready_94) 3 C_ready_124) 3 C_ready_137) 4 D_ready_147) (va_up (va_up (va_up (va_up (va_up (va_up (va_up (va_up (va_up (va_up (va_up (va_up (va_up (va_up (va_up (va_up (va_up G 0 C_meanWrong_59) 1 C_meanLooks_59) 0 C_meanWrong_65) 1 C_meanLooks_65) 0 C_meanWrong_73) 1 C_meanLooks_73) 0 C_meanWrong_79) 1 C_meanLooks_79) 0 C_meanWrong_89) 1 C_meanLooks_89) 0 C_meanWrong_94) 1 C_meanLooks_94) 0 C_meanWrong_124) 1 C_meanLooks_124) 0 C_meanWrong_137) 1 C_meanLooks_137) 2 D_least_147) (va_up (va_up I 7 D_best_147) 8 D_row_147) (va_up (va_up (va_up (va_up (va_up (va_up (va_up (va_up (va_up (va_up (va_up (va_up (va_up (va_up (va_up (va_up (va_up (va_up (va_up (va_up (va_up (va_up (va_up (va_up (va_up (va_up (va_up (va_up (va_up (va_up (va_up (va_up (va_up (va_up (va_up (va_up (va_up (va_up (va_up (va_up (va_up (va_up J 0 C_reach_59) 1 C_sits_59) 2 C_wrongs_59) 3 C_free_59) 4 C_wrongIn_59) 0 C_reach_65) 1 C_sits_65) 2 C_wrongs_65) 3 C_free_65) 4 C_wrongIn_65) 0 C_reach_73) 1 C_sits_73) 2 C_wrongs_73) 3 C_free_73) 4 C_wrongIn_73) 0 C_reach_79) 1 C_sits_79) 2 C_wrongs_79) 3 C_free_79) 4 C_wrongIn_79) 0 C_reach_89) 1 C_sits_89) 2 C_wrongs_89) 3 C_free_89) 4 C_wrongIn_89) 0 C_reach_94) 1 C_sits_94) 2 C_wrongs_94) 3 C_free_94) 4 C_wrongIn_94) 0 C_reach_124) 1 C_sits_124) 2 C_wrongs_124) 3 C_free_124) 4 C_wrongIn_124) 0 C_reach_137) 1 C_sits_137) 2 C_wrongs_137) 3 C_free_137) 4 C_wrongIn_137) 5 D_reach_147) 6 D_takenBehind_147) Z X.2.2.2.2.2.2.2.1 1 ho) q_4_97 q_3_90 q_3_91 q_1_1 q_3_92 ok_X7_best rfl 34 rfl rfl ⟨Nat.le_of_ble_eq_true rfl, Nat.le_of_ble_eq_true rfl⟩ rfl rfl hl.1 rfl (Nat.le_of_ble_eq_true rfl) dX7_digest_152 hP hS (fun H locs hP hS => ?_)
    obtain ⟨r155, ho, hf⟩ := b1_s hf
    refine call_sl (rest := []) X (c_X7_mix r140 r147 r152 ho) q_4_85 q_4_86 q_1_1 q_4_87 ok_X7_mix rfl ⟨Nat.le_of_ble_eq_true rfl, Nat.le_of_ble_eq_true rfl⟩ rfl rfl hl.1 rfl (Nat.le_of_ble_eq_true rfl) dX7_digest_155 hP hS (fun H locs hP hS => ?_)
    refine lv_lstore_n (lv' := [(1, .long r155), (3, .int x112), (0, .ref (a 34))]) X.1 X.2.1 dX7_digest_158 rfl hl (by decide) rfl (fun ls hl => ?_)
    refine lv_lload_n X.1 X.2.1 dX7_digest_159 rfl (lv_at hl 0 rfl) ?_
    refine lv_aload_n X.1 X.2.1 dX7_digest_160 rfl (lv_at hl 2 rfl) ?_
    obtain ⟨r161, W_suspects_161, W_ready_161, W_total_161, W_allowed_161, W_kinds_161, W_answers_161, W_weights_161, W_reach_161, ho, hf⟩ := b9_s hf
    refine call_vi (rest := [.long r155]) X (c_X7_losers (va_up (va_up (va_up (va_up (va_up (va_up (va_up (va_up (va_up (va_up F 3 C_ready_59) 3 C_ready_65) 3 C_ready_73) 3 C_ready_79) 3 C_ready_89) 3 C_ready_94) 3 C_ready_124) 3 C_ready_137) 4 D_ready_147) 4 D_ready_152) (va_up (va_up (va_up (va_up (va_up (va_up (va_up (va_up (va_up (va_up (va_up (va_up (va_up (va_up (va_up (va_up (va_up (va_up G 0 C_meanWrong_59) 1 C_meanLooks_59) 0 C_meanWrong_65) 1 C_meanLooks_65) 0 C_meanWrong_73) 1 C_meanLooks_73) 0 C_meanWrong_79) 1 C_meanLooks_79) 0 C_meanWrong_89) 1 C_meanLooks_89) 0 C_meanWrong_94) 1 C_meanLooks_94) 0 C_meanWrong_124) 1 C_meanLooks_124) 0 C_meanWrong_137) 1 C_meanLooks_137) 2 D_least_147) 2 D_least_152) (va_up (va_up (va_up (va_up I 7 D_best_147) 8 D_row_147) 7 D_best_152) 8 D_row_152) (va_up (va_up (va_up (va_up (va_up (va_up (va_up (va_up (va_up (va_up (va_up (va_up (va_up (va_up (va_up (va_up (va_up (va_up (va_up (va_up (va_up (va_up (va_up (va_up (va_up (va_up (va_up (va_up (va_up (va_up (va_up (va_up (va_up (va_up (va_up (va_up (va_up (va_up (va_up (va_up (va_up (va_up (va_up (va_up J 0 C_reach_59) 1 C_sits_59) 2 C_wrongs_59) 3 C_free_59) 4 C_wrongIn_59) 0 C_reach_65) 1 C_sits_65) 2 C_wrongs_65) 3 C_free_65) 4 C_wrongIn_65) 0 C_reach_73) 1 C_sits_73) 2 C_wrongs_73) 3 C_free_73) 4 C_wrongIn_73) 0 C_reach_79) 1 C_sits_79) 2 C_wrongs_79) 3 C_free_79) 4 C_wrongIn_79) 0 C_reach_89) 1 C_sits_89) 2 C_wrongs_89) 3 C_free_89) 4 C_wrongIn_89) 0 C_reach_94) 1 C_sits_94) 2 C_wrongs_94) 3 C_free_94) 4 C_wrongIn_94) 0 C_reach_124) 1 C_sits_124) 2 C_wrongs_124) 3 C_free_124) 4 C_wrongIn_124) 0 C_reach_137) 1 C_sits_137) 2 C_wrongs_137) 3 C_free_137) 4 C_wrongIn_137) 5 D_reach_147) 6 D_takenBehind_147) 5 D_reach_152) 6 D_takenBehind_152) Z X.2.2.2.2.2.2.2.1  ho) q_4_98 q_3_143 q_3_144 q_1_1 q_3_145 ok_X7_losers rfl 34 rfl rfl ⟨Nat.le_of_ble_eq_true rfl, Nat.le_of_ble_eq_true rfl⟩ rfl rfl hl.1 rfl (Nat.le_of_ble_eq_true rfl) dX7_digest_161 hP hS (fun H locs hP hS => ?_)
    refine lv_i2l X.1 X.2.1 dX7_digest_164 rfl ?_
    refine lv_aload_n X.1 X.2.1 dX7_digest_165 rfl (lv_at hl 2 rfl) ?_
    obtain ⟨r166, W_suspects_166, W_ready_166, W_total_166, W_allowed_166, W_kinds_166, W_answers_166, W_weights_166, W_reach_166, ho, hf⟩ := b9_s hf
    refine call_vi (rest := [.long r161.toInt64, .long r155]) X (c_X7_likeliest (va_up (va_up (va_up (va_up (va_up (va_up (va_up (va_up (va_up (va_up (va_up (va_up F 3 C_ready_59) 3 C_ready_65) 3 C_ready_73) 3 C_ready_79) 3 C_ready_89) 3 C_ready_94) 3 C_ready_124) 3 C_ready_137) 4 D_ready_147) 4 D_ready_152) 6 W_suspects_161) 7 W_ready_161) (va_up (va_up (va_up (va_up (va_up (va_up (va_up (va_up (va_up (va_up (va_up (va_up (va_up (va_up (va_up (va_up (va_up (va_up (va_up G 0 C_meanWrong_59) 1 C_meanLooks_59) 0 C_meanWrong_65) 1 C_meanLooks_65) 0 C_meanWrong_73) 1 C_meanLooks_73) 0 C_meanWrong_79) 1 C_meanLooks_79) 0 C_meanWrong_89) 1 C_meanLooks_89) 0 C_meanWrong_94) 1 C_meanLooks_94) 0 C_meanWrong_124) 1 C_meanLooks_124) 0 C_meanWrong_137) 1 C_meanLooks_137) 2 D_least_147) 2 D_least_152) 3 W_total_161) (va_up (va_up (va_up (va_up (va_up (va_up (va_up I 7 D_best_147) 8 D_row_147) 7 D_best_152) 8 D_row_152) 11 W_allowed_161) 12 W_kinds_161) 13 W_answers_161) (va_up (va_up (va_up (va_up (va_up (va_up (va_up (va_up (va_up (va_up (va_up (va_up (va_up (va_up (va_up (va_up (va_up (va_up (va_up (va_up (va_up (va_up (va_up (va_up (va_up (va_up (va_up (va_up (va_up (va_up (va_up (va_up (va_up (va_up (va_up (va_up (va_up (va_up (va_up (va_up (va_up (va_up (va_up (va_up (va_up (va_up J 0 C_reach_59) 1 C_sits_59) 2 C_wrongs_59) 3 C_free_59) 4 C_wrongIn_59) 0 C_reach_65) 1 C_sits_65) 2 C_wrongs_65) 3 C_free_65) 4 C_wrongIn_65) 0 C_reach_73) 1 C_sits_73) 2 C_wrongs_73) 3 C_free_73) 4 C_wrongIn_73) 0 C_reach_79) 1 C_sits_79) 2 C_wrongs_79) 3 C_free_79) 4 C_wrongIn_79) 0 C_reach_89) 1 C_sits_89) 2 C_wrongs_89) 3 C_free_89) 4 C_wrongIn_89) 0 C_reach_94) 1 C_sits_94) 2 C_wrongs_94) 3 C_free_94) 4 C_wrongIn_94) 0 C_reach_124) 1 C_sits_124) 2 C_wrongs_124) 3 C_free_124) 4 C_wrongIn_124) 0 C_reach_137) 1 C_sits_137) 2 C_wrongs_137) 3 C_free_137) 4 C_wrongIn_137) 5 D_reach_147) 6 D_takenBehind_147) 5 D_reach_152) 6 D_takenBehind_152) 7 W_weights_161) 8 W_reach_161) Z X.2.2.2.2.2.2.2.1  ho) q_4_99 q_3_195 q_3_196 q_1_1 q_3_197 ok_X7_likeliest rfl 34 rfl rfl ⟨Nat.le_of_ble_eq_true rfl, Nat.le_of_ble_eq_true rfl⟩ rfl rfl hl.1 rfl (Nat.le_of_ble_eq_true rfl) dX7_digest_166 hP hS (fun H locs hP hS => ?_)
    refine lv_i2l X.1 X.2.1 dX7_digest_169 rfl ?_
    obtain ⟨r170, ho, hf⟩ := b1_s hf
    refine call_sl (rest := []) X (c_X7_mix r155 r161.toInt64 r166.toInt64 ho) q_4_85 q_4_86 q_1_1 q_4_87 ok_X7_mix rfl ⟨Nat.le_of_ble_eq_true rfl, Nat.le_of_ble_eq_true rfl⟩ rfl rfl hl.1 rfl (Nat.le_of_ble_eq_true rfl) dX7_digest_170 hP hS (fun H locs hP hS => ?_)
    refine lv_lstore_n (lv' := [(1, .long r170), (3, .int x112), (0, .ref (a 34))]) X.1 X.2.1 dX7_digest_173 rfl hl (by decide) rfl (fun ls hl => ?_)
    refine lv_lload_n X.1 X.2.1 dX7_digest_174 rfl (lv_at hl 0 rfl) ?_
    refine lv_aload_n X.1 X.2.1 dX7_digest_175 rfl (lv_at hl 2 rfl) ?_
    refine lv_iconst (v := 0) X.1 X.2.1 dX7_digest_176 (by decide) ?_
    obtain ⟨r177, W_suspects_177, W_ready_177, W_total_177, W_allowed_177, W_kinds_177, W_answers_177, W_weights_177, W_reach_177, ho, hf⟩ := b9_s hf
    refine call_vi (rest := [.long r170]) X (c_X7_ask (va_up (va_up (va_up (va_up (va_up (va_up (va_up (va_up (va_up (va_up (va_up (va_up (va_up (va_up F 3 C_ready_59) 3 C_ready_65) 3 C_ready_73) 3 C_ready_79) 3 C_ready_89) 3 C_ready_94) 3 C_ready_124) 3 C_ready_137) 4 D_ready_147) 4 D_ready_152) 6 W_suspects_161) 7 W_ready_161) 6 W_suspects_166) 7 W_ready_166) (va_up (va_up (va_up (va_up (va_up (va_up (va_up (va_up (va_up (va_up (va_up (va_up (va_up (va_up (va_up (va_up (va_up (va_up (va_up (va_up G 0 C_meanWrong_59) 1 C_meanLooks_59) 0 C_meanWrong_65) 1 C_meanLooks_65) 0 C_meanWrong_73) 1 C_meanLooks_73) 0 C_meanWrong_79) 1 C_meanLooks_79) 0 C_meanWrong_89) 1 C_meanLooks_89) 0 C_meanWrong_94) 1 C_meanLooks_94) 0 C_meanWrong_124) 1 C_meanLooks_124) 0 C_meanWrong_137) 1 C_meanLooks_137) 2 D_least_147) 2 D_least_152) 3 W_total_161) 3 W_total_166) (va_up (va_up (va_up (va_up (va_up (va_up (va_up (va_up (va_up (va_up I 7 D_best_147) 8 D_row_147) 7 D_best_152) 8 D_row_152) 11 W_allowed_161) 12 W_kinds_161) 13 W_answers_161) 11 W_allowed_166) 12 W_kinds_166) 13 W_answers_166) (va_up (va_up (va_up (va_up (va_up (va_up (va_up (va_up (va_up (va_up (va_up (va_up (va_up (va_up (va_up (va_up (va_up (va_up (va_up (va_up (va_up (va_up (va_up (va_up (va_up (va_up (va_up (va_up (va_up (va_up (va_up (va_up (va_up (va_up (va_up (va_up (va_up (va_up (va_up (va_up (va_up (va_up (va_up (va_up (va_up (va_up (va_up (va_up J 0 C_reach_59) 1 C_sits_59) 2 C_wrongs_59) 3 C_free_59) 4 C_wrongIn_59) 0 C_reach_65) 1 C_sits_65) 2 C_wrongs_65) 3 C_free_65) 4 C_wrongIn_65) 0 C_reach_73) 1 C_sits_73) 2 C_wrongs_73) 3 C_free_73) 4 C_wrongIn_73) 0 C_reach_79) 1 C_sits_79) 2 C_wrongs_79) 3 C_free_79) 4 C_wrongIn_79) 0 C_reach_89) 1 C_sits_89) 2 C_wrongs_89) 3 C_free_89) 4 C_wrongIn_89) 0 C_reach_94) 1 C_sits_94) 2 C_wrongs_94) 3 C_free_94) 4 C_wrongIn_94) 0 C_reach_124) 1 C_sits_124) 2 C_wrongs_124) 3 C_free_124) 4 C_wrongIn_124) 0 C_reach_137) 1 C_sits_137) 2 C_wrongs_137) 3 C_free_137) 4 C_wrongIn_137) 5 D_reach_147) 6 D_takenBehind_147) 5 D_reach_152) 6 D_takenBehind_152) 7 W_weights_161) 8 W_reach_161) 7 W_weights_166) 8 W_reach_166) Z X.2.2.2.2.2.2.2.1 0 ho) q_4_100 q_3_203 q_3_204 q_1_1 q_3_205 ok_X7_ask rfl 34 rfl rfl ⟨Nat.le_of_ble_eq_true rfl, Nat.le_of_ble_eq_true rfl⟩ rfl rfl hl.1 rfl (Nat.le_of_ble_eq_true rfl) dX7_digest_177 hP hS (fun H locs hP hS => ?_)
    refine lv_i2l X.1 X.2.1 dX7_digest_180 rfl ?_
    refine lv_aload_n X.1 X.2.1 dX7_digest_181 rfl (lv_at hl 2 rfl) ?_
    refine lv_iconst (v := 1) X.1 X.2.1 dX7_digest_182 (by decide) ?_
    obtain ⟨r183, W_suspects_183, W_ready_183, W_total_183, W_allowed_183, W_kinds_183, W_answers_183, W_weights_183, W_reach_183, ho, hf⟩ := b9_s hf
    refine call_vi (rest := [.long r177.toInt64, .long r170]) X (c_X7_ask (va_up (va_up (va_up (va_up (va_up (va_up (va_up (va_up (va_up (va_up (va_up (va_up (va_up (va_up (va_up (va_up F 3 C_ready_59) 3 C_ready_65) 3 C_ready_73) 3 C_ready_79) 3 C_ready_89) 3 C_ready_94) 3 C_ready_124) 3 C_ready_137) 4 D_ready_147) 4 D_ready_152) 6 W_suspects_161) 7 W_ready_161) 6 W_suspects_166) 7 W_ready_166) 6 W_suspects_177) 7 W_ready_177) (va_up (va_up (va_up (va_up (va_up (va_up (va_up (va_up (va_up (va_up (va_up (va_up (va_up (va_up (va_up (va_up (va_up (va_up (va_up (va_up (va_up G 0 C_meanWrong_59) 1 C_meanLooks_59) 0 C_meanWrong_65) 1 C_meanLooks_65) 0 C_meanWrong_73) 1 C_meanLooks_73) 0 C_meanWrong_79) 1 C_meanLooks_79) 0 C_meanWrong_89) 1 C_meanLooks_89) 0 C_meanWrong_94) 1 C_meanLooks_94) 0 C_meanWrong_124) 1 C_meanLooks_124) 0 C_meanWrong_137) 1 C_meanLooks_137) 2 D_least_147) 2 D_least_152) 3 W_total_161) 3 W_total_166) 3 W_total_177) (va_up (va_up (va_up (va_up (va_up (va_up (va_up (va_up (va_up (va_up (va_up (va_up (va_up I 7 D_best_147) 8 D_row_147) 7 D_best_152) 8 D_row_152) 11 W_allowed_161) 12 W_kinds_161) 13 W_answers_161) 11 W_allowed_166) 12 W_kinds_166) 13 W_answers_166) 11 W_allowed_177) 12 W_kinds_177) 13 W_answers_177) (va_up (va_up (va_up (va_up (va_up (va_up (va_up (va_up (va_up (va_up (va_up (va_up (va_up (va_up (va_up (va_up (va_up (va_up (va_up (va_up (va_up (va_up (va_up (va_up (va_up (va_up (va_up (va_up (va_up (va_up (va_up (va_up (va_up (va_up (va_up (va_up (va_up (va_up (va_up (va_up (va_up (va_up (va_up (va_up (va_up (va_up (va_up (va_up (va_up (va_up J 0 C_reach_59) 1 C_sits_59) 2 C_wrongs_59) 3 C_free_59) 4 C_wrongIn_59) 0 C_reach_65) 1 C_sits_65) 2 C_wrongs_65) 3 C_free_65) 4 C_wrongIn_65) 0 C_reach_73) 1 C_sits_73) 2 C_wrongs_73) 3 C_free_73) 4 C_wrongIn_73) 0 C_reach_79) 1 C_sits_79) 2 C_wrongs_79) 3 C_free_79) 4 C_wrongIn_79) 0 C_reach_89) 1 C_sits_89) 2 C_wrongs_89) 3 C_free_89) 4 C_wrongIn_89) 0 C_reach_94) 1 C_sits_94) 2 C_wrongs_94) 3 C_free_94) 4 C_wrongIn_94) 0 C_reach_124) 1 C_sits_124) 2 C_wrongs_124) 3 C_free_124) 4 C_wrongIn_124) 0 C_reach_137) 1 C_sits_137) 2 C_wrongs_137) 3 C_free_137) 4 C_wrongIn_137) 5 D_reach_147) 6 D_takenBehind_147) 5 D_reach_152) 6 D_takenBehind_152) 7 W_weights_161) 8 W_reach_161) 7 W_weights_166) 8 W_reach_166) 7 W_weights_177) 8 W_reach_177) Z X.2.2.2.2.2.2.2.1 1 ho) q_4_100 q_3_203 q_3_204 q_1_1 q_3_205 ok_X7_ask rfl 34 rfl rfl ⟨Nat.le_of_ble_eq_true rfl, Nat.le_of_ble_eq_true rfl⟩ rfl rfl hl.1 rfl (Nat.le_of_ble_eq_true rfl) dX7_digest_183 hP hS (fun H locs hP hS => ?_)
    refine lv_i2l X.1 X.2.1 dX7_digest_186 rfl ?_
    obtain ⟨r187, ho, hf⟩ := b1_s hf
    refine call_sl (rest := []) X (c_X7_mix r170 r177.toInt64 r183.toInt64 ho) q_4_85 q_4_86 q_1_1 q_4_87 ok_X7_mix rfl ⟨Nat.le_of_ble_eq_true rfl, Nat.le_of_ble_eq_true rfl⟩ rfl rfl hl.1 rfl (Nat.le_of_ble_eq_true rfl) dX7_digest_187 hP hS (fun H locs hP hS => ?_)
    refine lv_lstore_n (lv' := [(1, .long r187), (3, .int x112), (0, .ref (a 34))]) X.1 X.2.1 dX7_digest_190 rfl hl (by decide) rfl (fun ls hl => ?_)
    refine lv_ldc2 (v := 31) X.1 X.2.1 X.2.2.2.2.1 (X.2.2.2.2.2.1 _ q_4_76) dX7_digest_191 ?_
    refine lv_lload_n X.1 X.2.1 dX7_digest_194 rfl (lv_at hl 0 rfl) ?_
    refine lv_lmul X.1 X.2.1 dX7_digest_195 ?_
    refine lv_aload_n X.1 X.2.1 dX7_digest_196 rfl (lv_at hl 2 rfl) ?_
    refine lv_bipush (v := 7) X.1 X.2.1 dX7_digest_197 (by decide) ?_
    refine lv_iconst (v := (-1)) X.1 X.2.1 dX7_digest_199 (by decide) ?_
    obtain ⟨r200, E_wrongs_200, E_state_200, E_places_200, ho, hf⟩ := b4_s hf
    refine call_vi (rest := [.long (31 * r187)]) X (c_X7_evening (va_up (va_up (va_up (va_up (va_up (va_up (va_up (va_up (va_up (va_up (va_up (va_up (va_up (va_up (va_up (va_up (va_up (va_up F 3 C_ready_59) 3 C_ready_65) 3 C_ready_73) 3 C_ready_79) 3 C_ready_89) 3 C_ready_94) 3 C_ready_124) 3 C_ready_137) 4 D_ready_147) 4 D_ready_152) 6 W_suspects_161) 7 W_ready_161) 6 W_suspects_166) 7 W_ready_166) 6 W_suspects_177) 7 W_ready_177) 6 W_suspects_183) 7 W_ready_183) (va_up (va_up (va_up (va_up (va_up (va_up (va_up (va_up (va_up (va_up (va_up (va_up (va_up (va_up (va_up (va_up (va_up (va_up (va_up (va_up (va_up (va_up G 0 C_meanWrong_59) 1 C_meanLooks_59) 0 C_meanWrong_65) 1 C_meanLooks_65) 0 C_meanWrong_73) 1 C_meanLooks_73) 0 C_meanWrong_79) 1 C_meanLooks_79) 0 C_meanWrong_89) 1 C_meanLooks_89) 0 C_meanWrong_94) 1 C_meanLooks_94) 0 C_meanWrong_124) 1 C_meanLooks_124) 0 C_meanWrong_137) 1 C_meanLooks_137) 2 D_least_147) 2 D_least_152) 3 W_total_161) 3 W_total_166) 3 W_total_177) 3 W_total_183) (va_up (va_up (va_up (va_up (va_up (va_up (va_up (va_up (va_up (va_up (va_up (va_up (va_up (va_up (va_up (va_up I 7 D_best_147) 8 D_row_147) 7 D_best_152) 8 D_row_152) 11 W_allowed_161) 12 W_kinds_161) 13 W_answers_161) 11 W_allowed_166) 12 W_kinds_166) 13 W_answers_166) 11 W_allowed_177) 12 W_kinds_177) 13 W_answers_177) 11 W_allowed_183) 12 W_kinds_183) 13 W_answers_183) (va_up (va_up (va_up (va_up (va_up (va_up (va_up (va_up (va_up (va_up (va_up (va_up (va_up (va_up (va_up (va_up (va_up (va_up (va_up (va_up (va_up (va_up (va_up (va_up (va_up (va_up (va_up (va_up (va_up (va_up (va_up (va_up (va_up (va_up (va_up (va_up (va_up (va_up (va_up (va_up (va_up (va_up (va_up (va_up (va_up (va_up (va_up (va_up (va_up (va_up (va_up (va_up J 0 C_reach_59) 1 C_sits_59) 2 C_wrongs_59) 3 C_free_59) 4 C_wrongIn_59) 0 C_reach_65) 1 C_sits_65) 2 C_wrongs_65) 3 C_free_65) 4 C_wrongIn_65) 0 C_reach_73) 1 C_sits_73) 2 C_wrongs_73) 3 C_free_73) 4 C_wrongIn_73) 0 C_reach_79) 1 C_sits_79) 2 C_wrongs_79) 3 C_free_79) 4 C_wrongIn_79) 0 C_reach_89) 1 C_sits_89) 2 C_wrongs_89) 3 C_free_89) 4 C_wrongIn_89) 0 C_reach_94) 1 C_sits_94) 2 C_wrongs_94) 3 C_free_94) 4 C_wrongIn_94) 0 C_reach_124) 1 C_sits_124) 2 C_wrongs_124) 3 C_free_124) 4 C_wrongIn_124) 0 C_reach_137) 1 C_sits_137) 2 C_wrongs_137) 3 C_free_137) 4 C_wrongIn_137) 5 D_reach_147) 6 D_takenBehind_147) 5 D_reach_152) 6 D_takenBehind_152) 7 W_weights_161) 8 W_reach_161) 7 W_weights_166) 8 W_reach_166) 7 W_weights_177) 8 W_reach_177) 7 W_weights_183) 8 W_reach_183) Z X.2.2.2.2.2.2.2.1 7 (-1) ho) q_4_101 q_3_226 q_3_227 q_1_1 q_3_228 ok_X7_evening rfl 34 rfl rfl ⟨Nat.le_of_ble_eq_true rfl, Nat.le_of_ble_eq_true rfl⟩ rfl rfl hl.1 rfl (Nat.le_of_ble_eq_true rfl) dX7_digest_200 hP hS (fun H locs hP hS => ?_)
    refine lv_i2l X.1 X.2.1 dX7_digest_203 rfl ?_
    refine lv_ladd X.1 X.2.1 dX7_digest_204 ?_
    refine nm_l hf (fun x205 hf => ?_)
    refine lv_lstore_n (lv' := [(1, .long x205), (3, .int x112), (0, .ref (a 34))]) X.1 X.2.1 dX7_digest_205 rfl hl (by decide) rfl (fun ls hl => ?_)
    refine lv_lload_n X.1 X.2.1 dX7_digest_206 rfl (lv_at hl 0 rfl) ?_
    refine lv_aload_n X.1 X.2.1 dX7_digest_207 rfl (lv_at hl 2 rfl) ?_
    refine lv_iconst (v := 5) X.1 X.2.1 dX7_digest_208 (by decide) ?_
    refine lv_iconst (v := 2) X.1 X.2.1 dX7_digest_209 (by decide) ?_
    refine lv_iconst (v := 0) X.1 X.2.1 dX7_digest_210 (by decide) ?_
    obtain ⟨r211, ho, hf⟩ := b1_s hf
    refine call_vl (rest := [.long x205]) X (c_X7_turned (va_up (va_up (va_up (va_up (va_up (va_up (va_up (va_up (va_up (va_up (va_up (va_up (va_up (va_up (va_up (va_up (va_up (va_up (va_up (va_up F 3 C_ready_59) 3 C_ready_65) 3 C_ready_73) 3 C_ready_79) 3 C_ready_89) 3 C_ready_94) 3 C_ready_124) 3 C_ready_137) 4 D_ready_147) 4 D_ready_152) 6 W_suspects_161) 7 W_ready_161) 6 W_suspects_166) 7 W_ready_166) 6 W_suspects_177) 7 W_ready_177) 6 W_suspects_183) 7 W_ready_183) 8 E_wrongs_200) 9 E_state_200) (va_up (va_up (va_up (va_up (va_up (va_up (va_up (va_up (va_up (va_up (va_up (va_up (va_up (va_up (va_up (va_up (va_up (va_up (va_up (va_up (va_up (va_up G 0 C_meanWrong_59) 1 C_meanLooks_59) 0 C_meanWrong_65) 1 C_meanLooks_65) 0 C_meanWrong_73) 1 C_meanLooks_73) 0 C_meanWrong_79) 1 C_meanLooks_79) 0 C_meanWrong_89) 1 C_meanLooks_89) 0 C_meanWrong_94) 1 C_meanLooks_94) 0 C_meanWrong_124) 1 C_meanLooks_124) 0 C_meanWrong_137) 1 C_meanLooks_137) 2 D_least_147) 2 D_least_152) 3 W_total_161) 3 W_total_166) 3 W_total_177) 3 W_total_183) (va_up (va_up (va_up (va_up (va_up (va_up (va_up (va_up (va_up (va_up (va_up (va_up (va_up (va_up (va_up (va_up (va_up I 7 D_best_147) 8 D_row_147) 7 D_best_152) 8 D_row_152) 11 W_allowed_161) 12 W_kinds_161) 13 W_answers_161) 11 W_allowed_166) 12 W_kinds_166) 13 W_answers_166) 11 W_allowed_177) 12 W_kinds_177) 13 W_answers_177) 11 W_allowed_183) 12 W_kinds_183) 13 W_answers_183) 14 E_places_200) (va_up (va_up (va_up (va_up (va_up (va_up (va_up (va_up (va_up (va_up (va_up (va_up (va_up (va_up (va_up (va_up (va_up (va_up (va_up (va_up (va_up (va_up (va_up (va_up (va_up (va_up (va_up (va_up (va_up (va_up (va_up (va_up (va_up (va_up (va_up (va_up (va_up (va_up (va_up (va_up (va_up (va_up (va_up (va_up (va_up (va_up (va_up (va_up (va_up (va_up (va_up (va_up J 0 C_reach_59) 1 C_sits_59) 2 C_wrongs_59) 3 C_free_59) 4 C_wrongIn_59) 0 C_reach_65) 1 C_sits_65) 2 C_wrongs_65) 3 C_free_65) 4 C_wrongIn_65) 0 C_reach_73) 1 C_sits_73) 2 C_wrongs_73) 3 C_free_73) 4 C_wrongIn_73) 0 C_reach_79) 1 C_sits_79) 2 C_wrongs_79) 3 C_free_79) 4 C_wrongIn_79) 0 C_reach_89) 1 C_sits_89) 2 C_wrongs_89) 3 C_free_89) 4 C_wrongIn_89) 0 C_reach_94) 1 C_sits_94) 2 C_wrongs_94) 3 C_free_94) 4 C_wrongIn_94) 0 C_reach_124) 1 C_sits_124) 2 C_wrongs_124) 3 C_free_124) 4 C_wrongIn_124) 0 C_reach_137) 1 C_sits_137) 2 C_wrongs_137) 3 C_free_137) 4 C_wrongIn_137) 5 D_reach_147) 6 D_takenBehind_147) 5 D_reach_152) 6 D_takenBehind_152) 7 W_weights_161) 8 W_reach_161) 7 W_weights_166) 8 W_reach_166) 7 W_weights_177) 8 W_reach_177) 7 W_weights_183) 8 W_reach_183) Z X.2.2.2.2.2.2.2.1 5 2 0 ho) q_4_102 q_3_221 q_3_222 q_1_1 q_3_223 ok_X7_turned rfl 34 rfl rfl ⟨Nat.le_of_ble_eq_true rfl, Nat.le_of_ble_eq_true rfl⟩ rfl rfl hl.1 rfl (Nat.le_of_ble_eq_true rfl) dX7_digest_211 hP hS (fun H locs hP hS => ?_)
    refine lv_aload_n X.1 X.2.1 dX7_digest_214 rfl (lv_at hl 2 rfl) ?_
    refine lv_iconst (v := 5) X.1 X.2.1 dX7_digest_215 (by decide) ?_
    refine lv_iconst (v := 2) X.1 X.2.1 dX7_digest_216 (by decide) ?_
    refine lv_iconst (v := 1) X.1 X.2.1 dX7_digest_217 (by decide) ?_
    obtain ⟨r218, ho, hf⟩ := b1_s hf
    refine call_vl (rest := [.long r211, .long x205]) X (c_X7_turned (va_up (va_up (va_up (va_up (va_up (va_up (va_up (va_up (va_up (va_up (va_up (va_up (va_up (va_up (va_up (va_up (va_up (va_up (va_up (va_up F 3 C_ready_59) 3 C_ready_65) 3 C_ready_73) 3 C_ready_79) 3 C_ready_89) 3 C_ready_94) 3 C_ready_124) 3 C_ready_137) 4 D_ready_147) 4 D_ready_152) 6 W_suspects_161) 7 W_ready_161) 6 W_suspects_166) 7 W_ready_166) 6 W_suspects_177) 7 W_ready_177) 6 W_suspects_183) 7 W_ready_183) 8 E_wrongs_200) 9 E_state_200) (va_up (va_up (va_up (va_up (va_up (va_up (va_up (va_up (va_up (va_up (va_up (va_up (va_up (va_up (va_up (va_up (va_up (va_up (va_up (va_up (va_up (va_up G 0 C_meanWrong_59) 1 C_meanLooks_59) 0 C_meanWrong_65) 1 C_meanLooks_65) 0 C_meanWrong_73) 1 C_meanLooks_73) 0 C_meanWrong_79) 1 C_meanLooks_79) 0 C_meanWrong_89) 1 C_meanLooks_89) 0 C_meanWrong_94) 1 C_meanLooks_94) 0 C_meanWrong_124) 1 C_meanLooks_124) 0 C_meanWrong_137) 1 C_meanLooks_137) 2 D_least_147) 2 D_least_152) 3 W_total_161) 3 W_total_166) 3 W_total_177) 3 W_total_183) (va_up (va_up (va_up (va_up (va_up (va_up (va_up (va_up (va_up (va_up (va_up (va_up (va_up (va_up (va_up (va_up (va_up I 7 D_best_147) 8 D_row_147) 7 D_best_152) 8 D_row_152) 11 W_allowed_161) 12 W_kinds_161) 13 W_answers_161) 11 W_allowed_166) 12 W_kinds_166) 13 W_answers_166) 11 W_allowed_177) 12 W_kinds_177) 13 W_answers_177) 11 W_allowed_183) 12 W_kinds_183) 13 W_answers_183) 14 E_places_200) (va_up (va_up (va_up (va_up (va_up (va_up (va_up (va_up (va_up (va_up (va_up (va_up (va_up (va_up (va_up (va_up (va_up (va_up (va_up (va_up (va_up (va_up (va_up (va_up (va_up (va_up (va_up (va_up (va_up (va_up (va_up (va_up (va_up (va_up (va_up (va_up (va_up (va_up (va_up (va_up (va_up (va_up (va_up (va_up (va_up (va_up (va_up (va_up (va_up (va_up (va_up (va_up J 0 C_reach_59) 1 C_sits_59) 2 C_wrongs_59) 3 C_free_59) 4 C_wrongIn_59) 0 C_reach_65) 1 C_sits_65) 2 C_wrongs_65) 3 C_free_65) 4 C_wrongIn_65) 0 C_reach_73) 1 C_sits_73) 2 C_wrongs_73) 3 C_free_73) 4 C_wrongIn_73) 0 C_reach_79) 1 C_sits_79) 2 C_wrongs_79) 3 C_free_79) 4 C_wrongIn_79) 0 C_reach_89) 1 C_sits_89) 2 C_wrongs_89) 3 C_free_89) 4 C_wrongIn_89) 0 C_reach_94) 1 C_sits_94) 2 C_wrongs_94) 3 C_free_94) 4 C_wrongIn_94) 0 C_reach_124) 1 C_sits_124) 2 C_wrongs_124) 3 C_free_124) 4 C_wrongIn_124) 0 C_reach_137) 1 C_sits_137) 2 C_wrongs_137) 3 C_free_137) 4 C_wrongIn_137) 5 D_reach_147) 6 D_takenBehind_147) 5 D_reach_152) 6 D_takenBehind_152) 7 W_weights_161) 8 W_reach_161) 7 W_weights_166) 8 W_reach_166) 7 W_weights_177) 8 W_reach_177) 7 W_weights_183) 8 W_reach_183) Z X.2.2.2.2.2.2.2.1 5 2 1 ho) q_4_102 q_3_221 q_3_222 q_1_1 q_3_223 ok_X7_turned rfl 34 rfl rfl ⟨Nat.le_of_ble_eq_true rfl, Nat.le_of_ble_eq_true rfl⟩ rfl rfl hl.1 rfl (Nat.le_of_ble_eq_true rfl) dX7_digest_218 hP hS (fun H locs hP hS => ?_)
    obtain ⟨r221, ho, hf⟩ := b1_s hf
    refine call_sl (rest := []) X (c_X7_mix x205 r211 r218 ho) q_4_85 q_4_86 q_1_1 q_4_87 ok_X7_mix rfl ⟨Nat.le_of_ble_eq_true rfl, Nat.le_of_ble_eq_true rfl⟩ rfl rfl hl.1 rfl (Nat.le_of_ble_eq_true rfl) dX7_digest_221 hP hS (fun H locs hP hS => ?_)
    obtain ⟨e0, hf⟩ := o2 hf
    obtain ⟨e1, hf⟩ := o2 hf
    obtain ⟨e2, hf⟩ := o2 hf
    obtain ⟨e3, hf⟩ := o2 hf
    obtain ⟨e4, hf⟩ := o2 hf
    obtain ⟨e5, hf⟩ := o2 hf
    obtain ⟨e6, hf⟩ := o2 hf
    obtain ⟨e7, hf⟩ := o2 hf
    obtain ⟨e8, hf⟩ := o2 hf
    obtain ⟨e9, hf⟩ := o2 hf
    obtain ⟨e10, hf⟩ := o2 hf
    obtain ⟨e11, hf⟩ := o2 hf
    obtain ⟨e12, hf⟩ := o2 hf
    obtain ⟨e13, hf⟩ := o2 hf
    obtain ⟨e14, hf⟩ := o2 hf
    obtain ⟨e15, hf⟩ := o2 hf
    obtain ⟨e16, hf⟩ := o2 hf
    obtain ⟨e17, hf⟩ := o2 hf
    obtain ⟨e18, hf⟩ := o2 hf
    obtain ⟨e19, hf⟩ := o2 hf
    obtain ⟨e20, hf⟩ := o2 hf
    obtain ⟨e21, hf⟩ := o2 hf
    obtain ⟨e22, hf⟩ := o2 hf
    obtain ⟨e23, hf⟩ := o2 hf
    obtain ⟨e24, hf⟩ := o2 hf
    have e25 := o1 hf
    have EF : Ff = (va_up (va_up (va_up (va_up (va_up (va_up (va_up (va_up (va_up (va_up (va_up (va_up (va_up (va_up (va_up (va_up (va_up (va_up (va_up (va_up F 3 C_ready_59) 3 C_ready_65) 3 C_ready_73) 3 C_ready_79) 3 C_ready_89) 3 C_ready_94) 3 C_ready_124) 3 C_ready_137) 4 D_ready_147) 4 D_ready_152) 6 W_suspects_161) 7 W_ready_161) 6 W_suspects_166) 7 W_ready_166) 6 W_suspects_177) 7 W_ready_177) 6 W_suspects_183) 7 W_ready_183) 8 E_wrongs_200) 9 E_state_200) := frm_eq (frm_up (frm_up (frm_up (frm_up (frm_up (frm_up (frm_up (frm_up (frm_up (frm_up (frm_up (frm_up (frm_up (frm_up (frm_up (frm_up (frm_up (frm_up (frm_up (frm_up hfF (by decide)) (by decide)) (by decide)) (by decide)) (by decide)) (by decide)) (by decide)) (by decide)) (by decide)) (by decide)) (by decide)) (by decide)) (by decide)) (by decide)) (by decide)) (by decide)) (by decide)) (by decide)) (by decide)) (by decide)) (frm_c (e1).symm (frm_c (e2).symm (frm_c (e3).symm (frm_c (e4).symm (frm_c (e5).symm (frm_c (e6).symm frm_n))))))
    have EG : Gf = (va_up (va_up (va_up (va_up (va_up (va_up (va_up (va_up (va_up (va_up (va_up (va_up (va_up (va_up (va_up (va_up (va_up (va_up (va_up (va_up (va_up (va_up G 0 C_meanWrong_59) 1 C_meanLooks_59) 0 C_meanWrong_65) 1 C_meanLooks_65) 0 C_meanWrong_73) 1 C_meanLooks_73) 0 C_meanWrong_79) 1 C_meanLooks_79) 0 C_meanWrong_89) 1 C_meanLooks_89) 0 C_meanWrong_94) 1 C_meanLooks_94) 0 C_meanWrong_124) 1 C_meanLooks_124) 0 C_meanWrong_137) 1 C_meanLooks_137) 2 D_least_147) 2 D_least_152) 3 W_total_161) 3 W_total_166) 3 W_total_177) 3 W_total_183) := frm_eq (frm_up (frm_up (frm_up (frm_up (frm_up (frm_up (frm_up (frm_up (frm_up (frm_up (frm_up (frm_up (frm_up (frm_up (frm_up (frm_up (frm_up (frm_up (frm_up (frm_up (frm_up (frm_up hfG (by decide)) (by decide)) (by decide)) (by decide)) (by decide)) (by decide)) (by decide)) (by decide)) (by decide)) (by decide)) (by decide)) (by decide)) (by decide)) (by decide)) (by decide)) (by decide)) (by decide)) (by decide)) (by decide)) (by decide)) (by decide)) (by decide)) (frm_c (e7).symm (frm_c (e8).symm (frm_c (e9).symm (frm_c (e10).symm frm_n))))
    have EI : If = (va_up (va_up (va_up (va_up (va_up (va_up (va_up (va_up (va_up (va_up (va_up (va_up (va_up (va_up (va_up (va_up (va_up I 7 D_best_147) 8 D_row_147) 7 D_best_152) 8 D_row_152) 11 W_allowed_161) 12 W_kinds_161) 13 W_answers_161) 11 W_allowed_166) 12 W_kinds_166) 13 W_answers_166) 11 W_allowed_177) 12 W_kinds_177) 13 W_answers_177) 11 W_allowed_183) 12 W_kinds_183) 13 W_answers_183) 14 E_places_200) := frm_eq (frm_up (frm_up (frm_up (frm_up (frm_up (frm_up (frm_up (frm_up (frm_up (frm_up (frm_up (frm_up (frm_up (frm_up (frm_up (frm_up (frm_up hfI (by decide)) (by decide)) (by decide)) (by decide)) (by decide)) (by decide)) (by decide)) (by decide)) (by decide)) (by decide)) (by decide)) (by decide)) (by decide)) (by decide)) (by decide)) (by decide)) (by decide)) (frm_c (e11).symm (frm_c (e12).symm (frm_c (e13).symm (frm_c (e14).symm (frm_c (e15).symm (frm_c (e16).symm frm_n))))))
    have EJ : Jf = (va_up (va_up (va_up (va_up (va_up (va_up (va_up (va_up (va_up (va_up (va_up (va_up (va_up (va_up (va_up (va_up (va_up (va_up (va_up (va_up (va_up (va_up (va_up (va_up (va_up (va_up (va_up (va_up (va_up (va_up (va_up (va_up (va_up (va_up (va_up (va_up (va_up (va_up (va_up (va_up (va_up (va_up (va_up (va_up (va_up (va_up (va_up (va_up (va_up (va_up (va_up (va_up J 0 C_reach_59) 1 C_sits_59) 2 C_wrongs_59) 3 C_free_59) 4 C_wrongIn_59) 0 C_reach_65) 1 C_sits_65) 2 C_wrongs_65) 3 C_free_65) 4 C_wrongIn_65) 0 C_reach_73) 1 C_sits_73) 2 C_wrongs_73) 3 C_free_73) 4 C_wrongIn_73) 0 C_reach_79) 1 C_sits_79) 2 C_wrongs_79) 3 C_free_79) 4 C_wrongIn_79) 0 C_reach_89) 1 C_sits_89) 2 C_wrongs_89) 3 C_free_89) 4 C_wrongIn_89) 0 C_reach_94) 1 C_sits_94) 2 C_wrongs_94) 3 C_free_94) 4 C_wrongIn_94) 0 C_reach_124) 1 C_sits_124) 2 C_wrongs_124) 3 C_free_124) 4 C_wrongIn_124) 0 C_reach_137) 1 C_sits_137) 2 C_wrongs_137) 3 C_free_137) 4 C_wrongIn_137) 5 D_reach_147) 6 D_takenBehind_147) 5 D_reach_152) 6 D_takenBehind_152) 7 W_weights_161) 8 W_reach_161) 7 W_weights_166) 8 W_reach_166) 7 W_weights_177) 8 W_reach_177) 7 W_weights_183) 8 W_reach_183) := frm_eq (frm_up (frm_up (frm_up (frm_up (frm_up (frm_up (frm_up (frm_up (frm_up (frm_up (frm_up (frm_up (frm_up (frm_up (frm_up (frm_up (frm_up (frm_up (frm_up (frm_up (frm_up (frm_up (frm_up (frm_up (frm_up (frm_up (frm_up (frm_up (frm_up (frm_up (frm_up (frm_up (frm_up (frm_up (frm_up (frm_up (frm_up (frm_up (frm_up (frm_up (frm_up (frm_up (frm_up (frm_up (frm_up (frm_up (frm_up (frm_up (frm_up (frm_up (frm_up (frm_up hfJ (by decide)) (by decide)) (by decide)) (by decide)) (by decide)) (by decide)) (by decide)) (by decide)) (by decide)) (by decide)) (by decide)) (by decide)) (by decide)) (by decide)) (by decide)) (by decide)) (by decide)) (by decide)) (by decide)) (by decide)) (by decide)) (by decide)) (by decide)) (by decide)) (by decide)) (by decide)) (by decide)) (by decide)) (by decide)) (by decide)) (by decide)) (by decide)) (by decide)) (by decide)) (by decide)) (by decide)) (by decide)) (by decide)) (by decide)) (by decide)) (by decide)) (by decide)) (by decide)) (by decide)) (by decide)) (by decide)) (by decide)) (by decide)) (by decide)) (by decide)) (by decide)) (by decide)) (frm_c (e17).symm (frm_c (e18).symm (frm_c (e19).symm (frm_c (e20).symm (frm_c (e21).symm (frm_c (e22).symm (frm_c (e23).symm (frm_c (e24).symm (frm_c (e25).symm frm_n)))))))))
    exact ret_l X hS (by rw [EF, EG, EI, EJ]; exact hP) e0 dX7_digest_224
  · have hf := ie_s hf c9
    refine lv_ldc2 (v := 31) X.1 X.2.1 X.2.2.2.2.1 (X.2.2.2.2.2.1 _ q_4_76) dX7_digest_12 ?_
    refine lv_lload_n X.1 X.2.1 dX7_digest_15 rfl (lv_at hl 1 rfl) ?_
    refine lv_lmul X.1 X.2.1 dX7_digest_16 ?_
    refine lv_aload_n X.1 X.2.1 dX7_digest_17 rfl (lv_at hl 0 rfl) ?_
    refine lv_iload_n X.1 X.2.1 dX7_digest_18 rfl (lv_at hl 2 rfl) ?_
    obtain ⟨r19, ho, hf⟩ := b1_s hf
    refine call_vi (rest := [.long (31 * x1)]) X (c_X7_count F G I J Z X.2.2.2.2.2.2.2.1 x3 ho) q_4_77 q_4_59 q_4_60 q_1_1 q_4_61 ok_X7_count rfl 34 rfl rfl ⟨Nat.le_of_ble_eq_true rfl, Nat.le_of_ble_eq_true rfl⟩ rfl rfl hl.1 rfl (Nat.le_of_ble_eq_true rfl) dX7_digest_19 hP hS (fun H locs hP hS => ?_)
    refine lv_i2l X.1 X.2.1 dX7_digest_22 rfl ?_
    refine lv_ladd X.1 X.2.1 dX7_digest_23 ?_
    refine nm_l hf (fun x24 hf => ?_)
    refine lv_lstore_n (lv' := [(1, .long x24), (0, .ref (a 34)), (3, .int x3)]) X.1 X.2.1 dX7_digest_24 rfl hl (by decide) rfl (fun ls hl => ?_)
    obtain ⟨x25, ex25, hf⟩ := nm_x hf
    refine lv_iinc (v := x25) (lv' := [(3, .int x25), (1, .long x24), (0, .ref (a 34))]) X.1 X.2.1 dX7_digest_25 hl (k := 2) rfl ex25 (by decide) rfl (fun ls hl => ?_)
    refine lv_goto (tgt := 6) X.1 X.2.1 dX7_digest_28 (by decide) ?_
    exact kh6 F G I J x24 x25 H locs ls hf hfF hfG hfI hfJ hP hS (lv_sub hl [2, 1, 0] rfl)
set_option maxRecDepth 100000 in
theorem t_X7_digest_b6 {p : Program} {l : Launch} {e : Env} {s : State} {m : MethodId} {args : Array Value} {below : List Frame} {meth : Method} {c : Code} {D : va_G} {a : Nat → Nat} {kc : Nat → ClassId} (X : cx 44 p s m args meth c D (tyC kc) a cX7_digest 4 RX7 (some .long)) {Z : Nat → Nat → Nat → Int32} {Ff : Nat → Int32} {Gf : Nat → Int64} {If : Nat → Nat → Int32} {Jf : Nat → Nat → Int64} {r : Int64} :
    ∀ (n : Nat) (F : Nat → Int32) (G : Nat → Int64) (I : Nat → Nat → Int32) (J : Nat → Nat → Int64) (x1 : Int64) (x3 : Int32) (H : Heap) (locs : List Loc) (ls : Array Slot), p_X7_digest_b6 n (F 0) (F 1) (F 2) (F 3) (F 4) (F 5) (F 6) (F 7) (F 8) (F 9) (F 13) (G 0) (G 1) (G 2) (G 3) (I 0) (I 1) (I 2) (I 3) (I 4) (I 5) (I 6) (I 7) (I 8) (I 9) (I 10) (I 11) (I 12) (I 13) (I 14) (J 0) (J 1) (J 2) (J 3) (J 4) (J 5) (J 6) (J 7) (J 8) x1 x3 = some (r, (Ff 3), (Ff 4), (Ff 6), (Ff 7), (Ff 8), (Ff 9), (Gf 0), (Gf 1), (Gf 2), (Gf 3), (If 7), (If 8), (If 11), (If 12), (If 13), (If 14), (Jf 0), (Jf 1), (Jf 2), (Jf 3), (Jf 4), (Jf 5), (Jf 6), (Jf 7), (Jf 8)) → (∀ k, k ∉ ([3, 4, 6, 7, 8, 9] : List Nat) → Ff k = F k) → (∀ k, k ∉ ([0, 1, 2, 3] : List Nat) → Gf k = G k) → (∀ k, k ∉ ([7, 8, 11, 12, 13, 14] : List Nat) → If k = I k) → (∀ k, k ∉ ([0, 1, 2, 3, 4, 5, 6, 7, 8] : List Nat) → Jf k = J k) → va_P D vwCl (wC a kc F G I J Z) H → va_S (ad a 44 s.heap.size) s.heap H locs → lv_has ls 4 [(0, .ref (a 34)), (1, .long x1), (3, .int x3)] → W p l e rm_X7_digest s m args below meth c H locs 0 0 (MQ below (Ql D (wC a kc Ff Gf If Jf Z) r (ad a 44 s.heap.size)) args s 0 0 (ad a 44 s.heap.size)) (F0 m 6 ls []) := by
  intro n
  induction n with
  | zero => intro F G I J x1 x3 H locs ls hf hfF hfG hfI hfJ hP hS hl; exact (nos hf).elim
  | succ n ih => exact t_X7_digest_b6x X ih
set_option maxHeartbeats 4000000 in
set_option maxRecDepth 100000 in
theorem t_X7_digest_b0 {p : Program} {l : Launch} {e : Env} {s : State} {m : MethodId} {args : Array Value} {below : List Frame} {meth : Method} {c : Code} {D : va_G} {a : Nat → Nat} {kc : Nat → ClassId} (X : cx 44 p s m args meth c D (tyC kc) a cX7_digest 4 RX7 (some .long)) {Z : Nat → Nat → Nat → Int32} {Ff : Nat → Int32} {Gf : Nat → Int64} {If : Nat → Nat → Int32} {Jf : Nat → Nat → Int64} {r : Int64} :
    ∀ (F : Nat → Int32) (G : Nat → Int64) (I : Nat → Nat → Int32) (J : Nat → Nat → Int64)  (H : Heap) (locs : List Loc) (ls : Array Slot), p_X7_digest_b0 (F 0) (F 1) (F 2) (F 3) (F 4) (F 5) (F 6) (F 7) (F 8) (F 9) (F 13) (G 0) (G 1) (G 2) (G 3) (I 0) (I 1) (I 2) (I 3) (I 4) (I 5) (I 6) (I 7) (I 8) (I 9) (I 10) (I 11) (I 12) (I 13) (I 14) (J 0) (J 1) (J 2) (J 3) (J 4) (J 5) (J 6) (J 7) (J 8)  = some (r, (Ff 3), (Ff 4), (Ff 6), (Ff 7), (Ff 8), (Ff 9), (Gf 0), (Gf 1), (Gf 2), (Gf 3), (If 7), (If 8), (If 11), (If 12), (If 13), (If 14), (Jf 0), (Jf 1), (Jf 2), (Jf 3), (Jf 4), (Jf 5), (Jf 6), (Jf 7), (Jf 8)) → (∀ k, k ∉ ([3, 4, 6, 7, 8, 9] : List Nat) → Ff k = F k) → (∀ k, k ∉ ([0, 1, 2, 3] : List Nat) → Gf k = G k) → (∀ k, k ∉ ([7, 8, 11, 12, 13, 14] : List Nat) → If k = I k) → (∀ k, k ∉ ([0, 1, 2, 3, 4, 5, 6, 7, 8] : List Nat) → Jf k = J k) → va_P D vwCl (wC a kc F G I J Z) H → va_S (ad a 44 s.heap.size) s.heap H locs → lv_has ls 4 [(0, .ref (a 34))] → W p l e rm_X7_digest s m args below meth c H locs 0 0 (MQ below (Ql D (wC a kc Ff Gf If Jf Z) r (ad a 44 s.heap.size)) args s 0 0 (ad a 44 s.heap.size)) (F0 m 0 ls []) := by
  intro F G I J  H locs ls hf hfF hfG hfI hfJ hP hS hl
  unfold p_X7_digest_b0 at hf
  refine lv_ldc2 (v := 17) X.1 X.2.1 X.2.2.2.2.1 (X.2.2.2.2.2.1 _ q_4_75) dX7_digest_0 ?_
  refine lv_lstore_n (lv' := [(1, .long 17), (0, .ref (a 34))]) X.1 X.2.1 dX7_digest_3 rfl hl (by decide) rfl (fun ls hl => ?_)
  refine lv_iconst (v := 0) X.1 X.2.1 dX7_digest_4 (by decide) ?_
  refine lv_istore_n (lv' := [(3, .int 0), (1, .long 17), (0, .ref (a 34))]) X.1 X.2.1 dX7_digest_5 rfl hl (by decide) rfl (fun ls hl => ?_)
  exact t_X7_digest_b6 X 4096 F G I J 17 0 H locs ls hf hfF hfG hfI hfJ hP hS (lv_sub hl [2, 1, 0] rfl)
set_option maxRecDepth 100000 in
theorem c_X7_digest {l : Launch} {D : va_G} {a : Nat → Nat} {kc : Nat → ClassId} (F : Nat → Int32) (G : Nat → Int64) (I : Nat → Nat → Int32) (J : Nat → Nat → Int64) (Z : Nat → Nat → Nat → Int32) (hAp : ∀ i j, i < 44 → j < 44 → a i = a j → i = j)  {o0 : Int64} {o1 : Int32} {o2 : Int32} {o3 : Int32} {o4 : Int32} {o5 : Int32} {o6 : Int32} {o7 : Int64} {o8 : Int64} {o9 : Int64} {o10 : Int64} {o11 : Nat → Int32} {o12 : Nat → Int32} {o13 : Nat → Int32} {o14 : Nat → Int32} {o15 : Nat → Int32} {o16 : Nat → Int32} {o17 : Nat → Int64} {o18 : Nat → Int64} {o19 : Nat → Int64} {o20 : Nat → Int64} {o21 : Nat → Int64} {o22 : Nat → Int64} {o23 : Nat → Int64} {o24 : Nat → Int64} {o25 : Nat → Int64} (hf : p_X7_digest (F 0) (F 1) (F 2) (F 3) (F 4) (F 5) (F 6) (F 7) (F 8) (F 9) (F 13) (G 0) (G 1) (G 2) (G 3) (I 0) (I 1) (I 2) (I 3) (I 4) (I 5) (I 6) (I 7) (I 8) (I 9) (I 10) (I 11) (I 12) (I 13) (I 14) (J 0) (J 1) (J 2) (J 3) (J 4) (J 5) (J 6) (J 7) (J 8)  = some (o0, o1, o2, o3, o4, o5, o6, o7, o8, o9, o10, o11, o12, o13, o14, o15, o16, o17, o18, o19, o20, o21, o22, o23, o24, o25)) : Ct 44 l yX7_digest cX7_digest 4 (some .long) rm_X7_digest D (tyC kc) a (wC a kc F G I J Z) [.ref (a 34)] (Ql D (wC a kc (va_up (va_up (va_up (va_up (va_up (va_up F 3 o1) 4 o2) 6 o3) 7 o4) 8 o5) 9 o6) (va_up (va_up (va_up (va_up G 0 o7) 1 o8) 2 o9) 3 o10) (va_up (va_up (va_up (va_up (va_up (va_up I 7 o11) 8 o12) 11 o13) 12 o14) 13 o15) 14 o16) (va_up (va_up (va_up (va_up (va_up (va_up (va_up (va_up (va_up J 0 o17) 1 o18) 2 o19) 3 o20) 4 o21) 5 o22) 6 o23) 7 o24) 8 o25) Z) o0) :=
  Ct.of (by decide +kernel) hAp (Nat.le_of_ble_eq_true rfl) (fun p e s m args below meth c ls X hP hl => t_X7_digest_b0 X F G I J  _ _ _ hf (frm_ul (frm_ul (frm_ul (frm_ul (frm_ul (frm_ul (fun k _ => rfl) (by decide)) (by decide)) (by decide)) (by decide)) (by decide)) (by decide)) (frm_ul (frm_ul (frm_ul (frm_ul (fun k _ => rfl) (by decide)) (by decide)) (by decide)) (by decide)) (frm_ul (frm_ul (frm_ul (frm_ul (frm_ul (frm_ul (fun k _ => rfl) (by decide)) (by decide)) (by decide)) (by decide)) (by decide)) (by decide)) (frm_ul (frm_ul (frm_ul (frm_ul (frm_ul (frm_ul (frm_ul (frm_ul (frm_ul (fun k _ => rfl) (by decide)) (by decide)) (by decide)) (by decide)) (by decide)) (by decide)) (by decide)) (by decide)) (by decide)) hP va_S.rf hl)
abbrev rm_X8_in : Room := { frames := 0, cells := 0, slots := 0, locals := 0 }
set_option maxHeartbeats 4000000 in
set_option maxRecDepth 100000 in
theorem t_X8_in_b18 {p : Program} {l : Launch} {e : Env} {s : State} {m : MethodId} {args : Array Value} {below : List Frame} {meth : Method} {c : Code} {D : va_G} {a : Nat → Nat} (X : cx 0 p s m args meth c D [] a cX8_in 6 RX8 (some .boolean))   {r : Int32} :
    ∀  (t0 : Int32) (H : Heap) (locs : List Loc) (ls : Array Slot), p_X8_in_b18  t0 = some r → va_P D vwCl [] H → va_S (ad a 0 s.heap.size) s.heap H locs → lv_has ls 6 [] → W p l e rm_X8_in s m args below meth c H locs 0 0 (MQ below (Qi D [] r (ad a 0 s.heap.size)) args s 0 0 (ad a 0 s.heap.size)) (F0 m 18 ls [.int t0]) := by
  intro  t0 H locs ls hf  hP hS hl
  unfold p_X8_in_b18 at hf
  obtain ⟨h18, hf⟩ := gd_s hf
  have e0 := o1 hf
  exact ret_z X hS hP e0 h18 dX8_in_18
set_option maxHeartbeats 4000000 in
set_option maxRecDepth 100000 in
theorem t_X8_in_b17 {p : Program} {l : Launch} {e : Env} {s : State} {m : MethodId} {args : Array Value} {below : List Frame} {meth : Method} {c : Code} {D : va_G} {a : Nat → Nat} (X : cx 0 p s m args meth c D [] a cX8_in 6 RX8 (some .boolean))   {r : Int32} :
    ∀   (H : Heap) (locs : List Loc) (ls : Array Slot), p_X8_in_b17   = some r → va_P D vwCl [] H → va_S (ad a 0 s.heap.size) s.heap H locs → lv_has ls 6 [] → W p l e rm_X8_in s m args below meth c H locs 0 0 (MQ below (Qi D [] r (ad a 0 s.heap.size)) args s 0 0 (ad a 0 s.heap.size)) (F0 m 17 ls []) := by
  intro   H locs ls hf  hP hS hl
  unfold p_X8_in_b17 at hf
  refine lv_iconst (v := 0) X.1 X.2.1 dX8_in_17 (by decide) ?_
  exact t_X8_in_b18 X  0 H locs ls hf  hP hS (lv_sub hl [] rfl)
set_option maxHeartbeats 4000000 in
set_option maxRecDepth 100000 in
theorem t_X8_in_b0 {p : Program} {l : Launch} {e : Env} {s : State} {m : MethodId} {args : Array Value} {below : List Frame} {meth : Method} {c : Code} {D : va_G} {a : Nat → Nat} (X : cx 0 p s m args meth c D [] a cX8_in 6 RX8 (some .boolean))   {r : Int32} :
    ∀  (x0 : Int64) (x2 : Int64) (x4 : Int64) (H : Heap) (locs : List Loc) (ls : Array Slot), p_X8_in_b0  x0 x2 x4 = some r → va_P D vwCl [] H → va_S (ad a 0 s.heap.size) s.heap H locs → lv_has ls 6 [(0, .long x0), (2, .long x2), (4, .long x4)] → W p l e rm_X8_in s m args below meth c H locs 0 0 (MQ below (Qi D [] r (ad a 0 s.heap.size)) args s 0 0 (ad a 0 s.heap.size)) (F0 m 0 ls []) := by
  intro  x0 x2 x4 H locs ls hf  hP hS hl
  unfold p_X8_in_b0 at hf
  refine lv_lload_n X.1 X.2.1 dX8_in_0 rfl (lv_at hl 0 rfl) ?_
  refine lv_lload_n X.1 X.2.1 dX8_in_1 rfl (lv_at hl 1 rfl) ?_
  refine W.lcmp X.1 X.2.1 dX8_in_2 ?_
  refine lv_if_lt (tgt := 17) X.1 X.2.1 dX8_in_3 (by decide) (fun c3 => ?_) (fun c3 => ?_)
  · have hf := it_s hf c3
    exact t_X8_in_b17 X   H locs ls hf  hP hS (lv_sub hl [] rfl)
  · have hf := ie_s hf c3
    refine lv_lload_n X.1 X.2.1 dX8_in_6 rfl (lv_at hl 0 rfl) ?_
    refine lv_lload X.1 X.2.1 dX8_in_7 (lv_at hl 2 rfl) ?_
    refine W.lcmp X.1 X.2.1 dX8_in_9 ?_
    refine lv_if_gt (tgt := 17) X.1 X.2.1 dX8_in_10 (by decide) (fun c10 => ?_) (fun c10 => ?_)
    · have hf := it_s hf c10
      exact t_X8_in_b17 X   H locs ls hf  hP hS (lv_sub hl [] rfl)
    · have hf := ie_s hf c10
      refine lv_iconst (v := 1) X.1 X.2.1 dX8_in_13 (by decide) ?_
      refine lv_goto (tgt := 18) X.1 X.2.1 dX8_in_14 (by decide) ?_
      exact t_X8_in_b18 X  1 H locs ls hf  hP hS (lv_sub hl [] rfl)
set_option maxRecDepth 100000 in
theorem c_X8_in {l : Launch} {D : va_G} {a : Nat → Nat}  (x0 : Int64) (x2 : Int64) (x4 : Int64) {o0 : Int32} (hf : p_X8_in  x0 x2 x4 = some o0) : Ct 0 l yX8_in cX8_in 6 (some .boolean) rm_X8_in D [] a [] [.long x0, .long x2, .long x4] (Qi D [] o0) :=
  Ct.of (by decide +kernel) (fun i j h => absurd h (Nat.not_lt_zero i)) (Nat.le_of_ble_eq_true rfl) (fun p e s m args below meth c ls X hP hl => t_X8_in_b0 X  x0 x2 x4 _ _ _ hf  hP va_S.rf hl)
abbrev rm_X8_no : Room := { frames := 0, cells := 0, slots := 0, locals := 0 }
set_option maxHeartbeats 4000000 in
set_option maxRecDepth 100000 in
theorem t_X8_no_b0 {p : Program} {l : Launch} {e : Env} {s : State} {m : MethodId} {args : Array Value} {below : List Frame} {meth : Method} {c : Code} {D : va_G} {a : Nat → Nat} (X : cx 0 p s m args meth c D [] a cX8_no 1 RX8 (some .long))   {r : Int64} :
    ∀  (x0 : Int32) (H : Heap) (locs : List Loc) (ls : Array Slot), p_X8_no_b0  x0 = some r → va_P D vwCl [] H → va_S (ad a 0 s.heap.size) s.heap H locs → lv_has ls 1 [(0, .int x0)] → W p l e rm_X8_no s m args below meth c H locs 0 0 (MQ below (Ql D [] r (ad a 0 s.heap.size)) args s 0 0 (ad a 0 s.heap.size)) (F0 m 0 ls []) := by
  intro  x0 H locs ls hf  hP hS hl
  unfold p_X8_no_b0 at hf
  refine lv_ldc2 (v := (-9223372036854775808)) X.1 X.2.1 X.2.2.2.2.1 (X.2.2.2.2.2.1 _ q_5_161) dX8_no_0 ?_
  refine lv_iload_n X.1 X.2.1 dX8_no_3 rfl (lv_at hl 0 rfl) ?_
  refine lv_i2l X.1 X.2.1 dX8_no_4 rfl ?_
  refine lv_lsub X.1 X.2.1 dX8_no_5 ?_
  have e0 := o1 hf
  exact ret_l X hS hP e0 dX8_no_6
set_option maxRecDepth 100000 in
theorem c_X8_no {l : Launch} {D : va_G} {a : Nat → Nat}  (x0 : Int32) {o0 : Int64} (hf : p_X8_no  x0 = some o0) : Ct 0 l yX8_no cX8_no 1 (some .long) rm_X8_no D [] a [] [.int x0] (Ql D [] o0) :=
  Ct.of (by decide +kernel) (fun i j h => absurd h (Nat.not_lt_zero i)) (Nat.le_of_ble_eq_true rfl) (fun p e s m args below meth c ls X hP hl => t_X8_no_b0 X  x0 _ _ _ hf  hP va_S.rf hl)
abbrev rm_X8_isTwo : Room := { frames := 1, cells := 0, slots := 0, locals := 25 }
set_option maxHeartbeats 4000000 in
set_option maxRecDepth 100000 in
theorem t_X8_isTwo_b0 {p : Program} {l : Launch} {e : Env} {s : State} {m : MethodId} {args : Array Value} {below : List Frame} {meth : Method} {c : Code} {D : va_G} {a : Nat → Nat} (X : cx 0 p s m args meth c D [] a cX8_isTwo 1 RX8 (some .boolean))   {r : Int32} :
    ∀  (x0 : Int32) (H : Heap) (locs : List Loc) (ls : Array Slot), p_X8_isTwo_b0  x0 = some r → va_P D vwCl [] H → va_S (ad a 0 s.heap.size) s.heap H locs → lv_has ls 1 [(0, .int x0)] → W p l e rm_X8_isTwo s m args below meth c H locs 0 0 (MQ below (Qi D [] r (ad a 0 s.heap.size)) args s 0 0 (ad a 0 s.heap.size)) (F0 m 0 ls []) := by
  intro  x0 H locs ls hf  hP hS hl
  unfold p_X8_isTwo_b0 at hf
  refine lv_iload_n X.1 X.2.1 dX8_isTwo_0 rfl (lv_at hl 0 rfl) ?_
  refine lv_i2l X.1 X.2.1 dX8_isTwo_1 rfl ?_
  refine lv_lconst (v := 0) X.1 X.2.1 dX8_isTwo_2 (by decide) ?_
  refine lv_lconst (v := 1) X.1 X.2.1 dX8_isTwo_3 (by decide) ?_
  obtain ⟨r4, ho, hf⟩ := b1_s hf
  refine call_si (rest := []) X (c_X8_in x0.toInt64 0 1 ho) q_4_226 q_4_227 q_1_10 q_4_228 ok_X8_in rfl ⟨Nat.le_of_ble_eq_true rfl, Nat.le_of_ble_eq_true rfl⟩ rfl rfl hl.1 rfl (Nat.le_of_ble_eq_true rfl) dX8_isTwo_4 hP hS (fun H locs hP hS => ?_)
  obtain ⟨h7, hf⟩ := gd_s hf
  have e0 := o1 hf
  exact ret_z X hS hP e0 h7 dX8_isTwo_7
set_option maxRecDepth 100000 in
theorem c_X8_isTwo {l : Launch} {D : va_G} {a : Nat → Nat}  (x0 : Int32) {o0 : Int32} (hf : p_X8_isTwo  x0 = some o0) : Ct 0 l yX8_isTwo cX8_isTwo 1 (some .boolean) rm_X8_isTwo D [] a [] [.int x0] (Qi D [] o0) :=
  Ct.of (by decide +kernel) (fun i j h => absurd h (Nat.not_lt_zero i)) (Nat.le_of_ble_eq_true rfl) (fun p e s m args below meth c ls X hP hl => t_X8_isTwo_b0 X  x0 _ _ _ hf  hP va_S.rf hl)
abbrev rm_X8_isIn : Room := { frames := 0, cells := 0, slots := 0, locals := 0 }
set_option maxHeartbeats 4000000 in
set_option maxRecDepth 100000 in
theorem t_X8_isIn_b14 {p : Program} {l : Launch} {e : Env} {s : State} {m : MethodId} {args : Array Value} {below : List Frame} {meth : Method} {c : Code} {D : va_G} {a : Nat → Nat} (X : cx 0 p s m args meth c D [] a cX8_isIn 2 RX8 (some .boolean))   {r : Int32} :
    ∀  (t0 : Int32) (H : Heap) (locs : List Loc) (ls : Array Slot), p_X8_isIn_b14  t0 = some r → va_P D vwCl [] H → va_S (ad a 0 s.heap.size) s.heap H locs → lv_has ls 2 [] → W p l e rm_X8_isIn s m args below meth c H locs 0 0 (MQ below (Qi D [] r (ad a 0 s.heap.size)) args s 0 0 (ad a 0 s.heap.size)) (F0 m 14 ls [.int t0]) := by
  intro  t0 H locs ls hf  hP hS hl
  unfold p_X8_isIn_b14 at hf
  obtain ⟨h14, hf⟩ := gd_s hf
  have e0 := o1 hf
  exact ret_z X hS hP e0 h14 dX8_isIn_14
set_option maxHeartbeats 4000000 in
set_option maxRecDepth 100000 in
theorem t_X8_isIn_b0 {p : Program} {l : Launch} {e : Env} {s : State} {m : MethodId} {args : Array Value} {below : List Frame} {meth : Method} {c : Code} {D : va_G} {a : Nat → Nat} (X : cx 0 p s m args meth c D [] a cX8_isIn 2 RX8 (some .boolean))   {r : Int32} :
    ∀  (x0 : Int32) (x1 : Int32) (H : Heap) (locs : List Loc) (ls : Array Slot), p_X8_isIn_b0  x0 x1 = some r → va_P D vwCl [] H → va_S (ad a 0 s.heap.size) s.heap H locs → lv_has ls 2 [(0, .int x0), (1, .int x1)] → W p l e rm_X8_isIn s m args below meth c H locs 0 0 (MQ below (Qi D [] r (ad a 0 s.heap.size)) args s 0 0 (ad a 0 s.heap.size)) (F0 m 0 ls []) := by
  intro  x0 x1 H locs ls hf  hP hS hl
  unfold p_X8_isIn_b0 at hf
  refine lv_iload_n X.1 X.2.1 dX8_isIn_0 rfl (lv_at hl 0 rfl) ?_
  refine lv_iload_n X.1 X.2.1 dX8_isIn_1 rfl (lv_at hl 1 rfl) ?_
  refine lv_ishr X.1 X.2.1 dX8_isIn_2 ?_
  refine lv_iconst (v := 1) X.1 X.2.1 dX8_isIn_3 (by decide) ?_
  refine lv_iand X.1 X.2.1 dX8_isIn_4 ?_
  refine lv_iconst (v := 1) X.1 X.2.1 dX8_isIn_5 (by decide) ?_
  refine lv_icmp_ne (tgt := 13) X.1 X.2.1 dX8_isIn_6 (by decide) (fun c6 => ?_) (fun c6 => ?_)
  · have hf := ie_s hf c6
    refine lv_iconst (v := 0) X.1 X.2.1 dX8_isIn_13 (by decide) ?_
    exact t_X8_isIn_b14 X  0 H locs ls hf  hP hS (lv_sub hl [] rfl)
  · have hf := it_s hf c6
    refine lv_iconst (v := 1) X.1 X.2.1 dX8_isIn_9 (by decide) ?_
    refine lv_goto (tgt := 14) X.1 X.2.1 dX8_isIn_10 (by decide) ?_
    exact t_X8_isIn_b14 X  1 H locs ls hf  hP hS (lv_sub hl [] rfl)
set_option maxRecDepth 100000 in
theorem c_X8_isIn {l : Launch} {D : va_G} {a : Nat → Nat}  (x0 : Int32) (x1 : Int32) {o0 : Int32} (hf : p_X8_isIn  x0 x1 = some o0) : Ct 0 l yX8_isIn cX8_isIn 2 (some .boolean) rm_X8_isIn D [] a [] [.int x0, .int x1] (Qi D [] o0) :=
  Ct.of (by decide +kernel) (fun i j h => absurd h (Nat.not_lt_zero i)) (Nat.le_of_ble_eq_true rfl) (fun p e s m args below meth c ls X hP hl => t_X8_isIn_b0 X  x0 x1 _ _ _ hf  hP va_S.rf hl)
abbrev rm_X8_ones : Room := { frames := 0, cells := 0, slots := 0, locals := 0 }
set_option maxHeartbeats 4000000 in
set_option maxRecDepth 100000 in
theorem t_X8_ones_b4x {p : Program} {l : Launch} {e : Env} {s : State} {m : MethodId} {args : Array Value} {below : List Frame} {meth : Method} {c : Code} {D : va_G} {a : Nat → Nat} (X : cx 0 p s m args meth c D [] a cX8_ones 3 RX8 (some .int))   {r : Int32} {K4 : Int32 → Int32 → Option (Int32)} (kh4 : ∀  (x1 : Int32) (x2 : Int32) (H : Heap) (locs : List Loc) (ls : Array Slot), K4  x1 x2 = some r → va_P D vwCl [] H → va_S (ad a 0 s.heap.size) s.heap H locs → lv_has ls 3 [(1, .int x1), (2, .int x2)] → W p l e rm_X8_ones s m args below meth c H locs 0 0 (MQ below (Qi D [] r (ad a 0 s.heap.size)) args s 0 0 (ad a 0 s.heap.size)) (F0 m 4 ls [])) :
    ∀  (x1 : Int32) (x2 : Int32) (H : Heap) (locs : List Loc) (ls : Array Slot), p_X8_ones_b4x K4  x1 x2 = some r → va_P D vwCl [] H → va_S (ad a 0 s.heap.size) s.heap H locs → lv_has ls 3 [(1, .int x1), (2, .int x2)] → W p l e rm_X8_ones s m args below meth c H locs 0 0 (MQ below (Qi D [] r (ad a 0 s.heap.size)) args s 0 0 (ad a 0 s.heap.size)) (F0 m 4 ls []) := by
  intro  x1 x2 H locs ls hf  hP hS hl
  unfold p_X8_ones_b4x at hf
  refine lv_iload_n X.1 X.2.1 dX8_ones_4 rfl (lv_at hl 1 rfl) ?_
  refine lv_if_eq (tgt := 20) X.1 X.2.1 dX8_ones_5 (by decide) (fun c5 => ?_) (fun c5 => ?_)
  · have hf := it_s hf c5
    refine lv_iload_n X.1 X.2.1 dX8_ones_20 rfl (lv_at hl 0 rfl) ?_
    have e0 := o1 hf
    exact ret_i X hS hP e0 dX8_ones_21
  · have hf := ie_s hf c5
    obtain ⟨x8, ex8, hf⟩ := nm_x hf
    refine lv_iinc (v := x8) (lv' := [(1, .int x8), (2, .int x2)]) X.1 X.2.1 dX8_ones_8 hl (k := 0) rfl ex8 (by decide) rfl (fun ls hl => ?_)
    refine lv_iload_n X.1 X.2.1 dX8_ones_11 rfl (lv_at hl 1 rfl) ?_
    refine lv_iload_n X.1 X.2.1 dX8_ones_12 rfl (lv_at hl 1 rfl) ?_
    refine lv_iconst (v := 1) X.1 X.2.1 dX8_ones_13 (by decide) ?_
    refine lv_isub X.1 X.2.1 dX8_ones_14 ?_
    refine lv_iand X.1 X.2.1 dX8_ones_15 ?_
    refine nm_i hf (fun x16 hf => ?_)
    refine lv_istore_n (lv' := [(2, .int x16), (1, .int x8)]) X.1 X.2.1 dX8_ones_16 rfl hl (by decide) rfl (fun ls hl => ?_)
    refine lv_goto (tgt := 4) X.1 X.2.1 dX8_ones_17 (by decide) ?_
    exact kh4  x8 x16 H locs ls hf  hP hS (lv_sub hl [1, 0] rfl)
set_option maxRecDepth 100000 in
theorem t_X8_ones_b4 {p : Program} {l : Launch} {e : Env} {s : State} {m : MethodId} {args : Array Value} {below : List Frame} {meth : Method} {c : Code} {D : va_G} {a : Nat → Nat} (X : cx 0 p s m args meth c D [] a cX8_ones 3 RX8 (some .int))   {r : Int32} :
    ∀ (n : Nat)  (x1 : Int32) (x2 : Int32) (H : Heap) (locs : List Loc) (ls : Array Slot), p_X8_ones_b4 n  x1 x2 = some r → va_P D vwCl [] H → va_S (ad a 0 s.heap.size) s.heap H locs → lv_has ls 3 [(1, .int x1), (2, .int x2)] → W p l e rm_X8_ones s m args below meth c H locs 0 0 (MQ below (Qi D [] r (ad a 0 s.heap.size)) args s 0 0 (ad a 0 s.heap.size)) (F0 m 4 ls []) := by
  intro n
  induction n with
  | zero => intro  x1 x2 H locs ls hf  hP hS hl; exact (nos hf).elim
  | succ n ih => exact t_X8_ones_b4x X ih
set_option maxHeartbeats 4000000 in
set_option maxRecDepth 100000 in
theorem t_X8_ones_b0 {p : Program} {l : Launch} {e : Env} {s : State} {m : MethodId} {args : Array Value} {below : List Frame} {meth : Method} {c : Code} {D : va_G} {a : Nat → Nat} (X : cx 0 p s m args meth c D [] a cX8_ones 3 RX8 (some .int))   {r : Int32} :
    ∀  (x0 : Int32) (H : Heap) (locs : List Loc) (ls : Array Slot), p_X8_ones_b0  x0 = some r → va_P D vwCl [] H → va_S (ad a 0 s.heap.size) s.heap H locs → lv_has ls 3 [(0, .int x0)] → W p l e rm_X8_ones s m args below meth c H locs 0 0 (MQ below (Qi D [] r (ad a 0 s.heap.size)) args s 0 0 (ad a 0 s.heap.size)) (F0 m 0 ls []) := by
  intro  x0 H locs ls hf  hP hS hl
  unfold p_X8_ones_b0 at hf
  refine lv_iconst (v := 0) X.1 X.2.1 dX8_ones_0 (by decide) ?_
  refine lv_istore_n (lv' := [(1, .int 0), (0, .int x0)]) X.1 X.2.1 dX8_ones_1 rfl hl (by decide) rfl (fun ls hl => ?_)
  refine lv_iload_n X.1 X.2.1 dX8_ones_2 rfl (lv_at hl 1 rfl) ?_
  refine lv_istore_n (lv' := [(2, .int x0), (1, .int 0), (0, .int x0)]) X.1 X.2.1 dX8_ones_3 rfl hl (by decide) rfl (fun ls hl => ?_)
  exact t_X8_ones_b4 X 4096  0 x0 H locs ls hf  hP hS (lv_sub hl [1, 0] rfl)
set_option maxRecDepth 100000 in
theorem c_X8_ones {l : Launch} {D : va_G} {a : Nat → Nat}  (x0 : Int32) {o0 : Int32} (hf : p_X8_ones  x0 = some o0) : Ct 0 l yX8_ones cX8_ones 3 (some .int) rm_X8_ones D [] a [] [.int x0] (Qi D [] o0) :=
  Ct.of (by decide +kernel) (fun i j h => absurd h (Nat.not_lt_zero i)) (Nat.le_of_ble_eq_true rfl) (fun p e s m args below meth c ls X hP hl => t_X8_ones_b0 X  x0 _ _ _ hf  hP va_S.rf hl)
abbrev rm_X8_part : Room := { frames := 0, cells := 0, slots := 0, locals := 0 }
set_option maxHeartbeats 4000000 in
set_option maxRecDepth 100000 in
theorem t_X8_part_b41 {p : Program} {l : Launch} {e : Env} {s : State} {m : MethodId} {args : Array Value} {below : List Frame} {meth : Method} {c : Code} {D : va_G} {a : Nat → Nat} (X : cx 0 p s m args meth c D [] a cX8_part 11 RX8 (some .long))   {r : Int64} :
    ∀  (t0 : Int64) (x5 : Int64) (H : Heap) (locs : List Loc) (ls : Array Slot), p_X8_part_b41  t0 x5 = some r → va_P D vwCl [] H → va_S (ad a 0 s.heap.size) s.heap H locs → lv_has ls 11 [(5, .long x5)] → W p l e rm_X8_part s m args below meth c H locs 0 0 (MQ below (Ql D [] r (ad a 0 s.heap.size)) args s 0 0 (ad a 0 s.heap.size)) (F0 m 41 ls [.long t0]) := by
  intro  t0 x5 H locs ls hf  hP hS hl
  unfold p_X8_part_b41 at hf
  refine lv_lload X.1 X.2.1 dX8_part_41 (lv_at hl 0 rfl) ?_
  obtain ⟨h43, hf⟩ := gd_s hf
  refine lv_ldiv X.1 X.2.1 dX8_part_43 (of_decide_eq_true h43) ?_
  have e0 := o1 hf
  exact ret_l X hS hP e0 dX8_part_44
set_option maxHeartbeats 4000000 in
set_option maxRecDepth 100000 in
theorem t_X8_part_b6x {p : Program} {l : Launch} {e : Env} {s : State} {m : MethodId} {args : Array Value} {below : List Frame} {meth : Method} {c : Code} {D : va_G} {a : Nat → Nat} (X : cx 0 p s m args meth c D [] a cX8_part 11 RX8 (some .long))   {r : Int64} {K6 : Int64 → Int64 → Int32 → Int64 → Int64 → Option (Int64)} (kh6 : ∀  (x0 : Int64) (x2 : Int64) (x4 : Int32) (x5 : Int64) (x7 : Int64) (H : Heap) (locs : List Loc) (ls : Array Slot), K6  x0 x2 x4 x5 x7 = some r → va_P D vwCl [] H → va_S (ad a 0 s.heap.size) s.heap H locs → lv_has ls 11 [(0, .long x0), (2, .long x2), (4, .int x4), (5, .long x5), (7, .long x7)] → W p l e rm_X8_part s m args below meth c H locs 0 0 (MQ below (Ql D [] r (ad a 0 s.heap.size)) args s 0 0 (ad a 0 s.heap.size)) (F0 m 6 ls [])) :
    ∀  (x0 : Int64) (x2 : Int64) (x4 : Int32) (x5 : Int64) (x7 : Int64) (H : Heap) (locs : List Loc) (ls : Array Slot), p_X8_part_b6x K6  x0 x2 x4 x5 x7 = some r → va_P D vwCl [] H → va_S (ad a 0 s.heap.size) s.heap H locs → lv_has ls 11 [(0, .long x0), (2, .long x2), (4, .int x4), (5, .long x5), (7, .long x7)] → W p l e rm_X8_part s m args below meth c H locs 0 0 (MQ below (Ql D [] r (ad a 0 s.heap.size)) args s 0 0 (ad a 0 s.heap.size)) (F0 m 6 ls []) := by
  intro  x0 x2 x4 x5 x7 H locs ls hf  hP hS hl
  unfold p_X8_part_b6x at hf
  refine lv_lload X.1 X.2.1 dX8_part_6 (lv_at hl 4 rfl) ?_
  refine lv_lconst (v := 0) X.1 X.2.1 dX8_part_8 (by decide) ?_
  refine W.lcmp X.1 X.2.1 dX8_part_9 ?_
  refine lv_if_eq (tgt := 31) X.1 X.2.1 dX8_part_10 (by decide) (fun c10 => ?_) (fun c10 => ?_)
  · have hf := it_s hf c10
    refine lv_iload X.1 X.2.1 dX8_part_31 (lv_at hl 2 rfl) ?_
    refine lv_if_ne (tgt := 40) X.1 X.2.1 dX8_part_33 (by decide) (fun c33 => ?_) (fun c33 => ?_)
    · have hf := ie_s hf c33
      refine lv_lload_n X.1 X.2.1 dX8_part_40 rfl (lv_at hl 1 rfl) ?_
      exact t_X8_part_b41 X  x2 x5 H locs ls hf  hP hS (lv_sub hl [3] rfl)
    · have hf := it_s hf c33
      refine lv_lload_n X.1 X.2.1 dX8_part_36 rfl (lv_at hl 0 rfl) ?_
      refine lv_goto (tgt := 41) X.1 X.2.1 dX8_part_37 (by decide) ?_
      exact t_X8_part_b41 X  x0 x5 H locs ls hf  hP hS (lv_sub hl [3] rfl)
  · have hf := ie_s hf c10
    refine lv_lload X.1 X.2.1 dX8_part_13 (lv_at hl 3 rfl) ?_
    refine lv_lload X.1 X.2.1 dX8_part_15 (lv_at hl 4 rfl) ?_
    obtain ⟨h17, hf⟩ := gd_s hf
    refine lv_lrem X.1 X.2.1 dX8_part_17 (of_decide_eq_true h17) ?_
    refine nm_l hf (fun x18 hf => ?_)
    refine lv_lstore (lv' := [(9, .long x18), (0, .long x0), (2, .long x2), (4, .int x4), (5, .long x5), (7, .long x7)]) X.1 X.2.1 dX8_part_18 hl (by decide) rfl (fun ls hl => ?_)
    refine lv_lload X.1 X.2.1 dX8_part_20 (lv_at hl 5 rfl) ?_
    refine lv_lstore (lv' := [(5, .long x7), (9, .long x18), (0, .long x0), (2, .long x2), (4, .int x4), (7, .long x7)]) X.1 X.2.1 dX8_part_22 hl (by decide) rfl (fun ls hl => ?_)
    refine lv_lload X.1 X.2.1 dX8_part_24 (lv_at hl 1 rfl) ?_
    refine lv_lstore (lv' := [(7, .long x18), (5, .long x7), (9, .long x18), (0, .long x0), (2, .long x2), (4, .int x4)]) X.1 X.2.1 dX8_part_26 hl (by decide) rfl (fun ls hl => ?_)
    refine lv_goto (tgt := 6) X.1 X.2.1 dX8_part_28 (by decide) ?_
    exact kh6  x0 x2 x4 x7 x18 H locs ls hf  hP hS (lv_sub hl [3, 4, 5, 1, 0] rfl)
set_option maxRecDepth 100000 in
theorem t_X8_part_b6 {p : Program} {l : Launch} {e : Env} {s : State} {m : MethodId} {args : Array Value} {below : List Frame} {meth : Method} {c : Code} {D : va_G} {a : Nat → Nat} (X : cx 0 p s m args meth c D [] a cX8_part 11 RX8 (some .long))   {r : Int64} :
    ∀ (n : Nat)  (x0 : Int64) (x2 : Int64) (x4 : Int32) (x5 : Int64) (x7 : Int64) (H : Heap) (locs : List Loc) (ls : Array Slot), p_X8_part_b6 n  x0 x2 x4 x5 x7 = some r → va_P D vwCl [] H → va_S (ad a 0 s.heap.size) s.heap H locs → lv_has ls 11 [(0, .long x0), (2, .long x2), (4, .int x4), (5, .long x5), (7, .long x7)] → W p l e rm_X8_part s m args below meth c H locs 0 0 (MQ below (Ql D [] r (ad a 0 s.heap.size)) args s 0 0 (ad a 0 s.heap.size)) (F0 m 6 ls []) := by
  intro n
  induction n with
  | zero => intro  x0 x2 x4 x5 x7 H locs ls hf  hP hS hl; exact (nos hf).elim
  | succ n ih => exact t_X8_part_b6x X ih
set_option maxHeartbeats 4000000 in
set_option maxRecDepth 100000 in
theorem t_X8_part_b0 {p : Program} {l : Launch} {e : Env} {s : State} {m : MethodId} {args : Array Value} {below : List Frame} {meth : Method} {c : Code} {D : va_G} {a : Nat → Nat} (X : cx 0 p s m args meth c D [] a cX8_part 11 RX8 (some .long))   {r : Int64} :
    ∀  (x0 : Int64) (x2 : Int64) (x4 : Int32) (H : Heap) (locs : List Loc) (ls : Array Slot), p_X8_part_b0  x0 x2 x4 = some r → va_P D vwCl [] H → va_S (ad a 0 s.heap.size) s.heap H locs → lv_has ls 11 [(0, .long x0), (2, .long x2), (4, .int x4)] → W p l e rm_X8_part s m args below meth c H locs 0 0 (MQ below (Ql D [] r (ad a 0 s.heap.size)) args s 0 0 (ad a 0 s.heap.size)) (F0 m 0 ls []) := by
  intro  x0 x2 x4 H locs ls hf  hP hS hl
  unfold p_X8_part_b0 at hf
  refine lv_lload_n X.1 X.2.1 dX8_part_0 rfl (lv_at hl 0 rfl) ?_
  refine lv_lstore (lv' := [(5, .long x0), (0, .long x0), (2, .long x2), (4, .int x4)]) X.1 X.2.1 dX8_part_1 hl (by decide) rfl (fun ls hl => ?_)
  refine lv_lload_n X.1 X.2.1 dX8_part_3 rfl (lv_at hl 2 rfl) ?_
  refine lv_lstore (lv' := [(7, .long x2), (5, .long x0), (0, .long x0), (2, .long x2), (4, .int x4)]) X.1 X.2.1 dX8_part_4 hl (by decide) rfl (fun ls hl => ?_)
  exact t_X8_part_b6 X 4096  x0 x2 x4 x0 x2 H locs ls hf  hP hS (lv_sub hl [2, 3, 4, 1, 0] rfl)
set_option maxRecDepth 100000 in
theorem c_X8_part {l : Launch} {D : va_G} {a : Nat → Nat}  (x0 : Int64) (x2 : Int64) (x4 : Int32) {o0 : Int64} (hf : p_X8_part  x0 x2 x4 = some o0) : Ct 0 l yX8_part cX8_part 11 (some .long) rm_X8_part D [] a [] [.long x0, .long x2, .int x4] (Ql D [] o0) :=
  Ct.of (by decide +kernel) (fun i j h => absurd h (Nat.not_lt_zero i)) (Nat.le_of_ble_eq_true rfl) (fun p e s m args below meth c ls X hP hl => t_X8_part_b0 X  x0 x2 x4 _ _ _ hf  hP va_S.rf hl)
abbrev rm_X8_met : Room := { frames := 0, cells := 0, slots := 0, locals := 0 }
set_option maxHeartbeats 4000000 in
set_option maxRecDepth 100000 in
theorem t_X8_met_b0 {p : Program} {l : Launch} {e : Env} {s : State} {m : MethodId} {args : Array Value} {below : List Frame} {meth : Method} {c : Code} {D : va_G} {a : Nat → Nat} {kc : Nat → ClassId} (X : cx 21 p s m args meth c D (tyM kc) a cX8_met 2 RX8 (some .int)) {G : Nat → Int64} {I : Nat → Nat → Int32} {J : Nat → Nat → Int64} {Ff : Nat → Int32} {r : Int32} :
    ∀ (F : Nat → Int32) (x1 : Int32) (H : Heap) (locs : List Loc) (ls : Array Slot), p_X8_met_b0 (F 0) x1 = some (r, (Ff 0)) → (∀ k, k ∉ ([0] : List Nat) → Ff k = F k) → va_P D vwCl (wM a kc F G I J) H → va_S (ad a 21 s.heap.size) s.heap H locs → lv_has ls 2 [(0, .ref (a 0)), (1, .int x1)] → W p l e rm_X8_met s m args below meth c H locs 0 0 (MQ below (Qi D (wM a kc Ff G I J) r (ad a 21 s.heap.size)) args s 0 0 (ad a 21 s.heap.size)) (F0 m 0 ls []) := by
  intro F x1 H locs ls hf hfF hP hS hl
  unfold p_X8_met_b0 at hf
  refine lv_aload_n X.1 X.2.1 dX8_met_0 rfl (lv_at hl 0 rfl) ?_
  refine lv_iload_n X.1 X.2.1 dX8_met_1 rfl (lv_at hl 1 rfl) ?_
  refine pM_0_4 X q_4_113 dX8_met_2 hP hS (fun H locs hP hS => ?_)
  refine lv_bipush (v := (-10)) X.1 X.2.1 dX8_met_5 (by decide) ?_
  refine lv_iload_n X.1 X.2.1 dX8_met_7 rfl (lv_at hl 1 rfl) ?_
  refine lv_isub X.1 X.2.1 dX8_met_8 ?_
  obtain ⟨e0, hf⟩ := o2 hf
  have e1 := o1 hf
  have EF : Ff = (va_up F 0 x1) := frm_eq (frm_up hfF (by decide)) (frm_c (e1).symm frm_n)
  exact ret_i X hS (by rw [EF]; exact hP) e0 dX8_met_9
set_option maxRecDepth 100000 in
theorem c_X8_met {l : Launch} {D : va_G} {a : Nat → Nat} {kc : Nat → ClassId} (F : Nat → Int32) (G : Nat → Int64) (I : Nat → Nat → Int32) (J : Nat → Nat → Int64) (hAp : ∀ i j, i < 21 → j < 21 → a i = a j → i = j) (x1 : Int32) {o0 : Int32} {o1 : Int32} (hf : p_X8_met (F 0) x1 = some (o0, o1)) : Ct 21 l yX8_met cX8_met 2 (some .int) rm_X8_met D (tyM kc) a (wM a kc F G I J) [.ref (a 0), .int x1] (Qi D (wM a kc (va_up F 0 o1) G I J) o0) :=
  Ct.of (by decide +kernel) hAp (Nat.le_of_ble_eq_true rfl) (fun p e s m args below meth c ls X hP hl => t_X8_met_b0 X F x1 _ _ _ hf (frm_ul (fun k _ => rfl) (by decide)) hP va_S.rf hl)
abbrev rm_X8_isSheet : Room := { frames := 1, cells := 0, slots := 0, locals := 25 }
set_option maxHeartbeats 4000000 in
set_option maxRecDepth 100000 in
theorem t_X8_isSheet_b0 {p : Program} {l : Launch} {e : Env} {s : State} {m : MethodId} {args : Array Value} {below : List Frame} {meth : Method} {c : Code} {D : va_G} {a : Nat → Nat} (X : cx 0 p s m args meth c D [] a cX8_isSheet 1 RX8 (some .boolean))   {r : Int32} :
    ∀  (x0 : Int32) (H : Heap) (locs : List Loc) (ls : Array Slot), p_X8_isSheet_b0  x0 = some r → va_P D vwCl [] H → va_S (ad a 0 s.heap.size) s.heap H locs → lv_has ls 1 [(0, .int x0)] → W p l e rm_X8_isSheet s m args below meth c H locs 0 0 (MQ below (Qi D [] r (ad a 0 s.heap.size)) args s 0 0 (ad a 0 s.heap.size)) (F0 m 0 ls []) := by
  intro  x0 H locs ls hf  hP hS hl
  unfold p_X8_isSheet_b0 at hf
  refine lv_iload_n X.1 X.2.1 dX8_isSheet_0 rfl (lv_at hl 0 rfl) ?_
  refine lv_i2l X.1 X.2.1 dX8_isSheet_1 rfl ?_
  refine lv_lconst (v := 0) X.1 X.2.1 dX8_isSheet_2 (by decide) ?_
  refine lv_ldc2 (v := 3) X.1 X.2.1 X.2.2.2.2.1 (X.2.2.2.2.2.1 _ q_4_225) dX8_isSheet_3 ?_
  obtain ⟨r6, ho, hf⟩ := b1_s hf
  refine call_si (rest := []) X (c_X8_in x0.toInt64 0 3 ho) q_4_226 q_4_227 q_1_10 q_4_228 ok_X8_in rfl ⟨Nat.le_of_ble_eq_true rfl, Nat.le_of_ble_eq_true rfl⟩ rfl rfl hl.1 rfl (Nat.le_of_ble_eq_true rfl) dX8_isSheet_6 hP hS (fun H locs hP hS => ?_)
  obtain ⟨h9, hf⟩ := gd_s hf
  have e0 := o1 hf
  exact ret_z X hS hP e0 h9 dX8_isSheet_9
set_option maxRecDepth 100000 in
theorem c_X8_isSheet {l : Launch} {D : va_G} {a : Nat → Nat}  (x0 : Int32) {o0 : Int32} (hf : p_X8_isSheet  x0 = some o0) : Ct 0 l yX8_isSheet cX8_isSheet 1 (some .boolean) rm_X8_isSheet D [] a [] [.int x0] (Qi D [] o0) :=
  Ct.of (by decide +kernel) (fun i j h => absurd h (Nat.not_lt_zero i)) (Nat.le_of_ble_eq_true rfl) (fun p e s m args below meth c ls X hP hl => t_X8_isSheet_b0 X  x0 _ _ _ hf  hP va_S.rf hl)
abbrev rm_X8_sheet : Room := { frames := 2, cells := 0, slots := 0, locals := 45 }
set_option maxHeartbeats 4000000 in
set_option maxRecDepth 100000 in
theorem t_X8_sheet_b25 {p : Program} {l : Launch} {e : Env} {s : State} {m : MethodId} {args : Array Value} {below : List Frame} {meth : Method} {c : Code} {D : va_G} {a : Nat → Nat} {kc : Nat → ClassId} (X : cx 21 p s m args meth c D (tyM kc) a cX8_sheet 5 RX8 (some .int)) {G : Nat → Int64} {J : Nat → Nat → Int64} {Ff : Nat → Int32} {If : Nat → Nat → Int32} {r : Int32} :
    ∀ (F : Nat → Int32) (I : Nat → Nat → Int32)  (H : Heap) (locs : List Loc) (ls : Array Slot), p_X8_sheet_b25 (F 0) (I 0) (I 1) (I 2)  = some (r, (Ff 0), (If 0), (If 1), (If 2)) → (∀ k, k ∉ ([0] : List Nat) → Ff k = F k) → (∀ k, k ∉ ([0, 1, 2] : List Nat) → If k = I k) → va_P D vwCl (wM a kc F G I J) H → va_S (ad a 21 s.heap.size) s.heap H locs → lv_has ls 5 [(0, .ref (a 0))] → W p l e rm_X8_sheet s m args below meth c H locs 0 0 (MQ below (Qi D (wM a kc Ff G If J) r (ad a 21 s.heap.size)) args s 0 0 (ad a 21 s.heap.size)) (F0 m 25 ls []) := by
  intro F I  H locs ls hf hfF hfI hP hS hl
  unfold p_X8_sheet_b25 at hf
  refine lv_bipush (v := (-2)) X.1 X.2.1 dX8_sheet_25 (by decide) ?_
  obtain ⟨e0, hf⟩ := o2 hf
  obtain ⟨e1, hf⟩ := o2 hf
  obtain ⟨e2, hf⟩ := o2 hf
  obtain ⟨e3, hf⟩ := o2 hf
  have e4 := o1 hf
  have EF : Ff = F := frm_eq hfF (frm_c (e1).symm frm_n)
  have EI : If = I := frm_eq hfI (frm_c (e2).symm (frm_c (e3).symm (frm_c (e4).symm frm_n)))
  exact ret_i X hS (by rw [EF, EI]; exact hP) e0 dX8_sheet_27
set_option maxHeartbeats 4000000 in
set_option maxRecDepth 100000 in
theorem t_X8_sheet_b55x {p : Program} {l : Launch} {e : Env} {s : State} {m : MethodId} {args : Array Value} {below : List Frame} {meth : Method} {c : Code} {D : va_G} {a : Nat → Nat} {kc : Nat → ClassId} (X : cx 21 p s m args meth c D (tyM kc) a cX8_sheet 5 RX8 (some .int)) {G : Nat → Int64} {J : Nat → Nat → Int64} {Ff : Nat → Int32} {If : Nat → Nat → Int32} {r : Int32} {K55 : Int32 → (Nat → Int32) → (Nat → Int32) → (Nat → Int32) → Int32 → Int32 → Int32 → Option (Int32 × Int32 × (Nat → Int32) × (Nat → Int32) × (Nat → Int32))} (kh55 : ∀ (F : Nat → Int32) (I : Nat → Nat → Int32) (x1 : Int32) (x3 : Int32) (x4 : Int32) (H : Heap) (locs : List Loc) (ls : Array Slot), K55 (F 0) (I 0) (I 1) (I 2) x1 x3 x4 = some (r, (Ff 0), (If 0), (If 1), (If 2)) → (∀ k, k ∉ ([0] : List Nat) → Ff k = F k) → (∀ k, k ∉ ([0, 1, 2] : List Nat) → If k = I k) → va_P D vwCl (wM a kc F G I J) H → va_S (ad a 21 s.heap.size) s.heap H locs → lv_has ls 5 [(0, .ref (a 0)), (1, .int x1), (3, .int x3), (4, .int x4)] → W p l e rm_X8_sheet s m args below meth c H locs 0 0 (MQ below (Qi D (wM a kc Ff G If J) r (ad a 21 s.heap.size)) args s 0 0 (ad a 21 s.heap.size)) (F0 m 55 ls [])) :
    ∀ (F : Nat → Int32) (I : Nat → Nat → Int32) (x1 : Int32) (x3 : Int32) (x4 : Int32) (H : Heap) (locs : List Loc) (ls : Array Slot), p_X8_sheet_b55x K55 (F 0) (I 0) (I 1) (I 2) x1 x3 x4 = some (r, (Ff 0), (If 0), (If 1), (If 2)) → (∀ k, k ∉ ([0] : List Nat) → Ff k = F k) → (∀ k, k ∉ ([0, 1, 2] : List Nat) → If k = I k) → va_P D vwCl (wM a kc F G I J) H → va_S (ad a 21 s.heap.size) s.heap H locs → lv_has ls 5 [(0, .ref (a 0)), (1, .int x1), (3, .int x3), (4, .int x4)] → W p l e rm_X8_sheet s m args below meth c H locs 0 0 (MQ below (Qi D (wM a kc Ff G If J) r (ad a 21 s.heap.size)) args s 0 0 (ad a 21 s.heap.size)) (F0 m 55 ls []) := by
  intro F I x1 x3 x4 H locs ls hf hfF hfI hP hS hl
  unfold p_X8_sheet_b55x at hf
  refine lv_iload X.1 X.2.1 dX8_sheet_55 (lv_at hl 3 rfl) ?_
  refine lv_iload_n X.1 X.2.1 dX8_sheet_57 rfl (lv_at hl 2 rfl) ?_
  refine lv_icmp_ge (tgt := 80) X.1 X.2.1 dX8_sheet_58 (by decide) (fun c58 => ?_) (fun c58 => ?_)
  · have hf := it_s hf c58
    refine lv_iload_n X.1 X.2.1 dX8_sheet_80 rfl (lv_at hl 2 rfl) ?_
    obtain ⟨e0, hf⟩ := o2 hf
    obtain ⟨e1, hf⟩ := o2 hf
    obtain ⟨e2, hf⟩ := o2 hf
    obtain ⟨e3, hf⟩ := o2 hf
    have e4 := o1 hf
    have EF : Ff = F := frm_eq hfF (frm_c (e1).symm frm_n)
    have EI : If = I := frm_eq hfI (frm_c (e2).symm (frm_c (e3).symm (frm_c (e4).symm frm_n)))
    exact ret_i X hS (by rw [EF, EI]; exact hP) e0 dX8_sheet_81
  · have hf := ie_s hf c58
    refine lv_aload_n X.1 X.2.1 dX8_sheet_61 rfl (lv_at hl 0 rfl) ?_
    refine gM_0_2 X q_4_111 dX8_sheet_62 hP ?_
    refine lv_bipush (v := 60) X.1 X.2.1 dX8_sheet_65 (by decide) ?_
    refine lv_iload_n X.1 X.2.1 dX8_sheet_67 rfl (lv_at hl 1 rfl) ?_
    refine lv_imul X.1 X.2.1 dX8_sheet_68 ?_
    refine lv_iload X.1 X.2.1 dX8_sheet_69 (lv_at hl 3 rfl) ?_
    refine lv_iadd X.1 X.2.1 dX8_sheet_71 ?_
    refine lv_iconst (v := 0) X.1 X.2.1 dX8_sheet_72 (by decide) ?_
    obtain ⟨h73, hf⟩ := gd_s hf
    obtain ⟨m_items_73, em_items_73, hf⟩ := nm_x hf
    refine sM_3 (I := I) X h73 em_items_73 dX8_sheet_73 hP hS (fun H locs hP hS => ?_)
    obtain ⟨x74, ex74, hf⟩ := nm_x hf
    refine lv_iinc (v := x74) (lv' := [(4, .int x74), (0, .ref (a 0)), (1, .int x1), (3, .int x3)]) X.1 X.2.1 dX8_sheet_74 hl (k := 3) rfl ex74 (by decide) rfl (fun ls hl => ?_)
    refine lv_goto (tgt := 55) X.1 X.2.1 dX8_sheet_77 (by decide) ?_
    exact kh55 F (va_up I 2 m_items_73) x1 x3 x74 H locs ls hf hfF (frm_up hfI (by decide)) hP hS (lv_sub hl [1, 2, 3, 0] rfl)
set_option maxRecDepth 100000 in
theorem t_X8_sheet_b55 {p : Program} {l : Launch} {e : Env} {s : State} {m : MethodId} {args : Array Value} {below : List Frame} {meth : Method} {c : Code} {D : va_G} {a : Nat → Nat} {kc : Nat → ClassId} (X : cx 21 p s m args meth c D (tyM kc) a cX8_sheet 5 RX8 (some .int)) {G : Nat → Int64} {J : Nat → Nat → Int64} {Ff : Nat → Int32} {If : Nat → Nat → Int32} {r : Int32} :
    ∀ (n : Nat) (F : Nat → Int32) (I : Nat → Nat → Int32) (x1 : Int32) (x3 : Int32) (x4 : Int32) (H : Heap) (locs : List Loc) (ls : Array Slot), p_X8_sheet_b55 n (F 0) (I 0) (I 1) (I 2) x1 x3 x4 = some (r, (Ff 0), (If 0), (If 1), (If 2)) → (∀ k, k ∉ ([0] : List Nat) → Ff k = F k) → (∀ k, k ∉ ([0, 1, 2] : List Nat) → If k = I k) → va_P D vwCl (wM a kc F G I J) H → va_S (ad a 21 s.heap.size) s.heap H locs → lv_has ls 5 [(0, .ref (a 0)), (1, .int x1), (3, .int x3), (4, .int x4)] → W p l e rm_X8_sheet s m args below meth c H locs 0 0 (MQ below (Qi D (wM a kc Ff G If J) r (ad a 21 s.heap.size)) args s 0 0 (ad a 21 s.heap.size)) (F0 m 55 ls []) := by
  intro n
  induction n with
  | zero => intro F I x1 x3 x4 H locs ls hf hfF hfI hP hS hl; exact (nos hf).elim
  | succ n ih => exact t_X8_sheet_b55x X ih
set_option maxHeartbeats 4000000 in
set_option maxRecDepth 100000 in
theorem t_X8_sheet_b0 {p : Program} {l : Launch} {e : Env} {s : State} {m : MethodId} {args : Array Value} {below : List Frame} {meth : Method} {c : Code} {D : va_G} {a : Nat → Nat} {kc : Nat → ClassId} (X : cx 21 p s m args meth c D (tyM kc) a cX8_sheet 5 RX8 (some .int)) {G : Nat → Int64} {J : Nat → Nat → Int64} {Ff : Nat → Int32} {If : Nat → Nat → Int32} {r : Int32} :
    ∀ (F : Nat → Int32) (I : Nat → Nat → Int32) (x1 : Int32) (x2 : Int32) (x3 : Int32) (H : Heap) (locs : List Loc) (ls : Array Slot), p_X8_sheet_b0 (F 0) (I 0) (I 1) (I 2) x1 x2 x3 = some (r, (Ff 0), (If 0), (If 1), (If 2)) → (∀ k, k ∉ ([0] : List Nat) → Ff k = F k) → (∀ k, k ∉ ([0, 1, 2] : List Nat) → If k = I k) → va_P D vwCl (wM a kc F G I J) H → va_S (ad a 21 s.heap.size) s.heap H locs → lv_has ls 5 [(0, .ref (a 0)), (1, .int x1), (2, .int x2), (3, .int x3)] → W p l e rm_X8_sheet s m args below meth c H locs 0 0 (MQ below (Qi D (wM a kc Ff G If J) r (ad a 21 s.heap.size)) args s 0 0 (ad a 21 s.heap.size)) (F0 m 0 ls []) := by
  intro F I x1 x2 x3 H locs ls hf hfF hfI hP hS hl
  unfold p_X8_sheet_b0 at hf
  refine lv_iload_n X.1 X.2.1 dX8_sheet_0 rfl (lv_at hl 1 rfl) ?_
  obtain ⟨r1, ho, hf⟩ := b1_s hf
  refine call_si (rest := []) X (c_X8_isSheet x1 ho) q_4_222 q_4_223 q_1_10 q_4_224 ok_X8_isSheet rfl ⟨Nat.le_of_ble_eq_true rfl, Nat.le_of_ble_eq_true rfl⟩ rfl rfl hl.1 rfl (Nat.le_of_ble_eq_true rfl) dX8_sheet_1 hP hS (fun H locs hP hS => ?_)
  refine lv_if_eq (tgt := 25) X.1 X.2.1 dX8_sheet_4 (by decide) (fun c4 => ?_) (fun c4 => ?_)
  · have hf := it_s hf c4
    exact t_X8_sheet_b25 X F I  H locs ls hf hfF hfI hP hS (lv_sub hl [0] rfl)
  · have hf := ie_s hf c4
    refine lv_iload_n X.1 X.2.1 dX8_sheet_7 rfl (lv_at hl 2 rfl) ?_
    refine lv_i2l X.1 X.2.1 dX8_sheet_8 rfl ?_
    refine lv_lconst (v := 0) X.1 X.2.1 dX8_sheet_9 (by decide) ?_
    refine lv_ldc2 (v := 2) X.1 X.2.1 X.2.2.2.2.1 (X.2.2.2.2.2.1 _ q_4_229) dX8_sheet_10 ?_
    obtain ⟨r13, ho, hf⟩ := b1_s hf
    refine call_si (rest := []) X (c_X8_in x2.toInt64 0 2 ho) q_4_226 q_4_227 q_1_10 q_4_228 ok_X8_in rfl ⟨Nat.le_of_ble_eq_true rfl, Nat.le_of_ble_eq_true rfl⟩ rfl rfl hl.1 rfl (Nat.le_of_ble_eq_true rfl) dX8_sheet_13 hP hS (fun H locs hP hS => ?_)
    refine lv_if_eq (tgt := 25) X.1 X.2.1 dX8_sheet_16 (by decide) (fun c16 => ?_) (fun c16 => ?_)
    · have hf := it_s hf c16
      exact t_X8_sheet_b25 X F I  H locs ls hf hfF hfI hP hS (lv_sub hl [0] rfl)
    · have hf := ie_s hf c16
      refine lv_iload_n X.1 X.2.1 dX8_sheet_19 rfl (lv_at hl 3 rfl) ?_
      refine lv_bipush (v := 60) X.1 X.2.1 dX8_sheet_20 (by decide) ?_
      refine lv_icmp_le (tgt := 28) X.1 X.2.1 dX8_sheet_22 (by decide) (fun c22 => ?_) (fun c22 => ?_)
      · have hf := it_s hf c22
        refine lv_iload_n X.1 X.2.1 dX8_sheet_28 rfl (lv_at hl 3 rfl) ?_
        refine lv_if_ge (tgt := 38) X.1 X.2.1 dX8_sheet_29 (by decide) (fun c29 => ?_) (fun c29 => ?_)
        · have hf := it_s hf c29
          refine lv_aload_n X.1 X.2.1 dX8_sheet_38 rfl (lv_at hl 0 rfl) ?_
          refine gM_0_0 X q_4_109 dX8_sheet_39 hP ?_
          refine lv_iload_n X.1 X.2.1 dX8_sheet_42 rfl (lv_at hl 1 rfl) ?_
          refine lv_iload_n X.1 X.2.1 dX8_sheet_43 rfl (lv_at hl 2 rfl) ?_
          obtain ⟨h44, hf⟩ := gd_s hf
          obtain ⟨m_forms_44, em_forms_44, hf⟩ := nm_x hf
          refine sM_1 (I := I) X h44 em_forms_44 dX8_sheet_44 hP hS (fun H locs hP hS => ?_)
          refine lv_aload_n X.1 X.2.1 dX8_sheet_45 rfl (lv_at hl 0 rfl) ?_
          refine gM_0_1 X q_4_110 dX8_sheet_46 hP ?_
          refine lv_iload_n X.1 X.2.1 dX8_sheet_49 rfl (lv_at hl 1 rfl) ?_
          refine lv_iload_n X.1 X.2.1 dX8_sheet_50 rfl (lv_at hl 3 rfl) ?_
          obtain ⟨h51, hf⟩ := gd_s hf
          obtain ⟨m_sizes_51, em_sizes_51, hf⟩ := nm_x hf
          refine sM_2 (I := (va_up I 0 m_forms_44)) X h51 em_sizes_51 dX8_sheet_51 hP hS (fun H locs hP hS => ?_)
          refine lv_iconst (v := 0) X.1 X.2.1 dX8_sheet_52 (by decide) ?_
          refine lv_istore (lv' := [(4, .int 0), (0, .ref (a 0)), (1, .int x1), (2, .int x2), (3, .int x3)]) X.1 X.2.1 dX8_sheet_53 hl (by decide) rfl (fun ls hl => ?_)
          exact t_X8_sheet_b55 X 4096 F (va_up (va_up I 0 m_forms_44) 1 m_sizes_51) x1 x3 0 H locs ls hf hfF (frm_up (frm_up hfI (by decide)) (by decide)) hP hS (lv_sub hl [1, 2, 4, 0] rfl)
        · have hf := ie_s hf c29
          refine lv_aload_n X.1 X.2.1 dX8_sheet_32 rfl (lv_at hl 0 rfl) ?_
          refine lv_iconst (v := 5) X.1 X.2.1 dX8_sheet_33 (by decide) ?_
          obtain ⟨r34, m_latest_34, ho, hf⟩ := b2_s hf
          refine call_vi (rest := []) X (c_X8_met F G I J X.2.2.2.2.2.2.2.1 5 ho) q_4_230 q_4_232 qs_yX8_met q_1_10 q_4_233 ok_X8_met rfl 0 rfl rfl ⟨Nat.le_of_ble_eq_true rfl, Nat.le_of_ble_eq_true rfl⟩ rfl rfl hl.1 rfl (Nat.le_of_ble_eq_true rfl) dX8_sheet_34 hP hS (fun H locs hP hS => ?_)
          obtain ⟨e0, hf⟩ := o2 hf
          obtain ⟨e1, hf⟩ := o2 hf
          obtain ⟨e2, hf⟩ := o2 hf
          obtain ⟨e3, hf⟩ := o2 hf
          have e4 := o1 hf
          have EF : Ff = (va_up F 0 m_latest_34) := frm_eq (frm_up hfF (by decide)) (frm_c (e1).symm frm_n)
          have EI : If = I := frm_eq hfI (frm_c (e2).symm (frm_c (e3).symm (frm_c (e4).symm frm_n)))
          exact ret_i X hS (by rw [EF, EI]; exact hP) e0 dX8_sheet_37
      · have hf := ie_s hf c22
        exact t_X8_sheet_b25 X F I  H locs ls hf hfF hfI hP hS (lv_sub hl [0] rfl)
set_option maxRecDepth 100000 in
theorem c_X8_sheet {l : Launch} {D : va_G} {a : Nat → Nat} {kc : Nat → ClassId} (F : Nat → Int32) (G : Nat → Int64) (I : Nat → Nat → Int32) (J : Nat → Nat → Int64) (hAp : ∀ i j, i < 21 → j < 21 → a i = a j → i = j) (x1 : Int32) (x2 : Int32) (x3 : Int32) {o0 : Int32} {o1 : Int32} {o2 : Nat → Int32} {o3 : Nat → Int32} {o4 : Nat → Int32} (hf : p_X8_sheet (F 0) (I 0) (I 1) (I 2) x1 x2 x3 = some (o0, o1, o2, o3, o4)) : Ct 21 l yX8_sheet cX8_sheet 5 (some .int) rm_X8_sheet D (tyM kc) a (wM a kc F G I J) [.ref (a 0), .int x1, .int x2, .int x3] (Qi D (wM a kc (va_up F 0 o1) G (va_up (va_up (va_up I 0 o2) 1 o3) 2 o4) J) o0) :=
  Ct.of (by decide +kernel) hAp (Nat.le_of_ble_eq_true rfl) (fun p e s m args below meth c ls X hP hl => t_X8_sheet_b0 X F I x1 x2 x3 _ _ _ hf (frm_ul (fun k _ => rfl) (by decide)) (frm_ul (frm_ul (frm_ul (fun k _ => rfl) (by decide)) (by decide)) (by decide)) hP va_S.rf hl)
abbrev rm_X8_lose : Room := { frames := 2, cells := 0, slots := 0, locals := 45 }
set_option maxHeartbeats 4000000 in
set_option maxRecDepth 100000 in
theorem t_X8_lose_b0 {p : Program} {l : Launch} {e : Env} {s : State} {m : MethodId} {args : Array Value} {below : List Frame} {meth : Method} {c : Code} {D : va_G} {a : Nat → Nat} {kc : Nat → ClassId} (X : cx 21 p s m args meth c D (tyM kc) a cX8_lose 2 RX8 (some .int)) {G : Nat → Int64} {J : Nat → Nat → Int64} {Ff : Nat → Int32} {If : Nat → Nat → Int32} {r : Int32} :
    ∀ (F : Nat → Int32) (I : Nat → Nat → Int32) (x1 : Int32) (H : Heap) (locs : List Loc) (ls : Array Slot), p_X8_lose_b0 (F 0) (I 0) (I 1) x1 = some (r, (Ff 0), (If 0)) → (∀ k, k ∉ ([0] : List Nat) → Ff k = F k) → (∀ k, k ∉ ([0] : List Nat) → If k = I k) → va_P D vwCl (wM a kc F G I J) H → va_S (ad a 21 s.heap.size) s.heap H locs → lv_has ls 2 [(0, .ref (a 0)), (1, .int x1)] → W p l e rm_X8_lose s m args below meth c H locs 0 0 (MQ below (Qi D (wM a kc Ff G If J) r (ad a 21 s.heap.size)) args s 0 0 (ad a 21 s.heap.size)) (F0 m 0 ls []) := by
  intro F I x1 H locs ls hf hfF hfI hP hS hl
  unfold p_X8_lose_b0 at hf
  refine lv_iload_n X.1 X.2.1 dX8_lose_0 rfl (lv_at hl 1 rfl) ?_
  obtain ⟨r1, ho, hf⟩ := b1_s hf
  refine call_si (rest := []) X (c_X8_isSheet x1 ho) q_4_222 q_4_223 q_1_10 q_4_224 ok_X8_isSheet rfl ⟨Nat.le_of_ble_eq_true rfl, Nat.le_of_ble_eq_true rfl⟩ rfl rfl hl.1 rfl (Nat.le_of_ble_eq_true rfl) dX8_lose_1 hP hS (fun H locs hP hS => ?_)
  refine lv_if_ne (tgt := 10) X.1 X.2.1 dX8_lose_4 (by decide) (fun c4 => ?_) (fun c4 => ?_)
  · have hf := ie_s hf c4
    refine lv_aload_n X.1 X.2.1 dX8_lose_10 rfl (lv_at hl 0 rfl) ?_
    refine gM_0_0 X q_4_109 dX8_lose_11 hP ?_
    refine lv_iload_n X.1 X.2.1 dX8_lose_14 rfl (lv_at hl 1 rfl) ?_
    obtain ⟨h15, hf⟩ := gd_s hf
    refine lM_1 (I := I) X (f := (I 0)) rfl h15 dX8_lose_15 hP ?_
    refine lv_if_ge (tgt := 25) X.1 X.2.1 dX8_lose_16 (by decide) (fun c16 => ?_) (fun c16 => ?_)
    · have hf := it_s hf c16
      refine lv_aload_n X.1 X.2.1 dX8_lose_25 rfl (lv_at hl 0 rfl) ?_
      refine gM_0_0 X q_4_109 dX8_lose_26 hP ?_
      refine lv_iload_n X.1 X.2.1 dX8_lose_29 rfl (lv_at hl 1 rfl) ?_
      refine lv_iconst (v := (-1)) X.1 X.2.1 dX8_lose_30 (by decide) ?_
      obtain ⟨h31, hf⟩ := gd_s hf
      obtain ⟨m_forms_31, em_forms_31, hf⟩ := nm_x hf
      refine sM_1 (I := I) X h31 em_forms_31 dX8_lose_31 hP hS (fun H locs hP hS => ?_)
      refine lv_aload_n X.1 X.2.1 dX8_lose_32 rfl (lv_at hl 0 rfl) ?_
      refine gM_0_1 X q_4_110 dX8_lose_33 hP ?_
      refine lv_iload_n X.1 X.2.1 dX8_lose_36 rfl (lv_at hl 1 rfl) ?_
      obtain ⟨h37, hf⟩ := gd_s hf
      refine lM_2 (I := (va_up I 0 m_forms_31)) X (f := (I 1)) rfl h37 dX8_lose_37 hP ?_
      obtain ⟨e0, hf⟩ := o2 hf
      obtain ⟨e1, hf⟩ := o2 hf
      have e2 := o1 hf
      have EF : Ff = F := frm_eq hfF (frm_c (e1).symm frm_n)
      have EI : If = (va_up I 0 m_forms_31) := frm_eq (frm_up hfI (by decide)) (frm_c (e2).symm frm_n)
      exact ret_i X hS (by rw [EF, EI]; exact hP) e0 dX8_lose_38
    · have hf := ie_s hf c16
      refine lv_aload_n X.1 X.2.1 dX8_lose_19 rfl (lv_at hl 0 rfl) ?_
      refine lv_iconst (v := 1) X.1 X.2.1 dX8_lose_20 (by decide) ?_
      obtain ⟨r21, m_latest_21, ho, hf⟩ := b2_s hf
      refine call_vi (rest := []) X (c_X8_met F G I J X.2.2.2.2.2.2.2.1 1 ho) q_4_230 q_4_232 qs_yX8_met q_1_10 q_4_233 ok_X8_met rfl 0 rfl rfl ⟨Nat.le_of_ble_eq_true rfl, Nat.le_of_ble_eq_true rfl⟩ rfl rfl hl.1 rfl (Nat.le_of_ble_eq_true rfl) dX8_lose_21 hP hS (fun H locs hP hS => ?_)
      obtain ⟨e0, hf⟩ := o2 hf
      obtain ⟨e1, hf⟩ := o2 hf
      have e2 := o1 hf
      have EF : Ff = (va_up F 0 m_latest_21) := frm_eq (frm_up hfF (by decide)) (frm_c (e1).symm frm_n)
      have EI : If = I := frm_eq hfI (frm_c (e2).symm frm_n)
      exact ret_i X hS (by rw [EF, EI]; exact hP) e0 dX8_lose_24
  · have hf := it_s hf c4
    refine lv_bipush (v := (-2)) X.1 X.2.1 dX8_lose_7 (by decide) ?_
    obtain ⟨e0, hf⟩ := o2 hf
    obtain ⟨e1, hf⟩ := o2 hf
    have e2 := o1 hf
    have EF : Ff = F := frm_eq hfF (frm_c (e1).symm frm_n)
    have EI : If = I := frm_eq hfI (frm_c (e2).symm frm_n)
    exact ret_i X hS (by rw [EF, EI]; exact hP) e0 dX8_lose_9
set_option maxRecDepth 100000 in
theorem c_X8_lose {l : Launch} {D : va_G} {a : Nat → Nat} {kc : Nat → ClassId} (F : Nat → Int32) (G : Nat → Int64) (I : Nat → Nat → Int32) (J : Nat → Nat → Int64) (hAp : ∀ i j, i < 21 → j < 21 → a i = a j → i = j) (x1 : Int32) {o0 : Int32} {o1 : Int32} {o2 : Nat → Int32} (hf : p_X8_lose (F 0) (I 0) (I 1) x1 = some (o0, o1, o2)) : Ct 21 l yX8_lose cX8_lose 2 (some .int) rm_X8_lose D (tyM kc) a (wM a kc F G I J) [.ref (a 0), .int x1] (Qi D (wM a kc (va_up F 0 o1) G (va_up I 0 o2) J) o0) :=
  Ct.of (by decide +kernel) hAp (Nat.le_of_ble_eq_true rfl) (fun p e s m args below meth c ls X hP hl => t_X8_lose_b0 X F I x1 _ _ _ hf (frm_ul (fun k _ => rfl) (by decide)) (frm_ul (fun k _ => rfl) (by decide)) hP va_S.rf hl)
abbrev rm_X8_lacks : Room := { frames := 1, cells := 0, slots := 0, locals := 25 }
set_option maxHeartbeats 4000000 in
set_option maxRecDepth 100000 in
theorem t_X8_lacks_b58 {p : Program} {l : Launch} {e : Env} {s : State} {m : MethodId} {args : Array Value} {below : List Frame} {meth : Method} {c : Code} {D : va_G} {a : Nat → Nat} {kc : Nat → ClassId} (X : cx 21 p s m args meth c D (tyM kc) a cX8_lacks 4 RX8 (some .int)) {G : Nat → Int64} {I : Nat → Nat → Int32} {J : Nat → Nat → Int64} {Ff : Nat → Int32} {r : Int32} :
    ∀ (F : Nat → Int32) (t0 : Int32) (H : Heap) (locs : List Loc) (ls : Array Slot), p_X8_lacks_b58 (F 0) (I 0) (I 1) t0 = some (r, (Ff 0)) → (∀ k, k ∉ ([0] : List Nat) → Ff k = F k) → va_P D vwCl (wM a kc F G I J) H → va_S (ad a 21 s.heap.size) s.heap H locs → lv_has ls 4 [(0, .ref (a 0))] → W p l e rm_X8_lacks s m args below meth c H locs 0 0 (MQ below (Qi D (wM a kc Ff G I J) r (ad a 21 s.heap.size)) args s 0 0 (ad a 21 s.heap.size)) (F0 m 58 ls [.int t0]) := by
  intro F t0 H locs ls hf hfF hP hS hl
  unfold p_X8_lacks_b58 at hf
  obtain ⟨e0, hf⟩ := o2 hf
  have e1 := o1 hf
  have EF : Ff = F := frm_eq hfF (frm_c (e1).symm frm_n)
  exact ret_i X hS (by rw [EF]; exact hP) e0 dX8_lacks_58
set_option maxHeartbeats 4000000 in
set_option maxRecDepth 100000 in
theorem t_X8_lacks_b0 {p : Program} {l : Launch} {e : Env} {s : State} {m : MethodId} {args : Array Value} {below : List Frame} {meth : Method} {c : Code} {D : va_G} {a : Nat → Nat} {kc : Nat → ClassId} (X : cx 21 p s m args meth c D (tyM kc) a cX8_lacks 4 RX8 (some .int)) {G : Nat → Int64} {I : Nat → Nat → Int32} {J : Nat → Nat → Int64} {Ff : Nat → Int32} {r : Int32} :
    ∀ (F : Nat → Int32) (x1 : Int32) (x2 : Int32) (x3 : Int32) (H : Heap) (locs : List Loc) (ls : Array Slot), p_X8_lacks_b0 (F 0) (I 0) (I 1) x1 x2 x3 = some (r, (Ff 0)) → (∀ k, k ∉ ([0] : List Nat) → Ff k = F k) → va_P D vwCl (wM a kc F G I J) H → va_S (ad a 21 s.heap.size) s.heap H locs → lv_has ls 4 [(0, .ref (a 0)), (1, .int x1), (2, .int x2), (3, .int x3)] → W p l e rm_X8_lacks s m args below meth c H locs 0 0 (MQ below (Qi D (wM a kc Ff G I J) r (ad a 21 s.heap.size)) args s 0 0 (ad a 21 s.heap.size)) (F0 m 0 ls []) := by
  intro F x1 x2 x3 H locs ls hf hfF hP hS hl
  unfold p_X8_lacks_b0 at hf
  refine lv_aload_n X.1 X.2.1 dX8_lacks_0 rfl (lv_at hl 0 rfl) ?_
  refine gM_0_0 X q_4_109 dX8_lacks_1 hP ?_
  refine lv_iload_n X.1 X.2.1 dX8_lacks_4 rfl (lv_at hl 1 rfl) ?_
  obtain ⟨h5, hf⟩ := gd_s hf
  refine lM_1 (I := I) X (f := (I 0)) rfl h5 dX8_lacks_5 hP ?_
  refine lv_if_ge (tgt := 15) X.1 X.2.1 dX8_lacks_6 (by decide) (fun c6 => ?_) (fun c6 => ?_)
  · have hf := it_s hf c6
    refine lv_aload_n X.1 X.2.1 dX8_lacks_15 rfl (lv_at hl 0 rfl) ?_
    refine gM_0_0 X q_4_109 dX8_lacks_16 hP ?_
    refine lv_iload_n X.1 X.2.1 dX8_lacks_19 rfl (lv_at hl 1 rfl) ?_
    obtain ⟨h20, hf⟩ := gd_s hf
    refine lM_1 (I := I) X (f := (I 0)) rfl h20 dX8_lacks_20 hP ?_
    refine lv_iload_n X.1 X.2.1 dX8_lacks_21 rfl (lv_at hl 2 rfl) ?_
    refine lv_icmp_eq (tgt := 31) X.1 X.2.1 dX8_lacks_22 (by decide) (fun c22 => ?_) (fun c22 => ?_)
    · have hf := it_s hf c22
      refine lv_iload_n X.1 X.2.1 dX8_lacks_31 rfl (lv_at hl 3 rfl) ?_
      refine lv_i2l X.1 X.2.1 dX8_lacks_32 rfl ?_
      refine lv_lconst (v := 0) X.1 X.2.1 dX8_lacks_33 (by decide) ?_
      refine lv_aload_n X.1 X.2.1 dX8_lacks_34 rfl (lv_at hl 0 rfl) ?_
      refine gM_0_1 X q_4_110 dX8_lacks_35 hP ?_
      refine lv_iload_n X.1 X.2.1 dX8_lacks_38 rfl (lv_at hl 1 rfl) ?_
      obtain ⟨h39, hf⟩ := gd_s hf
      refine lM_2 (I := I) X (f := (I 1)) rfl h39 dX8_lacks_39 hP ?_
      refine lv_iconst (v := 1) X.1 X.2.1 dX8_lacks_40 (by decide) ?_
      refine lv_isub X.1 X.2.1 dX8_lacks_41 ?_
      refine lv_i2l X.1 X.2.1 dX8_lacks_42 rfl ?_
      obtain ⟨r43, ho, hf⟩ := b1_s hf
      refine call_si (rest := []) X (c_X8_in x3.toInt64 0 ((((I 1) x1.toNatClampNeg) - 1).toInt64) ho) q_4_226 q_4_227 q_1_10 q_4_228 ok_X8_in rfl ⟨Nat.le_of_ble_eq_true rfl, Nat.le_of_ble_eq_true rfl⟩ rfl rfl hl.1 rfl (Nat.le_of_ble_eq_true rfl) dX8_lacks_43 hP hS (fun H locs hP hS => ?_)
      refine lv_if_eq (tgt := 53) X.1 X.2.1 dX8_lacks_46 (by decide) (fun c46 => ?_) (fun c46 => ?_)
      · have hf := it_s hf c46
        refine lv_aload_n X.1 X.2.1 dX8_lacks_53 rfl (lv_at hl 0 rfl) ?_
        refine lv_iconst (v := 2) X.1 X.2.1 dX8_lacks_54 (by decide) ?_
        obtain ⟨r55, m_latest_55, ho, hf⟩ := b2_s hf
        refine call_vi (rest := []) X (c_X8_met F G I J X.2.2.2.2.2.2.2.1 2 ho) q_4_230 q_4_232 qs_yX8_met q_1_10 q_4_233 ok_X8_met rfl 0 rfl rfl ⟨Nat.le_of_ble_eq_true rfl, Nat.le_of_ble_eq_true rfl⟩ rfl rfl hl.1 rfl (Nat.le_of_ble_eq_true rfl) dX8_lacks_55 hP hS (fun H locs hP hS => ?_)
        exact t_X8_lacks_b58 X (va_up F 0 m_latest_55) r55 H locs ls hf (frm_up hfF (by decide)) hP hS (lv_sub hl [0] rfl)
      · have hf := ie_s hf c46
        refine lv_iconst (v := 0) X.1 X.2.1 dX8_lacks_49 (by decide) ?_
        refine lv_goto (tgt := 58) X.1 X.2.1 dX8_lacks_50 (by decide) ?_
        exact t_X8_lacks_b58 X F 0 H locs ls hf hfF hP hS (lv_sub hl [0] rfl)
    · have hf := ie_s hf c22
      refine lv_aload_n X.1 X.2.1 dX8_lacks_25 rfl (lv_at hl 0 rfl) ?_
      refine lv_iconst (v := 3) X.1 X.2.1 dX8_lacks_26 (by decide) ?_
      obtain ⟨r27, m_latest_27, ho, hf⟩ := b2_s hf
      refine call_vi (rest := []) X (c_X8_met F G I J X.2.2.2.2.2.2.2.1 3 ho) q_4_230 q_4_232 qs_yX8_met q_1_10 q_4_233 ok_X8_met rfl 0 rfl rfl ⟨Nat.le_of_ble_eq_true rfl, Nat.le_of_ble_eq_true rfl⟩ rfl rfl hl.1 rfl (Nat.le_of_ble_eq_true rfl) dX8_lacks_27 hP hS (fun H locs hP hS => ?_)
      obtain ⟨e0, hf⟩ := o2 hf
      have e1 := o1 hf
      have EF : Ff = (va_up F 0 m_latest_27) := frm_eq (frm_up hfF (by decide)) (frm_c (e1).symm frm_n)
      exact ret_i X hS (by rw [EF]; exact hP) e0 dX8_lacks_30
  · have hf := ie_s hf c6
    refine lv_aload_n X.1 X.2.1 dX8_lacks_9 rfl (lv_at hl 0 rfl) ?_
    refine lv_iconst (v := 1) X.1 X.2.1 dX8_lacks_10 (by decide) ?_
    obtain ⟨r11, m_latest_11, ho, hf⟩ := b2_s hf
    refine call_vi (rest := []) X (c_X8_met F G I J X.2.2.2.2.2.2.2.1 1 ho) q_4_230 q_4_232 qs_yX8_met q_1_10 q_4_233 ok_X8_met rfl 0 rfl rfl ⟨Nat.le_of_ble_eq_true rfl, Nat.le_of_ble_eq_true rfl⟩ rfl rfl hl.1 rfl (Nat.le_of_ble_eq_true rfl) dX8_lacks_11 hP hS (fun H locs hP hS => ?_)
    obtain ⟨e0, hf⟩ := o2 hf
    have e1 := o1 hf
    have EF : Ff = (va_up F 0 m_latest_11) := frm_eq (frm_up hfF (by decide)) (frm_c (e1).symm frm_n)
    exact ret_i X hS (by rw [EF]; exact hP) e0 dX8_lacks_14
set_option maxRecDepth 100000 in
theorem c_X8_lacks {l : Launch} {D : va_G} {a : Nat → Nat} {kc : Nat → ClassId} (F : Nat → Int32) (G : Nat → Int64) (I : Nat → Nat → Int32) (J : Nat → Nat → Int64) (hAp : ∀ i j, i < 21 → j < 21 → a i = a j → i = j) (x1 : Int32) (x2 : Int32) (x3 : Int32) {o0 : Int32} {o1 : Int32} (hf : p_X8_lacks (F 0) (I 0) (I 1) x1 x2 x3 = some (o0, o1)) : Ct 21 l yX8_lacks cX8_lacks 4 (some .int) rm_X8_lacks D (tyM kc) a (wM a kc F G I J) [.ref (a 0), .int x1, .int x2, .int x3] (Qi D (wM a kc (va_up F 0 o1) G I J) o0) :=
  Ct.of (by decide +kernel) hAp (Nat.le_of_ble_eq_true rfl) (fun p e s m args below meth c ls X hP hl => t_X8_lacks_b0 X F x1 x2 x3 _ _ _ hf (frm_ul (fun k _ => rfl) (by decide)) hP va_S.rf hl)
abbrev rm_X8_cut : Room := { frames := 0, cells := 0, slots := 0, locals := 0 }
set_option maxHeartbeats 4000000 in
set_option maxRecDepth 100000 in
theorem t_X8_cut_b20 {p : Program} {l : Launch} {e : Env} {s : State} {m : MethodId} {args : Array Value} {below : List Frame} {meth : Method} {c : Code} {D : va_G} {a : Nat → Nat} (X : cx 0 p s m args meth c D [] a cX8_cut 2 RX8 (some .int))   {r : Int32} :
    ∀  (t0 : Int32) (H : Heap) (locs : List Loc) (ls : Array Slot), p_X8_cut_b20  t0 = some r → va_P D vwCl [] H → va_S (ad a 0 s.heap.size) s.heap H locs → lv_has ls 2 [] → W p l e rm_X8_cut s m args below meth c H locs 0 0 (MQ below (Qi D [] r (ad a 0 s.heap.size)) args s 0 0 (ad a 0 s.heap.size)) (F0 m 20 ls [.int t0]) := by
  intro  t0 H locs ls hf  hP hS hl
  unfold p_X8_cut_b20 at hf
  have e0 := o1 hf
  exact ret_i X hS hP e0 dX8_cut_20
set_option maxHeartbeats 4000000 in
set_option maxRecDepth 100000 in
theorem t_X8_cut_b0 {p : Program} {l : Launch} {e : Env} {s : State} {m : MethodId} {args : Array Value} {below : List Frame} {meth : Method} {c : Code} {D : va_G} {a : Nat → Nat} (X : cx 0 p s m args meth c D [] a cX8_cut 2 RX8 (some .int))   {r : Int32} :
    ∀  (x0 : Int32) (x1 : Int32) (H : Heap) (locs : List Loc) (ls : Array Slot), p_X8_cut_b0  x0 x1 = some r → va_P D vwCl [] H → va_S (ad a 0 s.heap.size) s.heap H locs → lv_has ls 2 [(0, .int x0), (1, .int x1)] → W p l e rm_X8_cut s m args below meth c H locs 0 0 (MQ below (Qi D [] r (ad a 0 s.heap.size)) args s 0 0 (ad a 0 s.heap.size)) (F0 m 0 ls []) := by
  intro  x0 x1 H locs ls hf  hP hS hl
  unfold p_X8_cut_b0 at hf
  refine lv_iload_n X.1 X.2.1 dX8_cut_0 rfl (lv_at hl 0 rfl) ?_
  refine lv_if_ne (tgt := 9) X.1 X.2.1 dX8_cut_1 (by decide) (fun c1 => ?_) (fun c1 => ?_)
  · have hf := ie_s hf c1
    refine lv_iload_n X.1 X.2.1 dX8_cut_9 rfl (lv_at hl 0 rfl) ?_
    refine lv_iconst (v := 1) X.1 X.2.1 dX8_cut_10 (by decide) ?_
    refine lv_icmp_ne (tgt := 19) X.1 X.2.1 dX8_cut_11 (by decide) (fun c11 => ?_) (fun c11 => ?_)
    · have hf := ie_s hf c11
      refine lv_iload_n X.1 X.2.1 dX8_cut_19 rfl (lv_at hl 1 rfl) ?_
      exact t_X8_cut_b20 X  x1 H locs ls hf  hP hS (lv_sub hl [] rfl)
    · have hf := it_s hf c11
      refine lv_iload_n X.1 X.2.1 dX8_cut_14 rfl (lv_at hl 1 rfl) ?_
      refine lv_i2s X.1 X.2.1 dX8_cut_15 rfl ?_
      refine lv_goto (tgt := 20) X.1 X.2.1 dX8_cut_16 (by decide) ?_
      exact t_X8_cut_b20 X  x1.toInt16.toInt32 H locs ls hf  hP hS (lv_sub hl [] rfl)
  · have hf := it_s hf c1
    refine lv_iload_n X.1 X.2.1 dX8_cut_4 rfl (lv_at hl 1 rfl) ?_
    refine lv_i2b X.1 X.2.1 dX8_cut_5 rfl ?_
    refine lv_goto (tgt := 20) X.1 X.2.1 dX8_cut_6 (by decide) ?_
    exact t_X8_cut_b20 X  x1.toInt8.toInt32 H locs ls hf  hP hS (lv_sub hl [] rfl)
set_option maxRecDepth 100000 in
theorem c_X8_cut {l : Launch} {D : va_G} {a : Nat → Nat}  (x0 : Int32) (x1 : Int32) {o0 : Int32} (hf : p_X8_cut  x0 x1 = some o0) : Ct 0 l yX8_cut cX8_cut 2 (some .int) rm_X8_cut D [] a [] [.int x0, .int x1] (Qi D [] o0) :=
  Ct.of (by decide +kernel) (fun i j h => absurd h (Nat.not_lt_zero i)) (Nat.le_of_ble_eq_true rfl) (fun p e s m args below meth c ls X hP hl => t_X8_cut_b0 X  x0 x1 _ _ _ hf  hP va_S.rf hl)
abbrev rm_X8_lay : Room := { frames := 2, cells := 0, slots := 0, locals := 48 }
set_option maxHeartbeats 4000000 in
set_option maxRecDepth 100000 in
theorem t_X8_lay_b19 {p : Program} {l : Launch} {e : Env} {s : State} {m : MethodId} {args : Array Value} {below : List Frame} {meth : Method} {c : Code} {D : va_G} {a : Nat → Nat} {kc : Nat → ClassId} (X : cx 21 p s m args meth c D (tyM kc) a cX8_lay 6 RX8 (some .int)) {G : Nat → Int64} {J : Nat → Nat → Int64} {Ff : Nat → Int32} {If : Nat → Nat → Int32} {r : Int32} :
    ∀ (F : Nat → Int32) (I : Nat → Nat → Int32)  (H : Heap) (locs : List Loc) (ls : Array Slot), p_X8_lay_b19 (F 0) (I 0) (I 1) (I 2)  = some (r, (Ff 0), (If 2)) → (∀ k, k ∉ ([0] : List Nat) → Ff k = F k) → (∀ k, k ∉ ([2] : List Nat) → If k = I k) → va_P D vwCl (wM a kc F G I J) H → va_S (ad a 21 s.heap.size) s.heap H locs → lv_has ls 6 [(0, .ref (a 0))] → W p l e rm_X8_lay s m args below meth c H locs 0 0 (MQ below (Qi D (wM a kc Ff G If J) r (ad a 21 s.heap.size)) args s 0 0 (ad a 21 s.heap.size)) (F0 m 19 ls []) := by
  intro F I  H locs ls hf hfF hfI hP hS hl
  unfold p_X8_lay_b19 at hf
  refine lv_bipush (v := (-2)) X.1 X.2.1 dX8_lay_19 (by decide) ?_
  obtain ⟨e0, hf⟩ := o2 hf
  obtain ⟨e1, hf⟩ := o2 hf
  have e2 := o1 hf
  have EF : Ff = F := frm_eq hfF (frm_c (e1).symm frm_n)
  have EI : If = I := frm_eq hfI (frm_c (e2).symm frm_n)
  exact ret_i X hS (by rw [EF, EI]; exact hP) e0 dX8_lay_21
set_option maxHeartbeats 4000000 in
set_option maxRecDepth 100000 in
theorem t_X8_lay_b0 {p : Program} {l : Launch} {e : Env} {s : State} {m : MethodId} {args : Array Value} {below : List Frame} {meth : Method} {c : Code} {D : va_G} {a : Nat → Nat} {kc : Nat → ClassId} (X : cx 21 p s m args meth c D (tyM kc) a cX8_lay 6 RX8 (some .int)) {G : Nat → Int64} {J : Nat → Nat → Int64} {Ff : Nat → Int32} {If : Nat → Nat → Int32} {r : Int32} :
    ∀ (F : Nat → Int32) (I : Nat → Nat → Int32) (x1 : Int32) (x2 : Int32) (x3 : Int32) (x4 : Int32) (H : Heap) (locs : List Loc) (ls : Array Slot), p_X8_lay_b0 (F 0) (I 0) (I 1) (I 2) x1 x2 x3 x4 = some (r, (Ff 0), (If 2)) → (∀ k, k ∉ ([0] : List Nat) → Ff k = F k) → (∀ k, k ∉ ([2] : List Nat) → If k = I k) → va_P D vwCl (wM a kc F G I J) H → va_S (ad a 21 s.heap.size) s.heap H locs → lv_has ls 6 [(0, .ref (a 0)), (1, .int x1), (2, .int x2), (3, .int x3), (4, .int x4)] → W p l e rm_X8_lay s m args below meth c H locs 0 0 (MQ below (Qi D (wM a kc Ff G If J) r (ad a 21 s.heap.size)) args s 0 0 (ad a 21 s.heap.size)) (F0 m 0 ls []) := by
  intro F I x1 x2 x3 x4 H locs ls hf hfF hfI hP hS hl
  unfold p_X8_lay_b0 at hf
  refine lv_iload_n X.1 X.2.1 dX8_lay_0 rfl (lv_at hl 1 rfl) ?_
  obtain ⟨r1, ho, hf⟩ := b1_s hf
  refine call_si (rest := []) X (c_X8_isSheet x1 ho) q_4_222 q_4_223 q_1_10 q_4_224 ok_X8_isSheet rfl ⟨Nat.le_of_ble_eq_true rfl, Nat.le_of_ble_eq_true rfl⟩ rfl rfl hl.1 rfl (Nat.le_of_ble_eq_true rfl) dX8_lay_1 hP hS (fun H locs hP hS => ?_)
  refine lv_if_eq (tgt := 19) X.1 X.2.1 dX8_lay_4 (by decide) (fun c4 => ?_) (fun c4 => ?_)
  · have hf := it_s hf c4
    exact t_X8_lay_b19 X F I  H locs ls hf hfF hfI hP hS (lv_sub hl [0] rfl)
  · have hf := ie_s hf c4
    refine lv_iload_n X.1 X.2.1 dX8_lay_7 rfl (lv_at hl 2 rfl) ?_
    refine lv_i2l X.1 X.2.1 dX8_lay_8 rfl ?_
    refine lv_lconst (v := 0) X.1 X.2.1 dX8_lay_9 (by decide) ?_
    refine lv_ldc2 (v := 2) X.1 X.2.1 X.2.2.2.2.1 (X.2.2.2.2.2.1 _ q_4_229) dX8_lay_10 ?_
    obtain ⟨r13, ho, hf⟩ := b1_s hf
    refine call_si (rest := []) X (c_X8_in x2.toInt64 0 2 ho) q_4_226 q_4_227 q_1_10 q_4_228 ok_X8_in rfl ⟨Nat.le_of_ble_eq_true rfl, Nat.le_of_ble_eq_true rfl⟩ rfl rfl hl.1 rfl (Nat.le_of_ble_eq_true rfl) dX8_lay_13 hP hS (fun H locs hP hS => ?_)
    refine lv_if_ne (tgt := 22) X.1 X.2.1 dX8_lay_16 (by decide) (fun c16 => ?_) (fun c16 => ?_)
    · have hf := ie_s hf c16
      refine lv_aload_n X.1 X.2.1 dX8_lay_22 rfl (lv_at hl 0 rfl) ?_
      refine lv_iload_n X.1 X.2.1 dX8_lay_23 rfl (lv_at hl 1 rfl) ?_
      refine lv_iload_n X.1 X.2.1 dX8_lay_24 rfl (lv_at hl 2 rfl) ?_
      refine lv_iload_n X.1 X.2.1 dX8_lay_25 rfl (lv_at hl 3 rfl) ?_
      obtain ⟨r26, m_latest_26, ho, hf⟩ := b2_s hf
      refine call_vi (rest := []) X (c_X8_lacks F G I J X.2.2.2.2.2.2.2.1 x1 x2 x3 ho) q_5_2 q_5_4 qs_yX8_lacks q_1_10 q_5_5 ok_X8_lacks rfl 0 rfl rfl ⟨Nat.le_of_ble_eq_true rfl, Nat.le_of_ble_eq_true rfl⟩ rfl rfl hl.1 rfl (Nat.le_of_ble_eq_true rfl) dX8_lay_26 hP hS (fun H locs hP hS => ?_)
      refine lv_istore (lv' := [(5, .int r26), (0, .ref (a 0)), (1, .int x1), (2, .int x2), (3, .int x3), (4, .int x4)]) X.1 X.2.1 dX8_lay_29 hl (by decide) rfl (fun ls hl => ?_)
      refine lv_iload X.1 X.2.1 dX8_lay_31 (lv_at hl 0 rfl) ?_
      refine lv_if_eq (tgt := 39) X.1 X.2.1 dX8_lay_33 (by decide) (fun c33 => ?_) (fun c33 => ?_)
      · have hf := it_s hf c33
        refine lv_aload_n X.1 X.2.1 dX8_lay_39 rfl (lv_at hl 1 rfl) ?_
        refine gM_0_2 X q_4_111 dX8_lay_40 hP ?_
        refine lv_bipush (v := 60) X.1 X.2.1 dX8_lay_43 (by decide) ?_
        refine lv_iload_n X.1 X.2.1 dX8_lay_45 rfl (lv_at hl 2 rfl) ?_
        refine lv_imul X.1 X.2.1 dX8_lay_46 ?_
        refine lv_iload_n X.1 X.2.1 dX8_lay_47 rfl (lv_at hl 4 rfl) ?_
        refine lv_iadd X.1 X.2.1 dX8_lay_48 ?_
        refine lv_iload_n X.1 X.2.1 dX8_lay_49 rfl (lv_at hl 3 rfl) ?_
        refine lv_iload X.1 X.2.1 dX8_lay_50 (lv_at hl 5 rfl) ?_
        obtain ⟨r52, ho, hf⟩ := b1_s hf
        refine call_si (rest := [.int ((60 * x1) + x3), .ref (a 3)]) X (c_X8_cut x2 x4 ho) q_5_6 q_5_7 q_1_10 q_5_8 ok_X8_cut rfl ⟨Nat.le_of_ble_eq_true rfl, Nat.le_of_ble_eq_true rfl⟩ rfl rfl hl.1 rfl (Nat.le_of_ble_eq_true rfl) dX8_lay_52 hP hS (fun H locs hP hS => ?_)
        obtain ⟨h55, hf⟩ := gd_s hf
        obtain ⟨m_items_55, em_items_55, hf⟩ := nm_x hf
        refine sM_3 (I := I) X h55 em_items_55 dX8_lay_55 hP hS (fun H locs hP hS => ?_)
        refine lv_iconst (v := 1) X.1 X.2.1 dX8_lay_56 (by decide) ?_
        obtain ⟨e0, hf⟩ := o2 hf
        obtain ⟨e1, hf⟩ := o2 hf
        have e2 := o1 hf
        have EF : Ff = (va_up F 0 m_latest_26) := frm_eq (frm_up hfF (by decide)) (frm_c (e1).symm frm_n)
        have EI : If = (va_up I 2 m_items_55) := frm_eq (frm_up hfI (by decide)) (frm_c (e2).symm frm_n)
        exact ret_i X hS (by rw [EF, EI]; exact hP) e0 dX8_lay_57
      · have hf := ie_s hf c33
        refine lv_iload X.1 X.2.1 dX8_lay_36 (lv_at hl 0 rfl) ?_
        obtain ⟨e0, hf⟩ := o2 hf
        obtain ⟨e1, hf⟩ := o2 hf
        have e2 := o1 hf
        have EF : Ff = (va_up F 0 m_latest_26) := frm_eq (frm_up hfF (by decide)) (frm_c (e1).symm frm_n)
        have EI : If = I := frm_eq hfI (frm_c (e2).symm frm_n)
        exact ret_i X hS (by rw [EF, EI]; exact hP) e0 dX8_lay_38
    · have hf := it_s hf c16
      exact t_X8_lay_b19 X F I  H locs ls hf hfF hfI hP hS (lv_sub hl [0] rfl)
set_option maxRecDepth 100000 in
theorem c_X8_lay {l : Launch} {D : va_G} {a : Nat → Nat} {kc : Nat → ClassId} (F : Nat → Int32) (G : Nat → Int64) (I : Nat → Nat → Int32) (J : Nat → Nat → Int64) (hAp : ∀ i j, i < 21 → j < 21 → a i = a j → i = j) (x1 : Int32) (x2 : Int32) (x3 : Int32) (x4 : Int32) {o0 : Int32} {o1 : Int32} {o2 : Nat → Int32} (hf : p_X8_lay (F 0) (I 0) (I 1) (I 2) x1 x2 x3 x4 = some (o0, o1, o2)) : Ct 21 l yX8_lay cX8_lay 6 (some .int) rm_X8_lay D (tyM kc) a (wM a kc F G I J) [.ref (a 0), .int x1, .int x2, .int x3, .int x4] (Qi D (wM a kc (va_up F 0 o1) G (va_up I 2 o2) J) o0) :=
  Ct.of (by decide +kernel) hAp (Nat.le_of_ble_eq_true rfl) (fun p e s m args below meth c ls X hP hl => t_X8_lay_b0 X F I x1 x2 x3 x4 _ _ _ hf (frm_ul (fun k _ => rfl) (by decide)) (frm_ul (fun k _ => rfl) (by decide)) hP va_S.rf hl)
abbrev rm_X8_get : Room := { frames := 2, cells := 0, slots := 0, locals := 48 }
set_option maxHeartbeats 4000000 in
set_option maxRecDepth 100000 in
theorem t_X8_get_b29 {p : Program} {l : Launch} {e : Env} {s : State} {m : MethodId} {args : Array Value} {below : List Frame} {meth : Method} {c : Code} {D : va_G} {a : Nat → Nat} {kc : Nat → ClassId} (X : cx 21 p s m args meth c D (tyM kc) a cX8_get 4 RX8 (some .int)) {G : Nat → Int64} {I : Nat → Nat → Int32} {J : Nat → Nat → Int64} {Ff : Nat → Int32} {r : Int32} :
    ∀ (F : Nat → Int32)  (H : Heap) (locs : List Loc) (ls : Array Slot), p_X8_get_b29 (F 0) (I 0) (I 1) (I 2)  = some (r, (Ff 0)) → (∀ k, k ∉ ([0] : List Nat) → Ff k = F k) → va_P D vwCl (wM a kc F G I J) H → va_S (ad a 21 s.heap.size) s.heap H locs → lv_has ls 4 [(0, .ref (a 0))] → W p l e rm_X8_get s m args below meth c H locs 0 0 (MQ below (Qi D (wM a kc Ff G I J) r (ad a 21 s.heap.size)) args s 0 0 (ad a 21 s.heap.size)) (F0 m 29 ls []) := by
  intro F  H locs ls hf hfF hP hS hl
  unfold p_X8_get_b29 at hf
  refine lv_ldc (v := (-2147483648)) X.1 X.2.1 X.2.2.2.2.1 (X.2.2.2.2.2.1 _ q_5_13) dX8_get_29 ?_
  obtain ⟨e0, hf⟩ := o2 hf
  have e1 := o1 hf
  have EF : Ff = F := frm_eq hfF (frm_c (e1).symm frm_n)
  exact ret_i X hS (by rw [EF]; exact hP) e0 dX8_get_31
set_option maxHeartbeats 4000000 in
set_option maxRecDepth 100000 in
theorem t_X8_get_b0 {p : Program} {l : Launch} {e : Env} {s : State} {m : MethodId} {args : Array Value} {below : List Frame} {meth : Method} {c : Code} {D : va_G} {a : Nat → Nat} {kc : Nat → ClassId} (X : cx 21 p s m args meth c D (tyM kc) a cX8_get 4 RX8 (some .int)) {G : Nat → Int64} {I : Nat → Nat → Int32} {J : Nat → Nat → Int64} {Ff : Nat → Int32} {r : Int32} :
    ∀ (F : Nat → Int32) (x1 : Int32) (x2 : Int32) (x3 : Int32) (H : Heap) (locs : List Loc) (ls : Array Slot), p_X8_get_b0 (F 0) (I 0) (I 1) (I 2) x1 x2 x3 = some (r, (Ff 0)) → (∀ k, k ∉ ([0] : List Nat) → Ff k = F k) → va_P D vwCl (wM a kc F G I J) H → va_S (ad a 21 s.heap.size) s.heap H locs → lv_has ls 4 [(0, .ref (a 0)), (1, .int x1), (2, .int x2), (3, .int x3)] → W p l e rm_X8_get s m args below meth c H locs 0 0 (MQ below (Qi D (wM a kc Ff G I J) r (ad a 21 s.heap.size)) args s 0 0 (ad a 21 s.heap.size)) (F0 m 0 ls []) := by
  intro F x1 x2 x3 H locs ls hf hfF hP hS hl
  unfold p_X8_get_b0 at hf
  refine lv_iload_n X.1 X.2.1 dX8_get_0 rfl (lv_at hl 1 rfl) ?_
  obtain ⟨r1, ho, hf⟩ := b1_s hf
  refine call_si (rest := []) X (c_X8_isSheet x1 ho) q_4_222 q_4_223 q_1_10 q_4_224 ok_X8_isSheet rfl ⟨Nat.le_of_ble_eq_true rfl, Nat.le_of_ble_eq_true rfl⟩ rfl rfl hl.1 rfl (Nat.le_of_ble_eq_true rfl) dX8_get_1 hP hS (fun H locs hP hS => ?_)
  refine lv_if_eq (tgt := 29) X.1 X.2.1 dX8_get_4 (by decide) (fun c4 => ?_) (fun c4 => ?_)
  · have hf := it_s hf c4
    exact t_X8_get_b29 X F  H locs ls hf hfF hP hS (lv_sub hl [0] rfl)
  · have hf := ie_s hf c4
    refine lv_iload_n X.1 X.2.1 dX8_get_7 rfl (lv_at hl 2 rfl) ?_
    refine lv_i2l X.1 X.2.1 dX8_get_8 rfl ?_
    refine lv_lconst (v := 0) X.1 X.2.1 dX8_get_9 (by decide) ?_
    refine lv_ldc2 (v := 2) X.1 X.2.1 X.2.2.2.2.1 (X.2.2.2.2.2.1 _ q_4_229) dX8_get_10 ?_
    obtain ⟨r13, ho, hf⟩ := b1_s hf
    refine call_si (rest := []) X (c_X8_in x2.toInt64 0 2 ho) q_4_226 q_4_227 q_1_10 q_4_228 ok_X8_in rfl ⟨Nat.le_of_ble_eq_true rfl, Nat.le_of_ble_eq_true rfl⟩ rfl rfl hl.1 rfl (Nat.le_of_ble_eq_true rfl) dX8_get_13 hP hS (fun H locs hP hS => ?_)
    refine lv_if_eq (tgt := 29) X.1 X.2.1 dX8_get_16 (by decide) (fun c16 => ?_) (fun c16 => ?_)
    · have hf := it_s hf c16
      exact t_X8_get_b29 X F  H locs ls hf hfF hP hS (lv_sub hl [0] rfl)
    · have hf := ie_s hf c16
      refine lv_aload_n X.1 X.2.1 dX8_get_19 rfl (lv_at hl 0 rfl) ?_
      refine lv_iload_n X.1 X.2.1 dX8_get_20 rfl (lv_at hl 1 rfl) ?_
      refine lv_iload_n X.1 X.2.1 dX8_get_21 rfl (lv_at hl 2 rfl) ?_
      refine lv_iload_n X.1 X.2.1 dX8_get_22 rfl (lv_at hl 3 rfl) ?_
      obtain ⟨r23, m_latest_23, ho, hf⟩ := b2_s hf
      refine call_vi (rest := []) X (c_X8_lacks F G I J X.2.2.2.2.2.2.2.1 x1 x2 x3 ho) q_5_2 q_5_4 qs_yX8_lacks q_1_10 q_5_5 ok_X8_lacks rfl 0 rfl rfl ⟨Nat.le_of_ble_eq_true rfl, Nat.le_of_ble_eq_true rfl⟩ rfl rfl hl.1 rfl (Nat.le_of_ble_eq_true rfl) dX8_get_23 hP hS (fun H locs hP hS => ?_)
      refine lv_if_eq (tgt := 32) X.1 X.2.1 dX8_get_26 (by decide) (fun c26 => ?_) (fun c26 => ?_)
      · have hf := it_s hf c26
        refine lv_aload_n X.1 X.2.1 dX8_get_32 rfl (lv_at hl 0 rfl) ?_
        refine gM_0_2 X q_4_111 dX8_get_33 hP ?_
        refine lv_bipush (v := 60) X.1 X.2.1 dX8_get_36 (by decide) ?_
        refine lv_iload_n X.1 X.2.1 dX8_get_38 rfl (lv_at hl 1 rfl) ?_
        refine lv_imul X.1 X.2.1 dX8_get_39 ?_
        refine lv_iload_n X.1 X.2.1 dX8_get_40 rfl (lv_at hl 3 rfl) ?_
        refine lv_iadd X.1 X.2.1 dX8_get_41 ?_
        obtain ⟨h42, hf⟩ := gd_s hf
        refine lM_3 (I := I) X (f := (I 2)) rfl h42 dX8_get_42 hP ?_
        obtain ⟨e0, hf⟩ := o2 hf
        have e1 := o1 hf
        have EF : Ff = (va_up F 0 m_latest_23) := frm_eq (frm_up hfF (by decide)) (frm_c (e1).symm frm_n)
        exact ret_i X hS (by rw [EF]; exact hP) e0 dX8_get_43
      · have hf := ie_s hf c26
        exact t_X8_get_b29 X (va_up F 0 m_latest_23)  H locs ls hf (frm_up hfF (by decide)) hP hS (lv_sub hl [0] rfl)
set_option maxRecDepth 100000 in
theorem c_X8_get {l : Launch} {D : va_G} {a : Nat → Nat} {kc : Nat → ClassId} (F : Nat → Int32) (G : Nat → Int64) (I : Nat → Nat → Int32) (J : Nat → Nat → Int64) (hAp : ∀ i j, i < 21 → j < 21 → a i = a j → i = j) (x1 : Int32) (x2 : Int32) (x3 : Int32) {o0 : Int32} {o1 : Int32} (hf : p_X8_get (F 0) (I 0) (I 1) (I 2) x1 x2 x3 = some (o0, o1)) : Ct 21 l yX8_get cX8_get 4 (some .int) rm_X8_get D (tyM kc) a (wM a kc F G I J) [.ref (a 0), .int x1, .int x2, .int x3] (Qi D (wM a kc (va_up F 0 o1) G I J) o0) :=
  Ct.of (by decide +kernel) hAp (Nat.le_of_ble_eq_true rfl) (fun p e s m args below meth c ls X hP hl => t_X8_get_b0 X F x1 x2 x3 _ _ _ hf (frm_ul (fun k _ => rfl) (by decide)) hP va_S.rf hl)
abbrev rm_X8_copy : Room := { frames := 2, cells := 0, slots := 0, locals := 45 }
set_option maxHeartbeats 4000000 in
set_option maxRecDepth 100000 in
theorem t_X8_copy_b14 {p : Program} {l : Launch} {e : Env} {s : State} {m : MethodId} {args : Array Value} {below : List Frame} {meth : Method} {c : Code} {D : va_G} {a : Nat → Nat} {kc : Nat → ClassId} (X : cx 21 p s m args meth c D (tyM kc) a cX8_copy 7 RX8 (some .int)) {G : Nat → Int64} {J : Nat → Nat → Int64} {Ff : Nat → Int32} {If : Nat → Nat → Int32} {r : Int32} :
    ∀ (F : Nat → Int32) (I : Nat → Nat → Int32)  (H : Heap) (locs : List Loc) (ls : Array Slot), p_X8_copy_b14 (F 0) (I 0) (I 1) (I 2) (I 3)  = some (r, (Ff 0), (If 2), (If 3)) → (∀ k, k ∉ ([0] : List Nat) → Ff k = F k) → (∀ k, k ∉ ([2, 3] : List Nat) → If k = I k) → va_P D vwCl (wM a kc F G I J) H → va_S (ad a 21 s.heap.size) s.heap H locs → lv_has ls 7 [(0, .ref (a 0))] → W p l e rm_X8_copy s m args below meth c H locs 0 0 (MQ below (Qi D (wM a kc Ff G If J) r (ad a 21 s.heap.size)) args s 0 0 (ad a 21 s.heap.size)) (F0 m 14 ls []) := by
  intro F I  H locs ls hf hfF hfI hP hS hl
  unfold p_X8_copy_b14 at hf
  refine lv_bipush (v := (-2)) X.1 X.2.1 dX8_copy_14 (by decide) ?_
  obtain ⟨e0, hf⟩ := o2 hf
  obtain ⟨e1, hf⟩ := o2 hf
  obtain ⟨e2, hf⟩ := o2 hf
  have e3 := o1 hf
  have EF : Ff = F := frm_eq hfF (frm_c (e1).symm frm_n)
  have EI : If = I := frm_eq hfI (frm_c (e2).symm (frm_c (e3).symm frm_n))
  exact ret_i X hS (by rw [EF, EI]; exact hP) e0 dX8_copy_16
set_option maxHeartbeats 4000000 in
set_option maxRecDepth 100000 in
theorem t_X8_copy_b35 {p : Program} {l : Launch} {e : Env} {s : State} {m : MethodId} {args : Array Value} {below : List Frame} {meth : Method} {c : Code} {D : va_G} {a : Nat → Nat} {kc : Nat → ClassId} (X : cx 21 p s m args meth c D (tyM kc) a cX8_copy 7 RX8 (some .int)) {G : Nat → Int64} {J : Nat → Nat → Int64} {Ff : Nat → Int32} {If : Nat → Nat → Int32} {r : Int32} :
    ∀ (F : Nat → Int32) (I : Nat → Nat → Int32)  (H : Heap) (locs : List Loc) (ls : Array Slot), p_X8_copy_b35 (F 0) (I 0) (I 1) (I 2) (I 3)  = some (r, (Ff 0), (If 2), (If 3)) → (∀ k, k ∉ ([0] : List Nat) → Ff k = F k) → (∀ k, k ∉ ([2, 3] : List Nat) → If k = I k) → va_P D vwCl (wM a kc F G I J) H → va_S (ad a 21 s.heap.size) s.heap H locs → lv_has ls 7 [(0, .ref (a 0))] → W p l e rm_X8_copy s m args below meth c H locs 0 0 (MQ below (Qi D (wM a kc Ff G If J) r (ad a 21 s.heap.size)) args s 0 0 (ad a 21 s.heap.size)) (F0 m 35 ls []) := by
  intro F I  H locs ls hf hfF hfI hP hS hl
  unfold p_X8_copy_b35 at hf
  refine lv_aload_n X.1 X.2.1 dX8_copy_35 rfl (lv_at hl 0 rfl) ?_
  refine lv_iconst (v := 1) X.1 X.2.1 dX8_copy_36 (by decide) ?_
  obtain ⟨r37, m_latest_37, ho, hf⟩ := b2_s hf
  refine call_vi (rest := []) X (c_X8_met F G I J X.2.2.2.2.2.2.2.1 1 ho) q_4_230 q_4_232 qs_yX8_met q_1_10 q_4_233 ok_X8_met rfl 0 rfl rfl ⟨Nat.le_of_ble_eq_true rfl, Nat.le_of_ble_eq_true rfl⟩ rfl rfl hl.1 rfl (Nat.le_of_ble_eq_true rfl) dX8_copy_37 hP hS (fun H locs hP hS => ?_)
  obtain ⟨e0, hf⟩ := o2 hf
  obtain ⟨e1, hf⟩ := o2 hf
  obtain ⟨e2, hf⟩ := o2 hf
  have e3 := o1 hf
  have EF : Ff = (va_up F 0 m_latest_37) := frm_eq (frm_up hfF (by decide)) (frm_c (e1).symm frm_n)
  have EI : If = I := frm_eq hfI (frm_c (e2).symm (frm_c (e3).symm frm_n))
  exact ret_i X hS (by rw [EF, EI]; exact hP) e0 dX8_copy_40
set_option maxHeartbeats 4000000 in
set_option maxRecDepth 100000 in
theorem t_X8_copy_b111 {p : Program} {l : Launch} {e : Env} {s : State} {m : MethodId} {args : Array Value} {below : List Frame} {meth : Method} {c : Code} {D : va_G} {a : Nat → Nat} {kc : Nat → ClassId} (X : cx 21 p s m args meth c D (tyM kc) a cX8_copy 7 RX8 (some .int)) {G : Nat → Int64} {J : Nat → Nat → Int64} {Ff : Nat → Int32} {If : Nat → Nat → Int32} {r : Int32} :
    ∀ (F : Nat → Int32) (I : Nat → Nat → Int32)  (H : Heap) (locs : List Loc) (ls : Array Slot), p_X8_copy_b111 (F 0) (I 0) (I 1) (I 2) (I 3)  = some (r, (Ff 0), (If 2), (If 3)) → (∀ k, k ∉ ([0] : List Nat) → Ff k = F k) → (∀ k, k ∉ ([2, 3] : List Nat) → If k = I k) → va_P D vwCl (wM a kc F G I J) H → va_S (ad a 21 s.heap.size) s.heap H locs → lv_has ls 7 [(0, .ref (a 0))] → W p l e rm_X8_copy s m args below meth c H locs 0 0 (MQ below (Qi D (wM a kc Ff G If J) r (ad a 21 s.heap.size)) args s 0 0 (ad a 21 s.heap.size)) (F0 m 111 ls []) := by
  intro F I  H locs ls hf hfF hfI hP hS hl
  unfold p_X8_copy_b111 at hf
  refine lv_aload_n X.1 X.2.1 dX8_copy_111 rfl (lv_at hl 0 rfl) ?_
  refine lv_iconst (v := 2) X.1 X.2.1 dX8_copy_112 (by decide) ?_
  obtain ⟨r113, m_latest_113, ho, hf⟩ := b2_s hf
  refine call_vi (rest := []) X (c_X8_met F G I J X.2.2.2.2.2.2.2.1 2 ho) q_4_230 q_4_232 qs_yX8_met q_1_10 q_4_233 ok_X8_met rfl 0 rfl rfl ⟨Nat.le_of_ble_eq_true rfl, Nat.le_of_ble_eq_true rfl⟩ rfl rfl hl.1 rfl (Nat.le_of_ble_eq_true rfl) dX8_copy_113 hP hS (fun H locs hP hS => ?_)
  obtain ⟨e0, hf⟩ := o2 hf
  obtain ⟨e1, hf⟩ := o2 hf
  obtain ⟨e2, hf⟩ := o2 hf
  have e3 := o1 hf
  have EF : Ff = (va_up F 0 m_latest_113) := frm_eq (frm_up hfF (by decide)) (frm_c (e1).symm frm_n)
  have EI : If = I := frm_eq hfI (frm_c (e2).symm (frm_c (e3).symm frm_n))
  exact ret_i X hS (by rw [EF, EI]; exact hP) e0 dX8_copy_116
set_option maxHeartbeats 4000000 in
set_option maxRecDepth 100000 in
theorem t_X8_copy_b157x {p : Program} {l : Launch} {e : Env} {s : State} {m : MethodId} {args : Array Value} {below : List Frame} {meth : Method} {c : Code} {D : va_G} {a : Nat → Nat} {kc : Nat → ClassId} (X : cx 21 p s m args meth c D (tyM kc) a cX8_copy 7 RX8 (some .int)) {G : Nat → Int64} {J : Nat → Nat → Int64} {Ff : Nat → Int32} {If : Nat → Nat → Int32} {r : Int32} {K157 : Int32 → (Nat → Int32) → (Nat → Int32) → (Nat → Int32) → (Nat → Int32) → Int32 → Int32 → Int32 → Int32 → Option (Int32 × Int32 × (Nat → Int32) × (Nat → Int32))} (kh157 : ∀ (F : Nat → Int32) (I : Nat → Nat → Int32) (x3 : Int32) (x4 : Int32) (x5 : Int32) (x6 : Int32) (H : Heap) (locs : List Loc) (ls : Array Slot), K157 (F 0) (I 0) (I 1) (I 2) (I 3) x3 x4 x5 x6 = some (r, (Ff 0), (If 2), (If 3)) → (∀ k, k ∉ ([0] : List Nat) → Ff k = F k) → (∀ k, k ∉ ([2, 3] : List Nat) → If k = I k) → va_P D vwCl (wM a kc F G I J) H → va_S (ad a 21 s.heap.size) s.heap H locs → lv_has ls 7 [(0, .ref (a 0)), (3, .int x3), (4, .int x4), (5, .int x5), (6, .int x6)] → W p l e rm_X8_copy s m args below meth c H locs 0 0 (MQ below (Qi D (wM a kc Ff G If J) r (ad a 21 s.heap.size)) args s 0 0 (ad a 21 s.heap.size)) (F0 m 157 ls [])) :
    ∀ (F : Nat → Int32) (I : Nat → Nat → Int32) (x3 : Int32) (x4 : Int32) (x5 : Int32) (x6 : Int32) (H : Heap) (locs : List Loc) (ls : Array Slot), p_X8_copy_b157x K157 (F 0) (I 0) (I 1) (I 2) (I 3) x3 x4 x5 x6 = some (r, (Ff 0), (If 2), (If 3)) → (∀ k, k ∉ ([0] : List Nat) → Ff k = F k) → (∀ k, k ∉ ([2, 3] : List Nat) → If k = I k) → va_P D vwCl (wM a kc F G I J) H → va_S (ad a 21 s.heap.size) s.heap H locs → lv_has ls 7 [(0, .ref (a 0)), (3, .int x3), (4, .int x4), (5, .int x5), (6, .int x6)] → W p l e rm_X8_copy s m args below meth c H locs 0 0 (MQ below (Qi D (wM a kc Ff G If J) r (ad a 21 s.heap.size)) args s 0 0 (ad a 21 s.heap.size)) (F0 m 157 ls []) := by
  intro F I x3 x4 x5 x6 H locs ls hf hfF hfI hP hS hl
  unfold p_X8_copy_b157x at hf
  refine lv_iload X.1 X.2.1 dX8_copy_157 (lv_at hl 4 rfl) ?_
  refine lv_iload X.1 X.2.1 dX8_copy_159 (lv_at hl 3 rfl) ?_
  refine lv_icmp_ge (tgt := 192) X.1 X.2.1 dX8_copy_161 (by decide) (fun c161 => ?_) (fun c161 => ?_)
  · have hf := it_s hf c161
    refine lv_iconst (v := 1) X.1 X.2.1 dX8_copy_192 (by decide) ?_
    obtain ⟨e0, hf⟩ := o2 hf
    obtain ⟨e1, hf⟩ := o2 hf
    obtain ⟨e2, hf⟩ := o2 hf
    have e3 := o1 hf
    have EF : Ff = F := frm_eq hfF (frm_c (e1).symm frm_n)
    have EI : If = I := frm_eq hfI (frm_c (e2).symm (frm_c (e3).symm frm_n))
    exact ret_i X hS (by rw [EF, EI]; exact hP) e0 dX8_copy_193
  · have hf := ie_s hf c161
    refine lv_aload_n X.1 X.2.1 dX8_copy_164 rfl (lv_at hl 0 rfl) ?_
    refine gM_0_2 X q_4_111 dX8_copy_165 hP ?_
    refine lv_bipush (v := 60) X.1 X.2.1 dX8_copy_168 (by decide) ?_
    refine lv_iload_n X.1 X.2.1 dX8_copy_170 rfl (lv_at hl 1 rfl) ?_
    refine lv_imul X.1 X.2.1 dX8_copy_171 ?_
    refine lv_iload X.1 X.2.1 dX8_copy_172 (lv_at hl 2 rfl) ?_
    refine lv_iadd X.1 X.2.1 dX8_copy_174 ?_
    refine lv_iload X.1 X.2.1 dX8_copy_175 (lv_at hl 4 rfl) ?_
    refine lv_iadd X.1 X.2.1 dX8_copy_177 ?_
    refine lv_aload_n X.1 X.2.1 dX8_copy_178 rfl (lv_at hl 0 rfl) ?_
    refine gM_0_3 X q_4_112 dX8_copy_179 hP ?_
    refine lv_iload X.1 X.2.1 dX8_copy_182 (lv_at hl 4 rfl) ?_
    obtain ⟨h184, hf⟩ := gd_s hf
    refine lM_4 (I := I) X (f := (I 3)) rfl h184 dX8_copy_184 hP ?_
    obtain ⟨h185, hf⟩ := gd_s hf
    obtain ⟨m_items_185, em_items_185, hf⟩ := nm_x hf
    refine sM_3 (I := I) X h185 em_items_185 dX8_copy_185 hP hS (fun H locs hP hS => ?_)
    obtain ⟨x186, ex186, hf⟩ := nm_x hf
    refine lv_iinc (v := x186) (lv' := [(6, .int x186), (0, .ref (a 0)), (3, .int x3), (4, .int x4), (5, .int x5)]) X.1 X.2.1 dX8_copy_186 hl (k := 4) rfl ex186 (by decide) rfl (fun ls hl => ?_)
    refine lv_goto (tgt := 157) X.1 X.2.1 dX8_copy_189 (by decide) ?_
    exact kh157 F (va_up I 2 m_items_185) x3 x4 x5 x186 H locs ls hf hfF (frm_up hfI (by decide)) hP hS (lv_sub hl [1, 2, 3, 4, 0] rfl)
set_option maxRecDepth 100000 in
theorem t_X8_copy_b157 {p : Program} {l : Launch} {e : Env} {s : State} {m : MethodId} {args : Array Value} {below : List Frame} {meth : Method} {c : Code} {D : va_G} {a : Nat → Nat} {kc : Nat → ClassId} (X : cx 21 p s m args meth c D (tyM kc) a cX8_copy 7 RX8 (some .int)) {G : Nat → Int64} {J : Nat → Nat → Int64} {Ff : Nat → Int32} {If : Nat → Nat → Int32} {r : Int32} :
    ∀ (n : Nat) (F : Nat → Int32) (I : Nat → Nat → Int32) (x3 : Int32) (x4 : Int32) (x5 : Int32) (x6 : Int32) (H : Heap) (locs : List Loc) (ls : Array Slot), p_X8_copy_b157 n (F 0) (I 0) (I 1) (I 2) (I 3) x3 x4 x5 x6 = some (r, (Ff 0), (If 2), (If 3)) → (∀ k, k ∉ ([0] : List Nat) → Ff k = F k) → (∀ k, k ∉ ([2, 3] : List Nat) → If k = I k) → va_P D vwCl (wM a kc F G I J) H → va_S (ad a 21 s.heap.size) s.heap H locs → lv_has ls 7 [(0, .ref (a 0)), (3, .int x3), (4, .int x4), (5, .int x5), (6, .int x6)] → W p l e rm_X8_copy s m args below meth c H locs 0 0 (MQ below (Qi D (wM a kc Ff G If J) r (ad a 21 s.heap.size)) args s 0 0 (ad a 21 s.heap.size)) (F0 m 157 ls []) := by
  intro n
  induction n with
  | zero => intro F I x3 x4 x5 x6 H locs ls hf hfF hfI hP hS hl; exact (nos hf).elim
  | succ n ih => exact t_X8_copy_b157x X ih
set_option maxHeartbeats 4000000 in
set_option maxRecDepth 100000 in
theorem t_X8_copy_b120x {p : Program} {l : Launch} {e : Env} {s : State} {m : MethodId} {args : Array Value} {below : List Frame} {meth : Method} {c : Code} {D : va_G} {a : Nat → Nat} {kc : Nat → ClassId} (X : cx 21 p s m args meth c D (tyM kc) a cX8_copy 7 RX8 (some .int)) {G : Nat → Int64} {J : Nat → Nat → Int64} {Ff : Nat → Int32} {If : Nat → Nat → Int32} {r : Int32} {K120 : Int32 → (Nat → Int32) → (Nat → Int32) → (Nat → Int32) → (Nat → Int32) → Int32 → Int32 → Int32 → Int32 → Int32 → Int32 → Option (Int32 × Int32 × (Nat → Int32) × (Nat → Int32))} (kh120 : ∀ (F : Nat → Int32) (I : Nat → Nat → Int32) (x1 : Int32) (x2 : Int32) (x3 : Int32) (x4 : Int32) (x5 : Int32) (x6 : Int32) (H : Heap) (locs : List Loc) (ls : Array Slot), K120 (F 0) (I 0) (I 1) (I 2) (I 3) x1 x2 x3 x4 x5 x6 = some (r, (Ff 0), (If 2), (If 3)) → (∀ k, k ∉ ([0] : List Nat) → Ff k = F k) → (∀ k, k ∉ ([2, 3] : List Nat) → If k = I k) → va_P D vwCl (wM a kc F G I J) H → va_S (ad a 21 s.heap.size) s.heap H locs → lv_has ls 7 [(0, .ref (a 0)), (1, .int x1), (2, .int x2), (3, .int x3), (4, .int x4), (5, .int x5), (6, .int x6)] → W p l e rm_X8_copy s m args below meth c H locs 0 0 (MQ below (Qi D (wM a kc Ff G If J) r (ad a 21 s.heap.size)) args s 0 0 (ad a 21 s.heap.size)) (F0 m 120 ls [])) :
    ∀ (F : Nat → Int32) (I : Nat → Nat → Int32) (x1 : Int32) (x2 : Int32) (x3 : Int32) (x4 : Int32) (x5 : Int32) (x6 : Int32) (H : Heap) (locs : List Loc) (ls : Array Slot), p_X8_copy_b120x K120 (F 0) (I 0) (I 1) (I 2) (I 3) x1 x2 x3 x4 x5 x6 = some (r, (Ff 0), (If 2), (If 3)) → (∀ k, k ∉ ([0] : List Nat) → Ff k = F k) → (∀ k, k ∉ ([2, 3] : List Nat) → If k = I k) → va_P D vwCl (wM a kc F G I J) H → va_S (ad a 21 s.heap.size) s.heap H locs → lv_has ls 7 [(0, .ref (a 0)), (1, .int x1), (2, .int x2), (3, .int x3), (4, .int x4), (5, .int x5), (6, .int x6)] → W p l e rm_X8_copy s m args below meth c H locs 0 0 (MQ below (Qi D (wM a kc Ff G If J) r (ad a 21 s.heap.size)) args s 0 0 (ad a 21 s.heap.size)) (F0 m 120 ls []) := by
  intro F I x1 x2 x3 x4 x5 x6 H locs ls hf hfF hfI hP hS hl
  unfold p_X8_copy_b120x at hf
  refine lv_iload X.1 X.2.1 dX8_copy_120 (lv_at hl 6 rfl) ?_
  refine lv_iload X.1 X.2.1 dX8_copy_122 (lv_at hl 5 rfl) ?_
  refine lv_icmp_ge (tgt := 154) X.1 X.2.1 dX8_copy_124 (by decide) (fun c124 => ?_) (fun c124 => ?_)
  · have hf := it_s hf c124
    refine lv_iconst (v := 0) X.1 X.2.1 dX8_copy_154 (by decide) ?_
    refine lv_istore (lv' := [(6, .int 0), (0, .ref (a 0)), (1, .int x1), (2, .int x2), (3, .int x3), (4, .int x4), (5, .int x5)]) X.1 X.2.1 dX8_copy_155 hl (by decide) rfl (fun ls hl => ?_)
    exact t_X8_copy_b157 X 4096 F I x3 x4 x5 0 H locs ls hf hfF hfI hP hS (lv_sub hl [1, 4, 5, 6, 0] rfl)
  · have hf := ie_s hf c124
    refine lv_aload_n X.1 X.2.1 dX8_copy_127 rfl (lv_at hl 0 rfl) ?_
    refine gM_0_3 X q_4_112 dX8_copy_128 hP ?_
    refine lv_iload X.1 X.2.1 dX8_copy_131 (lv_at hl 6 rfl) ?_
    refine lv_aload_n X.1 X.2.1 dX8_copy_133 rfl (lv_at hl 0 rfl) ?_
    refine gM_0_2 X q_4_111 dX8_copy_134 hP ?_
    refine lv_bipush (v := 60) X.1 X.2.1 dX8_copy_137 (by decide) ?_
    refine lv_iload_n X.1 X.2.1 dX8_copy_139 rfl (lv_at hl 1 rfl) ?_
    refine lv_imul X.1 X.2.1 dX8_copy_140 ?_
    refine lv_iload_n X.1 X.2.1 dX8_copy_141 rfl (lv_at hl 2 rfl) ?_
    refine lv_iadd X.1 X.2.1 dX8_copy_142 ?_
    refine lv_iload X.1 X.2.1 dX8_copy_143 (lv_at hl 6 rfl) ?_
    refine lv_iadd X.1 X.2.1 dX8_copy_145 ?_
    obtain ⟨h146, hf⟩ := gd_s hf
    refine lM_3 (I := I) X (f := (I 2)) rfl h146 dX8_copy_146 hP ?_
    obtain ⟨h147, hf⟩ := gd_s hf
    obtain ⟨m_moved_147, em_moved_147, hf⟩ := nm_x hf
    refine sM_4 (I := I) X h147 em_moved_147 dX8_copy_147 hP hS (fun H locs hP hS => ?_)
    obtain ⟨x148, ex148, hf⟩ := nm_x hf
    refine lv_iinc (v := x148) (lv' := [(6, .int x148), (0, .ref (a 0)), (1, .int x1), (2, .int x2), (3, .int x3), (4, .int x4), (5, .int x5)]) X.1 X.2.1 dX8_copy_148 hl (k := 6) rfl ex148 (by decide) rfl (fun ls hl => ?_)
    refine lv_goto (tgt := 120) X.1 X.2.1 dX8_copy_151 (by decide) ?_
    exact kh120 F (va_up I 3 m_moved_147) x1 x2 x3 x4 x5 x148 H locs ls hf hfF (frm_up hfI (by decide)) hP hS (lv_sub hl [1, 2, 3, 4, 5, 6, 0] rfl)
set_option maxRecDepth 100000 in
theorem t_X8_copy_b120 {p : Program} {l : Launch} {e : Env} {s : State} {m : MethodId} {args : Array Value} {below : List Frame} {meth : Method} {c : Code} {D : va_G} {a : Nat → Nat} {kc : Nat → ClassId} (X : cx 21 p s m args meth c D (tyM kc) a cX8_copy 7 RX8 (some .int)) {G : Nat → Int64} {J : Nat → Nat → Int64} {Ff : Nat → Int32} {If : Nat → Nat → Int32} {r : Int32} :
    ∀ (n : Nat) (F : Nat → Int32) (I : Nat → Nat → Int32) (x1 : Int32) (x2 : Int32) (x3 : Int32) (x4 : Int32) (x5 : Int32) (x6 : Int32) (H : Heap) (locs : List Loc) (ls : Array Slot), p_X8_copy_b120 n (F 0) (I 0) (I 1) (I 2) (I 3) x1 x2 x3 x4 x5 x6 = some (r, (Ff 0), (If 2), (If 3)) → (∀ k, k ∉ ([0] : List Nat) → Ff k = F k) → (∀ k, k ∉ ([2, 3] : List Nat) → If k = I k) → va_P D vwCl (wM a kc F G I J) H → va_S (ad a 21 s.heap.size) s.heap H locs → lv_has ls 7 [(0, .ref (a 0)), (1, .int x1), (2, .int x2), (3, .int x3), (4, .int x4), (5, .int x5), (6, .int x6)] → W p l e rm_X8_copy s m args below meth c H locs 0 0 (MQ below (Qi D (wM a kc Ff G If J) r (ad a 21 s.heap.size)) args s 0 0 (ad a 21 s.heap.size)) (F0 m 120 ls []) := by
  intro n
  induction n with
  | zero => intro F I x1 x2 x3 x4 x5 x6 H locs ls hf hfF hfI hP hS hl; exact (nos hf).elim
  | succ n ih => exact t_X8_copy_b120x X ih
set_option maxHeartbeats 4000000 in
set_option maxRecDepth 100000 in
theorem t_X8_copy_b0 {p : Program} {l : Launch} {e : Env} {s : State} {m : MethodId} {args : Array Value} {below : List Frame} {meth : Method} {c : Code} {D : va_G} {a : Nat → Nat} {kc : Nat → ClassId} (X : cx 21 p s m args meth c D (tyM kc) a cX8_copy 7 RX8 (some .int)) {G : Nat → Int64} {J : Nat → Nat → Int64} {Ff : Nat → Int32} {If : Nat → Nat → Int32} {r : Int32} :
    ∀ (F : Nat → Int32) (I : Nat → Nat → Int32) (x1 : Int32) (x2 : Int32) (x3 : Int32) (x4 : Int32) (x5 : Int32) (H : Heap) (locs : List Loc) (ls : Array Slot), p_X8_copy_b0 (F 0) (I 0) (I 1) (I 2) (I 3) x1 x2 x3 x4 x5 = some (r, (Ff 0), (If 2), (If 3)) → (∀ k, k ∉ ([0] : List Nat) → Ff k = F k) → (∀ k, k ∉ ([2, 3] : List Nat) → If k = I k) → va_P D vwCl (wM a kc F G I J) H → va_S (ad a 21 s.heap.size) s.heap H locs → lv_has ls 7 [(0, .ref (a 0)), (1, .int x1), (2, .int x2), (3, .int x3), (4, .int x4), (5, .int x5)] → W p l e rm_X8_copy s m args below meth c H locs 0 0 (MQ below (Qi D (wM a kc Ff G If J) r (ad a 21 s.heap.size)) args s 0 0 (ad a 21 s.heap.size)) (F0 m 0 ls []) := by
  intro F I x1 x2 x3 x4 x5 H locs ls hf hfF hfI hP hS hl
  unfold p_X8_copy_b0 at hf
  refine lv_iload_n X.1 X.2.1 dX8_copy_0 rfl (lv_at hl 1 rfl) ?_
  obtain ⟨r1, ho, hf⟩ := b1_s hf
  refine call_si (rest := []) X (c_X8_isSheet x1 ho) q_4_222 q_4_223 q_1_10 q_4_224 ok_X8_isSheet rfl ⟨Nat.le_of_ble_eq_true rfl, Nat.le_of_ble_eq_true rfl⟩ rfl rfl hl.1 rfl (Nat.le_of_ble_eq_true rfl) dX8_copy_1 hP hS (fun H locs hP hS => ?_)
  refine lv_if_eq (tgt := 14) X.1 X.2.1 dX8_copy_4 (by decide) (fun c4 => ?_) (fun c4 => ?_)
  · have hf := it_s hf c4
    exact t_X8_copy_b14 X F I  H locs ls hf hfF hfI hP hS (lv_sub hl [0] rfl)
  · have hf := ie_s hf c4
    refine lv_iload_n X.1 X.2.1 dX8_copy_7 rfl (lv_at hl 3 rfl) ?_
    obtain ⟨r8, ho, hf⟩ := b1_s hf
    refine call_si (rest := []) X (c_X8_isSheet x3 ho) q_4_222 q_4_223 q_1_10 q_4_224 ok_X8_isSheet rfl ⟨Nat.le_of_ble_eq_true rfl, Nat.le_of_ble_eq_true rfl⟩ rfl rfl hl.1 rfl (Nat.le_of_ble_eq_true rfl) dX8_copy_8 hP hS (fun H locs hP hS => ?_)
    refine lv_if_ne (tgt := 17) X.1 X.2.1 dX8_copy_11 (by decide) (fun c11 => ?_) (fun c11 => ?_)
    · have hf := ie_s hf c11
      refine lv_aload_n X.1 X.2.1 dX8_copy_17 rfl (lv_at hl 0 rfl) ?_
      refine gM_0_0 X q_4_109 dX8_copy_18 hP ?_
      refine lv_iload_n X.1 X.2.1 dX8_copy_21 rfl (lv_at hl 1 rfl) ?_
      obtain ⟨h22, hf⟩ := gd_s hf
      refine lM_1 (I := I) X (f := (I 0)) rfl h22 dX8_copy_22 hP ?_
      refine lv_if_lt (tgt := 35) X.1 X.2.1 dX8_copy_23 (by decide) (fun c23 => ?_) (fun c23 => ?_)
      · have hf := it_s hf c23
        exact t_X8_copy_b35 X F I  H locs ls hf hfF hfI hP hS (lv_sub hl [0] rfl)
      · have hf := ie_s hf c23
        refine lv_aload_n X.1 X.2.1 dX8_copy_26 rfl (lv_at hl 0 rfl) ?_
        refine gM_0_0 X q_4_109 dX8_copy_27 hP ?_
        refine lv_iload_n X.1 X.2.1 dX8_copy_30 rfl (lv_at hl 3 rfl) ?_
        obtain ⟨h31, hf⟩ := gd_s hf
        refine lM_1 (I := I) X (f := (I 0)) rfl h31 dX8_copy_31 hP ?_
        refine lv_if_ge (tgt := 41) X.1 X.2.1 dX8_copy_32 (by decide) (fun c32 => ?_) (fun c32 => ?_)
        · have hf := it_s hf c32
          refine lv_aload_n X.1 X.2.1 dX8_copy_41 rfl (lv_at hl 0 rfl) ?_
          refine gM_0_0 X q_4_109 dX8_copy_42 hP ?_
          refine lv_iload_n X.1 X.2.1 dX8_copy_45 rfl (lv_at hl 1 rfl) ?_
          obtain ⟨h46, hf⟩ := gd_s hf
          refine lM_1 (I := I) X (f := (I 0)) rfl h46 dX8_copy_46 hP ?_
          refine lv_aload_n X.1 X.2.1 dX8_copy_47 rfl (lv_at hl 0 rfl) ?_
          refine gM_0_0 X q_4_109 dX8_copy_48 hP ?_
          refine lv_iload_n X.1 X.2.1 dX8_copy_51 rfl (lv_at hl 3 rfl) ?_
          obtain ⟨h52, hf⟩ := gd_s hf
          refine lM_1 (I := I) X (f := (I 0)) rfl h52 dX8_copy_52 hP ?_
          refine lv_icmp_eq (tgt := 62) X.1 X.2.1 dX8_copy_53 (by decide) (fun c53 => ?_) (fun c53 => ?_)
          · have hf := it_s hf c53
            refine lv_iload_n X.1 X.2.1 dX8_copy_62 rfl (lv_at hl 2 rfl) ?_
            refine lv_if_lt (tgt := 111) X.1 X.2.1 dX8_copy_63 (by decide) (fun c63 => ?_) (fun c63 => ?_)
            · have hf := it_s hf c63
              exact t_X8_copy_b111 X F I  H locs ls hf hfF hfI hP hS (lv_sub hl [0] rfl)
            · have hf := ie_s hf c63
              refine lv_iload X.1 X.2.1 dX8_copy_66 (lv_at hl 4 rfl) ?_
              refine lv_if_lt (tgt := 111) X.1 X.2.1 dX8_copy_68 (by decide) (fun c68 => ?_) (fun c68 => ?_)
              · have hf := it_s hf c68
                exact t_X8_copy_b111 X F I  H locs ls hf hfF hfI hP hS (lv_sub hl [0] rfl)
              · have hf := ie_s hf c68
                refine lv_iload X.1 X.2.1 dX8_copy_71 (lv_at hl 5 rfl) ?_
                refine lv_if_lt (tgt := 111) X.1 X.2.1 dX8_copy_73 (by decide) (fun c73 => ?_) (fun c73 => ?_)
                · have hf := it_s hf c73
                  exact t_X8_copy_b111 X F I  H locs ls hf hfF hfI hP hS (lv_sub hl [0] rfl)
                · have hf := ie_s hf c73
                  refine lv_iload_n X.1 X.2.1 dX8_copy_76 rfl (lv_at hl 2 rfl) ?_
                  refine lv_i2l X.1 X.2.1 dX8_copy_77 rfl ?_
                  refine lv_iload X.1 X.2.1 dX8_copy_78 (lv_at hl 5 rfl) ?_
                  refine lv_i2l X.1 X.2.1 dX8_copy_80 rfl ?_
                  refine lv_ladd X.1 X.2.1 dX8_copy_81 ?_
                  refine lv_aload_n X.1 X.2.1 dX8_copy_82 rfl (lv_at hl 0 rfl) ?_
                  refine gM_0_1 X q_4_110 dX8_copy_83 hP ?_
                  refine lv_iload_n X.1 X.2.1 dX8_copy_86 rfl (lv_at hl 1 rfl) ?_
                  obtain ⟨h87, hf⟩ := gd_s hf
                  refine lM_2 (I := I) X (f := (I 1)) rfl h87 dX8_copy_87 hP ?_
                  refine lv_i2l X.1 X.2.1 dX8_copy_88 rfl ?_
                  refine W.lcmp X.1 X.2.1 dX8_copy_89 ?_
                  refine lv_if_gt (tgt := 111) X.1 X.2.1 dX8_copy_90 (by decide) (fun c90 => ?_) (fun c90 => ?_)
                  · have hf := it_s hf c90
                    exact t_X8_copy_b111 X F I  H locs ls hf hfF hfI hP hS (lv_sub hl [0] rfl)
                  · have hf := ie_s hf c90
                    refine lv_iload X.1 X.2.1 dX8_copy_93 (lv_at hl 4 rfl) ?_
                    refine lv_i2l X.1 X.2.1 dX8_copy_95 rfl ?_
                    refine lv_iload X.1 X.2.1 dX8_copy_96 (lv_at hl 5 rfl) ?_
                    refine lv_i2l X.1 X.2.1 dX8_copy_98 rfl ?_
                    refine lv_ladd X.1 X.2.1 dX8_copy_99 ?_
                    refine lv_aload_n X.1 X.2.1 dX8_copy_100 rfl (lv_at hl 0 rfl) ?_
                    refine gM_0_1 X q_4_110 dX8_copy_101 hP ?_
                    refine lv_iload_n X.1 X.2.1 dX8_copy_104 rfl (lv_at hl 3 rfl) ?_
                    obtain ⟨h105, hf⟩ := gd_s hf
                    refine lM_2 (I := I) X (f := (I 1)) rfl h105 dX8_copy_105 hP ?_
                    refine lv_i2l X.1 X.2.1 dX8_copy_106 rfl ?_
                    refine W.lcmp X.1 X.2.1 dX8_copy_107 ?_
                    refine lv_if_le (tgt := 117) X.1 X.2.1 dX8_copy_108 (by decide) (fun c108 => ?_) (fun c108 => ?_)
                    · have hf := it_s hf c108
                      refine lv_iconst (v := 0) X.1 X.2.1 dX8_copy_117 (by decide) ?_
                      refine lv_istore (lv' := [(6, .int 0), (0, .ref (a 0)), (1, .int x1), (2, .int x2), (3, .int x3), (4, .int x4), (5, .int x5)]) X.1 X.2.1 dX8_copy_118 hl (by decide) rfl (fun ls hl => ?_)
                      exact t_X8_copy_b120 X 4096 F I x1 x2 x3 x4 x5 0 H locs ls hf hfF hfI hP hS (lv_sub hl [1, 2, 3, 4, 5, 6, 0] rfl)
                    · have hf := ie_s hf c108
                      exact t_X8_copy_b111 X F I  H locs ls hf hfF hfI hP hS (lv_sub hl [0] rfl)
          · have hf := ie_s hf c53
            refine lv_aload_n X.1 X.2.1 dX8_copy_56 rfl (lv_at hl 0 rfl) ?_
            refine lv_iconst (v := 4) X.1 X.2.1 dX8_copy_57 (by decide) ?_
            obtain ⟨r58, m_latest_58, ho, hf⟩ := b2_s hf
            refine call_vi (rest := []) X (c_X8_met F G I J X.2.2.2.2.2.2.2.1 4 ho) q_4_230 q_4_232 qs_yX8_met q_1_10 q_4_233 ok_X8_met rfl 0 rfl rfl ⟨Nat.le_of_ble_eq_true rfl, Nat.le_of_ble_eq_true rfl⟩ rfl rfl hl.1 rfl (Nat.le_of_ble_eq_true rfl) dX8_copy_58 hP hS (fun H locs hP hS => ?_)
            obtain ⟨e0, hf⟩ := o2 hf
            obtain ⟨e1, hf⟩ := o2 hf
            obtain ⟨e2, hf⟩ := o2 hf
            have e3 := o1 hf
            have EF : Ff = (va_up F 0 m_latest_58) := frm_eq (frm_up hfF (by decide)) (frm_c (e1).symm frm_n)
            have EI : If = I := frm_eq hfI (frm_c (e2).symm (frm_c (e3).symm frm_n))
            exact ret_i X hS (by rw [EF, EI]; exact hP) e0 dX8_copy_61
        · have hf := ie_s hf c32
          exact t_X8_copy_b35 X F I  H locs ls hf hfF hfI hP hS (lv_sub hl [0] rfl)
    · have hf := it_s hf c11
      exact t_X8_copy_b14 X F I  H locs ls hf hfF hfI hP hS (lv_sub hl [0] rfl)
set_option maxRecDepth 100000 in
theorem c_X8_copy {l : Launch} {D : va_G} {a : Nat → Nat} {kc : Nat → ClassId} (F : Nat → Int32) (G : Nat → Int64) (I : Nat → Nat → Int32) (J : Nat → Nat → Int64) (hAp : ∀ i j, i < 21 → j < 21 → a i = a j → i = j) (x1 : Int32) (x2 : Int32) (x3 : Int32) (x4 : Int32) (x5 : Int32) {o0 : Int32} {o1 : Int32} {o2 : Nat → Int32} {o3 : Nat → Int32} (hf : p_X8_copy (F 0) (I 0) (I 1) (I 2) (I 3) x1 x2 x3 x4 x5 = some (o0, o1, o2, o3)) : Ct 21 l yX8_copy cX8_copy 7 (some .int) rm_X8_copy D (tyM kc) a (wM a kc F G I J) [.ref (a 0), .int x1, .int x2, .int x3, .int x4, .int x5] (Qi D (wM a kc (va_up F 0 o1) G (va_up (va_up I 2 o2) 3 o3) J) o0) :=
  Ct.of (by decide +kernel) hAp (Nat.le_of_ble_eq_true rfl) (fun p e s m args below meth c ls X hP hl => t_X8_copy_b0 X F I x1 x2 x3 x4 x5 _ _ _ hf (frm_ul (fun k _ => rfl) (by decide)) (frm_ul (frm_ul (fun k _ => rfl) (by decide)) (by decide)) hP va_S.rf hl)
