abbrev rm_X8_type : Room := { frames := 2, cells := 0, slots := 0, locals := 45 }
set_option maxHeartbeats 4000000 in
set_option maxRecDepth 100000 in
theorem t_X8_type_b19 {p : Program} {l : Launch} {e : Env} {s : State} {m : MethodId} {args : Array Value} {below : List Frame} {meth : Method} {c : Code} {D : va_G} {a : Nat → Nat} {kc : Nat → ClassId} (X : cx 21 p s m args meth c D (tyM kc) a cX8_type 3 RX8 (some .int)) {F : Nat → Int32} {G : Nat → Int64} {J : Nat → Nat → Int64} {If : Nat → Nat → Int32} {r : Int32} :
    ∀ (I : Nat → Nat → Int32)  (H : Heap) (locs : List Loc) (ls : Array Slot), p_X8_type_b19 (I 4) (I 5)  = some (r, (If 4), (If 5)) → (∀ k, k ∉ ([4, 5] : List Nat) → If k = I k) → va_P D vwCl (wM a kc F G I J) H → va_S (ad a 21 s.heap.size) s.heap H locs → lv_has ls 3 [(0, .ref (a 0))] → W p l e rm_X8_type s m args below meth c H locs 0 0 (MQ below (Qi D (wM a kc F G If J) r (ad a 21 s.heap.size)) args s 0 0 (ad a 21 s.heap.size)) (F0 m 19 ls []) := by
  intro I  H locs ls hf hfI hP hS hl
  unfold p_X8_type_b19 at hf
  refine lv_bipush (v := (-2)) X.1 X.2.1 dX8_type_19 (by decide) ?_
  obtain ⟨e0, hf⟩ := o2 hf
  obtain ⟨e1, hf⟩ := o2 hf
  have e2 := o1 hf
  have EI : If = I := frm_eq hfI (frm_c (e1).symm (frm_c (e2).symm frm_n))
  exact ret_i X hS (by rw [EI]; exact hP) e0 dX8_type_21
set_option maxHeartbeats 4000000 in
set_option maxRecDepth 100000 in
theorem t_X8_type_b0 {p : Program} {l : Launch} {e : Env} {s : State} {m : MethodId} {args : Array Value} {below : List Frame} {meth : Method} {c : Code} {D : va_G} {a : Nat → Nat} {kc : Nat → ClassId} (X : cx 21 p s m args meth c D (tyM kc) a cX8_type 3 RX8 (some .int)) {F : Nat → Int32} {G : Nat → Int64} {J : Nat → Nat → Int64} {If : Nat → Nat → Int32} {r : Int32} :
    ∀ (I : Nat → Nat → Int32) (x1 : Int32) (x2 : Int32) (H : Heap) (locs : List Loc) (ls : Array Slot), p_X8_type_b0 (I 4) (I 5) x1 x2 = some (r, (If 4), (If 5)) → (∀ k, k ∉ ([4, 5] : List Nat) → If k = I k) → va_P D vwCl (wM a kc F G I J) H → va_S (ad a 21 s.heap.size) s.heap H locs → lv_has ls 3 [(0, .ref (a 0)), (1, .int x1), (2, .int x2)] → W p l e rm_X8_type s m args below meth c H locs 0 0 (MQ below (Qi D (wM a kc F G If J) r (ad a 21 s.heap.size)) args s 0 0 (ad a 21 s.heap.size)) (F0 m 0 ls []) := by
  intro I x1 x2 H locs ls hf hfI hP hS hl
  unfold p_X8_type_b0 at hf
  refine lv_iload_n X.1 X.2.1 dX8_type_0 rfl (lv_at hl 1 rfl) ?_
  obtain ⟨r1, ho, hf⟩ := b1_s hf
  refine call_si (rest := []) X (c_X8_isTwo x1 ho) q_5_22 q_5_23 q_1_10 q_5_24 ok_X8_isTwo rfl ⟨Nat.le_of_ble_eq_true rfl, Nat.le_of_ble_eq_true rfl⟩ rfl rfl hl.1 rfl (Nat.le_of_ble_eq_true rfl) dX8_type_1 hP hS (fun H locs hP hS => ?_)
  refine lv_if_eq (tgt := 19) X.1 X.2.1 dX8_type_4 (by decide) (fun c4 => ?_) (fun c4 => ?_)
  · have hf := it_s hf c4
    exact t_X8_type_b19 X I  H locs ls hf hfI hP hS (lv_sub hl [0] rfl)
  · have hf := ie_s hf c4
    refine lv_iload_n X.1 X.2.1 dX8_type_7 rfl (lv_at hl 2 rfl) ?_
    refine lv_i2l X.1 X.2.1 dX8_type_8 rfl ?_
    refine lv_lconst (v := 0) X.1 X.2.1 dX8_type_9 (by decide) ?_
    refine lv_ldc2 (v := 255) X.1 X.2.1 X.2.2.2.2.1 (X.2.2.2.2.2.1 _ q_5_25) dX8_type_10 ?_
    obtain ⟨r13, ho, hf⟩ := b1_s hf
    refine call_si (rest := []) X (c_X8_in x2.toInt64 0 255 ho) q_4_226 q_4_227 q_1_10 q_4_228 ok_X8_in rfl ⟨Nat.le_of_ble_eq_true rfl, Nat.le_of_ble_eq_true rfl⟩ rfl rfl hl.1 rfl (Nat.le_of_ble_eq_true rfl) dX8_type_13 hP hS (fun H locs hP hS => ?_)
    refine lv_if_ne (tgt := 22) X.1 X.2.1 dX8_type_16 (by decide) (fun c16 => ?_) (fun c16 => ?_)
    · have hf := ie_s hf c16
      refine lv_aload_n X.1 X.2.1 dX8_type_22 rfl (lv_at hl 0 rfl) ?_
      refine gM_0_6 X q_4_115 dX8_type_23 hP ?_
      refine lv_iload_n X.1 X.2.1 dX8_type_26 rfl (lv_at hl 1 rfl) ?_
      obtain ⟨h27, hf⟩ := gd_s hf
      refine lM_6 (I := I) X (f := (I 5)) rfl h27 dX8_type_27 hP ?_
      refine lv_bipush (v := 20) X.1 X.2.1 dX8_type_28 (by decide) ?_
      refine lv_icmp_ne (tgt := 36) X.1 X.2.1 dX8_type_30 (by decide) (fun c30 => ?_) (fun c30 => ?_)
      · have hf := ie_s hf c30
        refine lv_aload_n X.1 X.2.1 dX8_type_36 rfl (lv_at hl 0 rfl) ?_
        refine gM_0_5 X q_4_114 dX8_type_37 hP ?_
        refine lv_bipush (v := 20) X.1 X.2.1 dX8_type_40 (by decide) ?_
        refine lv_iload_n X.1 X.2.1 dX8_type_42 rfl (lv_at hl 1 rfl) ?_
        refine lv_imul X.1 X.2.1 dX8_type_43 ?_
        refine lv_aload_n X.1 X.2.1 dX8_type_44 rfl (lv_at hl 0 rfl) ?_
        refine gM_0_6 X q_4_115 dX8_type_45 hP ?_
        refine lv_iload_n X.1 X.2.1 dX8_type_48 rfl (lv_at hl 1 rfl) ?_
        obtain ⟨h49, hf⟩ := gd_s hf
        refine lM_6 (I := I) X (f := (I 5)) rfl h49 dX8_type_49 hP ?_
        refine lv_iadd X.1 X.2.1 dX8_type_50 ?_
        refine lv_iload_n X.1 X.2.1 dX8_type_51 rfl (lv_at hl 2 rfl) ?_
        obtain ⟨h52, hf⟩ := gd_s hf
        obtain ⟨m_bytes_52, em_bytes_52, hf⟩ := nm_x hf
        refine sM_5 (I := I) X h52 em_bytes_52 dX8_type_52 hP hS (fun H locs hP hS => ?_)
        refine lv_aload_n X.1 X.2.1 dX8_type_53 rfl (lv_at hl 0 rfl) ?_
        refine gM_0_6 X q_4_115 dX8_type_54 hP ?_
        refine lv_iload_n X.1 X.2.1 dX8_type_57 rfl (lv_at hl 1 rfl) ?_
        refine lv_dup2_11 X.1 X.2.1 dX8_type_58 rfl rfl ?_
        obtain ⟨h59, hf⟩ := gd_s hf
        refine lM_6 (I := (va_up I 4 m_bytes_52)) X (f := (I 5)) rfl h59 dX8_type_59 hP ?_
        refine lv_iconst (v := 1) X.1 X.2.1 dX8_type_60 (by decide) ?_
        refine lv_iadd X.1 X.2.1 dX8_type_61 ?_
        obtain ⟨h62, hf⟩ := gd_s hf
        obtain ⟨m_typed_62, em_typed_62, hf⟩ := nm_x hf
        refine sM_6 (I := (va_up I 4 m_bytes_52)) X h62 em_typed_62 dX8_type_62 hP hS (fun H locs hP hS => ?_)
        refine lv_aload_n X.1 X.2.1 dX8_type_63 rfl (lv_at hl 0 rfl) ?_
        refine gM_0_6 X q_4_115 dX8_type_64 hP ?_
        refine lv_iload_n X.1 X.2.1 dX8_type_67 rfl (lv_at hl 1 rfl) ?_
        obtain ⟨h68, hf⟩ := gd_s hf
        refine lM_6 (I := (va_up (va_up I 4 m_bytes_52) 5 m_typed_62)) X (f := m_typed_62) rfl h68 dX8_type_68 hP ?_
        obtain ⟨e0, hf⟩ := o2 hf
        obtain ⟨e1, hf⟩ := o2 hf
        have e2 := o1 hf
        have EI : If = (va_up (va_up I 4 m_bytes_52) 5 m_typed_62) := frm_eq (frm_up (frm_up hfI (by decide)) (by decide)) (frm_c (e1).symm (frm_c (e2).symm frm_n))
        exact ret_i X hS (by rw [EI]; exact hP) e0 dX8_type_69
      · have hf := it_s hf c30
        refine lv_bipush (v := (-4)) X.1 X.2.1 dX8_type_33 (by decide) ?_
        obtain ⟨e0, hf⟩ := o2 hf
        obtain ⟨e1, hf⟩ := o2 hf
        have e2 := o1 hf
        have EI : If = I := frm_eq hfI (frm_c (e1).symm (frm_c (e2).symm frm_n))
        exact ret_i X hS (by rw [EI]; exact hP) e0 dX8_type_35
    · have hf := it_s hf c16
      exact t_X8_type_b19 X I  H locs ls hf hfI hP hS (lv_sub hl [0] rfl)
set_option maxRecDepth 100000 in
theorem c_X8_type {l : Launch} {D : va_G} {a : Nat → Nat} {kc : Nat → ClassId} (F : Nat → Int32) (G : Nat → Int64) (I : Nat → Nat → Int32) (J : Nat → Nat → Int64) (hAp : ∀ i j, i < 21 → j < 21 → a i = a j → i = j) (x1 : Int32) (x2 : Int32) {o0 : Int32} {o1 : Nat → Int32} {o2 : Nat → Int32} (hf : p_X8_type (I 4) (I 5) x1 x2 = some (o0, o1, o2)) : Ct 21 l yX8_type cX8_type 3 (some .int) rm_X8_type D (tyM kc) a (wM a kc F G I J) [.ref (a 0), .int x1, .int x2] (Qi D (wM a kc F G (va_up (va_up I 4 o1) 5 o2) J) o0) :=
  Ct.of (by decide +kernel) hAp (Nat.le_of_ble_eq_true rfl) (fun p e s m args below meth c ls X hP hl => t_X8_type_b0 X I x1 x2 _ _ _ hf (frm_ul (frm_ul (fun k _ => rfl) (by decide)) (by decide)) hP va_S.rf hl)
abbrev rm_X8_wipe : Room := { frames := 2, cells := 0, slots := 0, locals := 45 }
set_option maxHeartbeats 4000000 in
set_option maxRecDepth 100000 in
theorem t_X8_wipe_b0 {p : Program} {l : Launch} {e : Env} {s : State} {m : MethodId} {args : Array Value} {below : List Frame} {meth : Method} {c : Code} {D : va_G} {a : Nat → Nat} {kc : Nat → ClassId} (X : cx 21 p s m args meth c D (tyM kc) a cX8_wipe 3 RX8 (some .int)) {F : Nat → Int32} {G : Nat → Int64} {J : Nat → Nat → Int64} {If : Nat → Nat → Int32} {r : Int32} :
    ∀ (I : Nat → Nat → Int32) (x1 : Int32) (H : Heap) (locs : List Loc) (ls : Array Slot), p_X8_wipe_b0 (I 5) x1 = some (r, (If 5)) → (∀ k, k ∉ ([5] : List Nat) → If k = I k) → va_P D vwCl (wM a kc F G I J) H → va_S (ad a 21 s.heap.size) s.heap H locs → lv_has ls 3 [(0, .ref (a 0)), (1, .int x1)] → W p l e rm_X8_wipe s m args below meth c H locs 0 0 (MQ below (Qi D (wM a kc F G If J) r (ad a 21 s.heap.size)) args s 0 0 (ad a 21 s.heap.size)) (F0 m 0 ls []) := by
  intro I x1 H locs ls hf hfI hP hS hl
  unfold p_X8_wipe_b0 at hf
  refine lv_iload_n X.1 X.2.1 dX8_wipe_0 rfl (lv_at hl 1 rfl) ?_
  obtain ⟨r1, ho, hf⟩ := b1_s hf
  refine call_si (rest := []) X (c_X8_isTwo x1 ho) q_5_22 q_5_23 q_1_10 q_5_24 ok_X8_isTwo rfl ⟨Nat.le_of_ble_eq_true rfl, Nat.le_of_ble_eq_true rfl⟩ rfl rfl hl.1 rfl (Nat.le_of_ble_eq_true rfl) dX8_wipe_1 hP hS (fun H locs hP hS => ?_)
  refine lv_if_ne (tgt := 10) X.1 X.2.1 dX8_wipe_4 (by decide) (fun c4 => ?_) (fun c4 => ?_)
  · have hf := ie_s hf c4
    refine lv_aload_n X.1 X.2.1 dX8_wipe_10 rfl (lv_at hl 0 rfl) ?_
    refine gM_0_6 X q_4_115 dX8_wipe_11 hP ?_
    refine lv_iload_n X.1 X.2.1 dX8_wipe_14 rfl (lv_at hl 1 rfl) ?_
    obtain ⟨h15, hf⟩ := gd_s hf
    refine lM_6 (I := I) X (f := (I 5)) rfl h15 dX8_wipe_15 hP ?_
    refine nm_i hf (fun x16 hf => ?_)
    refine lv_istore_n (lv' := [(2, .int x16), (0, .ref (a 0)), (1, .int x1)]) X.1 X.2.1 dX8_wipe_16 rfl hl (by decide) rfl (fun ls hl => ?_)
    refine lv_aload_n X.1 X.2.1 dX8_wipe_17 rfl (lv_at hl 1 rfl) ?_
    refine gM_0_6 X q_4_115 dX8_wipe_18 hP ?_
    refine lv_iload_n X.1 X.2.1 dX8_wipe_21 rfl (lv_at hl 2 rfl) ?_
    refine lv_iconst (v := 0) X.1 X.2.1 dX8_wipe_22 (by decide) ?_
    obtain ⟨h23, hf⟩ := gd_s hf
    obtain ⟨m_typed_23, em_typed_23, hf⟩ := nm_x hf
    refine sM_6 (I := I) X h23 em_typed_23 dX8_wipe_23 hP hS (fun H locs hP hS => ?_)
    refine lv_iload_n X.1 X.2.1 dX8_wipe_24 rfl (lv_at hl 0 rfl) ?_
    obtain ⟨e0, hf⟩ := o2 hf
    have e1 := o1 hf
    have EI : If = (va_up I 5 m_typed_23) := frm_eq (frm_up hfI (by decide)) (frm_c (e1).symm frm_n)
    exact ret_i X hS (by rw [EI]; exact hP) e0 dX8_wipe_25
  · have hf := it_s hf c4
    refine lv_bipush (v := (-2)) X.1 X.2.1 dX8_wipe_7 (by decide) ?_
    obtain ⟨e0, hf⟩ := o2 hf
    have e1 := o1 hf
    have EI : If = I := frm_eq hfI (frm_c (e1).symm frm_n)
    exact ret_i X hS (by rw [EI]; exact hP) e0 dX8_wipe_9
set_option maxRecDepth 100000 in
theorem c_X8_wipe {l : Launch} {D : va_G} {a : Nat → Nat} {kc : Nat → ClassId} (F : Nat → Int32) (G : Nat → Int64) (I : Nat → Nat → Int32) (J : Nat → Nat → Int64) (hAp : ∀ i j, i < 21 → j < 21 → a i = a j → i = j) (x1 : Int32) {o0 : Int32} {o1 : Nat → Int32} (hf : p_X8_wipe (I 5) x1 = some (o0, o1)) : Ct 21 l yX8_wipe cX8_wipe 3 (some .int) rm_X8_wipe D (tyM kc) a (wM a kc F G I J) [.ref (a 0), .int x1] (Qi D (wM a kc F G (va_up I 5 o1) J) o0) :=
  Ct.of (by decide +kernel) hAp (Nat.le_of_ble_eq_true rfl) (fun p e s m args below meth c ls X hP hl => t_X8_wipe_b0 X I x1 _ _ _ hf (frm_ul (fun k _ => rfl) (by decide)) hP va_S.rf hl)
abbrev rm_X8_here : Room := { frames := 0, cells := 0, slots := 0, locals := 0 }
set_option maxHeartbeats 4000000 in
set_option maxRecDepth 100000 in
theorem t_X8_here_b31 {p : Program} {l : Launch} {e : Env} {s : State} {m : MethodId} {args : Array Value} {below : List Frame} {meth : Method} {c : Code} {D : va_G} {a : Nat → Nat} {kc : Nat → ClassId} (X : cx 21 p s m args meth c D (tyM kc) a cX8_here 2 RX8 (some .int)) {F : Nat → Int32} {G : Nat → Int64} {I : Nat → Nat → Int32} {J : Nat → Nat → Int64}  {r : Int32} :
    ∀  (t0 : Int32) (H : Heap) (locs : List Loc) (ls : Array Slot), p_X8_here_b31 (F 1) (I 4) (I 5) t0 = some r → va_P D vwCl (wM a kc F G I J) H → va_S (ad a 21 s.heap.size) s.heap H locs → lv_has ls 2 [(0, .ref (a 0))] → W p l e rm_X8_here s m args below meth c H locs 0 0 (MQ below (Qi D (wM a kc F G I J) r (ad a 21 s.heap.size)) args s 0 0 (ad a 21 s.heap.size)) (F0 m 31 ls [.int t0]) := by
  intro  t0 H locs ls hf  hP hS hl
  unfold p_X8_here_b31 at hf
  have e0 := o1 hf
  exact ret_i X hS hP e0 dX8_here_31
set_option maxHeartbeats 4000000 in
set_option maxRecDepth 100000 in
theorem t_X8_here_b0 {p : Program} {l : Launch} {e : Env} {s : State} {m : MethodId} {args : Array Value} {below : List Frame} {meth : Method} {c : Code} {D : va_G} {a : Nat → Nat} {kc : Nat → ClassId} (X : cx 21 p s m args meth c D (tyM kc) a cX8_here 2 RX8 (some .int)) {F : Nat → Int32} {G : Nat → Int64} {I : Nat → Nat → Int32} {J : Nat → Nat → Int64}  {r : Int32} :
    ∀  (x1 : Int32) (H : Heap) (locs : List Loc) (ls : Array Slot), p_X8_here_b0 (F 1) (I 4) (I 5) x1 = some r → va_P D vwCl (wM a kc F G I J) H → va_S (ad a 21 s.heap.size) s.heap H locs → lv_has ls 2 [(0, .ref (a 0)), (1, .int x1)] → W p l e rm_X8_here s m args below meth c H locs 0 0 (MQ below (Qi D (wM a kc F G I J) r (ad a 21 s.heap.size)) args s 0 0 (ad a 21 s.heap.size)) (F0 m 0 ls []) := by
  intro  x1 H locs ls hf  hP hS hl
  unfold p_X8_here_b0 at hf
  refine lv_aload_n X.1 X.2.1 dX8_here_0 rfl (lv_at hl 0 rfl) ?_
  refine gM_0_7 (F := F) X (v := (F 1)) rfl q_4_116 dX8_here_1 hP ?_
  refine lv_aload_n X.1 X.2.1 dX8_here_4 rfl (lv_at hl 0 rfl) ?_
  refine gM_0_6 X q_4_115 dX8_here_5 hP ?_
  refine lv_iload_n X.1 X.2.1 dX8_here_8 rfl (lv_at hl 1 rfl) ?_
  obtain ⟨h9, hf⟩ := gd_s hf
  refine lM_6 (I := I) X (f := (I 5)) rfl h9 dX8_here_9 hP ?_
  refine lv_icmp_ge (tgt := 30) X.1 X.2.1 dX8_here_10 (by decide) (fun c10 => ?_) (fun c10 => ?_)
  · have hf := it_s hf c10
    refine lv_iconst (v := (-1)) X.1 X.2.1 dX8_here_30 (by decide) ?_
    exact t_X8_here_b31 X  (-1) H locs ls hf  hP hS (lv_sub hl [0] rfl)
  · have hf := ie_s hf c10
    refine lv_aload_n X.1 X.2.1 dX8_here_13 rfl (lv_at hl 0 rfl) ?_
    refine gM_0_5 X q_4_114 dX8_here_14 hP ?_
    refine lv_bipush (v := 20) X.1 X.2.1 dX8_here_17 (by decide) ?_
    refine lv_iload_n X.1 X.2.1 dX8_here_19 rfl (lv_at hl 1 rfl) ?_
    refine lv_imul X.1 X.2.1 dX8_here_20 ?_
    refine lv_aload_n X.1 X.2.1 dX8_here_21 rfl (lv_at hl 0 rfl) ?_
    refine gM_0_7 (F := F) X (v := (F 1)) rfl q_4_116 dX8_here_22 hP ?_
    refine lv_iadd X.1 X.2.1 dX8_here_25 ?_
    obtain ⟨h26, hf⟩ := gd_s hf
    refine lM_5 (I := I) X (f := (I 4)) rfl h26 dX8_here_26 hP ?_
    refine lv_goto (tgt := 31) X.1 X.2.1 dX8_here_27 (by decide) ?_
    exact t_X8_here_b31 X  ((I 4) ((20 * x1) + (F 1)).toNatClampNeg) H locs ls hf  hP hS (lv_sub hl [0] rfl)
set_option maxRecDepth 100000 in
theorem c_X8_here {l : Launch} {D : va_G} {a : Nat → Nat} {kc : Nat → ClassId} (F : Nat → Int32) (G : Nat → Int64) (I : Nat → Nat → Int32) (J : Nat → Nat → Int64) (hAp : ∀ i j, i < 21 → j < 21 → a i = a j → i = j) (x1 : Int32) {o0 : Int32} (hf : p_X8_here (F 1) (I 4) (I 5) x1 = some o0) : Ct 21 l yX8_here cX8_here 2 (some .int) rm_X8_here D (tyM kc) a (wM a kc F G I J) [.ref (a 0), .int x1] (Qi D (wM a kc F G I J) o0) :=
  Ct.of (by decide +kernel) hAp (Nat.le_of_ble_eq_true rfl) (fun p e s m args below meth c ls X hP hl => t_X8_here_b0 X  x1 _ _ _ hf  hP va_S.rf hl)
abbrev rm_X8_noSeats : Room := { frames := 0, cells := 0, slots := 0, locals := 0 }
set_option maxHeartbeats 4000000 in
set_option maxRecDepth 100000 in
theorem t_X8_noSeats_b0 {p : Program} {l : Launch} {e : Env} {s : State} {m : MethodId} {args : Array Value} {below : List Frame} {meth : Method} {c : Code} {D : va_G} {a : Nat → Nat} {kc : Nat → ClassId} (X : cx 21 p s m args meth c D (tyM kc) a cX8_noSeats 1 RX8 (some .int)) {G : Nat → Int64} {I : Nat → Nat → Int32} {J : Nat → Nat → Int64} {Ff : Nat → Int32} {r : Int32} :
    ∀ (F : Nat → Int32)  (H : Heap) (locs : List Loc) (ls : Array Slot), p_X8_noSeats_b0 (F 1) (F 2) (F 3)  = some (r, (Ff 2), (Ff 3)) → (∀ k, k ∉ ([2, 3] : List Nat) → Ff k = F k) → va_P D vwCl (wM a kc F G I J) H → va_S (ad a 21 s.heap.size) s.heap H locs → lv_has ls 1 [(0, .ref (a 0))] → W p l e rm_X8_noSeats s m args below meth c H locs 0 0 (MQ below (Qi D (wM a kc Ff G I J) r (ad a 21 s.heap.size)) args s 0 0 (ad a 21 s.heap.size)) (F0 m 0 ls []) := by
  intro F  H locs ls hf hfF hP hS hl
  unfold p_X8_noSeats_b0 at hf
  refine lv_aload_n X.1 X.2.1 dX8_noSeats_0 rfl (lv_at hl 0 rfl) ?_
  refine lv_iconst (v := 0) X.1 X.2.1 dX8_noSeats_1 (by decide) ?_
  refine pM_0_8 X q_4_117 dX8_noSeats_2 hP hS (fun H locs hP hS => ?_)
  refine lv_aload_n X.1 X.2.1 dX8_noSeats_5 rfl (lv_at hl 0 rfl) ?_
  refine lv_iconst (v := 0) X.1 X.2.1 dX8_noSeats_6 (by decide) ?_
  refine pM_0_9 X q_4_118 dX8_noSeats_7 hP hS (fun H locs hP hS => ?_)
  refine lv_aload_n X.1 X.2.1 dX8_noSeats_10 rfl (lv_at hl 0 rfl) ?_
  refine gM_0_7 (F := (va_up (va_up F 2 0) 3 0)) X (v := (F 1)) rfl q_4_116 dX8_noSeats_11 hP ?_
  obtain ⟨e0, hf⟩ := o2 hf
  obtain ⟨e1, hf⟩ := o2 hf
  have e2 := o1 hf
  have EF : Ff = (va_up (va_up F 2 0) 3 0) := frm_eq (frm_up (frm_up hfF (by decide)) (by decide)) (frm_c (e1).symm (frm_c (e2).symm frm_n))
  exact ret_i X hS (by rw [EF]; exact hP) e0 dX8_noSeats_14
set_option maxRecDepth 100000 in
theorem c_X8_noSeats {l : Launch} {D : va_G} {a : Nat → Nat} {kc : Nat → ClassId} (F : Nat → Int32) (G : Nat → Int64) (I : Nat → Nat → Int32) (J : Nat → Nat → Int64) (hAp : ∀ i j, i < 21 → j < 21 → a i = a j → i = j)  {o0 : Int32} {o1 : Int32} {o2 : Int32} (hf : p_X8_noSeats (F 1) (F 2) (F 3)  = some (o0, o1, o2)) : Ct 21 l yX8_noSeats cX8_noSeats 1 (some .int) rm_X8_noSeats D (tyM kc) a (wM a kc F G I J) [.ref (a 0)] (Qi D (wM a kc (va_up (va_up F 2 o1) 3 o2) G I J) o0) :=
  Ct.of (by decide +kernel) hAp (Nat.le_of_ble_eq_true rfl) (fun p e s m args below meth c ls X hP hl => t_X8_noSeats_b0 X F  _ _ _ hf (frm_ul (frm_ul (fun k _ => rfl) (by decide)) (by decide)) hP va_S.rf hl)
abbrev rm_X8_readsSeats : Room := { frames := 1, cells := 0, slots := 0, locals := 21 }
set_option maxHeartbeats 4000000 in
set_option maxRecDepth 100000 in
theorem t_X8_readsSeats_b151 {p : Program} {l : Launch} {e : Env} {s : State} {m : MethodId} {args : Array Value} {below : List Frame} {meth : Method} {c : Code} {D : va_G} {a : Nat → Nat} {kc : Nat → ClassId} (X : cx 21 p s m args meth c D (tyM kc) a cX8_readsSeats 5 RX8 (some .int)) {G : Nat → Int64} {J : Nat → Nat → Int64} {Ff : Nat → Int32} {If : Nat → Nat → Int32} {r : Int32} :
    ∀ (F : Nat → Int32) (I : Nat → Nat → Int32)  (H : Heap) (locs : List Loc) (ls : Array Slot), p_X8_readsSeats_b151 (F 1) (F 2) (F 3) (I 4) (I 5) (I 6) (I 7)  = some (r, (Ff 1), (Ff 2), (Ff 3), (If 6), (If 7)) → (∀ k, k ∉ ([1, 2, 3] : List Nat) → Ff k = F k) → (∀ k, k ∉ ([6, 7] : List Nat) → If k = I k) → va_P D vwCl (wM a kc F G I J) H → va_S (ad a 21 s.heap.size) s.heap H locs → lv_has ls 5 [(0, .ref (a 0))] → W p l e rm_X8_readsSeats s m args below meth c H locs 0 0 (MQ below (Qi D (wM a kc Ff G If J) r (ad a 21 s.heap.size)) args s 0 0 (ad a 21 s.heap.size)) (F0 m 151 ls []) := by
  intro F I  H locs ls hf hfF hfI hP hS hl
  unfold p_X8_readsSeats_b151 at hf
  refine lv_aload_n X.1 X.2.1 dX8_readsSeats_151 rfl (lv_at hl 0 rfl) ?_
  obtain ⟨r152, m_seats_152, m_rows_152, ho, hf⟩ := b3_s hf
  refine call_vi (rest := []) X (c_X8_noSeats F G I J X.2.2.2.2.2.2.2.1  ho) q_5_46 q_5_48 qs_yX8_noSeats q_1_10 q_5_49 ok_X8_noSeats rfl 0 rfl rfl ⟨Nat.le_of_ble_eq_true rfl, Nat.le_of_ble_eq_true rfl⟩ rfl rfl hl.1 rfl (Nat.le_of_ble_eq_true rfl) dX8_readsSeats_152 hP hS (fun H locs hP hS => ?_)
  obtain ⟨e0, hf⟩ := o2 hf
  obtain ⟨e1, hf⟩ := o2 hf
  obtain ⟨e2, hf⟩ := o2 hf
  obtain ⟨e3, hf⟩ := o2 hf
  obtain ⟨e4, hf⟩ := o2 hf
  have e5 := o1 hf
  have EF : Ff = (va_up (va_up F 2 m_seats_152) 3 m_rows_152) := frm_eq (frm_up (frm_up hfF (by decide)) (by decide)) (frm_c (e1).symm (frm_c (e2).symm (frm_c (e3).symm frm_n)))
  have EI : If = I := frm_eq hfI (frm_c (e4).symm (frm_c (e5).symm frm_n))
  exact ret_i X hS (by rw [EF, EI]; exact hP) e0 dX8_readsSeats_155
set_option maxHeartbeats 4000000 in
set_option maxRecDepth 100000 in
theorem t_X8_readsSeats_b188 {p : Program} {l : Launch} {e : Env} {s : State} {m : MethodId} {args : Array Value} {below : List Frame} {meth : Method} {c : Code} {D : va_G} {a : Nat → Nat} {kc : Nat → ClassId} (X : cx 21 p s m args meth c D (tyM kc) a cX8_readsSeats 5 RX8 (some .int)) {G : Nat → Int64} {J : Nat → Nat → Int64} {Ff : Nat → Int32} {If : Nat → Nat → Int32} {r : Int32} {K19 : Int32 → Int32 → Int32 → (Nat → Int32) → (Nat → Int32) → (Nat → Int32) → (Nat → Int32) → Int32 → Int32 → Option (Int32 × Int32 × Int32 × Int32 × (Nat → Int32) × (Nat → Int32))} (kh19 : ∀ (F : Nat → Int32) (I : Nat → Nat → Int32) (x1 : Int32) (x2 : Int32) (H : Heap) (locs : List Loc) (ls : Array Slot), K19 (F 1) (F 2) (F 3) (I 4) (I 5) (I 6) (I 7) x1 x2 = some (r, (Ff 1), (Ff 2), (Ff 3), (If 6), (If 7)) → (∀ k, k ∉ ([1, 2, 3] : List Nat) → Ff k = F k) → (∀ k, k ∉ ([6, 7] : List Nat) → If k = I k) → va_P D vwCl (wM a kc F G I J) H → va_S (ad a 21 s.heap.size) s.heap H locs → lv_has ls 5 [(0, .ref (a 0)), (1, .int x1), (2, .int x2)] → W p l e rm_X8_readsSeats s m args below meth c H locs 0 0 (MQ below (Qi D (wM a kc Ff G If J) r (ad a 21 s.heap.size)) args s 0 0 (ad a 21 s.heap.size)) (F0 m 19 ls [])) :
    ∀ (F : Nat → Int32) (I : Nat → Nat → Int32) (t0 : Int32) (x2 : Int32) (H : Heap) (locs : List Loc) (ls : Array Slot), p_X8_readsSeats_b188 K19 (F 1) (F 2) (F 3) (I 4) (I 5) (I 6) (I 7) t0 x2 = some (r, (Ff 1), (Ff 2), (Ff 3), (If 6), (If 7)) → (∀ k, k ∉ ([1, 2, 3] : List Nat) → Ff k = F k) → (∀ k, k ∉ ([6, 7] : List Nat) → If k = I k) → va_P D vwCl (wM a kc F G I J) H → va_S (ad a 21 s.heap.size) s.heap H locs → lv_has ls 5 [(0, .ref (a 0)), (2, .int x2)] → W p l e rm_X8_readsSeats s m args below meth c H locs 0 0 (MQ below (Qi D (wM a kc Ff G If J) r (ad a 21 s.heap.size)) args s 0 0 (ad a 21 s.heap.size)) (F0 m 188 ls [.int t0]) := by
  intro F I t0 x2 H locs ls hf hfF hfI hP hS hl
  unfold p_X8_readsSeats_b188 at hf
  refine lv_istore_n (lv' := [(1, .int t0), (0, .ref (a 0)), (2, .int x2)]) X.1 X.2.1 dX8_readsSeats_188 rfl hl (by decide) rfl (fun ls hl => ?_)
  refine lv_goto (tgt := 19) X.1 X.2.1 dX8_readsSeats_189 (by decide) ?_
  exact kh19 F I t0 x2 H locs ls hf hfF hfI hP hS (lv_sub hl [1, 0, 2] rfl)
set_option maxHeartbeats 4000000 in
set_option maxRecDepth 100000 in
theorem t_X8_readsSeats_b183 {p : Program} {l : Launch} {e : Env} {s : State} {m : MethodId} {args : Array Value} {below : List Frame} {meth : Method} {c : Code} {D : va_G} {a : Nat → Nat} {kc : Nat → ClassId} (X : cx 21 p s m args meth c D (tyM kc) a cX8_readsSeats 5 RX8 (some .int)) {G : Nat → Int64} {J : Nat → Nat → Int64} {Ff : Nat → Int32} {If : Nat → Nat → Int32} {r : Int32} {K19 : Int32 → Int32 → Int32 → (Nat → Int32) → (Nat → Int32) → (Nat → Int32) → (Nat → Int32) → Int32 → Int32 → Option (Int32 × Int32 × Int32 × Int32 × (Nat → Int32) × (Nat → Int32))} (kh19 : ∀ (F : Nat → Int32) (I : Nat → Nat → Int32) (x1 : Int32) (x2 : Int32) (H : Heap) (locs : List Loc) (ls : Array Slot), K19 (F 1) (F 2) (F 3) (I 4) (I 5) (I 6) (I 7) x1 x2 = some (r, (Ff 1), (Ff 2), (Ff 3), (If 6), (If 7)) → (∀ k, k ∉ ([1, 2, 3] : List Nat) → Ff k = F k) → (∀ k, k ∉ ([6, 7] : List Nat) → If k = I k) → va_P D vwCl (wM a kc F G I J) H → va_S (ad a 21 s.heap.size) s.heap H locs → lv_has ls 5 [(0, .ref (a 0)), (1, .int x1), (2, .int x2)] → W p l e rm_X8_readsSeats s m args below meth c H locs 0 0 (MQ below (Qi D (wM a kc Ff G If J) r (ad a 21 s.heap.size)) args s 0 0 (ad a 21 s.heap.size)) (F0 m 19 ls [])) :
    ∀ (F : Nat → Int32) (I : Nat → Nat → Int32) (x2 : Int32) (H : Heap) (locs : List Loc) (ls : Array Slot), p_X8_readsSeats_b183 K19 (F 1) (F 2) (F 3) (I 4) (I 5) (I 6) (I 7) x2 = some (r, (Ff 1), (Ff 2), (Ff 3), (If 6), (If 7)) → (∀ k, k ∉ ([1, 2, 3] : List Nat) → Ff k = F k) → (∀ k, k ∉ ([6, 7] : List Nat) → If k = I k) → va_P D vwCl (wM a kc F G I J) H → va_S (ad a 21 s.heap.size) s.heap H locs → lv_has ls 5 [(0, .ref (a 0)), (2, .int x2)] → W p l e rm_X8_readsSeats s m args below meth c H locs 0 0 (MQ below (Qi D (wM a kc Ff G If J) r (ad a 21 s.heap.size)) args s 0 0 (ad a 21 s.heap.size)) (F0 m 183 ls []) := by
  intro F I x2 H locs ls hf hfF hfI hP hS hl
  unfold p_X8_readsSeats_b183 at hf
  refine lv_iconst (v := 1) X.1 X.2.1 dX8_readsSeats_183 (by decide) ?_
  refine lv_goto (tgt := 188) X.1 X.2.1 dX8_readsSeats_184 (by decide) ?_
  exact t_X8_readsSeats_b188 X kh19 F I 1 x2 H locs ls hf hfF hfI hP hS (lv_sub hl [0, 1] rfl)
set_option maxHeartbeats 4000000 in
set_option maxRecDepth 100000 in
theorem t_X8_readsSeats_b156 {p : Program} {l : Launch} {e : Env} {s : State} {m : MethodId} {args : Array Value} {below : List Frame} {meth : Method} {c : Code} {D : va_G} {a : Nat → Nat} {kc : Nat → ClassId} (X : cx 21 p s m args meth c D (tyM kc) a cX8_readsSeats 5 RX8 (some .int)) {G : Nat → Int64} {J : Nat → Nat → Int64} {Ff : Nat → Int32} {If : Nat → Nat → Int32} {r : Int32} {K19 : Int32 → Int32 → Int32 → (Nat → Int32) → (Nat → Int32) → (Nat → Int32) → (Nat → Int32) → Int32 → Int32 → Option (Int32 × Int32 × Int32 × Int32 × (Nat → Int32) × (Nat → Int32))} (kh19 : ∀ (F : Nat → Int32) (I : Nat → Nat → Int32) (x1 : Int32) (x2 : Int32) (H : Heap) (locs : List Loc) (ls : Array Slot), K19 (F 1) (F 2) (F 3) (I 4) (I 5) (I 6) (I 7) x1 x2 = some (r, (Ff 1), (Ff 2), (Ff 3), (If 6), (If 7)) → (∀ k, k ∉ ([1, 2, 3] : List Nat) → Ff k = F k) → (∀ k, k ∉ ([6, 7] : List Nat) → If k = I k) → va_P D vwCl (wM a kc F G I J) H → va_S (ad a 21 s.heap.size) s.heap H locs → lv_has ls 5 [(0, .ref (a 0)), (1, .int x1), (2, .int x2)] → W p l e rm_X8_readsSeats s m args below meth c H locs 0 0 (MQ below (Qi D (wM a kc Ff G If J) r (ad a 21 s.heap.size)) args s 0 0 (ad a 21 s.heap.size)) (F0 m 19 ls [])) :
    ∀ (F : Nat → Int32) (I : Nat → Nat → Int32) (x2 : Int32) (H : Heap) (locs : List Loc) (ls : Array Slot), p_X8_readsSeats_b156 K19 (F 1) (F 2) (F 3) (I 4) (I 5) (I 6) (I 7) x2 = some (r, (Ff 1), (Ff 2), (Ff 3), (If 6), (If 7)) → (∀ k, k ∉ ([1, 2, 3] : List Nat) → Ff k = F k) → (∀ k, k ∉ ([6, 7] : List Nat) → If k = I k) → va_P D vwCl (wM a kc F G I J) H → va_S (ad a 21 s.heap.size) s.heap H locs → lv_has ls 5 [(0, .ref (a 0)), (2, .int x2)] → W p l e rm_X8_readsSeats s m args below meth c H locs 0 0 (MQ below (Qi D (wM a kc Ff G If J) r (ad a 21 s.heap.size)) args s 0 0 (ad a 21 s.heap.size)) (F0 m 156 ls []) := by
  intro F I x2 H locs ls hf hfF hfI hP hS hl
  unfold p_X8_readsSeats_b156 at hf
  refine lv_aload_n X.1 X.2.1 dX8_readsSeats_156 rfl (lv_at hl 0 rfl) ?_
  refine lv_dup X.1 X.2.1 dX8_readsSeats_157 rfl ?_
  refine gM_0_7 (F := F) X (v := (F 1)) rfl q_4_116 dX8_readsSeats_158 hP ?_
  refine lv_iconst (v := 1) X.1 X.2.1 dX8_readsSeats_161 (by decide) ?_
  refine lv_iadd X.1 X.2.1 dX8_readsSeats_162 ?_
  refine nm_i hf (fun m_at_163 hf => ?_)
  refine pM_0_7 X q_4_116 dX8_readsSeats_163 hP hS (fun H locs hP hS => ?_)
  refine lv_aload_n X.1 X.2.1 dX8_readsSeats_166 rfl (lv_at hl 0 rfl) ?_
  refine gM_0_7 (F := (va_up F 1 m_at_163)) X (v := m_at_163) rfl q_4_116 dX8_readsSeats_167 hP ?_
  refine lv_aload_n X.1 X.2.1 dX8_readsSeats_170 rfl (lv_at hl 0 rfl) ?_
  refine gM_0_6 X q_4_115 dX8_readsSeats_171 hP ?_
  refine lv_iconst (v := 0) X.1 X.2.1 dX8_readsSeats_174 (by decide) ?_
  obtain ⟨h175, hf⟩ := gd_s hf
  refine lM_6 (I := I) X (f := (I 5)) rfl h175 dX8_readsSeats_175 hP ?_
  refine lv_icmp_lt (tgt := 183) X.1 X.2.1 dX8_readsSeats_176 (by decide) (fun c176 => ?_) (fun c176 => ?_)
  · have hf := it_s hf c176
    exact t_X8_readsSeats_b183 X kh19 (va_up F 1 m_at_163) I x2 H locs ls hf (frm_up hfF (by decide)) hfI hP hS (lv_sub hl [0, 1] rfl)
  · have hf := ie_s hf c176
    refine lv_iload_n X.1 X.2.1 dX8_readsSeats_179 rfl (lv_at hl 1 rfl) ?_
    refine lv_if_eq (tgt := 187) X.1 X.2.1 dX8_readsSeats_180 (by decide) (fun c180 => ?_) (fun c180 => ?_)
    · have hf := it_s hf c180
      refine lv_iconst (v := 0) X.1 X.2.1 dX8_readsSeats_187 (by decide) ?_
      exact t_X8_readsSeats_b188 X kh19 (va_up F 1 m_at_163) I 0 x2 H locs ls hf (frm_up hfF (by decide)) hfI hP hS (lv_sub hl [0, 1] rfl)
    · have hf := ie_s hf c180
      exact t_X8_readsSeats_b183 X kh19 (va_up F 1 m_at_163) I x2 H locs ls hf (frm_up hfF (by decide)) hfI hP hS (lv_sub hl [0, 1] rfl)
set_option maxHeartbeats 4000000 in
set_option maxRecDepth 100000 in
theorem t_X8_readsSeats_b136 {p : Program} {l : Launch} {e : Env} {s : State} {m : MethodId} {args : Array Value} {below : List Frame} {meth : Method} {c : Code} {D : va_G} {a : Nat → Nat} {kc : Nat → ClassId} (X : cx 21 p s m args meth c D (tyM kc) a cX8_readsSeats 5 RX8 (some .int)) {G : Nat → Int64} {J : Nat → Nat → Int64} {Ff : Nat → Int32} {If : Nat → Nat → Int32} {r : Int32} {K19 : Int32 → Int32 → Int32 → (Nat → Int32) → (Nat → Int32) → (Nat → Int32) → (Nat → Int32) → Int32 → Int32 → Option (Int32 × Int32 × Int32 × Int32 × (Nat → Int32) × (Nat → Int32))} (kh19 : ∀ (F : Nat → Int32) (I : Nat → Nat → Int32) (x1 : Int32) (x2 : Int32) (H : Heap) (locs : List Loc) (ls : Array Slot), K19 (F 1) (F 2) (F 3) (I 4) (I 5) (I 6) (I 7) x1 x2 = some (r, (Ff 1), (Ff 2), (Ff 3), (If 6), (If 7)) → (∀ k, k ∉ ([1, 2, 3] : List Nat) → Ff k = F k) → (∀ k, k ∉ ([6, 7] : List Nat) → If k = I k) → va_P D vwCl (wM a kc F G I J) H → va_S (ad a 21 s.heap.size) s.heap H locs → lv_has ls 5 [(0, .ref (a 0)), (1, .int x1), (2, .int x2)] → W p l e rm_X8_readsSeats s m args below meth c H locs 0 0 (MQ below (Qi D (wM a kc Ff G If J) r (ad a 21 s.heap.size)) args s 0 0 (ad a 21 s.heap.size)) (F0 m 19 ls [])) :
    ∀ (F : Nat → Int32) (I : Nat → Nat → Int32) (x2 : Int32) (x3 : Int32) (H : Heap) (locs : List Loc) (ls : Array Slot), p_X8_readsSeats_b136 K19 (F 1) (F 2) (F 3) (I 4) (I 5) (I 6) (I 7) x2 x3 = some (r, (Ff 1), (Ff 2), (Ff 3), (If 6), (If 7)) → (∀ k, k ∉ ([1, 2, 3] : List Nat) → Ff k = F k) → (∀ k, k ∉ ([6, 7] : List Nat) → If k = I k) → va_P D vwCl (wM a kc F G I J) H → va_S (ad a 21 s.heap.size) s.heap H locs → lv_has ls 5 [(0, .ref (a 0)), (2, .int x2), (3, .int x3)] → W p l e rm_X8_readsSeats s m args below meth c H locs 0 0 (MQ below (Qi D (wM a kc Ff G If J) r (ad a 21 s.heap.size)) args s 0 0 (ad a 21 s.heap.size)) (F0 m 136 ls []) := by
  intro F I x2 x3 H locs ls hf hfF hfI hP hS hl
  unfold p_X8_readsSeats_b136 at hf
  refine lv_iload_n X.1 X.2.1 dX8_readsSeats_136 rfl (lv_at hl 2 rfl) ?_
  refine lv_bipush (v := 59) X.1 X.2.1 dX8_readsSeats_137 (by decide) ?_
  refine lv_icmp_ne (tgt := 151) X.1 X.2.1 dX8_readsSeats_139 (by decide) (fun c139 => ?_) (fun c139 => ?_)
  · have hf := ie_s hf c139
    exact t_X8_readsSeats_b151 X F I  H locs ls hf hfF hfI hP hS (lv_sub hl [0] rfl)
  · have hf := it_s hf c139
    refine lv_iload_n X.1 X.2.1 dX8_readsSeats_142 rfl (lv_at hl 1 rfl) ?_
    refine lv_if_ne (tgt := 151) X.1 X.2.1 dX8_readsSeats_143 (by decide) (fun c143 => ?_) (fun c143 => ?_)
    · have hf := ie_s hf c143
      exact t_X8_readsSeats_b151 X F I  H locs ls hf hfF hfI hP hS (lv_sub hl [0] rfl)
    · have hf := it_s hf c143
      refine lv_iconst (v := 1) X.1 X.2.1 dX8_readsSeats_146 (by decide) ?_
      refine lv_istore_n (lv' := [(2, .int 1), (0, .ref (a 0)), (3, .int x3)]) X.1 X.2.1 dX8_readsSeats_147 rfl hl (by decide) rfl (fun ls hl => ?_)
      refine lv_goto (tgt := 156) X.1 X.2.1 dX8_readsSeats_148 (by decide) ?_
      exact t_X8_readsSeats_b156 X kh19 F I 1 H locs ls hf hfF hfI hP hS (lv_sub hl [1, 0] rfl)
set_option maxHeartbeats 4000000 in
set_option maxRecDepth 100000 in
theorem t_X8_readsSeats_b91 {p : Program} {l : Launch} {e : Env} {s : State} {m : MethodId} {args : Array Value} {below : List Frame} {meth : Method} {c : Code} {D : va_G} {a : Nat → Nat} {kc : Nat → ClassId} (X : cx 21 p s m args meth c D (tyM kc) a cX8_readsSeats 5 RX8 (some .int)) {G : Nat → Int64} {J : Nat → Nat → Int64} {Ff : Nat → Int32} {If : Nat → Nat → Int32} {r : Int32} {K19 : Int32 → Int32 → Int32 → (Nat → Int32) → (Nat → Int32) → (Nat → Int32) → (Nat → Int32) → Int32 → Int32 → Option (Int32 × Int32 × Int32 × Int32 × (Nat → Int32) × (Nat → Int32))} (kh19 : ∀ (F : Nat → Int32) (I : Nat → Nat → Int32) (x1 : Int32) (x2 : Int32) (H : Heap) (locs : List Loc) (ls : Array Slot), K19 (F 1) (F 2) (F 3) (I 4) (I 5) (I 6) (I 7) x1 x2 = some (r, (Ff 1), (Ff 2), (Ff 3), (If 6), (If 7)) → (∀ k, k ∉ ([1, 2, 3] : List Nat) → Ff k = F k) → (∀ k, k ∉ ([6, 7] : List Nat) → If k = I k) → va_P D vwCl (wM a kc F G I J) H → va_S (ad a 21 s.heap.size) s.heap H locs → lv_has ls 5 [(0, .ref (a 0)), (1, .int x1), (2, .int x2)] → W p l e rm_X8_readsSeats s m args below meth c H locs 0 0 (MQ below (Qi D (wM a kc Ff G If J) r (ad a 21 s.heap.size)) args s 0 0 (ad a 21 s.heap.size)) (F0 m 19 ls [])) :
    ∀ (F : Nat → Int32) (I : Nat → Nat → Int32) (t1 : Int32) (t2 : Int32) (x4 : Int32) (H : Heap) (locs : List Loc) (ls : Array Slot), p_X8_readsSeats_b91 K19 (F 1) (F 2) (F 3) (I 4) (I 5) (I 6) (I 7) t1 t2 x4 = some (r, (Ff 1), (Ff 2), (Ff 3), (If 6), (If 7)) → (∀ k, k ∉ ([1, 2, 3] : List Nat) → Ff k = F k) → (∀ k, k ∉ ([6, 7] : List Nat) → If k = I k) → va_P D vwCl (wM a kc F G I J) H → va_S (ad a 21 s.heap.size) s.heap H locs → lv_has ls 5 [(0, .ref (a 0)), (4, .int x4)] → W p l e rm_X8_readsSeats s m args below meth c H locs 0 0 (MQ below (Qi D (wM a kc Ff G If J) r (ad a 21 s.heap.size)) args s 0 0 (ad a 21 s.heap.size)) (F0 m 91 ls [.int t2, .int t1, .ref (a 0)]) := by
  intro F I t1 t2 x4 H locs ls hf hfF hfI hP hS hl
  unfold p_X8_readsSeats_b91 at hf
  refine lv_iadd X.1 X.2.1 dX8_readsSeats_91 ?_
  refine nm_i hf (fun m_rows_92 hf => ?_)
  refine pM_0_9 X q_4_118 dX8_readsSeats_92 hP hS (fun H locs hP hS => ?_)
  refine lv_aload_n X.1 X.2.1 dX8_readsSeats_95 rfl (lv_at hl 0 rfl) ?_
  refine gM_0_10 X q_4_119 dX8_readsSeats_96 hP ?_
  refine lv_aload_n X.1 X.2.1 dX8_readsSeats_99 rfl (lv_at hl 0 rfl) ?_
  refine gM_0_8 (F := (va_up F 3 m_rows_92)) X (v := (F 2)) rfl q_4_117 dX8_readsSeats_100 hP ?_
  refine lv_iload X.1 X.2.1 dX8_readsSeats_103 (lv_at hl 1 rfl) ?_
  obtain ⟨h105, hf⟩ := gd_s hf
  obtain ⟨m_sorts_105, em_sorts_105, hf⟩ := nm_x hf
  refine sM_7 (I := I) X h105 em_sorts_105 dX8_readsSeats_105 hP hS (fun H locs hP hS => ?_)
  refine lv_aload_n X.1 X.2.1 dX8_readsSeats_106 rfl (lv_at hl 0 rfl) ?_
  refine gM_0_11 X q_4_120 dX8_readsSeats_107 hP ?_
  refine lv_aload_n X.1 X.2.1 dX8_readsSeats_110 rfl (lv_at hl 0 rfl) ?_
  refine gM_0_8 (F := (va_up F 3 m_rows_92)) X (v := (F 2)) rfl q_4_117 dX8_readsSeats_111 hP ?_
  refine lv_aload_n X.1 X.2.1 dX8_readsSeats_114 rfl (lv_at hl 0 rfl) ?_
  refine gM_0_9 (F := (va_up F 3 m_rows_92)) X (v := m_rows_92) rfl q_4_118 dX8_readsSeats_115 hP ?_
  refine lv_iconst (v := 1) X.1 X.2.1 dX8_readsSeats_118 (by decide) ?_
  refine lv_isub X.1 X.2.1 dX8_readsSeats_119 ?_
  obtain ⟨h120, hf⟩ := gd_s hf
  obtain ⟨m_rowOf_120, em_rowOf_120, hf⟩ := nm_x hf
  refine sM_8 (I := (va_up I 6 m_sorts_105)) X h120 em_rowOf_120 dX8_readsSeats_120 hP hS (fun H locs hP hS => ?_)
  refine lv_aload_n X.1 X.2.1 dX8_readsSeats_121 rfl (lv_at hl 0 rfl) ?_
  refine lv_dup X.1 X.2.1 dX8_readsSeats_122 rfl ?_
  refine gM_0_8 (F := (va_up F 3 m_rows_92)) X (v := (F 2)) rfl q_4_117 dX8_readsSeats_123 hP ?_
  refine lv_iconst (v := 1) X.1 X.2.1 dX8_readsSeats_126 (by decide) ?_
  refine lv_iadd X.1 X.2.1 dX8_readsSeats_127 ?_
  refine nm_i hf (fun m_seats_128 hf => ?_)
  refine pM_0_8 X q_4_117 dX8_readsSeats_128 hP hS (fun H locs hP hS => ?_)
  refine lv_iconst (v := 0) X.1 X.2.1 dX8_readsSeats_131 (by decide) ?_
  refine lv_istore_n (lv' := [(2, .int 0), (0, .ref (a 0)), (4, .int x4)]) X.1 X.2.1 dX8_readsSeats_132 rfl hl (by decide) rfl (fun ls hl => ?_)
  refine lv_goto (tgt := 156) X.1 X.2.1 dX8_readsSeats_133 (by decide) ?_
  exact t_X8_readsSeats_b156 X kh19 (va_up (va_up F 3 m_rows_92) 2 m_seats_128) (va_up (va_up I 6 m_sorts_105) 7 m_rowOf_120) 0 H locs ls hf (frm_up (frm_up hfF (by decide)) (by decide)) (frm_up (frm_up hfI (by decide)) (by decide)) hP hS (lv_sub hl [1, 0] rfl)
set_option maxHeartbeats 4000000 in
set_option maxRecDepth 100000 in
theorem t_X8_readsSeats_b60 {p : Program} {l : Launch} {e : Env} {s : State} {m : MethodId} {args : Array Value} {below : List Frame} {meth : Method} {c : Code} {D : va_G} {a : Nat → Nat} {kc : Nat → ClassId} (X : cx 21 p s m args meth c D (tyM kc) a cX8_readsSeats 5 RX8 (some .int)) {G : Nat → Int64} {J : Nat → Nat → Int64} {Ff : Nat → Int32} {If : Nat → Nat → Int32} {r : Int32} {K19 : Int32 → Int32 → Int32 → (Nat → Int32) → (Nat → Int32) → (Nat → Int32) → (Nat → Int32) → Int32 → Int32 → Option (Int32 × Int32 × Int32 × Int32 × (Nat → Int32) × (Nat → Int32))} (kh19 : ∀ (F : Nat → Int32) (I : Nat → Nat → Int32) (x1 : Int32) (x2 : Int32) (H : Heap) (locs : List Loc) (ls : Array Slot), K19 (F 1) (F 2) (F 3) (I 4) (I 5) (I 6) (I 7) x1 x2 = some (r, (Ff 1), (Ff 2), (Ff 3), (If 6), (If 7)) → (∀ k, k ∉ ([1, 2, 3] : List Nat) → Ff k = F k) → (∀ k, k ∉ ([6, 7] : List Nat) → If k = I k) → va_P D vwCl (wM a kc F G I J) H → va_S (ad a 21 s.heap.size) s.heap H locs → lv_has ls 5 [(0, .ref (a 0)), (1, .int x1), (2, .int x2)] → W p l e rm_X8_readsSeats s m args below meth c H locs 0 0 (MQ below (Qi D (wM a kc Ff G If J) r (ad a 21 s.heap.size)) args s 0 0 (ad a 21 s.heap.size)) (F0 m 19 ls [])) :
    ∀ (F : Nat → Int32) (I : Nat → Nat → Int32) (t0 : Int32) (x2 : Int32) (x3 : Int32) (H : Heap) (locs : List Loc) (ls : Array Slot), p_X8_readsSeats_b60 K19 (F 1) (F 2) (F 3) (I 4) (I 5) (I 6) (I 7) t0 x2 x3 = some (r, (Ff 1), (Ff 2), (Ff 3), (If 6), (If 7)) → (∀ k, k ∉ ([1, 2, 3] : List Nat) → Ff k = F k) → (∀ k, k ∉ ([6, 7] : List Nat) → If k = I k) → va_P D vwCl (wM a kc F G I J) H → va_S (ad a 21 s.heap.size) s.heap H locs → lv_has ls 5 [(0, .ref (a 0)), (2, .int x2), (3, .int x3)] → W p l e rm_X8_readsSeats s m args below meth c H locs 0 0 (MQ below (Qi D (wM a kc Ff G If J) r (ad a 21 s.heap.size)) args s 0 0 (ad a 21 s.heap.size)) (F0 m 60 ls [.int t0]) := by
  intro F I t0 x2 x3 H locs ls hf hfF hfI hP hS hl
  unfold p_X8_readsSeats_b60 at hf
  refine lv_istore (lv' := [(4, .int t0), (0, .ref (a 0)), (2, .int x2), (3, .int x3)]) X.1 X.2.1 dX8_readsSeats_60 hl (by decide) rfl (fun ls hl => ?_)
  refine lv_iload X.1 X.2.1 dX8_readsSeats_62 (lv_at hl 0 rfl) ?_
  refine lv_iconst (v := (-1)) X.1 X.2.1 dX8_readsSeats_64 (by decide) ?_
  refine lv_icmp_eq (tgt := 136) X.1 X.2.1 dX8_readsSeats_65 (by decide) (fun c65 => ?_) (fun c65 => ?_)
  · have hf := it_s hf c65
    exact t_X8_readsSeats_b136 X kh19 F I x2 x3 H locs ls hf hfF hfI hP hS (lv_sub hl [1, 2, 3] rfl)
  · have hf := ie_s hf c65
    refine lv_aload_n X.1 X.2.1 dX8_readsSeats_68 rfl (lv_at hl 1 rfl) ?_
    refine gM_0_8 (F := F) X (v := (F 2)) rfl q_4_117 dX8_readsSeats_69 hP ?_
    refine lv_bipush (v := 8) X.1 X.2.1 dX8_readsSeats_72 (by decide) ?_
    refine lv_icmp_ge (tgt := 136) X.1 X.2.1 dX8_readsSeats_74 (by decide) (fun c74 => ?_) (fun c74 => ?_)
    · have hf := it_s hf c74
      exact t_X8_readsSeats_b136 X kh19 F I x2 x3 H locs ls hf hfF hfI hP hS (lv_sub hl [1, 2, 3] rfl)
    · have hf := ie_s hf c74
      refine lv_aload_n X.1 X.2.1 dX8_readsSeats_77 rfl (lv_at hl 1 rfl) ?_
      refine lv_dup X.1 X.2.1 dX8_readsSeats_78 rfl ?_
      refine gM_0_9 (F := F) X (v := (F 3)) rfl q_4_118 dX8_readsSeats_79 hP ?_
      refine lv_iload_n X.1 X.2.1 dX8_readsSeats_82 rfl (lv_at hl 2 rfl) ?_
      refine lv_if_eq (tgt := 90) X.1 X.2.1 dX8_readsSeats_83 (by decide) (fun c83 => ?_) (fun c83 => ?_)
      · have hf := it_s hf c83
        refine lv_iconst (v := 0) X.1 X.2.1 dX8_readsSeats_90 (by decide) ?_
        exact t_X8_readsSeats_b91 X kh19 F I (F 3) 0 t0 H locs ls hf hfF hfI hP hS (lv_sub hl [1, 0] rfl)
      · have hf := ie_s hf c83
        refine lv_iconst (v := 1) X.1 X.2.1 dX8_readsSeats_86 (by decide) ?_
        refine lv_goto (tgt := 91) X.1 X.2.1 dX8_readsSeats_87 (by decide) ?_
        exact t_X8_readsSeats_b91 X kh19 F I (F 3) 1 t0 H locs ls hf hfF hfI hP hS (lv_sub hl [1, 0] rfl)
set_option maxHeartbeats 4000000 in
set_option maxRecDepth 100000 in
theorem t_X8_readsSeats_b19x {p : Program} {l : Launch} {e : Env} {s : State} {m : MethodId} {args : Array Value} {below : List Frame} {meth : Method} {c : Code} {D : va_G} {a : Nat → Nat} {kc : Nat → ClassId} (X : cx 21 p s m args meth c D (tyM kc) a cX8_readsSeats 5 RX8 (some .int)) {G : Nat → Int64} {J : Nat → Nat → Int64} {Ff : Nat → Int32} {If : Nat → Nat → Int32} {r : Int32} {K19 : Int32 → Int32 → Int32 → (Nat → Int32) → (Nat → Int32) → (Nat → Int32) → (Nat → Int32) → Int32 → Int32 → Option (Int32 × Int32 × Int32 × Int32 × (Nat → Int32) × (Nat → Int32))} (kh19 : ∀ (F : Nat → Int32) (I : Nat → Nat → Int32) (x1 : Int32) (x2 : Int32) (H : Heap) (locs : List Loc) (ls : Array Slot), K19 (F 1) (F 2) (F 3) (I 4) (I 5) (I 6) (I 7) x1 x2 = some (r, (Ff 1), (Ff 2), (Ff 3), (If 6), (If 7)) → (∀ k, k ∉ ([1, 2, 3] : List Nat) → Ff k = F k) → (∀ k, k ∉ ([6, 7] : List Nat) → If k = I k) → va_P D vwCl (wM a kc F G I J) H → va_S (ad a 21 s.heap.size) s.heap H locs → lv_has ls 5 [(0, .ref (a 0)), (1, .int x1), (2, .int x2)] → W p l e rm_X8_readsSeats s m args below meth c H locs 0 0 (MQ below (Qi D (wM a kc Ff G If J) r (ad a 21 s.heap.size)) args s 0 0 (ad a 21 s.heap.size)) (F0 m 19 ls [])) :
    ∀ (F : Nat → Int32) (I : Nat → Nat → Int32) (x1 : Int32) (x2 : Int32) (H : Heap) (locs : List Loc) (ls : Array Slot), p_X8_readsSeats_b19x K19 (F 1) (F 2) (F 3) (I 4) (I 5) (I 6) (I 7) x1 x2 = some (r, (Ff 1), (Ff 2), (Ff 3), (If 6), (If 7)) → (∀ k, k ∉ ([1, 2, 3] : List Nat) → Ff k = F k) → (∀ k, k ∉ ([6, 7] : List Nat) → If k = I k) → va_P D vwCl (wM a kc F G I J) H → va_S (ad a 21 s.heap.size) s.heap H locs → lv_has ls 5 [(0, .ref (a 0)), (1, .int x1), (2, .int x2)] → W p l e rm_X8_readsSeats s m args below meth c H locs 0 0 (MQ below (Qi D (wM a kc Ff G If J) r (ad a 21 s.heap.size)) args s 0 0 (ad a 21 s.heap.size)) (F0 m 19 ls []) := by
  intro F I x1 x2 H locs ls hf hfF hfI hP hS hl
  unfold p_X8_readsSeats_b19x at hf
  refine lv_iload_n X.1 X.2.1 dX8_readsSeats_19 rfl (lv_at hl 1 rfl) ?_
  refine lv_if_eq (tgt := 192) X.1 X.2.1 dX8_readsSeats_20 (by decide) (fun c20 => ?_) (fun c20 => ?_)
  · have hf := it_s hf c20
    refine lv_iconst (v := (-1)) X.1 X.2.1 dX8_readsSeats_192 (by decide) ?_
    obtain ⟨e0, hf⟩ := o2 hf
    obtain ⟨e1, hf⟩ := o2 hf
    obtain ⟨e2, hf⟩ := o2 hf
    obtain ⟨e3, hf⟩ := o2 hf
    obtain ⟨e4, hf⟩ := o2 hf
    have e5 := o1 hf
    have EF : Ff = F := frm_eq hfF (frm_c (e1).symm (frm_c (e2).symm (frm_c (e3).symm frm_n)))
    have EI : If = I := frm_eq hfI (frm_c (e4).symm (frm_c (e5).symm frm_n))
    exact ret_i X hS (by rw [EF, EI]; exact hP) e0 dX8_readsSeats_193
  · have hf := ie_s hf c20
    refine lv_aload_n X.1 X.2.1 dX8_readsSeats_23 rfl (lv_at hl 0 rfl) ?_
    refine lv_iconst (v := 0) X.1 X.2.1 dX8_readsSeats_24 (by decide) ?_
    obtain ⟨r25, ho, hf⟩ := b1_s hf
    refine call_vi (rest := []) X (c_X8_here F G I J X.2.2.2.2.2.2.2.1 0 ho) q_5_42 q_5_44 qs_yX8_here q_1_10 q_5_45 ok_X8_here rfl 0 rfl rfl ⟨Nat.le_of_ble_eq_true rfl, Nat.le_of_ble_eq_true rfl⟩ rfl rfl hl.1 rfl (Nat.le_of_ble_eq_true rfl) dX8_readsSeats_25 hP hS (fun H locs hP hS => ?_)
    refine lv_istore_n (lv' := [(3, .int r25), (0, .ref (a 0)), (1, .int x1), (2, .int x2)]) X.1 X.2.1 dX8_readsSeats_28 rfl hl (by decide) rfl (fun ls hl => ?_)
    refine lv_iload_n X.1 X.2.1 dX8_readsSeats_29 rfl (lv_at hl 0 rfl) ?_
    refine lv_bipush (v := 119) X.1 X.2.1 dX8_readsSeats_30 (by decide) ?_
    refine lv_icmp_ne (tgt := 39) X.1 X.2.1 dX8_readsSeats_32 (by decide) (fun c32 => ?_) (fun c32 => ?_)
    · have hf := ie_s hf c32
      refine lv_iload_n X.1 X.2.1 dX8_readsSeats_39 rfl (lv_at hl 0 rfl) ?_
      refine lv_bipush (v := 109) X.1 X.2.1 dX8_readsSeats_40 (by decide) ?_
      refine lv_icmp_ne (tgt := 49) X.1 X.2.1 dX8_readsSeats_42 (by decide) (fun c42 => ?_) (fun c42 => ?_)
      · have hf := ie_s hf c42
        refine lv_iload_n X.1 X.2.1 dX8_readsSeats_49 rfl (lv_at hl 0 rfl) ?_
        refine lv_bipush (v := 97) X.1 X.2.1 dX8_readsSeats_50 (by decide) ?_
        refine lv_icmp_ne (tgt := 59) X.1 X.2.1 dX8_readsSeats_52 (by decide) (fun c52 => ?_) (fun c52 => ?_)
        · have hf := ie_s hf c52
          refine lv_iconst (v := (-1)) X.1 X.2.1 dX8_readsSeats_59 (by decide) ?_
          exact t_X8_readsSeats_b60 X kh19 F I (-1) x2 r25 H locs ls hf hfF hfI hP hS (lv_sub hl [1, 3, 0] rfl)
        · have hf := it_s hf c52
          refine lv_iconst (v := 2) X.1 X.2.1 dX8_readsSeats_55 (by decide) ?_
          refine lv_goto (tgt := 60) X.1 X.2.1 dX8_readsSeats_56 (by decide) ?_
          exact t_X8_readsSeats_b60 X kh19 F I 2 x2 r25 H locs ls hf hfF hfI hP hS (lv_sub hl [1, 3, 0] rfl)
      · have hf := it_s hf c42
        refine lv_iconst (v := 1) X.1 X.2.1 dX8_readsSeats_45 (by decide) ?_
        refine lv_goto (tgt := 60) X.1 X.2.1 dX8_readsSeats_46 (by decide) ?_
        exact t_X8_readsSeats_b60 X kh19 F I 1 x2 r25 H locs ls hf hfF hfI hP hS (lv_sub hl [1, 3, 0] rfl)
    · have hf := it_s hf c32
      refine lv_iconst (v := 0) X.1 X.2.1 dX8_readsSeats_35 (by decide) ?_
      refine lv_goto (tgt := 60) X.1 X.2.1 dX8_readsSeats_36 (by decide) ?_
      exact t_X8_readsSeats_b60 X kh19 F I 0 x2 r25 H locs ls hf hfF hfI hP hS (lv_sub hl [1, 3, 0] rfl)
set_option maxRecDepth 100000 in
theorem t_X8_readsSeats_b19 {p : Program} {l : Launch} {e : Env} {s : State} {m : MethodId} {args : Array Value} {below : List Frame} {meth : Method} {c : Code} {D : va_G} {a : Nat → Nat} {kc : Nat → ClassId} (X : cx 21 p s m args meth c D (tyM kc) a cX8_readsSeats 5 RX8 (some .int)) {G : Nat → Int64} {J : Nat → Nat → Int64} {Ff : Nat → Int32} {If : Nat → Nat → Int32} {r : Int32} :
    ∀ (n : Nat) (F : Nat → Int32) (I : Nat → Nat → Int32) (x1 : Int32) (x2 : Int32) (H : Heap) (locs : List Loc) (ls : Array Slot), p_X8_readsSeats_b19 n (F 1) (F 2) (F 3) (I 4) (I 5) (I 6) (I 7) x1 x2 = some (r, (Ff 1), (Ff 2), (Ff 3), (If 6), (If 7)) → (∀ k, k ∉ ([1, 2, 3] : List Nat) → Ff k = F k) → (∀ k, k ∉ ([6, 7] : List Nat) → If k = I k) → va_P D vwCl (wM a kc F G I J) H → va_S (ad a 21 s.heap.size) s.heap H locs → lv_has ls 5 [(0, .ref (a 0)), (1, .int x1), (2, .int x2)] → W p l e rm_X8_readsSeats s m args below meth c H locs 0 0 (MQ below (Qi D (wM a kc Ff G If J) r (ad a 21 s.heap.size)) args s 0 0 (ad a 21 s.heap.size)) (F0 m 19 ls []) := by
  intro n
  induction n with
  | zero => intro F I x1 x2 H locs ls hf hfF hfI hP hS hl; exact (nos hf).elim
  | succ n ih => exact t_X8_readsSeats_b19x X ih
set_option maxHeartbeats 4000000 in
set_option maxRecDepth 100000 in
theorem t_X8_readsSeats_b0 {p : Program} {l : Launch} {e : Env} {s : State} {m : MethodId} {args : Array Value} {below : List Frame} {meth : Method} {c : Code} {D : va_G} {a : Nat → Nat} {kc : Nat → ClassId} (X : cx 21 p s m args meth c D (tyM kc) a cX8_readsSeats 5 RX8 (some .int)) {G : Nat → Int64} {J : Nat → Nat → Int64} {Ff : Nat → Int32} {If : Nat → Nat → Int32} {r : Int32} :
    ∀ (F : Nat → Int32) (I : Nat → Nat → Int32)  (H : Heap) (locs : List Loc) (ls : Array Slot), p_X8_readsSeats_b0 (F 1) (F 2) (F 3) (I 4) (I 5) (I 6) (I 7)  = some (r, (Ff 1), (Ff 2), (Ff 3), (If 6), (If 7)) → (∀ k, k ∉ ([1, 2, 3] : List Nat) → Ff k = F k) → (∀ k, k ∉ ([6, 7] : List Nat) → If k = I k) → va_P D vwCl (wM a kc F G I J) H → va_S (ad a 21 s.heap.size) s.heap H locs → lv_has ls 5 [(0, .ref (a 0))] → W p l e rm_X8_readsSeats s m args below meth c H locs 0 0 (MQ below (Qi D (wM a kc Ff G If J) r (ad a 21 s.heap.size)) args s 0 0 (ad a 21 s.heap.size)) (F0 m 0 ls []) := by
  intro F I  H locs ls hf hfF hfI hP hS hl
  unfold p_X8_readsSeats_b0 at hf
  refine lv_aload_n X.1 X.2.1 dX8_readsSeats_0 rfl (lv_at hl 0 rfl) ?_
  refine lv_iconst (v := 0) X.1 X.2.1 dX8_readsSeats_1 (by decide) ?_
  refine pM_0_7 X q_4_116 dX8_readsSeats_2 hP hS (fun H locs hP hS => ?_)
  refine lv_aload_n X.1 X.2.1 dX8_readsSeats_5 rfl (lv_at hl 0 rfl) ?_
  refine lv_iconst (v := 0) X.1 X.2.1 dX8_readsSeats_6 (by decide) ?_
  refine pM_0_8 X q_4_117 dX8_readsSeats_7 hP hS (fun H locs hP hS => ?_)
  refine lv_aload_n X.1 X.2.1 dX8_readsSeats_10 rfl (lv_at hl 0 rfl) ?_
  refine lv_iconst (v := 0) X.1 X.2.1 dX8_readsSeats_11 (by decide) ?_
  refine pM_0_9 X q_4_118 dX8_readsSeats_12 hP hS (fun H locs hP hS => ?_)
  refine lv_iconst (v := 1) X.1 X.2.1 dX8_readsSeats_15 (by decide) ?_
  refine lv_istore_n (lv' := [(1, .int 1), (0, .ref (a 0))]) X.1 X.2.1 dX8_readsSeats_16 rfl hl (by decide) rfl (fun ls hl => ?_)
  refine lv_iconst (v := 1) X.1 X.2.1 dX8_readsSeats_17 (by decide) ?_
  refine lv_istore_n (lv' := [(2, .int 1), (1, .int 1), (0, .ref (a 0))]) X.1 X.2.1 dX8_readsSeats_18 rfl hl (by decide) rfl (fun ls hl => ?_)
  exact t_X8_readsSeats_b19 X 4096 (va_up (va_up (va_up F 1 0) 2 0) 3 0) I 1 1 H locs ls hf (frm_up (frm_up (frm_up hfF (by decide)) (by decide)) (by decide)) hfI hP hS (lv_sub hl [2, 1, 0] rfl)
set_option maxRecDepth 100000 in
theorem c_X8_readsSeats {l : Launch} {D : va_G} {a : Nat → Nat} {kc : Nat → ClassId} (F : Nat → Int32) (G : Nat → Int64) (I : Nat → Nat → Int32) (J : Nat → Nat → Int64) (hAp : ∀ i j, i < 21 → j < 21 → a i = a j → i = j)  {o0 : Int32} {o1 : Int32} {o2 : Int32} {o3 : Int32} {o4 : Nat → Int32} {o5 : Nat → Int32} (hf : p_X8_readsSeats (F 1) (F 2) (F 3) (I 4) (I 5) (I 6) (I 7)  = some (o0, o1, o2, o3, o4, o5)) : Ct 21 l yX8_readsSeats cX8_readsSeats 5 (some .int) rm_X8_readsSeats D (tyM kc) a (wM a kc F G I J) [.ref (a 0)] (Qi D (wM a kc (va_up (va_up (va_up F 1 o1) 2 o2) 3 o3) G (va_up (va_up I 6 o4) 7 o5) J) o0) :=
  Ct.of (by decide +kernel) hAp (Nat.le_of_ble_eq_true rfl) (fun p e s m args below meth c ls X hP hl => t_X8_readsSeats_b0 X F I  _ _ _ hf (frm_ul (frm_ul (frm_ul (fun k _ => rfl) (by decide)) (by decide)) (by decide)) (frm_ul (frm_ul (fun k _ => rfl) (by decide)) (by decide)) hP va_S.rf hl)
abbrev rm_X8_kindOf : Room := { frames := 0, cells := 0, slots := 0, locals := 0 }
set_option maxHeartbeats 4000000 in
set_option maxRecDepth 100000 in
theorem t_X8_kindOf_b41 {p : Program} {l : Launch} {e : Env} {s : State} {m : MethodId} {args : Array Value} {below : List Frame} {meth : Method} {c : Code} {D : va_G} {a : Nat → Nat} (X : cx 0 p s m args meth c D [] a cX8_kindOf 1 RX8 (some .int))   {r : Int32} :
    ∀  (t0 : Int32) (H : Heap) (locs : List Loc) (ls : Array Slot), p_X8_kindOf_b41  t0 = some r → va_P D vwCl [] H → va_S (ad a 0 s.heap.size) s.heap H locs → lv_has ls 1 [] → W p l e rm_X8_kindOf s m args below meth c H locs 0 0 (MQ below (Qi D [] r (ad a 0 s.heap.size)) args s 0 0 (ad a 0 s.heap.size)) (F0 m 41 ls [.int t0]) := by
  intro  t0 H locs ls hf  hP hS hl
  unfold p_X8_kindOf_b41 at hf
  have e0 := o1 hf
  exact ret_i X hS hP e0 dX8_kindOf_41
set_option maxHeartbeats 4000000 in
set_option maxRecDepth 100000 in
theorem t_X8_kindOf_b0 {p : Program} {l : Launch} {e : Env} {s : State} {m : MethodId} {args : Array Value} {below : List Frame} {meth : Method} {c : Code} {D : va_G} {a : Nat → Nat} (X : cx 0 p s m args meth c D [] a cX8_kindOf 1 RX8 (some .int))   {r : Int32} :
    ∀  (x0 : Int32) (H : Heap) (locs : List Loc) (ls : Array Slot), p_X8_kindOf_b0  x0 = some r → va_P D vwCl [] H → va_S (ad a 0 s.heap.size) s.heap H locs → lv_has ls 1 [(0, .int x0)] → W p l e rm_X8_kindOf s m args below meth c H locs 0 0 (MQ below (Qi D [] r (ad a 0 s.heap.size)) args s 0 0 (ad a 0 s.heap.size)) (F0 m 0 ls []) := by
  intro  x0 H locs ls hf  hP hS hl
  unfold p_X8_kindOf_b0 at hf
  refine lv_iload_n X.1 X.2.1 dX8_kindOf_0 rfl (lv_at hl 0 rfl) ?_
  refine lv_bipush (v := 111) X.1 X.2.1 dX8_kindOf_1 (by decide) ?_
  refine lv_icmp_ne (tgt := 10) X.1 X.2.1 dX8_kindOf_3 (by decide) (fun c3 => ?_) (fun c3 => ?_)
  · have hf := ie_s hf c3
    refine lv_iload_n X.1 X.2.1 dX8_kindOf_10 rfl (lv_at hl 0 rfl) ?_
    refine lv_bipush (v := 108) X.1 X.2.1 dX8_kindOf_11 (by decide) ?_
    refine lv_icmp_ne (tgt := 20) X.1 X.2.1 dX8_kindOf_13 (by decide) (fun c13 => ?_) (fun c13 => ?_)
    · have hf := ie_s hf c13
      refine lv_iload_n X.1 X.2.1 dX8_kindOf_20 rfl (lv_at hl 0 rfl) ?_
      refine lv_bipush (v := 110) X.1 X.2.1 dX8_kindOf_21 (by decide) ?_
      refine lv_icmp_ne (tgt := 30) X.1 X.2.1 dX8_kindOf_23 (by decide) (fun c23 => ?_) (fun c23 => ?_)
      · have hf := ie_s hf c23
        refine lv_iload_n X.1 X.2.1 dX8_kindOf_30 rfl (lv_at hl 0 rfl) ?_
        refine lv_bipush (v := 115) X.1 X.2.1 dX8_kindOf_31 (by decide) ?_
        refine lv_icmp_ne (tgt := 40) X.1 X.2.1 dX8_kindOf_33 (by decide) (fun c33 => ?_) (fun c33 => ?_)
        · have hf := ie_s hf c33
          refine lv_iconst (v := (-1)) X.1 X.2.1 dX8_kindOf_40 (by decide) ?_
          exact t_X8_kindOf_b41 X  (-1) H locs ls hf  hP hS (lv_sub hl [] rfl)
        · have hf := it_s hf c33
          refine lv_iconst (v := 3) X.1 X.2.1 dX8_kindOf_36 (by decide) ?_
          refine lv_goto (tgt := 41) X.1 X.2.1 dX8_kindOf_37 (by decide) ?_
          exact t_X8_kindOf_b41 X  3 H locs ls hf  hP hS (lv_sub hl [] rfl)
      · have hf := it_s hf c23
        refine lv_iconst (v := 2) X.1 X.2.1 dX8_kindOf_26 (by decide) ?_
        refine lv_goto (tgt := 41) X.1 X.2.1 dX8_kindOf_27 (by decide) ?_
        exact t_X8_kindOf_b41 X  2 H locs ls hf  hP hS (lv_sub hl [] rfl)
    · have hf := it_s hf c13
      refine lv_iconst (v := 1) X.1 X.2.1 dX8_kindOf_16 (by decide) ?_
      refine lv_goto (tgt := 41) X.1 X.2.1 dX8_kindOf_17 (by decide) ?_
      exact t_X8_kindOf_b41 X  1 H locs ls hf  hP hS (lv_sub hl [] rfl)
  · have hf := it_s hf c3
    refine lv_iconst (v := 0) X.1 X.2.1 dX8_kindOf_6 (by decide) ?_
    refine lv_goto (tgt := 41) X.1 X.2.1 dX8_kindOf_7 (by decide) ?_
    exact t_X8_kindOf_b41 X  0 H locs ls hf  hP hS (lv_sub hl [] rfl)
set_option maxRecDepth 100000 in
theorem c_X8_kindOf {l : Launch} {D : va_G} {a : Nat → Nat}  (x0 : Int32) {o0 : Int32} (hf : p_X8_kindOf  x0 = some o0) : Ct 0 l yX8_kindOf cX8_kindOf 1 (some .int) rm_X8_kindOf D [] a [] [.int x0] (Qi D [] o0) :=
  Ct.of (by decide +kernel) (fun i j h => absurd h (Nat.not_lt_zero i)) (Nat.le_of_ble_eq_true rfl) (fun p e s m args below meth c ls X hP hl => t_X8_kindOf_b0 X  x0 _ _ _ hf  hP va_S.rf hl)
abbrev rm_X8_nobody : Room := { frames := 0, cells := 0, slots := 0, locals := 0 }
set_option maxHeartbeats 4000000 in
set_option maxRecDepth 100000 in
theorem t_X8_nobody_b0 {p : Program} {l : Launch} {e : Env} {s : State} {m : MethodId} {args : Array Value} {below : List Frame} {meth : Method} {c : Code} {D : va_G} {a : Nat → Nat} {kc : Nat → ClassId} (X : cx 21 p s m args meth c D (tyM kc) a cX8_nobody 1 RX8 (some .int)) {G : Nat → Int64} {I : Nat → Nat → Int32} {J : Nat → Nat → Int64} {Ff : Nat → Int32} {r : Int32} :
    ∀ (F : Nat → Int32)  (H : Heap) (locs : List Loc) (ls : Array Slot), p_X8_nobody_b0 (F 1) (F 4)  = some (r, (Ff 4)) → (∀ k, k ∉ ([4] : List Nat) → Ff k = F k) → va_P D vwCl (wM a kc F G I J) H → va_S (ad a 21 s.heap.size) s.heap H locs → lv_has ls 1 [(0, .ref (a 0))] → W p l e rm_X8_nobody s m args below meth c H locs 0 0 (MQ below (Qi D (wM a kc Ff G I J) r (ad a 21 s.heap.size)) args s 0 0 (ad a 21 s.heap.size)) (F0 m 0 ls []) := by
  intro F  H locs ls hf hfF hP hS hl
  unfold p_X8_nobody_b0 at hf
  refine lv_aload_n X.1 X.2.1 dX8_nobody_0 rfl (lv_at hl 0 rfl) ?_
  refine lv_iconst (v := 0) X.1 X.2.1 dX8_nobody_1 (by decide) ?_
  refine pM_0_12 X q_4_121 dX8_nobody_2 hP hS (fun H locs hP hS => ?_)
  refine lv_aload_n X.1 X.2.1 dX8_nobody_5 rfl (lv_at hl 0 rfl) ?_
  refine gM_0_7 (F := (va_up F 4 0)) X (v := (F 1)) rfl q_4_116 dX8_nobody_6 hP ?_
  obtain ⟨e0, hf⟩ := o2 hf
  have e1 := o1 hf
  have EF : Ff = (va_up F 4 0) := frm_eq (frm_up hfF (by decide)) (frm_c (e1).symm frm_n)
  exact ret_i X hS (by rw [EF]; exact hP) e0 dX8_nobody_9
set_option maxRecDepth 100000 in
theorem c_X8_nobody {l : Launch} {D : va_G} {a : Nat → Nat} {kc : Nat → ClassId} (F : Nat → Int32) (G : Nat → Int64) (I : Nat → Nat → Int32) (J : Nat → Nat → Int64) (hAp : ∀ i j, i < 21 → j < 21 → a i = a j → i = j)  {o0 : Int32} {o1 : Int32} (hf : p_X8_nobody (F 1) (F 4)  = some (o0, o1)) : Ct 21 l yX8_nobody cX8_nobody 1 (some .int) rm_X8_nobody D (tyM kc) a (wM a kc F G I J) [.ref (a 0)] (Qi D (wM a kc (va_up F 4 o1) G I J) o0) :=
  Ct.of (by decide +kernel) hAp (Nat.le_of_ble_eq_true rfl) (fun p e s m args below meth c ls X hP hl => t_X8_nobody_b0 X F  _ _ _ hf (frm_ul (fun k _ => rfl) (by decide)) hP va_S.rf hl)
abbrev rm_X8_readsPeople : Room := { frames := 1, cells := 0, slots := 0, locals := 25 }
set_option maxHeartbeats 4000000 in
set_option maxRecDepth 100000 in
theorem t_X8_readsPeople_b59 {p : Program} {l : Launch} {e : Env} {s : State} {m : MethodId} {args : Array Value} {below : List Frame} {meth : Method} {c : Code} {D : va_G} {a : Nat → Nat} {kc : Nat → ClassId} (X : cx 21 p s m args meth c D (tyM kc) a cX8_readsPeople 3 RX8 (some .int)) {G : Nat → Int64} {J : Nat → Nat → Int64} {Ff : Nat → Int32} {If : Nat → Nat → Int32} {r : Int32} :
    ∀ (F : Nat → Int32) (I : Nat → Nat → Int32)  (H : Heap) (locs : List Loc) (ls : Array Slot), p_X8_readsPeople_b59 (F 1) (F 2) (F 4) (I 4) (I 5) (I 8) (I 9)  = some (r, (Ff 1), (Ff 4), (If 8), (If 9)) → (∀ k, k ∉ ([1, 4] : List Nat) → Ff k = F k) → (∀ k, k ∉ ([8, 9] : List Nat) → If k = I k) → va_P D vwCl (wM a kc F G I J) H → va_S (ad a 21 s.heap.size) s.heap H locs → lv_has ls 3 [(0, .ref (a 0))] → W p l e rm_X8_readsPeople s m args below meth c H locs 0 0 (MQ below (Qi D (wM a kc Ff G If J) r (ad a 21 s.heap.size)) args s 0 0 (ad a 21 s.heap.size)) (F0 m 59 ls []) := by
  intro F I  H locs ls hf hfF hfI hP hS hl
  unfold p_X8_readsPeople_b59 at hf
  refine lv_aload_n X.1 X.2.1 dX8_readsPeople_59 rfl (lv_at hl 0 rfl) ?_
  obtain ⟨r60, m_people_60, ho, hf⟩ := b2_s hf
  refine call_vi (rest := []) X (c_X8_nobody F G I J X.2.2.2.2.2.2.2.1  ho) q_5_54 q_5_56 qs_yX8_nobody q_1_10 q_5_57 ok_X8_nobody rfl 0 rfl rfl ⟨Nat.le_of_ble_eq_true rfl, Nat.le_of_ble_eq_true rfl⟩ rfl rfl hl.1 rfl (Nat.le_of_ble_eq_true rfl) dX8_readsPeople_60 hP hS (fun H locs hP hS => ?_)
  obtain ⟨e0, hf⟩ := o2 hf
  obtain ⟨e1, hf⟩ := o2 hf
  obtain ⟨e2, hf⟩ := o2 hf
  obtain ⟨e3, hf⟩ := o2 hf
  have e4 := o1 hf
  have EF : Ff = (va_up F 4 m_people_60) := frm_eq (frm_up hfF (by decide)) (frm_c (e1).symm (frm_c (e2).symm frm_n))
  have EI : If = I := frm_eq hfI (frm_c (e3).symm (frm_c (e4).symm frm_n))
  exact ret_i X hS (by rw [EF, EI]; exact hP) e0 dX8_readsPeople_63
set_option maxHeartbeats 4000000 in
set_option maxRecDepth 100000 in
theorem t_X8_readsPeople_b10x {p : Program} {l : Launch} {e : Env} {s : State} {m : MethodId} {args : Array Value} {below : List Frame} {meth : Method} {c : Code} {D : va_G} {a : Nat → Nat} {kc : Nat → ClassId} (X : cx 21 p s m args meth c D (tyM kc) a cX8_readsPeople 3 RX8 (some .int)) {G : Nat → Int64} {J : Nat → Nat → Int64} {Ff : Nat → Int32} {If : Nat → Nat → Int32} {r : Int32} {K10 : Int32 → Int32 → Int32 → (Nat → Int32) → (Nat → Int32) → (Nat → Int32) → (Nat → Int32) → Option (Int32 × Int32 × Int32 × (Nat → Int32) × (Nat → Int32))} (kh10 : ∀ (F : Nat → Int32) (I : Nat → Nat → Int32)  (H : Heap) (locs : List Loc) (ls : Array Slot), K10 (F 1) (F 2) (F 4) (I 4) (I 5) (I 8) (I 9)  = some (r, (Ff 1), (Ff 4), (If 8), (If 9)) → (∀ k, k ∉ ([1, 4] : List Nat) → Ff k = F k) → (∀ k, k ∉ ([8, 9] : List Nat) → If k = I k) → va_P D vwCl (wM a kc F G I J) H → va_S (ad a 21 s.heap.size) s.heap H locs → lv_has ls 3 [(0, .ref (a 0))] → W p l e rm_X8_readsPeople s m args below meth c H locs 0 0 (MQ below (Qi D (wM a kc Ff G If J) r (ad a 21 s.heap.size)) args s 0 0 (ad a 21 s.heap.size)) (F0 m 10 ls [])) :
    ∀ (F : Nat → Int32) (I : Nat → Nat → Int32)  (H : Heap) (locs : List Loc) (ls : Array Slot), p_X8_readsPeople_b10x K10 (F 1) (F 2) (F 4) (I 4) (I 5) (I 8) (I 9)  = some (r, (Ff 1), (Ff 4), (If 8), (If 9)) → (∀ k, k ∉ ([1, 4] : List Nat) → Ff k = F k) → (∀ k, k ∉ ([8, 9] : List Nat) → If k = I k) → va_P D vwCl (wM a kc F G I J) H → va_S (ad a 21 s.heap.size) s.heap H locs → lv_has ls 3 [(0, .ref (a 0))] → W p l e rm_X8_readsPeople s m args below meth c H locs 0 0 (MQ below (Qi D (wM a kc Ff G If J) r (ad a 21 s.heap.size)) args s 0 0 (ad a 21 s.heap.size)) (F0 m 10 ls []) := by
  intro F I  H locs ls hf hfF hfI hP hS hl
  unfold p_X8_readsPeople_b10x at hf
  refine lv_aload_n X.1 X.2.1 dX8_readsPeople_10 rfl (lv_at hl 0 rfl) ?_
  refine gM_0_7 (F := F) X (v := (F 1)) rfl q_4_116 dX8_readsPeople_11 hP ?_
  refine lv_aload_n X.1 X.2.1 dX8_readsPeople_14 rfl (lv_at hl 0 rfl) ?_
  refine gM_0_6 X q_4_115 dX8_readsPeople_15 hP ?_
  refine lv_iconst (v := 1) X.1 X.2.1 dX8_readsPeople_18 (by decide) ?_
  obtain ⟨h19, hf⟩ := gd_s hf
  refine lM_6 (I := I) X (f := (I 5)) rfl h19 dX8_readsPeople_19 hP ?_
  refine lv_icmp_ge (tgt := 136) X.1 X.2.1 dX8_readsPeople_20 (by decide) (fun c20 => ?_) (fun c20 => ?_)
  · have hf := it_s hf c20
    refine lv_iconst (v := (-1)) X.1 X.2.1 dX8_readsPeople_136 (by decide) ?_
    obtain ⟨e0, hf⟩ := o2 hf
    obtain ⟨e1, hf⟩ := o2 hf
    obtain ⟨e2, hf⟩ := o2 hf
    obtain ⟨e3, hf⟩ := o2 hf
    have e4 := o1 hf
    have EF : Ff = F := frm_eq hfF (frm_c (e1).symm (frm_c (e2).symm frm_n))
    have EI : If = I := frm_eq hfI (frm_c (e3).symm (frm_c (e4).symm frm_n))
    exact ret_i X hS (by rw [EF, EI]; exact hP) e0 dX8_readsPeople_137
  · have hf := ie_s hf c20
    refine lv_aload_n X.1 X.2.1 dX8_readsPeople_23 rfl (lv_at hl 0 rfl) ?_
    refine lv_iconst (v := 1) X.1 X.2.1 dX8_readsPeople_24 (by decide) ?_
    obtain ⟨r25, ho, hf⟩ := b1_s hf
    refine call_vi (rest := []) X (c_X8_here F G I J X.2.2.2.2.2.2.2.1 1 ho) q_5_42 q_5_44 qs_yX8_here q_1_10 q_5_45 ok_X8_here rfl 0 rfl rfl ⟨Nat.le_of_ble_eq_true rfl, Nat.le_of_ble_eq_true rfl⟩ rfl rfl hl.1 rfl (Nat.le_of_ble_eq_true rfl) dX8_readsPeople_25 hP hS (fun H locs hP hS => ?_)
    refine lv_bipush (v := 48) X.1 X.2.1 dX8_readsPeople_28 (by decide) ?_
    refine lv_isub X.1 X.2.1 dX8_readsPeople_30 ?_
    refine nm_i hf (fun x31 hf => ?_)
    refine lv_istore_n (lv' := [(1, .int x31), (0, .ref (a 0))]) X.1 X.2.1 dX8_readsPeople_31 rfl hl (by decide) rfl (fun ls hl => ?_)
    refine lv_aload_n X.1 X.2.1 dX8_readsPeople_32 rfl (lv_at hl 1 rfl) ?_
    refine gM_0_12 (F := F) X (v := (F 4)) rfl q_4_121 dX8_readsPeople_33 hP ?_
    refine lv_aload_n X.1 X.2.1 dX8_readsPeople_36 rfl (lv_at hl 1 rfl) ?_
    refine gM_0_8 (F := F) X (v := (F 2)) rfl q_4_117 dX8_readsPeople_37 hP ?_
    refine lv_icmp_eq (tgt := 59) X.1 X.2.1 dX8_readsPeople_40 (by decide) (fun c40 => ?_) (fun c40 => ?_)
    · have hf := it_s hf c40
      exact t_X8_readsPeople_b59 X F I  H locs ls hf hfF hfI hP hS (lv_sub hl [1] rfl)
    · have hf := ie_s hf c40
      refine lv_iload_n X.1 X.2.1 dX8_readsPeople_43 rfl (lv_at hl 0 rfl) ?_
      refine lv_i2l X.1 X.2.1 dX8_readsPeople_44 rfl ?_
      refine lv_lconst (v := 0) X.1 X.2.1 dX8_readsPeople_45 (by decide) ?_
      refine lv_aload_n X.1 X.2.1 dX8_readsPeople_46 rfl (lv_at hl 1 rfl) ?_
      refine gM_0_8 (F := F) X (v := (F 2)) rfl q_4_117 dX8_readsPeople_47 hP ?_
      refine lv_iconst (v := 1) X.1 X.2.1 dX8_readsPeople_50 (by decide) ?_
      refine lv_isub X.1 X.2.1 dX8_readsPeople_51 ?_
      refine lv_i2l X.1 X.2.1 dX8_readsPeople_52 rfl ?_
      obtain ⟨r53, ho, hf⟩ := b1_s hf
      refine call_si (rest := []) X (c_X8_in x31.toInt64 0 (((F 2) - 1).toInt64) ho) q_4_226 q_4_227 q_1_10 q_4_228 ok_X8_in rfl ⟨Nat.le_of_ble_eq_true rfl, Nat.le_of_ble_eq_true rfl⟩ rfl rfl hl.1 rfl (Nat.le_of_ble_eq_true rfl) dX8_readsPeople_53 hP hS (fun H locs hP hS => ?_)
      refine lv_if_ne (tgt := 64) X.1 X.2.1 dX8_readsPeople_56 (by decide) (fun c56 => ?_) (fun c56 => ?_)
      · have hf := ie_s hf c56
        refine lv_aload_n X.1 X.2.1 dX8_readsPeople_64 rfl (lv_at hl 1 rfl) ?_
        refine lv_dup X.1 X.2.1 dX8_readsPeople_65 rfl ?_
        refine gM_0_7 (F := F) X (v := (F 1)) rfl q_4_116 dX8_readsPeople_66 hP ?_
        refine lv_iconst (v := 1) X.1 X.2.1 dX8_readsPeople_69 (by decide) ?_
        refine lv_iadd X.1 X.2.1 dX8_readsPeople_70 ?_
        refine nm_i hf (fun m_at_71 hf => ?_)
        refine pM_0_7 X q_4_116 dX8_readsPeople_71 hP hS (fun H locs hP hS => ?_)
        refine lv_aload_n X.1 X.2.1 dX8_readsPeople_74 rfl (lv_at hl 1 rfl) ?_
        refine lv_iconst (v := 1) X.1 X.2.1 dX8_readsPeople_75 (by decide) ?_
        obtain ⟨r76, ho, hf⟩ := b1_s hf
        refine call_vi (rest := []) X (c_X8_here (va_up F 1 m_at_71) G I J X.2.2.2.2.2.2.2.1 1 ho) q_5_42 q_5_44 qs_yX8_here q_1_10 q_5_45 ok_X8_here rfl 0 rfl rfl ⟨Nat.le_of_ble_eq_true rfl, Nat.le_of_ble_eq_true rfl⟩ rfl rfl hl.1 rfl (Nat.le_of_ble_eq_true rfl) dX8_readsPeople_76 hP hS (fun H locs hP hS => ?_)
        obtain ⟨r79, ho, hf⟩ := b1_s hf
        refine call_si (rest := []) X (c_X8_kindOf r76 ho) q_5_58 q_5_59 q_1_10 q_5_60 ok_X8_kindOf rfl ⟨Nat.le_of_ble_eq_true rfl, Nat.le_of_ble_eq_true rfl⟩ rfl rfl hl.1 rfl (Nat.le_of_ble_eq_true rfl) dX8_readsPeople_79 hP hS (fun H locs hP hS => ?_)
        refine lv_istore_n (lv' := [(2, .int r79), (1, .int x31), (0, .ref (a 0))]) X.1 X.2.1 dX8_readsPeople_82 rfl hl (by decide) rfl (fun ls hl => ?_)
        refine lv_iload_n X.1 X.2.1 dX8_readsPeople_83 rfl (lv_at hl 0 rfl) ?_
        refine lv_iconst (v := (-1)) X.1 X.2.1 dX8_readsPeople_84 (by decide) ?_
        refine lv_icmp_ne (tgt := 93) X.1 X.2.1 dX8_readsPeople_85 (by decide) (fun c85 => ?_) (fun c85 => ?_)
        · have hf := ie_s hf c85
          refine lv_aload_n X.1 X.2.1 dX8_readsPeople_93 rfl (lv_at hl 2 rfl) ?_
          refine lv_dup X.1 X.2.1 dX8_readsPeople_94 rfl ?_
          refine gM_0_7 (F := (va_up F 1 m_at_71)) X (v := m_at_71) rfl q_4_116 dX8_readsPeople_95 hP ?_
          refine lv_iconst (v := 1) X.1 X.2.1 dX8_readsPeople_98 (by decide) ?_
          refine lv_iadd X.1 X.2.1 dX8_readsPeople_99 ?_
          refine nm_i hf (fun m_at_100 hf => ?_)
          refine pM_0_7 X q_4_116 dX8_readsPeople_100 hP hS (fun H locs hP hS => ?_)
          refine lv_aload_n X.1 X.2.1 dX8_readsPeople_103 rfl (lv_at hl 2 rfl) ?_
          refine gM_0_13 X q_4_122 dX8_readsPeople_104 hP ?_
          refine lv_aload_n X.1 X.2.1 dX8_readsPeople_107 rfl (lv_at hl 2 rfl) ?_
          refine gM_0_12 (F := (va_up (va_up F 1 m_at_71) 1 m_at_100)) X (v := (F 4)) rfl q_4_121 dX8_readsPeople_108 hP ?_
          refine lv_iload_n X.1 X.2.1 dX8_readsPeople_111 rfl (lv_at hl 1 rfl) ?_
          obtain ⟨h112, hf⟩ := gd_s hf
          obtain ⟨m_own_112, em_own_112, hf⟩ := nm_x hf
          refine sM_9 (I := I) X h112 em_own_112 dX8_readsPeople_112 hP hS (fun H locs hP hS => ?_)
          refine lv_aload_n X.1 X.2.1 dX8_readsPeople_113 rfl (lv_at hl 2 rfl) ?_
          refine gM_0_14 X q_4_123 dX8_readsPeople_114 hP ?_
          refine lv_aload_n X.1 X.2.1 dX8_readsPeople_117 rfl (lv_at hl 2 rfl) ?_
          refine gM_0_12 (F := (va_up (va_up F 1 m_at_71) 1 m_at_100)) X (v := (F 4)) rfl q_4_121 dX8_readsPeople_118 hP ?_
          refine lv_iload_n X.1 X.2.1 dX8_readsPeople_121 rfl (lv_at hl 0 rfl) ?_
          obtain ⟨h122, hf⟩ := gd_s hf
          obtain ⟨m_kinds_122, em_kinds_122, hf⟩ := nm_x hf
          refine sM_10 (I := (va_up I 8 m_own_112)) X h122 em_kinds_122 dX8_readsPeople_122 hP hS (fun H locs hP hS => ?_)
          refine lv_aload_n X.1 X.2.1 dX8_readsPeople_123 rfl (lv_at hl 2 rfl) ?_
          refine lv_dup X.1 X.2.1 dX8_readsPeople_124 rfl ?_
          refine gM_0_12 (F := (va_up (va_up F 1 m_at_71) 1 m_at_100)) X (v := (F 4)) rfl q_4_121 dX8_readsPeople_125 hP ?_
          refine lv_iconst (v := 1) X.1 X.2.1 dX8_readsPeople_128 (by decide) ?_
          refine lv_iadd X.1 X.2.1 dX8_readsPeople_129 ?_
          refine nm_i hf (fun m_people_130 hf => ?_)
          refine pM_0_12 X q_4_121 dX8_readsPeople_130 hP hS (fun H locs hP hS => ?_)
          refine lv_goto (tgt := 10) X.1 X.2.1 dX8_readsPeople_133 (by decide) ?_
          exact kh10 (va_up (va_up (va_up F 1 m_at_71) 1 m_at_100) 4 m_people_130) (va_up (va_up I 8 m_own_112) 9 m_kinds_122)  H locs ls hf (frm_up (frm_up (frm_up hfF (by decide)) (by decide)) (by decide)) (frm_up (frm_up hfI (by decide)) (by decide)) hP hS (lv_sub hl [2] rfl)
        · have hf := it_s hf c85
          refine lv_aload_n X.1 X.2.1 dX8_readsPeople_88 rfl (lv_at hl 2 rfl) ?_
          obtain ⟨r89, m_people_89, ho, hf⟩ := b2_s hf
          refine call_vi (rest := []) X (c_X8_nobody (va_up F 1 m_at_71) G I J X.2.2.2.2.2.2.2.1  ho) q_5_54 q_5_56 qs_yX8_nobody q_1_10 q_5_57 ok_X8_nobody rfl 0 rfl rfl ⟨Nat.le_of_ble_eq_true rfl, Nat.le_of_ble_eq_true rfl⟩ rfl rfl hl.1 rfl (Nat.le_of_ble_eq_true rfl) dX8_readsPeople_89 hP hS (fun H locs hP hS => ?_)
          obtain ⟨e0, hf⟩ := o2 hf
          obtain ⟨e1, hf⟩ := o2 hf
          obtain ⟨e2, hf⟩ := o2 hf
          obtain ⟨e3, hf⟩ := o2 hf
          have e4 := o1 hf
          have EF : Ff = (va_up (va_up F 1 m_at_71) 4 m_people_89) := frm_eq (frm_up (frm_up hfF (by decide)) (by decide)) (frm_c (e1).symm (frm_c (e2).symm frm_n))
          have EI : If = I := frm_eq hfI (frm_c (e3).symm (frm_c (e4).symm frm_n))
          exact ret_i X hS (by rw [EF, EI]; exact hP) e0 dX8_readsPeople_92
      · have hf := it_s hf c56
        exact t_X8_readsPeople_b59 X F I  H locs ls hf hfF hfI hP hS (lv_sub hl [1] rfl)
set_option maxRecDepth 100000 in
theorem t_X8_readsPeople_b10 {p : Program} {l : Launch} {e : Env} {s : State} {m : MethodId} {args : Array Value} {below : List Frame} {meth : Method} {c : Code} {D : va_G} {a : Nat → Nat} {kc : Nat → ClassId} (X : cx 21 p s m args meth c D (tyM kc) a cX8_readsPeople 3 RX8 (some .int)) {G : Nat → Int64} {J : Nat → Nat → Int64} {Ff : Nat → Int32} {If : Nat → Nat → Int32} {r : Int32} :
    ∀ (n : Nat) (F : Nat → Int32) (I : Nat → Nat → Int32)  (H : Heap) (locs : List Loc) (ls : Array Slot), p_X8_readsPeople_b10 n (F 1) (F 2) (F 4) (I 4) (I 5) (I 8) (I 9)  = some (r, (Ff 1), (Ff 4), (If 8), (If 9)) → (∀ k, k ∉ ([1, 4] : List Nat) → Ff k = F k) → (∀ k, k ∉ ([8, 9] : List Nat) → If k = I k) → va_P D vwCl (wM a kc F G I J) H → va_S (ad a 21 s.heap.size) s.heap H locs → lv_has ls 3 [(0, .ref (a 0))] → W p l e rm_X8_readsPeople s m args below meth c H locs 0 0 (MQ below (Qi D (wM a kc Ff G If J) r (ad a 21 s.heap.size)) args s 0 0 (ad a 21 s.heap.size)) (F0 m 10 ls []) := by
  intro n
  induction n with
  | zero => intro F I  H locs ls hf hfF hfI hP hS hl; exact (nos hf).elim
  | succ n ih => exact t_X8_readsPeople_b10x X ih
set_option maxHeartbeats 4000000 in
set_option maxRecDepth 100000 in
theorem t_X8_readsPeople_b0 {p : Program} {l : Launch} {e : Env} {s : State} {m : MethodId} {args : Array Value} {below : List Frame} {meth : Method} {c : Code} {D : va_G} {a : Nat → Nat} {kc : Nat → ClassId} (X : cx 21 p s m args meth c D (tyM kc) a cX8_readsPeople 3 RX8 (some .int)) {G : Nat → Int64} {J : Nat → Nat → Int64} {Ff : Nat → Int32} {If : Nat → Nat → Int32} {r : Int32} :
    ∀ (F : Nat → Int32) (I : Nat → Nat → Int32)  (H : Heap) (locs : List Loc) (ls : Array Slot), p_X8_readsPeople_b0 (F 1) (F 2) (F 4) (I 4) (I 5) (I 8) (I 9)  = some (r, (Ff 1), (Ff 4), (If 8), (If 9)) → (∀ k, k ∉ ([1, 4] : List Nat) → Ff k = F k) → (∀ k, k ∉ ([8, 9] : List Nat) → If k = I k) → va_P D vwCl (wM a kc F G I J) H → va_S (ad a 21 s.heap.size) s.heap H locs → lv_has ls 3 [(0, .ref (a 0))] → W p l e rm_X8_readsPeople s m args below meth c H locs 0 0 (MQ below (Qi D (wM a kc Ff G If J) r (ad a 21 s.heap.size)) args s 0 0 (ad a 21 s.heap.size)) (F0 m 0 ls []) := by
  intro F I  H locs ls hf hfF hfI hP hS hl
  unfold p_X8_readsPeople_b0 at hf
  refine lv_aload_n X.1 X.2.1 dX8_readsPeople_0 rfl (lv_at hl 0 rfl) ?_
  refine lv_iconst (v := 0) X.1 X.2.1 dX8_readsPeople_1 (by decide) ?_
  refine pM_0_7 X q_4_116 dX8_readsPeople_2 hP hS (fun H locs hP hS => ?_)
  refine lv_aload_n X.1 X.2.1 dX8_readsPeople_5 rfl (lv_at hl 0 rfl) ?_
  refine lv_iconst (v := 0) X.1 X.2.1 dX8_readsPeople_6 (by decide) ?_
  refine pM_0_12 X q_4_121 dX8_readsPeople_7 hP hS (fun H locs hP hS => ?_)
  exact t_X8_readsPeople_b10 X 4096 (va_up (va_up F 1 0) 4 0) I  H locs ls hf (frm_up (frm_up hfF (by decide)) (by decide)) hfI hP hS (lv_sub hl [0] rfl)
set_option maxRecDepth 100000 in
theorem c_X8_readsPeople {l : Launch} {D : va_G} {a : Nat → Nat} {kc : Nat → ClassId} (F : Nat → Int32) (G : Nat → Int64) (I : Nat → Nat → Int32) (J : Nat → Nat → Int64) (hAp : ∀ i j, i < 21 → j < 21 → a i = a j → i = j)  {o0 : Int32} {o1 : Int32} {o2 : Int32} {o3 : Nat → Int32} {o4 : Nat → Int32} (hf : p_X8_readsPeople (F 1) (F 2) (F 4) (I 4) (I 5) (I 8) (I 9)  = some (o0, o1, o2, o3, o4)) : Ct 21 l yX8_readsPeople cX8_readsPeople 3 (some .int) rm_X8_readsPeople D (tyM kc) a (wM a kc F G I J) [.ref (a 0)] (Qi D (wM a kc (va_up (va_up F 1 o1) 4 o2) G (va_up (va_up I 8 o3) 9 o4) J) o0) :=
  Ct.of (by decide +kernel) hAp (Nat.le_of_ble_eq_true rfl) (fun p e s m args below meth c ls X hP hl => t_X8_readsPeople_b0 X F I  _ _ _ hf (frm_ul (frm_ul (fun k _ => rfl) (by decide)) (by decide)) (frm_ul (frm_ul (fun k _ => rfl) (by decide)) (by decide)) hP va_S.rf hl)
abbrev rm_X8_find : Room := { frames := 2, cells := 0, slots := 0, locals := 47 }
set_option maxHeartbeats 4000000 in
set_option maxRecDepth 100000 in
theorem t_X8_find_b0 {p : Program} {l : Launch} {e : Env} {s : State} {m : MethodId} {args : Array Value} {below : List Frame} {meth : Method} {c : Code} {D : va_G} {a : Nat → Nat} {kc : Nat → ClassId} (X : cx 21 p s m args meth c D (tyM kc) a cX8_find 1 RX8 none) {G : Nat → Int64} {J : Nat → Nat → Int64} {Ff : Nat → Int32} {If : Nat → Nat → Int32}  :
    ∀ (F : Nat → Int32) (I : Nat → Nat → Int32)  (H : Heap) (locs : List Loc) (ls : Array Slot), p_X8_find_b0 (F 1) (F 2) (F 3) (F 4) (I 4) (I 5) (I 6) (I 7) (I 8) (I 9)  = some ((Ff 1), (Ff 2), (Ff 3), (Ff 4), (If 6), (If 7), (If 8), (If 9)) → (∀ k, k ∉ ([1, 2, 3, 4] : List Nat) → Ff k = F k) → (∀ k, k ∉ ([6, 7, 8, 9] : List Nat) → If k = I k) → va_P D vwCl (wM a kc F G I J) H → va_S (ad a 21 s.heap.size) s.heap H locs → lv_has ls 1 [(0, .ref (a 0))] → W p l e rm_X8_find s m args below meth c H locs 0 0 (MQ below (Qv D (wM a kc Ff G If J) (ad a 21 s.heap.size)) args s 0 0 (ad a 21 s.heap.size)) (F0 m 0 ls []) := by
  intro F I  H locs ls hf hfF hfI hP hS hl
  unfold p_X8_find_b0 at hf
  refine lv_aload_n X.1 X.2.1 dX8_find_0 rfl (lv_at hl 0 rfl) ?_
  obtain ⟨r1, m_at_1, m_seats_1, m_rows_1, m_sorts_1, m_rowOf_1, ho, hf⟩ := b6_s hf
  refine call_vi (rest := []) X (c_X8_readsSeats F G I J X.2.2.2.2.2.2.2.1  ho) q_5_38 q_5_40 qs_yX8_readsSeats q_1_10 q_5_41 ok_X8_readsSeats rfl 0 rfl rfl ⟨Nat.le_of_ble_eq_true rfl, Nat.le_of_ble_eq_true rfl⟩ rfl rfl hl.1 rfl (Nat.le_of_ble_eq_true rfl) dX8_find_1 hP hS (fun H locs hP hS => ?_)
  refine lv_pop X.1 X.2.1 dX8_find_4 rfl ?_
  refine lv_aload_n X.1 X.2.1 dX8_find_5 rfl (lv_at hl 0 rfl) ?_
  obtain ⟨r6, m_at_6, m_people_6, m_own_6, m_kinds_6, ho, hf⟩ := b5_s hf
  refine call_vi (rest := []) X (c_X8_readsPeople (va_up (va_up (va_up F 1 m_at_1) 2 m_seats_1) 3 m_rows_1) G (va_up (va_up I 6 m_sorts_1) 7 m_rowOf_1) J X.2.2.2.2.2.2.2.1  ho) q_5_50 q_5_52 qs_yX8_readsPeople q_1_10 q_5_53 ok_X8_readsPeople rfl 0 rfl rfl ⟨Nat.le_of_ble_eq_true rfl, Nat.le_of_ble_eq_true rfl⟩ rfl rfl hl.1 rfl (Nat.le_of_ble_eq_true rfl) dX8_find_6 hP hS (fun H locs hP hS => ?_)
  refine lv_pop X.1 X.2.1 dX8_find_9 rfl ?_
  obtain ⟨e0, hf⟩ := o2 hf
  obtain ⟨e1, hf⟩ := o2 hf
  obtain ⟨e2, hf⟩ := o2 hf
  obtain ⟨e3, hf⟩ := o2 hf
  obtain ⟨e4, hf⟩ := o2 hf
  obtain ⟨e5, hf⟩ := o2 hf
  obtain ⟨e6, hf⟩ := o2 hf
  have e7 := o1 hf
  have EF : Ff = (va_up (va_up (va_up (va_up (va_up F 1 m_at_1) 2 m_seats_1) 3 m_rows_1) 1 m_at_6) 4 m_people_6) := frm_eq (frm_up (frm_up (frm_up (frm_up (frm_up hfF (by decide)) (by decide)) (by decide)) (by decide)) (by decide)) (frm_c (e0).symm (frm_c (e1).symm (frm_c (e2).symm (frm_c (e3).symm frm_n))))
  have EI : If = (va_up (va_up (va_up (va_up I 6 m_sorts_1) 7 m_rowOf_1) 8 m_own_6) 9 m_kinds_6) := frm_eq (frm_up (frm_up (frm_up (frm_up hfI (by decide)) (by decide)) (by decide)) (by decide)) (frm_c (e4).symm (frm_c (e5).symm (frm_c (e6).symm (frm_c (e7).symm frm_n))))
  exact ret_v X hS (by rw [EF, EI]; exact hP) dX8_find_10
set_option maxRecDepth 100000 in
theorem c_X8_find {l : Launch} {D : va_G} {a : Nat → Nat} {kc : Nat → ClassId} (F : Nat → Int32) (G : Nat → Int64) (I : Nat → Nat → Int32) (J : Nat → Nat → Int64) (hAp : ∀ i j, i < 21 → j < 21 → a i = a j → i = j)  {o0 : Int32} {o1 : Int32} {o2 : Int32} {o3 : Int32} {o4 : Nat → Int32} {o5 : Nat → Int32} {o6 : Nat → Int32} {o7 : Nat → Int32} (hf : p_X8_find (F 1) (F 2) (F 3) (F 4) (I 4) (I 5) (I 6) (I 7) (I 8) (I 9)  = some (o0, o1, o2, o3, o4, o5, o6, o7)) : Ct 21 l yX8_find cX8_find 1 none rm_X8_find D (tyM kc) a (wM a kc F G I J) [.ref (a 0)] (Qv D (wM a kc (va_up (va_up (va_up (va_up F 1 o0) 2 o1) 3 o2) 4 o3) G (va_up (va_up (va_up (va_up I 6 o4) 7 o5) 8 o6) 9 o7) J)) :=
  Ct.of (by decide +kernel) hAp (Nat.le_of_ble_eq_true rfl) (fun p e s m args below meth c ls X hP hl => t_X8_find_b0 X F I  _ _ _ hf (frm_ul (frm_ul (frm_ul (frm_ul (fun k _ => rfl) (by decide)) (by decide)) (by decide)) (by decide)) (frm_ul (frm_ul (frm_ul (frm_ul (fun k _ => rfl) (by decide)) (by decide)) (by decide)) (by decide)) hP va_S.rf hl)
abbrev rm_X8_faultOf : Room := { frames := 2, cells := 0, slots := 0, locals := 47 }
set_option maxHeartbeats 4000000 in
set_option maxRecDepth 100000 in
theorem t_X8_faultOf_b19 {p : Program} {l : Launch} {e : Env} {s : State} {m : MethodId} {args : Array Value} {below : List Frame} {meth : Method} {c : Code} {D : va_G} {a : Nat → Nat} {kc : Nat → ClassId} (X : cx 21 p s m args meth c D (tyM kc) a cX8_faultOf 4 RX8 (some .int)) {G : Nat → Int64} {J : Nat → Nat → Int64} {Ff : Nat → Int32} {If : Nat → Nat → Int32} {r : Int32} :
    ∀ (F : Nat → Int32) (I : Nat → Nat → Int32) (t0 : Int32) (H : Heap) (locs : List Loc) (ls : Array Slot), p_X8_faultOf_b19 (F 1) (F 2) (F 3) (F 4) (I 4) (I 5) (I 6) (I 7) (I 8) (I 9) t0 = some (r, (Ff 1), (Ff 2), (Ff 3), (Ff 4), (If 6), (If 7), (If 8), (If 9)) → (∀ k, k ∉ ([1, 2, 3, 4] : List Nat) → Ff k = F k) → (∀ k, k ∉ ([6, 7, 8, 9] : List Nat) → If k = I k) → va_P D vwCl (wM a kc F G I J) H → va_S (ad a 21 s.heap.size) s.heap H locs → lv_has ls 4 [(0, .ref (a 0))] → W p l e rm_X8_faultOf s m args below meth c H locs 0 0 (MQ below (Qi D (wM a kc Ff G If J) r (ad a 21 s.heap.size)) args s 0 0 (ad a 21 s.heap.size)) (F0 m 19 ls [.int t0]) := by
  intro F I t0 H locs ls hf hfF hfI hP hS hl
  unfold p_X8_faultOf_b19 at hf
  obtain ⟨e0, hf⟩ := o2 hf
  obtain ⟨e1, hf⟩ := o2 hf
  obtain ⟨e2, hf⟩ := o2 hf
  obtain ⟨e3, hf⟩ := o2 hf
  obtain ⟨e4, hf⟩ := o2 hf
  obtain ⟨e5, hf⟩ := o2 hf
  obtain ⟨e6, hf⟩ := o2 hf
  obtain ⟨e7, hf⟩ := o2 hf
  have e8 := o1 hf
  have EF : Ff = F := frm_eq hfF (frm_c (e1).symm (frm_c (e2).symm (frm_c (e3).symm (frm_c (e4).symm frm_n))))
  have EI : If = I := frm_eq hfI (frm_c (e5).symm (frm_c (e6).symm (frm_c (e7).symm (frm_c (e8).symm frm_n))))
  exact ret_i X hS (by rw [EF, EI]; exact hP) e0 dX8_faultOf_19
set_option maxHeartbeats 4000000 in
set_option maxRecDepth 100000 in
theorem t_X8_faultOf_b0 {p : Program} {l : Launch} {e : Env} {s : State} {m : MethodId} {args : Array Value} {below : List Frame} {meth : Method} {c : Code} {D : va_G} {a : Nat → Nat} {kc : Nat → ClassId} (X : cx 21 p s m args meth c D (tyM kc) a cX8_faultOf 4 RX8 (some .int)) {G : Nat → Int64} {J : Nat → Nat → Int64} {Ff : Nat → Int32} {If : Nat → Nat → Int32} {r : Int32} :
    ∀ (F : Nat → Int32) (I : Nat → Nat → Int32) (x1 : Int32) (H : Heap) (locs : List Loc) (ls : Array Slot), p_X8_faultOf_b0 (F 1) (F 2) (F 3) (F 4) (I 4) (I 5) (I 6) (I 7) (I 8) (I 9) x1 = some (r, (Ff 1), (Ff 2), (Ff 3), (Ff 4), (If 6), (If 7), (If 8), (If 9)) → (∀ k, k ∉ ([1, 2, 3, 4] : List Nat) → Ff k = F k) → (∀ k, k ∉ ([6, 7, 8, 9] : List Nat) → If k = I k) → va_P D vwCl (wM a kc F G I J) H → va_S (ad a 21 s.heap.size) s.heap H locs → lv_has ls 4 [(0, .ref (a 0)), (1, .int x1)] → W p l e rm_X8_faultOf s m args below meth c H locs 0 0 (MQ below (Qi D (wM a kc Ff G If J) r (ad a 21 s.heap.size)) args s 0 0 (ad a 21 s.heap.size)) (F0 m 0 ls []) := by
  intro F I x1 H locs ls hf hfF hfI hP hS hl
  unfold p_X8_faultOf_b0 at hf
  refine lv_aload_n X.1 X.2.1 dX8_faultOf_0 rfl (lv_at hl 0 rfl) ?_
  obtain ⟨r1, m_at_1, m_seats_1, m_rows_1, m_sorts_1, m_rowOf_1, ho, hf⟩ := b6_s hf
  refine call_vi (rest := []) X (c_X8_readsSeats F G I J X.2.2.2.2.2.2.2.1  ho) q_5_38 q_5_40 qs_yX8_readsSeats q_1_10 q_5_41 ok_X8_readsSeats rfl 0 rfl rfl ⟨Nat.le_of_ble_eq_true rfl, Nat.le_of_ble_eq_true rfl⟩ rfl rfl hl.1 rfl (Nat.le_of_ble_eq_true rfl) dX8_faultOf_1 hP hS (fun H locs hP hS => ?_)
  refine lv_istore_n (lv' := [(2, .int r1), (0, .ref (a 0)), (1, .int x1)]) X.1 X.2.1 dX8_faultOf_4 rfl hl (by decide) rfl (fun ls hl => ?_)
  refine lv_aload_n X.1 X.2.1 dX8_faultOf_5 rfl (lv_at hl 1 rfl) ?_
  obtain ⟨r6, m_at_6, m_people_6, m_own_6, m_kinds_6, ho, hf⟩ := b5_s hf
  refine call_vi (rest := []) X (c_X8_readsPeople (va_up (va_up (va_up F 1 m_at_1) 2 m_seats_1) 3 m_rows_1) G (va_up (va_up I 6 m_sorts_1) 7 m_rowOf_1) J X.2.2.2.2.2.2.2.1  ho) q_5_50 q_5_52 qs_yX8_readsPeople q_1_10 q_5_53 ok_X8_readsPeople rfl 0 rfl rfl ⟨Nat.le_of_ble_eq_true rfl, Nat.le_of_ble_eq_true rfl⟩ rfl rfl hl.1 rfl (Nat.le_of_ble_eq_true rfl) dX8_faultOf_6 hP hS (fun H locs hP hS => ?_)
  refine lv_istore_n (lv' := [(3, .int r6), (2, .int r1), (0, .ref (a 0)), (1, .int x1)]) X.1 X.2.1 dX8_faultOf_9 rfl hl (by decide) rfl (fun ls hl => ?_)
  refine lv_iload_n X.1 X.2.1 dX8_faultOf_10 rfl (lv_at hl 3 rfl) ?_
  refine lv_if_ne (tgt := 18) X.1 X.2.1 dX8_faultOf_11 (by decide) (fun c11 => ?_) (fun c11 => ?_)
  · have hf := ie_s hf c11
    refine lv_iload_n X.1 X.2.1 dX8_faultOf_18 rfl (lv_at hl 0 rfl) ?_
    exact t_X8_faultOf_b19 X (va_up (va_up (va_up (va_up (va_up F 1 m_at_1) 2 m_seats_1) 3 m_rows_1) 1 m_at_6) 4 m_people_6) (va_up (va_up (va_up (va_up I 6 m_sorts_1) 7 m_rowOf_1) 8 m_own_6) 9 m_kinds_6) r6 H locs ls hf (frm_up (frm_up (frm_up (frm_up (frm_up hfF (by decide)) (by decide)) (by decide)) (by decide)) (by decide)) (frm_up (frm_up (frm_up (frm_up hfI (by decide)) (by decide)) (by decide)) (by decide)) hP hS (lv_sub hl [2] rfl)
  · have hf := it_s hf c11
    refine lv_iload_n X.1 X.2.1 dX8_faultOf_14 rfl (lv_at hl 1 rfl) ?_
    refine lv_goto (tgt := 19) X.1 X.2.1 dX8_faultOf_15 (by decide) ?_
    exact t_X8_faultOf_b19 X (va_up (va_up (va_up (va_up (va_up F 1 m_at_1) 2 m_seats_1) 3 m_rows_1) 1 m_at_6) 4 m_people_6) (va_up (va_up (va_up (va_up I 6 m_sorts_1) 7 m_rowOf_1) 8 m_own_6) 9 m_kinds_6) r1 H locs ls hf (frm_up (frm_up (frm_up (frm_up (frm_up hfF (by decide)) (by decide)) (by decide)) (by decide)) (by decide)) (frm_up (frm_up (frm_up (frm_up hfI (by decide)) (by decide)) (by decide)) (by decide)) hP hS (lv_sub hl [2] rfl)
set_option maxRecDepth 100000 in
theorem c_X8_faultOf {l : Launch} {D : va_G} {a : Nat → Nat} {kc : Nat → ClassId} (F : Nat → Int32) (G : Nat → Int64) (I : Nat → Nat → Int32) (J : Nat → Nat → Int64) (hAp : ∀ i j, i < 21 → j < 21 → a i = a j → i = j) (x1 : Int32) {o0 : Int32} {o1 : Int32} {o2 : Int32} {o3 : Int32} {o4 : Int32} {o5 : Nat → Int32} {o6 : Nat → Int32} {o7 : Nat → Int32} {o8 : Nat → Int32} (hf : p_X8_faultOf (F 1) (F 2) (F 3) (F 4) (I 4) (I 5) (I 6) (I 7) (I 8) (I 9) x1 = some (o0, o1, o2, o3, o4, o5, o6, o7, o8)) : Ct 21 l yX8_faultOf cX8_faultOf 4 (some .int) rm_X8_faultOf D (tyM kc) a (wM a kc F G I J) [.ref (a 0), .int x1] (Qi D (wM a kc (va_up (va_up (va_up (va_up F 1 o1) 2 o2) 3 o3) 4 o4) G (va_up (va_up (va_up (va_up I 6 o5) 7 o6) 8 o7) 9 o8) J) o0) :=
  Ct.of (by decide +kernel) hAp (Nat.le_of_ble_eq_true rfl) (fun p e s m args below meth c ls X hP hl => t_X8_faultOf_b0 X F I x1 _ _ _ hf (frm_ul (frm_ul (frm_ul (frm_ul (fun k _ => rfl) (by decide)) (by decide)) (by decide)) (by decide)) (frm_ul (frm_ul (frm_ul (frm_ul (fun k _ => rfl) (by decide)) (by decide)) (by decide)) (by decide)) hP va_S.rf hl)
abbrev rm_X8_fault : Room := { frames := 3, cells := 0, slots := 0, locals := 70 }
set_option maxHeartbeats 4000000 in
set_option maxRecDepth 100000 in
theorem t_X8_fault_b17 {p : Program} {l : Launch} {e : Env} {s : State} {m : MethodId} {args : Array Value} {below : List Frame} {meth : Method} {c : Code} {D : va_G} {a : Nat → Nat} {kc : Nat → ClassId} (X : cx 21 p s m args meth c D (tyM kc) a cX8_fault 2 RX8 (some .int)) {G : Nat → Int64} {J : Nat → Nat → Int64} {Ff : Nat → Int32} {If : Nat → Nat → Int32} {r : Int32} :
    ∀ (F : Nat → Int32) (I : Nat → Nat → Int32) (t0 : Int32) (H : Heap) (locs : List Loc) (ls : Array Slot), p_X8_fault_b17 (F 1) (F 2) (F 3) (F 4) (I 4) (I 5) (I 6) (I 7) (I 8) (I 9) t0 = some (r, (Ff 1), (Ff 2), (Ff 3), (Ff 4), (If 6), (If 7), (If 8), (If 9)) → (∀ k, k ∉ ([1, 2, 3, 4] : List Nat) → Ff k = F k) → (∀ k, k ∉ ([6, 7, 8, 9] : List Nat) → If k = I k) → va_P D vwCl (wM a kc F G I J) H → va_S (ad a 21 s.heap.size) s.heap H locs → lv_has ls 2 [(0, .ref (a 0))] → W p l e rm_X8_fault s m args below meth c H locs 0 0 (MQ below (Qi D (wM a kc Ff G If J) r (ad a 21 s.heap.size)) args s 0 0 (ad a 21 s.heap.size)) (F0 m 17 ls [.int t0]) := by
  intro F I t0 H locs ls hf hfF hfI hP hS hl
  unfold p_X8_fault_b17 at hf
  obtain ⟨e0, hf⟩ := o2 hf
  obtain ⟨e1, hf⟩ := o2 hf
  obtain ⟨e2, hf⟩ := o2 hf
  obtain ⟨e3, hf⟩ := o2 hf
  obtain ⟨e4, hf⟩ := o2 hf
  obtain ⟨e5, hf⟩ := o2 hf
  obtain ⟨e6, hf⟩ := o2 hf
  obtain ⟨e7, hf⟩ := o2 hf
  have e8 := o1 hf
  have EF : Ff = F := frm_eq hfF (frm_c (e1).symm (frm_c (e2).symm (frm_c (e3).symm (frm_c (e4).symm frm_n))))
  have EI : If = I := frm_eq hfI (frm_c (e5).symm (frm_c (e6).symm (frm_c (e7).symm (frm_c (e8).symm frm_n))))
  exact ret_i X hS (by rw [EF, EI]; exact hP) e0 dX8_fault_17
set_option maxHeartbeats 4000000 in
set_option maxRecDepth 100000 in
theorem t_X8_fault_b0 {p : Program} {l : Launch} {e : Env} {s : State} {m : MethodId} {args : Array Value} {below : List Frame} {meth : Method} {c : Code} {D : va_G} {a : Nat → Nat} {kc : Nat → ClassId} (X : cx 21 p s m args meth c D (tyM kc) a cX8_fault 2 RX8 (some .int)) {G : Nat → Int64} {J : Nat → Nat → Int64} {Ff : Nat → Int32} {If : Nat → Nat → Int32} {r : Int32} :
    ∀ (F : Nat → Int32) (I : Nat → Nat → Int32) (x1 : Int32) (H : Heap) (locs : List Loc) (ls : Array Slot), p_X8_fault_b0 (F 1) (F 2) (F 3) (F 4) (I 4) (I 5) (I 6) (I 7) (I 8) (I 9) x1 = some (r, (Ff 1), (Ff 2), (Ff 3), (Ff 4), (If 6), (If 7), (If 8), (If 9)) → (∀ k, k ∉ ([1, 2, 3, 4] : List Nat) → Ff k = F k) → (∀ k, k ∉ ([6, 7, 8, 9] : List Nat) → If k = I k) → va_P D vwCl (wM a kc F G I J) H → va_S (ad a 21 s.heap.size) s.heap H locs → lv_has ls 2 [(0, .ref (a 0)), (1, .int x1)] → W p l e rm_X8_fault s m args below meth c H locs 0 0 (MQ below (Qi D (wM a kc Ff G If J) r (ad a 21 s.heap.size)) args s 0 0 (ad a 21 s.heap.size)) (F0 m 0 ls []) := by
  intro F I x1 H locs ls hf hfF hfI hP hS hl
  unfold p_X8_fault_b0 at hf
  refine lv_iload_n X.1 X.2.1 dX8_fault_0 rfl (lv_at hl 1 rfl) ?_
  obtain ⟨r1, ho, hf⟩ := b1_s hf
  refine call_si (rest := []) X (c_X8_isTwo x1 ho) q_5_22 q_5_23 q_1_10 q_5_24 ok_X8_isTwo rfl ⟨Nat.le_of_ble_eq_true rfl, Nat.le_of_ble_eq_true rfl⟩ rfl rfl hl.1 rfl (Nat.le_of_ble_eq_true rfl) dX8_fault_1 hP hS (fun H locs hP hS => ?_)
  refine lv_if_eq (tgt := 15) X.1 X.2.1 dX8_fault_4 (by decide) (fun c4 => ?_) (fun c4 => ?_)
  · have hf := it_s hf c4
    refine lv_bipush (v := (-2)) X.1 X.2.1 dX8_fault_15 (by decide) ?_
    exact t_X8_fault_b17 X F I (-2) H locs ls hf hfF hfI hP hS (lv_sub hl [0] rfl)
  · have hf := ie_s hf c4
    refine lv_aload_n X.1 X.2.1 dX8_fault_7 rfl (lv_at hl 0 rfl) ?_
    refine lv_iload_n X.1 X.2.1 dX8_fault_8 rfl (lv_at hl 1 rfl) ?_
    obtain ⟨r9, m_at_9, m_seats_9, m_rows_9, m_people_9, m_sorts_9, m_rowOf_9, m_own_9, m_kinds_9, ho, hf⟩ := b9_s hf
    refine call_vi (rest := []) X (c_X8_faultOf F G I J X.2.2.2.2.2.2.2.1 x1 ho) q_5_34 q_5_36 qs_yX8_faultOf q_1_10 q_5_37 ok_X8_faultOf rfl 0 rfl rfl ⟨Nat.le_of_ble_eq_true rfl, Nat.le_of_ble_eq_true rfl⟩ rfl rfl hl.1 rfl (Nat.le_of_ble_eq_true rfl) dX8_fault_9 hP hS (fun H locs hP hS => ?_)
    refine lv_goto (tgt := 17) X.1 X.2.1 dX8_fault_12 (by decide) ?_
    exact t_X8_fault_b17 X (va_up (va_up (va_up (va_up F 1 m_at_9) 2 m_seats_9) 3 m_rows_9) 4 m_people_9) (va_up (va_up (va_up (va_up I 6 m_sorts_9) 7 m_rowOf_9) 8 m_own_9) 9 m_kinds_9) r9 H locs ls hf (frm_up (frm_up (frm_up (frm_up hfF (by decide)) (by decide)) (by decide)) (by decide)) (frm_up (frm_up (frm_up (frm_up hfI (by decide)) (by decide)) (by decide)) (by decide)) hP hS (lv_sub hl [0] rfl)
set_option maxRecDepth 100000 in
theorem c_X8_fault {l : Launch} {D : va_G} {a : Nat → Nat} {kc : Nat → ClassId} (F : Nat → Int32) (G : Nat → Int64) (I : Nat → Nat → Int32) (J : Nat → Nat → Int64) (hAp : ∀ i j, i < 21 → j < 21 → a i = a j → i = j) (x1 : Int32) {o0 : Int32} {o1 : Int32} {o2 : Int32} {o3 : Int32} {o4 : Int32} {o5 : Nat → Int32} {o6 : Nat → Int32} {o7 : Nat → Int32} {o8 : Nat → Int32} (hf : p_X8_fault (F 1) (F 2) (F 3) (F 4) (I 4) (I 5) (I 6) (I 7) (I 8) (I 9) x1 = some (o0, o1, o2, o3, o4, o5, o6, o7, o8)) : Ct 21 l yX8_fault cX8_fault 2 (some .int) rm_X8_fault D (tyM kc) a (wM a kc F G I J) [.ref (a 0), .int x1] (Qi D (wM a kc (va_up (va_up (va_up (va_up F 1 o1) 2 o2) 3 o3) 4 o4) G (va_up (va_up (va_up (va_up I 6 o5) 7 o6) 8 o7) 9 o8) J) o0) :=
  Ct.of (by decide +kernel) hAp (Nat.le_of_ble_eq_true rfl) (fun p e s m args below meth c ls X hP hl => t_X8_fault_b0 X F I x1 _ _ _ hf (frm_ul (frm_ul (frm_ul (frm_ul (fun k _ => rfl) (by decide)) (by decide)) (by decide)) (by decide)) (frm_ul (frm_ul (frm_ul (frm_ul (fun k _ => rfl) (by decide)) (by decide)) (by decide)) (by decide)) hP va_S.rf hl)
abbrev rm_X8_isSeat : Room := { frames := 3, cells := 0, slots := 0, locals := 67 }
set_option maxHeartbeats 4000000 in
set_option maxRecDepth 100000 in
theorem t_X8_isSeat_b0 {p : Program} {l : Launch} {e : Env} {s : State} {m : MethodId} {args : Array Value} {below : List Frame} {meth : Method} {c : Code} {D : va_G} {a : Nat → Nat} {kc : Nat → ClassId} (X : cx 21 p s m args meth c D (tyM kc) a cX8_isSeat 2 RX8 (some .boolean)) {G : Nat → Int64} {J : Nat → Nat → Int64} {Ff : Nat → Int32} {If : Nat → Nat → Int32} {r : Int32} :
    ∀ (F : Nat → Int32) (I : Nat → Nat → Int32) (x1 : Int32) (H : Heap) (locs : List Loc) (ls : Array Slot), p_X8_isSeat_b0 (F 1) (F 2) (F 3) (F 4) (I 4) (I 5) (I 6) (I 7) (I 8) (I 9) x1 = some (r, (Ff 1), (Ff 2), (Ff 3), (Ff 4), (If 6), (If 7), (If 8), (If 9)) → (∀ k, k ∉ ([1, 2, 3, 4] : List Nat) → Ff k = F k) → (∀ k, k ∉ ([6, 7, 8, 9] : List Nat) → If k = I k) → va_P D vwCl (wM a kc F G I J) H → va_S (ad a 21 s.heap.size) s.heap H locs → lv_has ls 2 [(0, .ref (a 0)), (1, .int x1)] → W p l e rm_X8_isSeat s m args below meth c H locs 0 0 (MQ below (Qi D (wM a kc Ff G If J) r (ad a 21 s.heap.size)) args s 0 0 (ad a 21 s.heap.size)) (F0 m 0 ls []) := by
  intro F I x1 H locs ls hf hfF hfI hP hS hl
  unfold p_X8_isSeat_b0 at hf
  refine lv_aload_n X.1 X.2.1 dX8_isSeat_0 rfl (lv_at hl 0 rfl) ?_
  obtain ⟨m_at_1, m_seats_1, m_rows_1, m_people_1, m_sorts_1, m_rowOf_1, m_own_1, m_kinds_1, ho, hf⟩ := b8_s hf
  refine call_vv (rest := []) X (c_X8_find F G I J X.2.2.2.2.2.2.2.1  ho) q_5_69 q_5_71 qs_yX8_find q_1_10 q_5_72 ok_X8_find rfl 0 rfl rfl ⟨Nat.le_of_ble_eq_true rfl, Nat.le_of_ble_eq_true rfl⟩ rfl rfl hl.1 rfl (Nat.le_of_ble_eq_true rfl) dX8_isSeat_1 hP hS (fun H locs hP hS => ?_)
  refine lv_iload_n X.1 X.2.1 dX8_isSeat_4 rfl (lv_at hl 1 rfl) ?_
  refine lv_i2l X.1 X.2.1 dX8_isSeat_5 rfl ?_
  refine lv_lconst (v := 0) X.1 X.2.1 dX8_isSeat_6 (by decide) ?_
  refine lv_aload_n X.1 X.2.1 dX8_isSeat_7 rfl (lv_at hl 0 rfl) ?_
  refine gM_0_8 (F := (va_up (va_up (va_up (va_up F 1 m_at_1) 2 m_seats_1) 3 m_rows_1) 4 m_people_1)) X (v := m_seats_1) rfl q_4_117 dX8_isSeat_8 hP ?_
  refine lv_iconst (v := 1) X.1 X.2.1 dX8_isSeat_11 (by decide) ?_
  refine lv_isub X.1 X.2.1 dX8_isSeat_12 ?_
  refine lv_i2l X.1 X.2.1 dX8_isSeat_13 rfl ?_
  obtain ⟨r14, ho, hf⟩ := b1_s hf
  refine call_si (rest := []) X (c_X8_in x1.toInt64 0 ((m_seats_1 - 1).toInt64) ho) q_4_226 q_4_227 q_1_10 q_4_228 ok_X8_in rfl ⟨Nat.le_of_ble_eq_true rfl, Nat.le_of_ble_eq_true rfl⟩ rfl rfl hl.1 rfl (Nat.le_of_ble_eq_true rfl) dX8_isSeat_14 hP hS (fun H locs hP hS => ?_)
  obtain ⟨h17, hf⟩ := gd_s hf
  obtain ⟨e0, hf⟩ := o2 hf
  obtain ⟨e1, hf⟩ := o2 hf
  obtain ⟨e2, hf⟩ := o2 hf
  obtain ⟨e3, hf⟩ := o2 hf
  obtain ⟨e4, hf⟩ := o2 hf
  obtain ⟨e5, hf⟩ := o2 hf
  obtain ⟨e6, hf⟩ := o2 hf
  obtain ⟨e7, hf⟩ := o2 hf
  have e8 := o1 hf
  have EF : Ff = (va_up (va_up (va_up (va_up F 1 m_at_1) 2 m_seats_1) 3 m_rows_1) 4 m_people_1) := frm_eq (frm_up (frm_up (frm_up (frm_up hfF (by decide)) (by decide)) (by decide)) (by decide)) (frm_c (e1).symm (frm_c (e2).symm (frm_c (e3).symm (frm_c (e4).symm frm_n))))
  have EI : If = (va_up (va_up (va_up (va_up I 6 m_sorts_1) 7 m_rowOf_1) 8 m_own_1) 9 m_kinds_1) := frm_eq (frm_up (frm_up (frm_up (frm_up hfI (by decide)) (by decide)) (by decide)) (by decide)) (frm_c (e5).symm (frm_c (e6).symm (frm_c (e7).symm (frm_c (e8).symm frm_n))))
  exact ret_z X hS (by rw [EF, EI]; exact hP) e0 h17 dX8_isSeat_17
set_option maxRecDepth 100000 in
theorem c_X8_isSeat {l : Launch} {D : va_G} {a : Nat → Nat} {kc : Nat → ClassId} (F : Nat → Int32) (G : Nat → Int64) (I : Nat → Nat → Int32) (J : Nat → Nat → Int64) (hAp : ∀ i j, i < 21 → j < 21 → a i = a j → i = j) (x1 : Int32) {o0 : Int32} {o1 : Int32} {o2 : Int32} {o3 : Int32} {o4 : Int32} {o5 : Nat → Int32} {o6 : Nat → Int32} {o7 : Nat → Int32} {o8 : Nat → Int32} (hf : p_X8_isSeat (F 1) (F 2) (F 3) (F 4) (I 4) (I 5) (I 6) (I 7) (I 8) (I 9) x1 = some (o0, o1, o2, o3, o4, o5, o6, o7, o8)) : Ct 21 l yX8_isSeat cX8_isSeat 2 (some .boolean) rm_X8_isSeat D (tyM kc) a (wM a kc F G I J) [.ref (a 0), .int x1] (Qi D (wM a kc (va_up (va_up (va_up (va_up F 1 o1) 2 o2) 3 o3) 4 o4) G (va_up (va_up (va_up (va_up I 6 o5) 7 o6) 8 o7) 9 o8) J) o0) :=
  Ct.of (by decide +kernel) hAp (Nat.le_of_ble_eq_true rfl) (fun p e s m args below meth c ls X hP hl => t_X8_isSeat_b0 X F I x1 _ _ _ hf (frm_ul (frm_ul (frm_ul (frm_ul (fun k _ => rfl) (by decide)) (by decide)) (by decide)) (by decide)) (frm_ul (frm_ul (frm_ul (frm_ul (fun k _ => rfl) (by decide)) (by decide)) (by decide)) (by decide)) hP va_S.rf hl)
abbrev rm_X8_isPerson : Room := { frames := 3, cells := 0, slots := 0, locals := 67 }
set_option maxHeartbeats 4000000 in
set_option maxRecDepth 100000 in
theorem t_X8_isPerson_b0 {p : Program} {l : Launch} {e : Env} {s : State} {m : MethodId} {args : Array Value} {below : List Frame} {meth : Method} {c : Code} {D : va_G} {a : Nat → Nat} {kc : Nat → ClassId} (X : cx 21 p s m args meth c D (tyM kc) a cX8_isPerson 2 RX8 (some .boolean)) {G : Nat → Int64} {J : Nat → Nat → Int64} {Ff : Nat → Int32} {If : Nat → Nat → Int32} {r : Int32} :
    ∀ (F : Nat → Int32) (I : Nat → Nat → Int32) (x1 : Int32) (H : Heap) (locs : List Loc) (ls : Array Slot), p_X8_isPerson_b0 (F 1) (F 2) (F 3) (F 4) (I 4) (I 5) (I 6) (I 7) (I 8) (I 9) x1 = some (r, (Ff 1), (Ff 2), (Ff 3), (Ff 4), (If 6), (If 7), (If 8), (If 9)) → (∀ k, k ∉ ([1, 2, 3, 4] : List Nat) → Ff k = F k) → (∀ k, k ∉ ([6, 7, 8, 9] : List Nat) → If k = I k) → va_P D vwCl (wM a kc F G I J) H → va_S (ad a 21 s.heap.size) s.heap H locs → lv_has ls 2 [(0, .ref (a 0)), (1, .int x1)] → W p l e rm_X8_isPerson s m args below meth c H locs 0 0 (MQ below (Qi D (wM a kc Ff G If J) r (ad a 21 s.heap.size)) args s 0 0 (ad a 21 s.heap.size)) (F0 m 0 ls []) := by
  intro F I x1 H locs ls hf hfF hfI hP hS hl
  unfold p_X8_isPerson_b0 at hf
  refine lv_aload_n X.1 X.2.1 dX8_isPerson_0 rfl (lv_at hl 0 rfl) ?_
  obtain ⟨m_at_1, m_seats_1, m_rows_1, m_people_1, m_sorts_1, m_rowOf_1, m_own_1, m_kinds_1, ho, hf⟩ := b8_s hf
  refine call_vv (rest := []) X (c_X8_find F G I J X.2.2.2.2.2.2.2.1  ho) q_5_69 q_5_71 qs_yX8_find q_1_10 q_5_72 ok_X8_find rfl 0 rfl rfl ⟨Nat.le_of_ble_eq_true rfl, Nat.le_of_ble_eq_true rfl⟩ rfl rfl hl.1 rfl (Nat.le_of_ble_eq_true rfl) dX8_isPerson_1 hP hS (fun H locs hP hS => ?_)
  refine lv_iload_n X.1 X.2.1 dX8_isPerson_4 rfl (lv_at hl 1 rfl) ?_
  refine lv_i2l X.1 X.2.1 dX8_isPerson_5 rfl ?_
  refine lv_lconst (v := 0) X.1 X.2.1 dX8_isPerson_6 (by decide) ?_
  refine lv_aload_n X.1 X.2.1 dX8_isPerson_7 rfl (lv_at hl 0 rfl) ?_
  refine gM_0_12 (F := (va_up (va_up (va_up (va_up F 1 m_at_1) 2 m_seats_1) 3 m_rows_1) 4 m_people_1)) X (v := m_people_1) rfl q_4_121 dX8_isPerson_8 hP ?_
  refine lv_iconst (v := 1) X.1 X.2.1 dX8_isPerson_11 (by decide) ?_
  refine lv_isub X.1 X.2.1 dX8_isPerson_12 ?_
  refine lv_i2l X.1 X.2.1 dX8_isPerson_13 rfl ?_
  obtain ⟨r14, ho, hf⟩ := b1_s hf
  refine call_si (rest := []) X (c_X8_in x1.toInt64 0 ((m_people_1 - 1).toInt64) ho) q_4_226 q_4_227 q_1_10 q_4_228 ok_X8_in rfl ⟨Nat.le_of_ble_eq_true rfl, Nat.le_of_ble_eq_true rfl⟩ rfl rfl hl.1 rfl (Nat.le_of_ble_eq_true rfl) dX8_isPerson_14 hP hS (fun H locs hP hS => ?_)
  obtain ⟨h17, hf⟩ := gd_s hf
  obtain ⟨e0, hf⟩ := o2 hf
  obtain ⟨e1, hf⟩ := o2 hf
  obtain ⟨e2, hf⟩ := o2 hf
  obtain ⟨e3, hf⟩ := o2 hf
  obtain ⟨e4, hf⟩ := o2 hf
  obtain ⟨e5, hf⟩ := o2 hf
  obtain ⟨e6, hf⟩ := o2 hf
  obtain ⟨e7, hf⟩ := o2 hf
  have e8 := o1 hf
  have EF : Ff = (va_up (va_up (va_up (va_up F 1 m_at_1) 2 m_seats_1) 3 m_rows_1) 4 m_people_1) := frm_eq (frm_up (frm_up (frm_up (frm_up hfF (by decide)) (by decide)) (by decide)) (by decide)) (frm_c (e1).symm (frm_c (e2).symm (frm_c (e3).symm (frm_c (e4).symm frm_n))))
  have EI : If = (va_up (va_up (va_up (va_up I 6 m_sorts_1) 7 m_rowOf_1) 8 m_own_1) 9 m_kinds_1) := frm_eq (frm_up (frm_up (frm_up (frm_up hfI (by decide)) (by decide)) (by decide)) (by decide)) (frm_c (e5).symm (frm_c (e6).symm (frm_c (e7).symm (frm_c (e8).symm frm_n))))
  exact ret_z X hS (by rw [EF, EI]; exact hP) e0 h17 dX8_isPerson_17
set_option maxRecDepth 100000 in
theorem c_X8_isPerson {l : Launch} {D : va_G} {a : Nat → Nat} {kc : Nat → ClassId} (F : Nat → Int32) (G : Nat → Int64) (I : Nat → Nat → Int32) (J : Nat → Nat → Int64) (hAp : ∀ i j, i < 21 → j < 21 → a i = a j → i = j) (x1 : Int32) {o0 : Int32} {o1 : Int32} {o2 : Int32} {o3 : Int32} {o4 : Int32} {o5 : Nat → Int32} {o6 : Nat → Int32} {o7 : Nat → Int32} {o8 : Nat → Int32} (hf : p_X8_isPerson (F 1) (F 2) (F 3) (F 4) (I 4) (I 5) (I 6) (I 7) (I 8) (I 9) x1 = some (o0, o1, o2, o3, o4, o5, o6, o7, o8)) : Ct 21 l yX8_isPerson cX8_isPerson 2 (some .boolean) rm_X8_isPerson D (tyM kc) a (wM a kc F G I J) [.ref (a 0), .int x1] (Qi D (wM a kc (va_up (va_up (va_up (va_up F 1 o1) 2 o2) 3 o3) 4 o4) G (va_up (va_up (va_up (va_up I 6 o5) 7 o6) 8 o7) 9 o8) J) o0) :=
  Ct.of (by decide +kernel) hAp (Nat.le_of_ble_eq_true rfl) (fun p e s m args below meth c ls X hP hl => t_X8_isPerson_b0 X F I x1 _ _ _ hf (frm_ul (frm_ul (frm_ul (frm_ul (fun k _ => rfl) (by decide)) (by decide)) (by decide)) (by decide)) (frm_ul (frm_ul (frm_ul (frm_ul (fun k _ => rfl) (by decide)) (by decide)) (by decide)) (by decide)) hP va_S.rf hl)
abbrev rm_X8_ownersOf : Room := { frames := 0, cells := 0, slots := 0, locals := 0 }
set_option maxHeartbeats 4000000 in
set_option maxRecDepth 100000 in
theorem t_X8_ownersOf_b30 {p : Program} {l : Launch} {e : Env} {s : State} {m : MethodId} {args : Array Value} {below : List Frame} {meth : Method} {c : Code} {D : va_G} {a : Nat → Nat} {kc : Nat → ClassId} (X : cx 21 p s m args meth c D (tyM kc) a cX8_ownersOf 4 RX8 (some .int)) {F : Nat → Int32} {G : Nat → Int64} {I : Nat → Nat → Int32} {J : Nat → Nat → Int64}  {r : Int32} {K4 : Int32 → (Nat → Int32) → Int32 → Int32 → Int32 → Option (Int32)} (kh4 : ∀  (x1 : Int32) (x2 : Int32) (x3 : Int32) (H : Heap) (locs : List Loc) (ls : Array Slot), K4 (F 4) (I 8) x1 x2 x3 = some r → va_P D vwCl (wM a kc F G I J) H → va_S (ad a 21 s.heap.size) s.heap H locs → lv_has ls 4 [(0, .ref (a 0)), (1, .int x1), (2, .int x2), (3, .int x3)] → W p l e rm_X8_ownersOf s m args below meth c H locs 0 0 (MQ below (Qi D (wM a kc F G I J) r (ad a 21 s.heap.size)) args s 0 0 (ad a 21 s.heap.size)) (F0 m 4 ls [])) :
    ∀  (t0 : Int32) (t1 : Int32) (x1 : Int32) (x3 : Int32) (H : Heap) (locs : List Loc) (ls : Array Slot), p_X8_ownersOf_b30 K4 (F 4) (I 8) t0 t1 x1 x3 = some r → va_P D vwCl (wM a kc F G I J) H → va_S (ad a 21 s.heap.size) s.heap H locs → lv_has ls 4 [(0, .ref (a 0)), (1, .int x1), (3, .int x3)] → W p l e rm_X8_ownersOf s m args below meth c H locs 0 0 (MQ below (Qi D (wM a kc F G I J) r (ad a 21 s.heap.size)) args s 0 0 (ad a 21 s.heap.size)) (F0 m 30 ls [.int t1, .int t0]) := by
  intro  t0 t1 x1 x3 H locs ls hf  hP hS hl
  unfold p_X8_ownersOf_b30 at hf
  refine lv_ior X.1 X.2.1 dX8_ownersOf_30 ?_
  refine nm_i hf (fun x31 hf => ?_)
  refine lv_istore_n (lv' := [(2, .int x31), (0, .ref (a 0)), (1, .int x1), (3, .int x3)]) X.1 X.2.1 dX8_ownersOf_31 rfl hl (by decide) rfl (fun ls hl => ?_)
  obtain ⟨x32, ex32, hf⟩ := nm_x hf
  refine lv_iinc (v := x32) (lv' := [(3, .int x32), (2, .int x31), (0, .ref (a 0)), (1, .int x1)]) X.1 X.2.1 dX8_ownersOf_32 hl (k := 3) rfl ex32 (by decide) rfl (fun ls hl => ?_)
  refine lv_goto (tgt := 4) X.1 X.2.1 dX8_ownersOf_35 (by decide) ?_
  exact kh4  x1 x31 x32 H locs ls hf  hP hS (lv_sub hl [2, 3, 1, 0] rfl)
set_option maxHeartbeats 4000000 in
set_option maxRecDepth 100000 in
theorem t_X8_ownersOf_b4x {p : Program} {l : Launch} {e : Env} {s : State} {m : MethodId} {args : Array Value} {below : List Frame} {meth : Method} {c : Code} {D : va_G} {a : Nat → Nat} {kc : Nat → ClassId} (X : cx 21 p s m args meth c D (tyM kc) a cX8_ownersOf 4 RX8 (some .int)) {F : Nat → Int32} {G : Nat → Int64} {I : Nat → Nat → Int32} {J : Nat → Nat → Int64}  {r : Int32} {K4 : Int32 → (Nat → Int32) → Int32 → Int32 → Int32 → Option (Int32)} (kh4 : ∀  (x1 : Int32) (x2 : Int32) (x3 : Int32) (H : Heap) (locs : List Loc) (ls : Array Slot), K4 (F 4) (I 8) x1 x2 x3 = some r → va_P D vwCl (wM a kc F G I J) H → va_S (ad a 21 s.heap.size) s.heap H locs → lv_has ls 4 [(0, .ref (a 0)), (1, .int x1), (2, .int x2), (3, .int x3)] → W p l e rm_X8_ownersOf s m args below meth c H locs 0 0 (MQ below (Qi D (wM a kc F G I J) r (ad a 21 s.heap.size)) args s 0 0 (ad a 21 s.heap.size)) (F0 m 4 ls [])) :
    ∀  (x1 : Int32) (x2 : Int32) (x3 : Int32) (H : Heap) (locs : List Loc) (ls : Array Slot), p_X8_ownersOf_b4x K4 (F 4) (I 8) x1 x2 x3 = some r → va_P D vwCl (wM a kc F G I J) H → va_S (ad a 21 s.heap.size) s.heap H locs → lv_has ls 4 [(0, .ref (a 0)), (1, .int x1), (2, .int x2), (3, .int x3)] → W p l e rm_X8_ownersOf s m args below meth c H locs 0 0 (MQ below (Qi D (wM a kc F G I J) r (ad a 21 s.heap.size)) args s 0 0 (ad a 21 s.heap.size)) (F0 m 4 ls []) := by
  intro  x1 x2 x3 H locs ls hf  hP hS hl
  unfold p_X8_ownersOf_b4x at hf
  refine lv_iload_n X.1 X.2.1 dX8_ownersOf_4 rfl (lv_at hl 3 rfl) ?_
  refine lv_aload_n X.1 X.2.1 dX8_ownersOf_5 rfl (lv_at hl 0 rfl) ?_
  refine gM_0_12 (F := F) X (v := (F 4)) rfl q_4_121 dX8_ownersOf_6 hP ?_
  refine lv_icmp_ge (tgt := 38) X.1 X.2.1 dX8_ownersOf_9 (by decide) (fun c9 => ?_) (fun c9 => ?_)
  · have hf := it_s hf c9
    refine lv_iload_n X.1 X.2.1 dX8_ownersOf_38 rfl (lv_at hl 2 rfl) ?_
    have e0 := o1 hf
    exact ret_i X hS hP e0 dX8_ownersOf_39
  · have hf := ie_s hf c9
    refine lv_iload_n X.1 X.2.1 dX8_ownersOf_12 rfl (lv_at hl 2 rfl) ?_
    refine lv_aload_n X.1 X.2.1 dX8_ownersOf_13 rfl (lv_at hl 0 rfl) ?_
    refine gM_0_13 X q_4_122 dX8_ownersOf_14 hP ?_
    refine lv_iload_n X.1 X.2.1 dX8_ownersOf_17 rfl (lv_at hl 3 rfl) ?_
    obtain ⟨h18, hf⟩ := gd_s hf
    refine lM_9 (I := I) X (f := (I 8)) rfl h18 dX8_ownersOf_18 hP ?_
    refine lv_iload_n X.1 X.2.1 dX8_ownersOf_19 rfl (lv_at hl 1 rfl) ?_
    refine lv_icmp_ne (tgt := 29) X.1 X.2.1 dX8_ownersOf_20 (by decide) (fun c20 => ?_) (fun c20 => ?_)
    · have hf := ie_s hf c20
      refine lv_iconst (v := 0) X.1 X.2.1 dX8_ownersOf_29 (by decide) ?_
      exact t_X8_ownersOf_b30 X kh4  x2 0 x1 x3 H locs ls hf  hP hS (lv_sub hl [0, 1, 3] rfl)
    · have hf := it_s hf c20
      refine lv_iconst (v := 1) X.1 X.2.1 dX8_ownersOf_23 (by decide) ?_
      refine lv_iload_n X.1 X.2.1 dX8_ownersOf_24 rfl (lv_at hl 3 rfl) ?_
      refine lv_ishl X.1 X.2.1 dX8_ownersOf_25 ?_
      refine lv_goto (tgt := 30) X.1 X.2.1 dX8_ownersOf_26 (by decide) ?_
      exact t_X8_ownersOf_b30 X kh4  x2 ((1 : Int32) <<< (x3 &&& 31)) x1 x3 H locs ls hf  hP hS (lv_sub hl [0, 1, 3] rfl)
set_option maxRecDepth 100000 in
theorem t_X8_ownersOf_b4 {p : Program} {l : Launch} {e : Env} {s : State} {m : MethodId} {args : Array Value} {below : List Frame} {meth : Method} {c : Code} {D : va_G} {a : Nat → Nat} {kc : Nat → ClassId} (X : cx 21 p s m args meth c D (tyM kc) a cX8_ownersOf 4 RX8 (some .int)) {F : Nat → Int32} {G : Nat → Int64} {I : Nat → Nat → Int32} {J : Nat → Nat → Int64}  {r : Int32} :
    ∀ (n : Nat)  (x1 : Int32) (x2 : Int32) (x3 : Int32) (H : Heap) (locs : List Loc) (ls : Array Slot), p_X8_ownersOf_b4 n (F 4) (I 8) x1 x2 x3 = some r → va_P D vwCl (wM a kc F G I J) H → va_S (ad a 21 s.heap.size) s.heap H locs → lv_has ls 4 [(0, .ref (a 0)), (1, .int x1), (2, .int x2), (3, .int x3)] → W p l e rm_X8_ownersOf s m args below meth c H locs 0 0 (MQ below (Qi D (wM a kc F G I J) r (ad a 21 s.heap.size)) args s 0 0 (ad a 21 s.heap.size)) (F0 m 4 ls []) := by
  intro n
  induction n with
  | zero => intro  x1 x2 x3 H locs ls hf  hP hS hl; exact (nos hf).elim
  | succ n ih => exact t_X8_ownersOf_b4x X ih
set_option maxHeartbeats 4000000 in
set_option maxRecDepth 100000 in
theorem t_X8_ownersOf_b0 {p : Program} {l : Launch} {e : Env} {s : State} {m : MethodId} {args : Array Value} {below : List Frame} {meth : Method} {c : Code} {D : va_G} {a : Nat → Nat} {kc : Nat → ClassId} (X : cx 21 p s m args meth c D (tyM kc) a cX8_ownersOf 4 RX8 (some .int)) {F : Nat → Int32} {G : Nat → Int64} {I : Nat → Nat → Int32} {J : Nat → Nat → Int64}  {r : Int32} :
    ∀  (x1 : Int32) (H : Heap) (locs : List Loc) (ls : Array Slot), p_X8_ownersOf_b0 (F 4) (I 8) x1 = some r → va_P D vwCl (wM a kc F G I J) H → va_S (ad a 21 s.heap.size) s.heap H locs → lv_has ls 4 [(0, .ref (a 0)), (1, .int x1)] → W p l e rm_X8_ownersOf s m args below meth c H locs 0 0 (MQ below (Qi D (wM a kc F G I J) r (ad a 21 s.heap.size)) args s 0 0 (ad a 21 s.heap.size)) (F0 m 0 ls []) := by
  intro  x1 H locs ls hf  hP hS hl
  unfold p_X8_ownersOf_b0 at hf
  refine lv_iconst (v := 0) X.1 X.2.1 dX8_ownersOf_0 (by decide) ?_
  refine lv_istore_n (lv' := [(2, .int 0), (0, .ref (a 0)), (1, .int x1)]) X.1 X.2.1 dX8_ownersOf_1 rfl hl (by decide) rfl (fun ls hl => ?_)
  refine lv_iconst (v := 0) X.1 X.2.1 dX8_ownersOf_2 (by decide) ?_
  refine lv_istore_n (lv' := [(3, .int 0), (2, .int 0), (0, .ref (a 0)), (1, .int x1)]) X.1 X.2.1 dX8_ownersOf_3 rfl hl (by decide) rfl (fun ls hl => ?_)
  exact t_X8_ownersOf_b4 X 4096  x1 0 0 H locs ls hf  hP hS (lv_sub hl [2, 3, 1, 0] rfl)
set_option maxRecDepth 100000 in
theorem c_X8_ownersOf {l : Launch} {D : va_G} {a : Nat → Nat} {kc : Nat → ClassId} (F : Nat → Int32) (G : Nat → Int64) (I : Nat → Nat → Int32) (J : Nat → Nat → Int64) (hAp : ∀ i j, i < 21 → j < 21 → a i = a j → i = j) (x1 : Int32) {o0 : Int32} (hf : p_X8_ownersOf (F 4) (I 8) x1 = some o0) : Ct 21 l yX8_ownersOf cX8_ownersOf 4 (some .int) rm_X8_ownersOf D (tyM kc) a (wM a kc F G I J) [.ref (a 0), .int x1] (Qi D (wM a kc F G I J) o0) :=
  Ct.of (by decide +kernel) hAp (Nat.le_of_ble_eq_true rfl) (fun p e s m args below meth c ls X hP hl => t_X8_ownersOf_b0 X  x1 _ _ _ hf  hP va_S.rf hl)
abbrev rm_X8_seatOf : Room := { frames := 1, cells := 0, slots := 0, locals := 23 }
set_option maxHeartbeats 4000000 in
set_option maxRecDepth 100000 in
theorem t_X8_seatOf_b32 {p : Program} {l : Launch} {e : Env} {s : State} {m : MethodId} {args : Array Value} {below : List Frame} {meth : Method} {c : Code} {D : va_G} {a : Nat → Nat} {kc : Nat → ClassId} (X : cx 21 p s m args meth c D (tyM kc) a cX8_seatOf 3 RX8 (some .int)) {F : Nat → Int32} {G : Nat → Int64} {I : Nat → Nat → Int32} {J : Nat → Nat → Int64}  {r : Int32} :
    ∀  (t0 : Int32) (H : Heap) (locs : List Loc) (ls : Array Slot), p_X8_seatOf_b32 (F 4) (I 6) (I 7) (I 8) t0 = some r → va_P D vwCl (wM a kc F G I J) H → va_S (ad a 21 s.heap.size) s.heap H locs → lv_has ls 3 [(0, .ref (a 0))] → W p l e rm_X8_seatOf s m args below meth c H locs 0 0 (MQ below (Qi D (wM a kc F G I J) r (ad a 21 s.heap.size)) args s 0 0 (ad a 21 s.heap.size)) (F0 m 32 ls [.int t0]) := by
  intro  t0 H locs ls hf  hP hS hl
  unfold p_X8_seatOf_b32 at hf
  have e0 := o1 hf
  exact ret_i X hS hP e0 dX8_seatOf_32
set_option maxHeartbeats 4000000 in
set_option maxRecDepth 100000 in
theorem t_X8_seatOf_b0 {p : Program} {l : Launch} {e : Env} {s : State} {m : MethodId} {args : Array Value} {below : List Frame} {meth : Method} {c : Code} {D : va_G} {a : Nat → Nat} {kc : Nat → ClassId} (X : cx 21 p s m args meth c D (tyM kc) a cX8_seatOf 3 RX8 (some .int)) {F : Nat → Int32} {G : Nat → Int64} {I : Nat → Nat → Int32} {J : Nat → Nat → Int64}  {r : Int32} :
    ∀  (x1 : Int32) (x2 : Int32) (H : Heap) (locs : List Loc) (ls : Array Slot), p_X8_seatOf_b0 (F 4) (I 6) (I 7) (I 8) x1 x2 = some r → va_P D vwCl (wM a kc F G I J) H → va_S (ad a 21 s.heap.size) s.heap H locs → lv_has ls 3 [(0, .ref (a 0)), (1, .int x1), (2, .int x2)] → W p l e rm_X8_seatOf s m args below meth c H locs 0 0 (MQ below (Qi D (wM a kc F G I J) r (ad a 21 s.heap.size)) args s 0 0 (ad a 21 s.heap.size)) (F0 m 0 ls []) := by
  intro  x1 x2 H locs ls hf  hP hS hl
  unfold p_X8_seatOf_b0 at hf
  refine lv_iload_n X.1 X.2.1 dX8_seatOf_0 rfl (lv_at hl 2 rfl) ?_
  refine lv_if_ne (tgt := 13) X.1 X.2.1 dX8_seatOf_1 (by decide) (fun c1 => ?_) (fun c1 => ?_)
  · have hf := ie_s hf c1
    refine lv_iload_n X.1 X.2.1 dX8_seatOf_13 rfl (lv_at hl 2 rfl) ?_
    refine lv_iconst (v := 1) X.1 X.2.1 dX8_seatOf_14 (by decide) ?_
    refine lv_icmp_ne (tgt := 27) X.1 X.2.1 dX8_seatOf_15 (by decide) (fun c15 => ?_) (fun c15 => ?_)
    · have hf := ie_s hf c15
      refine lv_aload_n X.1 X.2.1 dX8_seatOf_27 rfl (lv_at hl 0 rfl) ?_
      refine lv_iload_n X.1 X.2.1 dX8_seatOf_28 rfl (lv_at hl 1 rfl) ?_
      obtain ⟨r29, ho, hf⟩ := b1_s hf
      refine call_vi (rest := []) X (c_X8_ownersOf F G I J X.2.2.2.2.2.2.2.1 x1 ho) q_5_77 q_5_79 qs_yX8_ownersOf q_1_10 q_5_80 ok_X8_ownersOf rfl 0 rfl rfl ⟨Nat.le_of_ble_eq_true rfl, Nat.le_of_ble_eq_true rfl⟩ rfl rfl hl.1 rfl (Nat.le_of_ble_eq_true rfl) dX8_seatOf_29 hP hS (fun H locs hP hS => ?_)
      exact t_X8_seatOf_b32 X  r29 H locs ls hf  hP hS (lv_sub hl [0] rfl)
    · have hf := it_s hf c15
      refine lv_aload_n X.1 X.2.1 dX8_seatOf_18 rfl (lv_at hl 0 rfl) ?_
      refine gM_0_11 X q_4_120 dX8_seatOf_19 hP ?_
      refine lv_iload_n X.1 X.2.1 dX8_seatOf_22 rfl (lv_at hl 1 rfl) ?_
      obtain ⟨h23, hf⟩ := gd_s hf
      refine lM_8 (I := I) X (f := (I 7)) rfl h23 dX8_seatOf_23 hP ?_
      refine lv_goto (tgt := 32) X.1 X.2.1 dX8_seatOf_24 (by decide) ?_
      exact t_X8_seatOf_b32 X  ((I 7) x1.toNatClampNeg) H locs ls hf  hP hS (lv_sub hl [0] rfl)
  · have hf := it_s hf c1
    refine lv_aload_n X.1 X.2.1 dX8_seatOf_4 rfl (lv_at hl 0 rfl) ?_
    refine gM_0_10 X q_4_119 dX8_seatOf_5 hP ?_
    refine lv_iload_n X.1 X.2.1 dX8_seatOf_8 rfl (lv_at hl 1 rfl) ?_
    obtain ⟨h9, hf⟩ := gd_s hf
    refine lM_7 (I := I) X (f := (I 6)) rfl h9 dX8_seatOf_9 hP ?_
    refine lv_goto (tgt := 32) X.1 X.2.1 dX8_seatOf_10 (by decide) ?_
    exact t_X8_seatOf_b32 X  ((I 6) x1.toNatClampNeg) H locs ls hf  hP hS (lv_sub hl [0] rfl)
set_option maxRecDepth 100000 in
theorem c_X8_seatOf {l : Launch} {D : va_G} {a : Nat → Nat} {kc : Nat → ClassId} (F : Nat → Int32) (G : Nat → Int64) (I : Nat → Nat → Int32) (J : Nat → Nat → Int64) (hAp : ∀ i j, i < 21 → j < 21 → a i = a j → i = j) (x1 : Int32) (x2 : Int32) {o0 : Int32} (hf : p_X8_seatOf (F 4) (I 6) (I 7) (I 8) x1 x2 = some o0) : Ct 21 l yX8_seatOf cX8_seatOf 3 (some .int) rm_X8_seatOf D (tyM kc) a (wM a kc F G I J) [.ref (a 0), .int x1, .int x2] (Qi D (wM a kc F G I J) o0) :=
  Ct.of (by decide +kernel) hAp (Nat.le_of_ble_eq_true rfl) (fun p e s m args below meth c ls X hP hl => t_X8_seatOf_b0 X  x1 x2 _ _ _ hf  hP va_S.rf hl)
abbrev rm_X8_seat : Room := { frames := 4, cells := 0, slots := 0, locals := 88 }
set_option maxHeartbeats 4000000 in
set_option maxRecDepth 100000 in
theorem t_X8_seat_b31 {p : Program} {l : Launch} {e : Env} {s : State} {m : MethodId} {args : Array Value} {below : List Frame} {meth : Method} {c : Code} {D : va_G} {a : Nat → Nat} {kc : Nat → ClassId} (X : cx 21 p s m args meth c D (tyM kc) a cX8_seat 3 RX8 (some .int)) {G : Nat → Int64} {J : Nat → Nat → Int64} {Ff : Nat → Int32} {If : Nat → Nat → Int32} {r : Int32} :
    ∀ (F : Nat → Int32) (I : Nat → Nat → Int32) (t0 : Int32) (H : Heap) (locs : List Loc) (ls : Array Slot), p_X8_seat_b31 (F 1) (F 2) (F 3) (F 4) (I 4) (I 5) (I 6) (I 7) (I 8) (I 9) t0 = some (r, (Ff 1), (Ff 2), (Ff 3), (Ff 4), (If 6), (If 7), (If 8), (If 9)) → (∀ k, k ∉ ([1, 2, 3, 4] : List Nat) → Ff k = F k) → (∀ k, k ∉ ([6, 7, 8, 9] : List Nat) → If k = I k) → va_P D vwCl (wM a kc F G I J) H → va_S (ad a 21 s.heap.size) s.heap H locs → lv_has ls 3 [(0, .ref (a 0))] → W p l e rm_X8_seat s m args below meth c H locs 0 0 (MQ below (Qi D (wM a kc Ff G If J) r (ad a 21 s.heap.size)) args s 0 0 (ad a 21 s.heap.size)) (F0 m 31 ls [.int t0]) := by
  intro F I t0 H locs ls hf hfF hfI hP hS hl
  unfold p_X8_seat_b31 at hf
  obtain ⟨e0, hf⟩ := o2 hf
  obtain ⟨e1, hf⟩ := o2 hf
  obtain ⟨e2, hf⟩ := o2 hf
  obtain ⟨e3, hf⟩ := o2 hf
  obtain ⟨e4, hf⟩ := o2 hf
  obtain ⟨e5, hf⟩ := o2 hf
  obtain ⟨e6, hf⟩ := o2 hf
  obtain ⟨e7, hf⟩ := o2 hf
  have e8 := o1 hf
  have EF : Ff = F := frm_eq hfF (frm_c (e1).symm (frm_c (e2).symm (frm_c (e3).symm (frm_c (e4).symm frm_n))))
  have EI : If = I := frm_eq hfI (frm_c (e5).symm (frm_c (e6).symm (frm_c (e7).symm (frm_c (e8).symm frm_n))))
  exact ret_i X hS (by rw [EF, EI]; exact hP) e0 dX8_seat_31
set_option maxHeartbeats 4000000 in
set_option maxRecDepth 100000 in
theorem t_X8_seat_b29 {p : Program} {l : Launch} {e : Env} {s : State} {m : MethodId} {args : Array Value} {below : List Frame} {meth : Method} {c : Code} {D : va_G} {a : Nat → Nat} {kc : Nat → ClassId} (X : cx 21 p s m args meth c D (tyM kc) a cX8_seat 3 RX8 (some .int)) {G : Nat → Int64} {J : Nat → Nat → Int64} {Ff : Nat → Int32} {If : Nat → Nat → Int32} {r : Int32} :
    ∀ (F : Nat → Int32) (I : Nat → Nat → Int32)  (H : Heap) (locs : List Loc) (ls : Array Slot), p_X8_seat_b29 (F 1) (F 2) (F 3) (F 4) (I 4) (I 5) (I 6) (I 7) (I 8) (I 9)  = some (r, (Ff 1), (Ff 2), (Ff 3), (Ff 4), (If 6), (If 7), (If 8), (If 9)) → (∀ k, k ∉ ([1, 2, 3, 4] : List Nat) → Ff k = F k) → (∀ k, k ∉ ([6, 7, 8, 9] : List Nat) → If k = I k) → va_P D vwCl (wM a kc F G I J) H → va_S (ad a 21 s.heap.size) s.heap H locs → lv_has ls 3 [(0, .ref (a 0))] → W p l e rm_X8_seat s m args below meth c H locs 0 0 (MQ below (Qi D (wM a kc Ff G If J) r (ad a 21 s.heap.size)) args s 0 0 (ad a 21 s.heap.size)) (F0 m 29 ls []) := by
  intro F I  H locs ls hf hfF hfI hP hS hl
  unfold p_X8_seat_b29 at hf
  refine lv_bipush (v := (-2)) X.1 X.2.1 dX8_seat_29 (by decide) ?_
  exact t_X8_seat_b31 X F I (-2) H locs ls hf hfF hfI hP hS (lv_sub hl [0] rfl)
set_option maxHeartbeats 4000000 in
set_option maxRecDepth 100000 in
theorem t_X8_seat_b0 {p : Program} {l : Launch} {e : Env} {s : State} {m : MethodId} {args : Array Value} {below : List Frame} {meth : Method} {c : Code} {D : va_G} {a : Nat → Nat} {kc : Nat → ClassId} (X : cx 21 p s m args meth c D (tyM kc) a cX8_seat 3 RX8 (some .int)) {G : Nat → Int64} {J : Nat → Nat → Int64} {Ff : Nat → Int32} {If : Nat → Nat → Int32} {r : Int32} :
    ∀ (F : Nat → Int32) (I : Nat → Nat → Int32) (x1 : Int32) (x2 : Int32) (H : Heap) (locs : List Loc) (ls : Array Slot), p_X8_seat_b0 (F 1) (F 2) (F 3) (F 4) (I 4) (I 5) (I 6) (I 7) (I 8) (I 9) x1 x2 = some (r, (Ff 1), (Ff 2), (Ff 3), (Ff 4), (If 6), (If 7), (If 8), (If 9)) → (∀ k, k ∉ ([1, 2, 3, 4] : List Nat) → Ff k = F k) → (∀ k, k ∉ ([6, 7, 8, 9] : List Nat) → If k = I k) → va_P D vwCl (wM a kc F G I J) H → va_S (ad a 21 s.heap.size) s.heap H locs → lv_has ls 3 [(0, .ref (a 0)), (1, .int x1), (2, .int x2)] → W p l e rm_X8_seat s m args below meth c H locs 0 0 (MQ below (Qi D (wM a kc Ff G If J) r (ad a 21 s.heap.size)) args s 0 0 (ad a 21 s.heap.size)) (F0 m 0 ls []) := by
  intro F I x1 x2 H locs ls hf hfF hfI hP hS hl
  unfold p_X8_seat_b0 at hf
  refine lv_aload_n X.1 X.2.1 dX8_seat_0 rfl (lv_at hl 0 rfl) ?_
  refine lv_iload_n X.1 X.2.1 dX8_seat_1 rfl (lv_at hl 1 rfl) ?_
  obtain ⟨r2, m_at_2, m_seats_2, m_rows_2, m_people_2, m_sorts_2, m_rowOf_2, m_own_2, m_kinds_2, ho, hf⟩ := b9_s hf
  refine call_vi (rest := []) X (c_X8_isSeat F G I J X.2.2.2.2.2.2.2.1 x1 ho) q_5_65 q_5_67 qs_yX8_isSeat q_1_10 q_5_68 ok_X8_isSeat rfl 0 rfl rfl ⟨Nat.le_of_ble_eq_true rfl, Nat.le_of_ble_eq_true rfl⟩ rfl rfl hl.1 rfl (Nat.le_of_ble_eq_true rfl) dX8_seat_2 hP hS (fun H locs hP hS => ?_)
  refine lv_if_eq (tgt := 29) X.1 X.2.1 dX8_seat_5 (by decide) (fun c5 => ?_) (fun c5 => ?_)
  · have hf := it_s hf c5
    exact t_X8_seat_b29 X (va_up (va_up (va_up (va_up F 1 m_at_2) 2 m_seats_2) 3 m_rows_2) 4 m_people_2) (va_up (va_up (va_up (va_up I 6 m_sorts_2) 7 m_rowOf_2) 8 m_own_2) 9 m_kinds_2)  H locs ls hf (frm_up (frm_up (frm_up (frm_up hfF (by decide)) (by decide)) (by decide)) (by decide)) (frm_up (frm_up (frm_up (frm_up hfI (by decide)) (by decide)) (by decide)) (by decide)) hP hS (lv_sub hl [0] rfl)
  · have hf := ie_s hf c5
    refine lv_iload_n X.1 X.2.1 dX8_seat_8 rfl (lv_at hl 2 rfl) ?_
    refine lv_i2l X.1 X.2.1 dX8_seat_9 rfl ?_
    refine lv_lconst (v := 0) X.1 X.2.1 dX8_seat_10 (by decide) ?_
    refine lv_ldc2 (v := 2) X.1 X.2.1 X.2.2.2.2.1 (X.2.2.2.2.2.1 _ q_4_229) dX8_seat_11 ?_
    obtain ⟨r14, ho, hf⟩ := b1_s hf
    refine call_si (rest := []) X (c_X8_in x2.toInt64 0 2 ho) q_4_226 q_4_227 q_1_10 q_4_228 ok_X8_in rfl ⟨Nat.le_of_ble_eq_true rfl, Nat.le_of_ble_eq_true rfl⟩ rfl rfl hl.1 rfl (Nat.le_of_ble_eq_true rfl) dX8_seat_14 hP hS (fun H locs hP hS => ?_)
    refine lv_if_eq (tgt := 29) X.1 X.2.1 dX8_seat_17 (by decide) (fun c17 => ?_) (fun c17 => ?_)
    · have hf := it_s hf c17
      exact t_X8_seat_b29 X (va_up (va_up (va_up (va_up F 1 m_at_2) 2 m_seats_2) 3 m_rows_2) 4 m_people_2) (va_up (va_up (va_up (va_up I 6 m_sorts_2) 7 m_rowOf_2) 8 m_own_2) 9 m_kinds_2)  H locs ls hf (frm_up (frm_up (frm_up (frm_up hfF (by decide)) (by decide)) (by decide)) (by decide)) (frm_up (frm_up (frm_up (frm_up hfI (by decide)) (by decide)) (by decide)) (by decide)) hP hS (lv_sub hl [0] rfl)
    · have hf := ie_s hf c17
      refine lv_aload_n X.1 X.2.1 dX8_seat_20 rfl (lv_at hl 0 rfl) ?_
      refine lv_iload_n X.1 X.2.1 dX8_seat_21 rfl (lv_at hl 1 rfl) ?_
      refine lv_iload_n X.1 X.2.1 dX8_seat_22 rfl (lv_at hl 2 rfl) ?_
      obtain ⟨r23, ho, hf⟩ := b1_s hf
      refine call_vi (rest := []) X (c_X8_seatOf (va_up (va_up (va_up (va_up F 1 m_at_2) 2 m_seats_2) 3 m_rows_2) 4 m_people_2) G (va_up (va_up (va_up (va_up I 6 m_sorts_2) 7 m_rowOf_2) 8 m_own_2) 9 m_kinds_2) J X.2.2.2.2.2.2.2.1 x1 x2 ho) q_5_73 q_5_75 qs_yX8_seatOf q_1_10 q_5_76 ok_X8_seatOf rfl 0 rfl rfl ⟨Nat.le_of_ble_eq_true rfl, Nat.le_of_ble_eq_true rfl⟩ rfl rfl hl.1 rfl (Nat.le_of_ble_eq_true rfl) dX8_seat_23 hP hS (fun H locs hP hS => ?_)
      refine lv_goto (tgt := 31) X.1 X.2.1 dX8_seat_26 (by decide) ?_
      exact t_X8_seat_b31 X (va_up (va_up (va_up (va_up F 1 m_at_2) 2 m_seats_2) 3 m_rows_2) 4 m_people_2) (va_up (va_up (va_up (va_up I 6 m_sorts_2) 7 m_rowOf_2) 8 m_own_2) 9 m_kinds_2) r23 H locs ls hf (frm_up (frm_up (frm_up (frm_up hfF (by decide)) (by decide)) (by decide)) (by decide)) (frm_up (frm_up (frm_up (frm_up hfI (by decide)) (by decide)) (by decide)) (by decide)) hP hS (lv_sub hl [0] rfl)
set_option maxRecDepth 100000 in
theorem c_X8_seat {l : Launch} {D : va_G} {a : Nat → Nat} {kc : Nat → ClassId} (F : Nat → Int32) (G : Nat → Int64) (I : Nat → Nat → Int32) (J : Nat → Nat → Int64) (hAp : ∀ i j, i < 21 → j < 21 → a i = a j → i = j) (x1 : Int32) (x2 : Int32) {o0 : Int32} {o1 : Int32} {o2 : Int32} {o3 : Int32} {o4 : Int32} {o5 : Nat → Int32} {o6 : Nat → Int32} {o7 : Nat → Int32} {o8 : Nat → Int32} (hf : p_X8_seat (F 1) (F 2) (F 3) (F 4) (I 4) (I 5) (I 6) (I 7) (I 8) (I 9) x1 x2 = some (o0, o1, o2, o3, o4, o5, o6, o7, o8)) : Ct 21 l yX8_seat cX8_seat 3 (some .int) rm_X8_seat D (tyM kc) a (wM a kc F G I J) [.ref (a 0), .int x1, .int x2] (Qi D (wM a kc (va_up (va_up (va_up (va_up F 1 o1) 2 o2) 3 o3) 4 o4) G (va_up (va_up (va_up (va_up I 6 o5) 7 o6) 8 o7) 9 o8) J) o0) :=
  Ct.of (by decide +kernel) hAp (Nat.le_of_ble_eq_true rfl) (fun p e s m args below meth c ls X hP hl => t_X8_seat_b0 X F I x1 x2 _ _ _ hf (frm_ul (frm_ul (frm_ul (frm_ul (fun k _ => rfl) (by decide)) (by decide)) (by decide)) (by decide)) (frm_ul (frm_ul (frm_ul (frm_ul (fun k _ => rfl) (by decide)) (by decide)) (by decide)) (by decide)) hP va_S.rf hl)
abbrev rm_X8_person : Room := { frames := 4, cells := 0, slots := 0, locals := 88 }
set_option maxHeartbeats 4000000 in
set_option maxRecDepth 100000 in
theorem t_X8_person_b39 {p : Program} {l : Launch} {e : Env} {s : State} {m : MethodId} {args : Array Value} {below : List Frame} {meth : Method} {c : Code} {D : va_G} {a : Nat → Nat} {kc : Nat → ClassId} (X : cx 21 p s m args meth c D (tyM kc) a cX8_person 3 RX8 (some .int)) {G : Nat → Int64} {J : Nat → Nat → Int64} {Ff : Nat → Int32} {If : Nat → Nat → Int32} {r : Int32} :
    ∀ (F : Nat → Int32) (I : Nat → Nat → Int32) (t0 : Int32) (H : Heap) (locs : List Loc) (ls : Array Slot), p_X8_person_b39 (F 1) (F 2) (F 3) (F 4) (I 4) (I 5) (I 6) (I 7) (I 8) (I 9) t0 = some (r, (Ff 1), (Ff 2), (Ff 3), (Ff 4), (If 6), (If 7), (If 8), (If 9)) → (∀ k, k ∉ ([1, 2, 3, 4] : List Nat) → Ff k = F k) → (∀ k, k ∉ ([6, 7, 8, 9] : List Nat) → If k = I k) → va_P D vwCl (wM a kc F G I J) H → va_S (ad a 21 s.heap.size) s.heap H locs → lv_has ls 3 [(0, .ref (a 0))] → W p l e rm_X8_person s m args below meth c H locs 0 0 (MQ below (Qi D (wM a kc Ff G If J) r (ad a 21 s.heap.size)) args s 0 0 (ad a 21 s.heap.size)) (F0 m 39 ls [.int t0]) := by
  intro F I t0 H locs ls hf hfF hfI hP hS hl
  unfold p_X8_person_b39 at hf
  obtain ⟨e0, hf⟩ := o2 hf
  obtain ⟨e1, hf⟩ := o2 hf
  obtain ⟨e2, hf⟩ := o2 hf
  obtain ⟨e3, hf⟩ := o2 hf
  obtain ⟨e4, hf⟩ := o2 hf
  obtain ⟨e5, hf⟩ := o2 hf
  obtain ⟨e6, hf⟩ := o2 hf
  obtain ⟨e7, hf⟩ := o2 hf
  have e8 := o1 hf
  have EF : Ff = F := frm_eq hfF (frm_c (e1).symm (frm_c (e2).symm (frm_c (e3).symm (frm_c (e4).symm frm_n))))
  have EI : If = I := frm_eq hfI (frm_c (e5).symm (frm_c (e6).symm (frm_c (e7).symm (frm_c (e8).symm frm_n))))
  exact ret_i X hS (by rw [EF, EI]; exact hP) e0 dX8_person_39
set_option maxHeartbeats 4000000 in
set_option maxRecDepth 100000 in
theorem t_X8_person_b37 {p : Program} {l : Launch} {e : Env} {s : State} {m : MethodId} {args : Array Value} {below : List Frame} {meth : Method} {c : Code} {D : va_G} {a : Nat → Nat} {kc : Nat → ClassId} (X : cx 21 p s m args meth c D (tyM kc) a cX8_person 3 RX8 (some .int)) {G : Nat → Int64} {J : Nat → Nat → Int64} {Ff : Nat → Int32} {If : Nat → Nat → Int32} {r : Int32} :
    ∀ (F : Nat → Int32) (I : Nat → Nat → Int32)  (H : Heap) (locs : List Loc) (ls : Array Slot), p_X8_person_b37 (F 1) (F 2) (F 3) (F 4) (I 4) (I 5) (I 6) (I 7) (I 8) (I 9)  = some (r, (Ff 1), (Ff 2), (Ff 3), (Ff 4), (If 6), (If 7), (If 8), (If 9)) → (∀ k, k ∉ ([1, 2, 3, 4] : List Nat) → Ff k = F k) → (∀ k, k ∉ ([6, 7, 8, 9] : List Nat) → If k = I k) → va_P D vwCl (wM a kc F G I J) H → va_S (ad a 21 s.heap.size) s.heap H locs → lv_has ls 3 [(0, .ref (a 0))] → W p l e rm_X8_person s m args below meth c H locs 0 0 (MQ below (Qi D (wM a kc Ff G If J) r (ad a 21 s.heap.size)) args s 0 0 (ad a 21 s.heap.size)) (F0 m 37 ls []) := by
  intro F I  H locs ls hf hfF hfI hP hS hl
  unfold p_X8_person_b37 at hf
  refine lv_bipush (v := (-2)) X.1 X.2.1 dX8_person_37 (by decide) ?_
  exact t_X8_person_b39 X F I (-2) H locs ls hf hfF hfI hP hS (lv_sub hl [0] rfl)
set_option maxHeartbeats 4000000 in
set_option maxRecDepth 100000 in
theorem t_X8_person_b0 {p : Program} {l : Launch} {e : Env} {s : State} {m : MethodId} {args : Array Value} {below : List Frame} {meth : Method} {c : Code} {D : va_G} {a : Nat → Nat} {kc : Nat → ClassId} (X : cx 21 p s m args meth c D (tyM kc) a cX8_person 3 RX8 (some .int)) {G : Nat → Int64} {J : Nat → Nat → Int64} {Ff : Nat → Int32} {If : Nat → Nat → Int32} {r : Int32} :
    ∀ (F : Nat → Int32) (I : Nat → Nat → Int32) (x1 : Int32) (x2 : Int32) (H : Heap) (locs : List Loc) (ls : Array Slot), p_X8_person_b0 (F 1) (F 2) (F 3) (F 4) (I 4) (I 5) (I 6) (I 7) (I 8) (I 9) x1 x2 = some (r, (Ff 1), (Ff 2), (Ff 3), (Ff 4), (If 6), (If 7), (If 8), (If 9)) → (∀ k, k ∉ ([1, 2, 3, 4] : List Nat) → Ff k = F k) → (∀ k, k ∉ ([6, 7, 8, 9] : List Nat) → If k = I k) → va_P D vwCl (wM a kc F G I J) H → va_S (ad a 21 s.heap.size) s.heap H locs → lv_has ls 3 [(0, .ref (a 0)), (1, .int x1), (2, .int x2)] → W p l e rm_X8_person s m args below meth c H locs 0 0 (MQ below (Qi D (wM a kc Ff G If J) r (ad a 21 s.heap.size)) args s 0 0 (ad a 21 s.heap.size)) (F0 m 0 ls []) := by
  intro F I x1 x2 H locs ls hf hfF hfI hP hS hl
  unfold p_X8_person_b0 at hf
  refine lv_aload_n X.1 X.2.1 dX8_person_0 rfl (lv_at hl 0 rfl) ?_
  refine lv_iload_n X.1 X.2.1 dX8_person_1 rfl (lv_at hl 1 rfl) ?_
  obtain ⟨r2, m_at_2, m_seats_2, m_rows_2, m_people_2, m_sorts_2, m_rowOf_2, m_own_2, m_kinds_2, ho, hf⟩ := b9_s hf
  refine call_vi (rest := []) X (c_X8_isPerson F G I J X.2.2.2.2.2.2.2.1 x1 ho) q_5_85 q_5_87 qs_yX8_isPerson q_1_10 q_5_88 ok_X8_isPerson rfl 0 rfl rfl ⟨Nat.le_of_ble_eq_true rfl, Nat.le_of_ble_eq_true rfl⟩ rfl rfl hl.1 rfl (Nat.le_of_ble_eq_true rfl) dX8_person_2 hP hS (fun H locs hP hS => ?_)
  refine lv_if_eq (tgt := 37) X.1 X.2.1 dX8_person_5 (by decide) (fun c5 => ?_) (fun c5 => ?_)
  · have hf := it_s hf c5
    exact t_X8_person_b37 X (va_up (va_up (va_up (va_up F 1 m_at_2) 2 m_seats_2) 3 m_rows_2) 4 m_people_2) (va_up (va_up (va_up (va_up I 6 m_sorts_2) 7 m_rowOf_2) 8 m_own_2) 9 m_kinds_2)  H locs ls hf (frm_up (frm_up (frm_up (frm_up hfF (by decide)) (by decide)) (by decide)) (by decide)) (frm_up (frm_up (frm_up (frm_up hfI (by decide)) (by decide)) (by decide)) (by decide)) hP hS (lv_sub hl [0] rfl)
  · have hf := ie_s hf c5
    refine lv_iload_n X.1 X.2.1 dX8_person_8 rfl (lv_at hl 2 rfl) ?_
    obtain ⟨r9, ho, hf⟩ := b1_s hf
    refine call_si (rest := []) X (c_X8_isTwo x2 ho) q_5_22 q_5_23 q_1_10 q_5_24 ok_X8_isTwo rfl ⟨Nat.le_of_ble_eq_true rfl, Nat.le_of_ble_eq_true rfl⟩ rfl rfl hl.1 rfl (Nat.le_of_ble_eq_true rfl) dX8_person_9 hP hS (fun H locs hP hS => ?_)
    refine lv_if_eq (tgt := 37) X.1 X.2.1 dX8_person_12 (by decide) (fun c12 => ?_) (fun c12 => ?_)
    · have hf := it_s hf c12
      exact t_X8_person_b37 X (va_up (va_up (va_up (va_up F 1 m_at_2) 2 m_seats_2) 3 m_rows_2) 4 m_people_2) (va_up (va_up (va_up (va_up I 6 m_sorts_2) 7 m_rowOf_2) 8 m_own_2) 9 m_kinds_2)  H locs ls hf (frm_up (frm_up (frm_up (frm_up hfF (by decide)) (by decide)) (by decide)) (by decide)) (frm_up (frm_up (frm_up (frm_up hfI (by decide)) (by decide)) (by decide)) (by decide)) hP hS (lv_sub hl [0] rfl)
    · have hf := ie_s hf c12
      refine lv_iload_n X.1 X.2.1 dX8_person_15 rfl (lv_at hl 2 rfl) ?_
      refine lv_if_ne (tgt := 28) X.1 X.2.1 dX8_person_16 (by decide) (fun c16 => ?_) (fun c16 => ?_)
      · have hf := ie_s hf c16
        refine lv_aload_n X.1 X.2.1 dX8_person_28 rfl (lv_at hl 0 rfl) ?_
        refine gM_0_14 X q_4_123 dX8_person_29 hP ?_
        refine lv_iload_n X.1 X.2.1 dX8_person_32 rfl (lv_at hl 1 rfl) ?_
        obtain ⟨h33, hf⟩ := gd_s hf
        refine lM_10 (I := (va_up (va_up (va_up (va_up I 6 m_sorts_2) 7 m_rowOf_2) 8 m_own_2) 9 m_kinds_2)) X (f := m_kinds_2) rfl h33 dX8_person_33 hP ?_
        refine lv_goto (tgt := 39) X.1 X.2.1 dX8_person_34 (by decide) ?_
        exact t_X8_person_b39 X (va_up (va_up (va_up (va_up F 1 m_at_2) 2 m_seats_2) 3 m_rows_2) 4 m_people_2) (va_up (va_up (va_up (va_up I 6 m_sorts_2) 7 m_rowOf_2) 8 m_own_2) 9 m_kinds_2) (m_kinds_2 x1.toNatClampNeg) H locs ls hf (frm_up (frm_up (frm_up (frm_up hfF (by decide)) (by decide)) (by decide)) (by decide)) (frm_up (frm_up (frm_up (frm_up hfI (by decide)) (by decide)) (by decide)) (by decide)) hP hS (lv_sub hl [0] rfl)
      · have hf := it_s hf c16
        refine lv_aload_n X.1 X.2.1 dX8_person_19 rfl (lv_at hl 0 rfl) ?_
        refine gM_0_13 X q_4_122 dX8_person_20 hP ?_
        refine lv_iload_n X.1 X.2.1 dX8_person_23 rfl (lv_at hl 1 rfl) ?_
        obtain ⟨h24, hf⟩ := gd_s hf
        refine lM_9 (I := (va_up (va_up (va_up (va_up I 6 m_sorts_2) 7 m_rowOf_2) 8 m_own_2) 9 m_kinds_2)) X (f := m_own_2) rfl h24 dX8_person_24 hP ?_
        refine lv_goto (tgt := 39) X.1 X.2.1 dX8_person_25 (by decide) ?_
        exact t_X8_person_b39 X (va_up (va_up (va_up (va_up F 1 m_at_2) 2 m_seats_2) 3 m_rows_2) 4 m_people_2) (va_up (va_up (va_up (va_up I 6 m_sorts_2) 7 m_rowOf_2) 8 m_own_2) 9 m_kinds_2) (m_own_2 x1.toNatClampNeg) H locs ls hf (frm_up (frm_up (frm_up (frm_up hfF (by decide)) (by decide)) (by decide)) (by decide)) (frm_up (frm_up (frm_up (frm_up hfI (by decide)) (by decide)) (by decide)) (by decide)) hP hS (lv_sub hl [0] rfl)
set_option maxRecDepth 100000 in
theorem c_X8_person {l : Launch} {D : va_G} {a : Nat → Nat} {kc : Nat → ClassId} (F : Nat → Int32) (G : Nat → Int64) (I : Nat → Nat → Int32) (J : Nat → Nat → Int64) (hAp : ∀ i j, i < 21 → j < 21 → a i = a j → i = j) (x1 : Int32) (x2 : Int32) {o0 : Int32} {o1 : Int32} {o2 : Int32} {o3 : Int32} {o4 : Int32} {o5 : Nat → Int32} {o6 : Nat → Int32} {o7 : Nat → Int32} {o8 : Nat → Int32} (hf : p_X8_person (F 1) (F 2) (F 3) (F 4) (I 4) (I 5) (I 6) (I 7) (I 8) (I 9) x1 x2 = some (o0, o1, o2, o3, o4, o5, o6, o7, o8)) : Ct 21 l yX8_person cX8_person 3 (some .int) rm_X8_person D (tyM kc) a (wM a kc F G I J) [.ref (a 0), .int x1, .int x2] (Qi D (wM a kc (va_up (va_up (va_up (va_up F 1 o1) 2 o2) 3 o3) 4 o4) G (va_up (va_up (va_up (va_up I 6 o5) 7 o6) 8 o7) 9 o8) J) o0) :=
  Ct.of (by decide +kernel) hAp (Nat.le_of_ble_eq_true rfl) (fun p e s m args below meth c ls X hP hl => t_X8_person_b0 X F I x1 x2 _ _ _ hf (frm_ul (frm_ul (frm_ul (frm_ul (fun k _ => rfl) (by decide)) (by decide)) (by decide)) (by decide)) (frm_ul (frm_ul (frm_ul (frm_ul (fun k _ => rfl) (by decide)) (by decide)) (by decide)) (by decide)) hP va_S.rf hl)
abbrev rm_X8_whole : Room := { frames := 0, cells := 0, slots := 0, locals := 0 }
set_option maxHeartbeats 4000000 in
set_option maxRecDepth 100000 in
theorem t_X8_whole_b0 {p : Program} {l : Launch} {e : Env} {s : State} {m : MethodId} {args : Array Value} {below : List Frame} {meth : Method} {c : Code} {D : va_G} {a : Nat → Nat} {kc : Nat → ClassId} (X : cx 21 p s m args meth c D (tyM kc) a cX8_whole 1 RX8 (some .int)) {F : Nat → Int32} {G : Nat → Int64} {I : Nat → Nat → Int32} {J : Nat → Nat → Int64}  {r : Int32} :
    ∀   (H : Heap) (locs : List Loc) (ls : Array Slot), p_X8_whole_b0 (F 2)  = some r → va_P D vwCl (wM a kc F G I J) H → va_S (ad a 21 s.heap.size) s.heap H locs → lv_has ls 1 [(0, .ref (a 0))] → W p l e rm_X8_whole s m args below meth c H locs 0 0 (MQ below (Qi D (wM a kc F G I J) r (ad a 21 s.heap.size)) args s 0 0 (ad a 21 s.heap.size)) (F0 m 0 ls []) := by
  intro   H locs ls hf  hP hS hl
  unfold p_X8_whole_b0 at hf
  refine lv_iconst (v := 1) X.1 X.2.1 dX8_whole_0 (by decide) ?_
  refine lv_aload_n X.1 X.2.1 dX8_whole_1 rfl (lv_at hl 0 rfl) ?_
  refine gM_0_8 (F := F) X (v := (F 2)) rfl q_4_117 dX8_whole_2 hP ?_
  refine lv_ishl X.1 X.2.1 dX8_whole_5 ?_
  refine lv_iconst (v := 1) X.1 X.2.1 dX8_whole_6 (by decide) ?_
  refine lv_isub X.1 X.2.1 dX8_whole_7 ?_
  have e0 := o1 hf
  exact ret_i X hS hP e0 dX8_whole_8
set_option maxRecDepth 100000 in
theorem c_X8_whole {l : Launch} {D : va_G} {a : Nat → Nat} {kc : Nat → ClassId} (F : Nat → Int32) (G : Nat → Int64) (I : Nat → Nat → Int32) (J : Nat → Nat → Int64) (hAp : ∀ i j, i < 21 → j < 21 → a i = a j → i = j)  {o0 : Int32} (hf : p_X8_whole (F 2)  = some o0) : Ct 21 l yX8_whole cX8_whole 1 (some .int) rm_X8_whole D (tyM kc) a (wM a kc F G I J) [.ref (a 0)] (Qi D (wM a kc F G I J) o0) :=
  Ct.of (by decide +kernel) hAp (Nat.le_of_ble_eq_true rfl) (fun p e s m args below meth c ls X hP hl => t_X8_whole_b0 X   _ _ _ hf  hP va_S.rf hl)
abbrev rm_X8_ofSort : Room := { frames := 0, cells := 0, slots := 0, locals := 0 }
set_option maxHeartbeats 4000000 in
set_option maxRecDepth 100000 in
theorem t_X8_ofSort_b30 {p : Program} {l : Launch} {e : Env} {s : State} {m : MethodId} {args : Array Value} {below : List Frame} {meth : Method} {c : Code} {D : va_G} {a : Nat → Nat} {kc : Nat → ClassId} (X : cx 21 p s m args meth c D (tyM kc) a cX8_ofSort 4 RX8 (some .int)) {F : Nat → Int32} {G : Nat → Int64} {I : Nat → Nat → Int32} {J : Nat → Nat → Int64}  {r : Int32} {K4 : Int32 → (Nat → Int32) → Int32 → Int32 → Int32 → Option (Int32)} (kh4 : ∀  (x1 : Int32) (x2 : Int32) (x3 : Int32) (H : Heap) (locs : List Loc) (ls : Array Slot), K4 (F 2) (I 6) x1 x2 x3 = some r → va_P D vwCl (wM a kc F G I J) H → va_S (ad a 21 s.heap.size) s.heap H locs → lv_has ls 4 [(0, .ref (a 0)), (1, .int x1), (2, .int x2), (3, .int x3)] → W p l e rm_X8_ofSort s m args below meth c H locs 0 0 (MQ below (Qi D (wM a kc F G I J) r (ad a 21 s.heap.size)) args s 0 0 (ad a 21 s.heap.size)) (F0 m 4 ls [])) :
    ∀  (t0 : Int32) (t1 : Int32) (x1 : Int32) (x3 : Int32) (H : Heap) (locs : List Loc) (ls : Array Slot), p_X8_ofSort_b30 K4 (F 2) (I 6) t0 t1 x1 x3 = some r → va_P D vwCl (wM a kc F G I J) H → va_S (ad a 21 s.heap.size) s.heap H locs → lv_has ls 4 [(0, .ref (a 0)), (1, .int x1), (3, .int x3)] → W p l e rm_X8_ofSort s m args below meth c H locs 0 0 (MQ below (Qi D (wM a kc F G I J) r (ad a 21 s.heap.size)) args s 0 0 (ad a 21 s.heap.size)) (F0 m 30 ls [.int t1, .int t0]) := by
  intro  t0 t1 x1 x3 H locs ls hf  hP hS hl
  unfold p_X8_ofSort_b30 at hf
  refine lv_ior X.1 X.2.1 dX8_ofSort_30 ?_
  refine nm_i hf (fun x31 hf => ?_)
  refine lv_istore_n (lv' := [(2, .int x31), (0, .ref (a 0)), (1, .int x1), (3, .int x3)]) X.1 X.2.1 dX8_ofSort_31 rfl hl (by decide) rfl (fun ls hl => ?_)
  obtain ⟨x32, ex32, hf⟩ := nm_x hf
  refine lv_iinc (v := x32) (lv' := [(3, .int x32), (2, .int x31), (0, .ref (a 0)), (1, .int x1)]) X.1 X.2.1 dX8_ofSort_32 hl (k := 3) rfl ex32 (by decide) rfl (fun ls hl => ?_)
  refine lv_goto (tgt := 4) X.1 X.2.1 dX8_ofSort_35 (by decide) ?_
  exact kh4  x1 x31 x32 H locs ls hf  hP hS (lv_sub hl [2, 3, 1, 0] rfl)
set_option maxHeartbeats 4000000 in
set_option maxRecDepth 100000 in
theorem t_X8_ofSort_b4x {p : Program} {l : Launch} {e : Env} {s : State} {m : MethodId} {args : Array Value} {below : List Frame} {meth : Method} {c : Code} {D : va_G} {a : Nat → Nat} {kc : Nat → ClassId} (X : cx 21 p s m args meth c D (tyM kc) a cX8_ofSort 4 RX8 (some .int)) {F : Nat → Int32} {G : Nat → Int64} {I : Nat → Nat → Int32} {J : Nat → Nat → Int64}  {r : Int32} {K4 : Int32 → (Nat → Int32) → Int32 → Int32 → Int32 → Option (Int32)} (kh4 : ∀  (x1 : Int32) (x2 : Int32) (x3 : Int32) (H : Heap) (locs : List Loc) (ls : Array Slot), K4 (F 2) (I 6) x1 x2 x3 = some r → va_P D vwCl (wM a kc F G I J) H → va_S (ad a 21 s.heap.size) s.heap H locs → lv_has ls 4 [(0, .ref (a 0)), (1, .int x1), (2, .int x2), (3, .int x3)] → W p l e rm_X8_ofSort s m args below meth c H locs 0 0 (MQ below (Qi D (wM a kc F G I J) r (ad a 21 s.heap.size)) args s 0 0 (ad a 21 s.heap.size)) (F0 m 4 ls [])) :
    ∀  (x1 : Int32) (x2 : Int32) (x3 : Int32) (H : Heap) (locs : List Loc) (ls : Array Slot), p_X8_ofSort_b4x K4 (F 2) (I 6) x1 x2 x3 = some r → va_P D vwCl (wM a kc F G I J) H → va_S (ad a 21 s.heap.size) s.heap H locs → lv_has ls 4 [(0, .ref (a 0)), (1, .int x1), (2, .int x2), (3, .int x3)] → W p l e rm_X8_ofSort s m args below meth c H locs 0 0 (MQ below (Qi D (wM a kc F G I J) r (ad a 21 s.heap.size)) args s 0 0 (ad a 21 s.heap.size)) (F0 m 4 ls []) := by
  intro  x1 x2 x3 H locs ls hf  hP hS hl
  unfold p_X8_ofSort_b4x at hf
  refine lv_iload_n X.1 X.2.1 dX8_ofSort_4 rfl (lv_at hl 3 rfl) ?_
  refine lv_aload_n X.1 X.2.1 dX8_ofSort_5 rfl (lv_at hl 0 rfl) ?_
  refine gM_0_8 (F := F) X (v := (F 2)) rfl q_4_117 dX8_ofSort_6 hP ?_
  refine lv_icmp_ge (tgt := 38) X.1 X.2.1 dX8_ofSort_9 (by decide) (fun c9 => ?_) (fun c9 => ?_)
  · have hf := it_s hf c9
    refine lv_iload_n X.1 X.2.1 dX8_ofSort_38 rfl (lv_at hl 2 rfl) ?_
    have e0 := o1 hf
    exact ret_i X hS hP e0 dX8_ofSort_39
  · have hf := ie_s hf c9
    refine lv_iload_n X.1 X.2.1 dX8_ofSort_12 rfl (lv_at hl 2 rfl) ?_
    refine lv_aload_n X.1 X.2.1 dX8_ofSort_13 rfl (lv_at hl 0 rfl) ?_
    refine gM_0_10 X q_4_119 dX8_ofSort_14 hP ?_
    refine lv_iload_n X.1 X.2.1 dX8_ofSort_17 rfl (lv_at hl 3 rfl) ?_
    obtain ⟨h18, hf⟩ := gd_s hf
    refine lM_7 (I := I) X (f := (I 6)) rfl h18 dX8_ofSort_18 hP ?_
    refine lv_iload_n X.1 X.2.1 dX8_ofSort_19 rfl (lv_at hl 1 rfl) ?_
    refine lv_icmp_ne (tgt := 29) X.1 X.2.1 dX8_ofSort_20 (by decide) (fun c20 => ?_) (fun c20 => ?_)
    · have hf := ie_s hf c20
      refine lv_iconst (v := 0) X.1 X.2.1 dX8_ofSort_29 (by decide) ?_
      exact t_X8_ofSort_b30 X kh4  x2 0 x1 x3 H locs ls hf  hP hS (lv_sub hl [0, 1, 3] rfl)
    · have hf := it_s hf c20
      refine lv_iconst (v := 1) X.1 X.2.1 dX8_ofSort_23 (by decide) ?_
      refine lv_iload_n X.1 X.2.1 dX8_ofSort_24 rfl (lv_at hl 3 rfl) ?_
      refine lv_ishl X.1 X.2.1 dX8_ofSort_25 ?_
      refine lv_goto (tgt := 30) X.1 X.2.1 dX8_ofSort_26 (by decide) ?_
      exact t_X8_ofSort_b30 X kh4  x2 ((1 : Int32) <<< (x3 &&& 31)) x1 x3 H locs ls hf  hP hS (lv_sub hl [0, 1, 3] rfl)
set_option maxRecDepth 100000 in
theorem t_X8_ofSort_b4 {p : Program} {l : Launch} {e : Env} {s : State} {m : MethodId} {args : Array Value} {below : List Frame} {meth : Method} {c : Code} {D : va_G} {a : Nat → Nat} {kc : Nat → ClassId} (X : cx 21 p s m args meth c D (tyM kc) a cX8_ofSort 4 RX8 (some .int)) {F : Nat → Int32} {G : Nat → Int64} {I : Nat → Nat → Int32} {J : Nat → Nat → Int64}  {r : Int32} :
    ∀ (n : Nat)  (x1 : Int32) (x2 : Int32) (x3 : Int32) (H : Heap) (locs : List Loc) (ls : Array Slot), p_X8_ofSort_b4 n (F 2) (I 6) x1 x2 x3 = some r → va_P D vwCl (wM a kc F G I J) H → va_S (ad a 21 s.heap.size) s.heap H locs → lv_has ls 4 [(0, .ref (a 0)), (1, .int x1), (2, .int x2), (3, .int x3)] → W p l e rm_X8_ofSort s m args below meth c H locs 0 0 (MQ below (Qi D (wM a kc F G I J) r (ad a 21 s.heap.size)) args s 0 0 (ad a 21 s.heap.size)) (F0 m 4 ls []) := by
  intro n
  induction n with
  | zero => intro  x1 x2 x3 H locs ls hf  hP hS hl; exact (nos hf).elim
  | succ n ih => exact t_X8_ofSort_b4x X ih
set_option maxHeartbeats 4000000 in
set_option maxRecDepth 100000 in
theorem t_X8_ofSort_b0 {p : Program} {l : Launch} {e : Env} {s : State} {m : MethodId} {args : Array Value} {below : List Frame} {meth : Method} {c : Code} {D : va_G} {a : Nat → Nat} {kc : Nat → ClassId} (X : cx 21 p s m args meth c D (tyM kc) a cX8_ofSort 4 RX8 (some .int)) {F : Nat → Int32} {G : Nat → Int64} {I : Nat → Nat → Int32} {J : Nat → Nat → Int64}  {r : Int32} :
    ∀  (x1 : Int32) (H : Heap) (locs : List Loc) (ls : Array Slot), p_X8_ofSort_b0 (F 2) (I 6) x1 = some r → va_P D vwCl (wM a kc F G I J) H → va_S (ad a 21 s.heap.size) s.heap H locs → lv_has ls 4 [(0, .ref (a 0)), (1, .int x1)] → W p l e rm_X8_ofSort s m args below meth c H locs 0 0 (MQ below (Qi D (wM a kc F G I J) r (ad a 21 s.heap.size)) args s 0 0 (ad a 21 s.heap.size)) (F0 m 0 ls []) := by
  intro  x1 H locs ls hf  hP hS hl
  unfold p_X8_ofSort_b0 at hf
  refine lv_iconst (v := 0) X.1 X.2.1 dX8_ofSort_0 (by decide) ?_
  refine lv_istore_n (lv' := [(2, .int 0), (0, .ref (a 0)), (1, .int x1)]) X.1 X.2.1 dX8_ofSort_1 rfl hl (by decide) rfl (fun ls hl => ?_)
  refine lv_iconst (v := 0) X.1 X.2.1 dX8_ofSort_2 (by decide) ?_
  refine lv_istore_n (lv' := [(3, .int 0), (2, .int 0), (0, .ref (a 0)), (1, .int x1)]) X.1 X.2.1 dX8_ofSort_3 rfl hl (by decide) rfl (fun ls hl => ?_)
  exact t_X8_ofSort_b4 X 4096  x1 0 0 H locs ls hf  hP hS (lv_sub hl [2, 3, 1, 0] rfl)
set_option maxRecDepth 100000 in
theorem c_X8_ofSort {l : Launch} {D : va_G} {a : Nat → Nat} {kc : Nat → ClassId} (F : Nat → Int32) (G : Nat → Int64) (I : Nat → Nat → Int32) (J : Nat → Nat → Int64) (hAp : ∀ i j, i < 21 → j < 21 → a i = a j → i = j) (x1 : Int32) {o0 : Int32} (hf : p_X8_ofSort (F 2) (I 6) x1 = some o0) : Ct 21 l yX8_ofSort cX8_ofSort 4 (some .int) rm_X8_ofSort D (tyM kc) a (wM a kc F G I J) [.ref (a 0), .int x1] (Qi D (wM a kc F G I J) o0) :=
  Ct.of (by decide +kernel) hAp (Nat.le_of_ble_eq_true rfl) (fun p e s m args below meth c ls X hP hl => t_X8_ofSort_b0 X  x1 _ _ _ hf  hP va_S.rf hl)
abbrev rm_X8_nextFree : Room := { frames := 1, cells := 0, slots := 0, locals := 21 }
set_option maxHeartbeats 4000000 in
set_option maxRecDepth 100000 in
theorem t_X8_nextFree_b2x {p : Program} {l : Launch} {e : Env} {s : State} {m : MethodId} {args : Array Value} {below : List Frame} {meth : Method} {c : Code} {D : va_G} {a : Nat → Nat} {kc : Nat → ClassId} (X : cx 21 p s m args meth c D (tyM kc) a cX8_nextFree 4 RX8 (some .int)) {F : Nat → Int32} {G : Nat → Int64} {I : Nat → Nat → Int32} {J : Nat → Nat → Int64}  {r : Int32} {K2 : Int32 → Int32 → Int32 → Option (Int32)} (kh2 : ∀  (x2 : Int32) (x3 : Int32) (H : Heap) (locs : List Loc) (ls : Array Slot), K2 (F 2) x2 x3 = some r → va_P D vwCl (wM a kc F G I J) H → va_S (ad a 21 s.heap.size) s.heap H locs → lv_has ls 4 [(0, .ref (a 0)), (2, .int x2), (3, .int x3)] → W p l e rm_X8_nextFree s m args below meth c H locs 0 0 (MQ below (Qi D (wM a kc F G I J) r (ad a 21 s.heap.size)) args s 0 0 (ad a 21 s.heap.size)) (F0 m 2 ls [])) :
    ∀  (x2 : Int32) (x3 : Int32) (H : Heap) (locs : List Loc) (ls : Array Slot), p_X8_nextFree_b2x K2 (F 2) x2 x3 = some r → va_P D vwCl (wM a kc F G I J) H → va_S (ad a 21 s.heap.size) s.heap H locs → lv_has ls 4 [(0, .ref (a 0)), (2, .int x2), (3, .int x3)] → W p l e rm_X8_nextFree s m args below meth c H locs 0 0 (MQ below (Qi D (wM a kc F G I J) r (ad a 21 s.heap.size)) args s 0 0 (ad a 21 s.heap.size)) (F0 m 2 ls []) := by
  intro  x2 x3 H locs ls hf  hP hS hl
  unfold p_X8_nextFree_b2x at hf
  refine lv_iload_n X.1 X.2.1 dX8_nextFree_2 rfl (lv_at hl 1 rfl) ?_
  refine lv_iload_n X.1 X.2.1 dX8_nextFree_3 rfl (lv_at hl 2 rfl) ?_
  obtain ⟨r4, ho, hf⟩ := b1_s hf
  refine call_si (rest := []) X (c_X8_isIn x2 x3 ho) q_5_133 q_5_134 q_1_10 q_5_135 ok_X8_isIn rfl ⟨Nat.le_of_ble_eq_true rfl, Nat.le_of_ble_eq_true rfl⟩ rfl rfl hl.1 rfl (Nat.le_of_ble_eq_true rfl) dX8_nextFree_4 hP hS (fun H locs hP hS => ?_)
  refine lv_if_ne (tgt := 22) X.1 X.2.1 dX8_nextFree_7 (by decide) (fun c7 => ?_) (fun c7 => ?_)
  · have hf := ie_s hf c7
    refine lv_iload_n X.1 X.2.1 dX8_nextFree_22 rfl (lv_at hl 2 rfl) ?_
    have e0 := o1 hf
    exact ret_i X hS hP e0 dX8_nextFree_23
  · have hf := it_s hf c7
    refine lv_iload_n X.1 X.2.1 dX8_nextFree_10 rfl (lv_at hl 2 rfl) ?_
    refine lv_iconst (v := 1) X.1 X.2.1 dX8_nextFree_11 (by decide) ?_
    refine lv_iadd X.1 X.2.1 dX8_nextFree_12 ?_
    refine lv_aload_n X.1 X.2.1 dX8_nextFree_13 rfl (lv_at hl 0 rfl) ?_
    refine gM_0_8 (F := F) X (v := (F 2)) rfl q_4_117 dX8_nextFree_14 hP ?_
    obtain ⟨h17, hf⟩ := gd_s hf
    refine lv_irem X.1 X.2.1 dX8_nextFree_17 (of_decide_eq_true h17) ?_
    refine nm_i hf (fun x18 hf => ?_)
    refine lv_istore_n (lv' := [(3, .int x18), (0, .ref (a 0)), (2, .int x2)]) X.1 X.2.1 dX8_nextFree_18 rfl hl (by decide) rfl (fun ls hl => ?_)
    refine lv_goto (tgt := 2) X.1 X.2.1 dX8_nextFree_19 (by decide) ?_
    exact kh2  x2 x18 H locs ls hf  hP hS (lv_sub hl [1, 2, 0] rfl)
set_option maxRecDepth 100000 in
theorem t_X8_nextFree_b2 {p : Program} {l : Launch} {e : Env} {s : State} {m : MethodId} {args : Array Value} {below : List Frame} {meth : Method} {c : Code} {D : va_G} {a : Nat → Nat} {kc : Nat → ClassId} (X : cx 21 p s m args meth c D (tyM kc) a cX8_nextFree 4 RX8 (some .int)) {F : Nat → Int32} {G : Nat → Int64} {I : Nat → Nat → Int32} {J : Nat → Nat → Int64}  {r : Int32} :
    ∀ (n : Nat)  (x2 : Int32) (x3 : Int32) (H : Heap) (locs : List Loc) (ls : Array Slot), p_X8_nextFree_b2 n (F 2) x2 x3 = some r → va_P D vwCl (wM a kc F G I J) H → va_S (ad a 21 s.heap.size) s.heap H locs → lv_has ls 4 [(0, .ref (a 0)), (2, .int x2), (3, .int x3)] → W p l e rm_X8_nextFree s m args below meth c H locs 0 0 (MQ below (Qi D (wM a kc F G I J) r (ad a 21 s.heap.size)) args s 0 0 (ad a 21 s.heap.size)) (F0 m 2 ls []) := by
  intro n
  induction n with
  | zero => intro  x2 x3 H locs ls hf  hP hS hl; exact (nos hf).elim
  | succ n ih => exact t_X8_nextFree_b2x X ih
set_option maxHeartbeats 4000000 in
set_option maxRecDepth 100000 in
theorem t_X8_nextFree_b0 {p : Program} {l : Launch} {e : Env} {s : State} {m : MethodId} {args : Array Value} {below : List Frame} {meth : Method} {c : Code} {D : va_G} {a : Nat → Nat} {kc : Nat → ClassId} (X : cx 21 p s m args meth c D (tyM kc) a cX8_nextFree 4 RX8 (some .int)) {F : Nat → Int32} {G : Nat → Int64} {I : Nat → Nat → Int32} {J : Nat → Nat → Int64}  {r : Int32} :
    ∀  (x1 : Int32) (x2 : Int32) (H : Heap) (locs : List Loc) (ls : Array Slot), p_X8_nextFree_b0 (F 2) x1 x2 = some r → va_P D vwCl (wM a kc F G I J) H → va_S (ad a 21 s.heap.size) s.heap H locs → lv_has ls 4 [(0, .ref (a 0)), (1, .int x1), (2, .int x2)] → W p l e rm_X8_nextFree s m args below meth c H locs 0 0 (MQ below (Qi D (wM a kc F G I J) r (ad a 21 s.heap.size)) args s 0 0 (ad a 21 s.heap.size)) (F0 m 0 ls []) := by
  intro  x1 x2 H locs ls hf  hP hS hl
  unfold p_X8_nextFree_b0 at hf
  refine lv_iload_n X.1 X.2.1 dX8_nextFree_0 rfl (lv_at hl 1 rfl) ?_
  refine lv_istore_n (lv' := [(3, .int x1), (0, .ref (a 0)), (1, .int x1), (2, .int x2)]) X.1 X.2.1 dX8_nextFree_1 rfl hl (by decide) rfl (fun ls hl => ?_)
  exact t_X8_nextFree_b2 X 4096  x2 x1 H locs ls hf  hP hS (lv_sub hl [1, 3, 0] rfl)
set_option maxRecDepth 100000 in
theorem c_X8_nextFree {l : Launch} {D : va_G} {a : Nat → Nat} {kc : Nat → ClassId} (F : Nat → Int32) (G : Nat → Int64) (I : Nat → Nat → Int32) (J : Nat → Nat → Int64) (hAp : ∀ i j, i < 21 → j < 21 → a i = a j → i = j) (x1 : Int32) (x2 : Int32) {o0 : Int32} (hf : p_X8_nextFree (F 2) x1 x2 = some o0) : Ct 21 l yX8_nextFree cX8_nextFree 4 (some .int) rm_X8_nextFree D (tyM kc) a (wM a kc F G I J) [.ref (a 0), .int x1, .int x2] (Qi D (wM a kc F G I J) o0) :=
  Ct.of (by decide +kernel) hAp (Nat.le_of_ble_eq_true rfl) (fun p e s m args below meth c ls X hP hl => t_X8_nextFree_b0 X  x1 x2 _ _ _ hf  hP va_S.rf hl)
abbrev rm_X8_choices : Room := { frames := 2, cells := 0, slots := 0, locals := 44 }
set_option maxHeartbeats 4000000 in
set_option maxRecDepth 100000 in
theorem t_X8_choices_b102 {p : Program} {l : Launch} {e : Env} {s : State} {m : MethodId} {args : Array Value} {below : List Frame} {meth : Method} {c : Code} {D : va_G} {a : Nat → Nat} {kc : Nat → ClassId} (X : cx 21 p s m args meth c D (tyM kc) a cX8_choices 6 RX8 (some .int)) {F : Nat → Int32} {G : Nat → Int64} {I : Nat → Nat → Int32} {J : Nat → Nat → Int64}  {r : Int32} :
    ∀  (t0 : Int32) (H : Heap) (locs : List Loc) (ls : Array Slot), p_X8_choices_b102 (F 2) (I 6) (I 8) t0 = some r → va_P D vwCl (wM a kc F G I J) H → va_S (ad a 21 s.heap.size) s.heap H locs → lv_has ls 6 [(0, .ref (a 0))] → W p l e rm_X8_choices s m args below meth c H locs 0 0 (MQ below (Qi D (wM a kc F G I J) r (ad a 21 s.heap.size)) args s 0 0 (ad a 21 s.heap.size)) (F0 m 102 ls [.int t0]) := by
  intro  t0 H locs ls hf  hP hS hl
  unfold p_X8_choices_b102 at hf
  have e0 := o1 hf
  exact ret_i X hS hP e0 dX8_choices_102
set_option maxHeartbeats 4000000 in
set_option maxRecDepth 100000 in
theorem t_X8_choices_b88 {p : Program} {l : Launch} {e : Env} {s : State} {m : MethodId} {args : Array Value} {below : List Frame} {meth : Method} {c : Code} {D : va_G} {a : Nat → Nat} {kc : Nat → ClassId} (X : cx 21 p s m args meth c D (tyM kc) a cX8_choices 6 RX8 (some .int)) {F : Nat → Int32} {G : Nat → Int64} {I : Nat → Nat → Int32} {J : Nat → Nat → Int64}  {r : Int32} :
    ∀  (t0 : Int32) (x4 : Int32) (H : Heap) (locs : List Loc) (ls : Array Slot), p_X8_choices_b88 (F 2) (I 6) (I 8) t0 x4 = some r → va_P D vwCl (wM a kc F G I J) H → va_S (ad a 21 s.heap.size) s.heap H locs → lv_has ls 6 [(0, .ref (a 0)), (4, .int x4)] → W p l e rm_X8_choices s m args below meth c H locs 0 0 (MQ below (Qi D (wM a kc F G I J) r (ad a 21 s.heap.size)) args s 0 0 (ad a 21 s.heap.size)) (F0 m 88 ls [.int t0]) := by
  intro  t0 x4 H locs ls hf  hP hS hl
  unfold p_X8_choices_b88 at hf
  refine lv_istore (lv' := [(5, .int t0), (0, .ref (a 0)), (4, .int x4)]) X.1 X.2.1 dX8_choices_88 hl (by decide) rfl (fun ls hl => ?_)
  refine lv_iload X.1 X.2.1 dX8_choices_90 (lv_at hl 0 rfl) ?_
  refine lv_if_eq (tgt := 100) X.1 X.2.1 dX8_choices_92 (by decide) (fun c92 => ?_) (fun c92 => ?_)
  · have hf := it_s hf c92
    refine lv_iload X.1 X.2.1 dX8_choices_100 (lv_at hl 2 rfl) ?_
    exact t_X8_choices_b102 X  x4 H locs ls hf  hP hS (lv_sub hl [1] rfl)
  · have hf := ie_s hf c92
    refine lv_iload X.1 X.2.1 dX8_choices_95 (lv_at hl 0 rfl) ?_
    refine lv_goto (tgt := 102) X.1 X.2.1 dX8_choices_97 (by decide) ?_
    exact t_X8_choices_b102 X  t0 H locs ls hf  hP hS (lv_sub hl [1] rfl)
set_option maxHeartbeats 4000000 in
set_option maxRecDepth 100000 in
theorem t_X8_choices_b0 {p : Program} {l : Launch} {e : Env} {s : State} {m : MethodId} {args : Array Value} {below : List Frame} {meth : Method} {c : Code} {D : va_G} {a : Nat → Nat} {kc : Nat → ClassId} (X : cx 21 p s m args meth c D (tyM kc) a cX8_choices 6 RX8 (some .int)) {F : Nat → Int32} {G : Nat → Int64} {I : Nat → Nat → Int32} {J : Nat → Nat → Int64}  {r : Int32} :
    ∀  (x1 : Int32) (x2 : Int32) (x3 : Int32) (H : Heap) (locs : List Loc) (ls : Array Slot), p_X8_choices_b0 (F 2) (I 6) (I 8) x1 x2 x3 = some r → va_P D vwCl (wM a kc F G I J) H → va_S (ad a 21 s.heap.size) s.heap H locs → lv_has ls 6 [(0, .ref (a 0)), (1, .int x1), (2, .int x2), (3, .int x3)] → W p l e rm_X8_choices s m args below meth c H locs 0 0 (MQ below (Qi D (wM a kc F G I J) r (ad a 21 s.heap.size)) args s 0 0 (ad a 21 s.heap.size)) (F0 m 0 ls []) := by
  intro  x1 x2 x3 H locs ls hf  hP hS hl
  unfold p_X8_choices_b0 at hf
  refine lv_aload_n X.1 X.2.1 dX8_choices_0 rfl (lv_at hl 0 rfl) ?_
  obtain ⟨r1, ho, hf⟩ := b1_s hf
  refine call_vi (rest := []) X (c_X8_whole F G I J X.2.2.2.2.2.2.2.1  ho) q_5_121 q_5_123 qs_yX8_whole q_1_10 q_5_124 ok_X8_whole rfl 0 rfl rfl ⟨Nat.le_of_ble_eq_true rfl, Nat.le_of_ble_eq_true rfl⟩ rfl rfl hl.1 rfl (Nat.le_of_ble_eq_true rfl) dX8_choices_1 hP hS (fun H locs hP hS => ?_)
  refine lv_iload_n X.1 X.2.1 dX8_choices_4 rfl (lv_at hl 3 rfl) ?_
  refine lv_iconst (v := (-1)) X.1 X.2.1 dX8_choices_5 (by decide) ?_
  refine lv_ixor X.1 X.2.1 dX8_choices_6 ?_
  refine lv_iand X.1 X.2.1 dX8_choices_7 ?_
  refine nm_i hf (fun x8 hf => ?_)
  refine lv_istore (lv' := [(4, .int x8), (0, .ref (a 0)), (1, .int x1), (2, .int x2), (3, .int x3)]) X.1 X.2.1 dX8_choices_8 hl (by decide) rfl (fun ls hl => ?_)
  refine lv_iload_n X.1 X.2.1 dX8_choices_10 rfl (lv_at hl 3 rfl) ?_
  refine lv_iconst (v := 1) X.1 X.2.1 dX8_choices_11 (by decide) ?_
  refine lv_icmp_ne (tgt := 18) X.1 X.2.1 dX8_choices_12 (by decide) (fun c12 => ?_) (fun c12 => ?_)
  · have hf := ie_s hf c12
    refine lv_iload X.1 X.2.1 dX8_choices_18 (lv_at hl 0 rfl) ?_
    refine lv_aload_n X.1 X.2.1 dX8_choices_20 rfl (lv_at hl 1 rfl) ?_
    refine gM_0_13 X q_4_122 dX8_choices_21 hP ?_
    refine lv_iload_n X.1 X.2.1 dX8_choices_24 rfl (lv_at hl 2 rfl) ?_
    obtain ⟨h25, hf⟩ := gd_s hf
    refine lM_9 (I := I) X (f := (I 8)) rfl h25 dX8_choices_25 hP ?_
    obtain ⟨r26, ho, hf⟩ := b1_s hf
    refine call_si (rest := []) X (c_X8_isIn x8 ((I 8) x1.toNatClampNeg) ho) q_5_133 q_5_134 q_1_10 q_5_135 ok_X8_isIn rfl ⟨Nat.le_of_ble_eq_true rfl, Nat.le_of_ble_eq_true rfl⟩ rfl rfl hl.1 rfl (Nat.le_of_ble_eq_true rfl) dX8_choices_26 hP hS (fun H locs hP hS => ?_)
    refine lv_if_eq (tgt := 41) X.1 X.2.1 dX8_choices_29 (by decide) (fun c29 => ?_) (fun c29 => ?_)
    · have hf := it_s hf c29
      refine lv_iload_n X.1 X.2.1 dX8_choices_41 rfl (lv_at hl 3 rfl) ?_
      refine lv_iconst (v := 2) X.1 X.2.1 dX8_choices_42 (by decide) ?_
      refine lv_icmp_ne (tgt := 61) X.1 X.2.1 dX8_choices_43 (by decide) (fun c43 => ?_) (fun c43 => ?_)
      · have hf := ie_s hf c43
        refine lv_iload_n X.1 X.2.1 dX8_choices_61 rfl (lv_at hl 3 rfl) ?_
        refine lv_iconst (v := 3) X.1 X.2.1 dX8_choices_62 (by decide) ?_
        refine lv_icmp_ne (tgt := 87) X.1 X.2.1 dX8_choices_63 (by decide) (fun c63 => ?_) (fun c63 => ?_)
        · have hf := ie_s hf c63
          refine lv_iconst (v := 0) X.1 X.2.1 dX8_choices_87 (by decide) ?_
          exact t_X8_choices_b88 X  0 x8 H locs ls hf  hP hS (lv_sub hl [1, 0] rfl)
        · have hf := it_s hf c63
          refine lv_iload X.1 X.2.1 dX8_choices_66 (lv_at hl 0 rfl) ?_
          refine lv_aload_n X.1 X.2.1 dX8_choices_68 rfl (lv_at hl 1 rfl) ?_
          refine lv_aload_n X.1 X.2.1 dX8_choices_69 rfl (lv_at hl 1 rfl) ?_
          refine gM_0_10 X q_4_119 dX8_choices_70 hP ?_
          refine lv_aload_n X.1 X.2.1 dX8_choices_73 rfl (lv_at hl 1 rfl) ?_
          refine gM_0_13 X q_4_122 dX8_choices_74 hP ?_
          refine lv_iload_n X.1 X.2.1 dX8_choices_77 rfl (lv_at hl 2 rfl) ?_
          obtain ⟨h78, hf⟩ := gd_s hf
          refine lM_9 (I := I) X (f := (I 8)) rfl h78 dX8_choices_78 hP ?_
          obtain ⟨h79, hf⟩ := gd_s hf
          refine lM_7 (I := I) X (f := (I 6)) rfl h79 dX8_choices_79 hP ?_
          obtain ⟨r80, ho, hf⟩ := b1_s hf
          refine call_vi (rest := [.int x8]) X (c_X8_ofSort F G I J X.2.2.2.2.2.2.2.1 ((I 6) ((I 8) x1.toNatClampNeg).toNatClampNeg) ho) q_5_140 q_5_142 qs_yX8_ofSort q_1_10 q_5_143 ok_X8_ofSort rfl 0 rfl rfl ⟨Nat.le_of_ble_eq_true rfl, Nat.le_of_ble_eq_true rfl⟩ rfl rfl hl.1 rfl (Nat.le_of_ble_eq_true rfl) dX8_choices_80 hP hS (fun H locs hP hS => ?_)
          refine lv_iand X.1 X.2.1 dX8_choices_83 ?_
          refine lv_goto (tgt := 88) X.1 X.2.1 dX8_choices_84 (by decide) ?_
          exact t_X8_choices_b88 X  (x8 &&& r80) x8 H locs ls hf  hP hS (lv_sub hl [1, 0] rfl)
      · have hf := it_s hf c43
        refine lv_iconst (v := 1) X.1 X.2.1 dX8_choices_46 (by decide) ?_
        refine lv_aload_n X.1 X.2.1 dX8_choices_47 rfl (lv_at hl 1 rfl) ?_
        refine lv_aload_n X.1 X.2.1 dX8_choices_48 rfl (lv_at hl 1 rfl) ?_
        refine gM_0_13 X q_4_122 dX8_choices_49 hP ?_
        refine lv_iload_n X.1 X.2.1 dX8_choices_52 rfl (lv_at hl 2 rfl) ?_
        obtain ⟨h53, hf⟩ := gd_s hf
        refine lM_9 (I := I) X (f := (I 8)) rfl h53 dX8_choices_53 hP ?_
        refine lv_iload X.1 X.2.1 dX8_choices_54 (lv_at hl 0 rfl) ?_
        obtain ⟨r56, ho, hf⟩ := b1_s hf
        refine call_vi (rest := [.int 1]) X (c_X8_nextFree F G I J X.2.2.2.2.2.2.2.1 ((I 8) x1.toNatClampNeg) x8 ho) q_5_136 q_5_138 qs_yX8_nextFree q_1_10 q_5_139 ok_X8_nextFree rfl 0 rfl rfl ⟨Nat.le_of_ble_eq_true rfl, Nat.le_of_ble_eq_true rfl⟩ rfl rfl hl.1 rfl (Nat.le_of_ble_eq_true rfl) dX8_choices_56 hP hS (fun H locs hP hS => ?_)
        refine lv_ishl X.1 X.2.1 dX8_choices_59 ?_
        have e0 := o1 hf
        exact ret_i X hS hP e0 dX8_choices_60
    · have hf := ie_s hf c29
      refine lv_iconst (v := 1) X.1 X.2.1 dX8_choices_32 (by decide) ?_
      refine lv_aload_n X.1 X.2.1 dX8_choices_33 rfl (lv_at hl 1 rfl) ?_
      refine gM_0_13 X q_4_122 dX8_choices_34 hP ?_
      refine lv_iload_n X.1 X.2.1 dX8_choices_37 rfl (lv_at hl 2 rfl) ?_
      obtain ⟨h38, hf⟩ := gd_s hf
      refine lM_9 (I := I) X (f := (I 8)) rfl h38 dX8_choices_38 hP ?_
      refine lv_ishl X.1 X.2.1 dX8_choices_39 ?_
      have e0 := o1 hf
      exact ret_i X hS hP e0 dX8_choices_40
  · have hf := it_s hf c12
    refine lv_iload X.1 X.2.1 dX8_choices_15 (lv_at hl 0 rfl) ?_
    have e0 := o1 hf
    exact ret_i X hS hP e0 dX8_choices_17
set_option maxRecDepth 100000 in
theorem c_X8_choices {l : Launch} {D : va_G} {a : Nat → Nat} {kc : Nat → ClassId} (F : Nat → Int32) (G : Nat → Int64) (I : Nat → Nat → Int32) (J : Nat → Nat → Int64) (hAp : ∀ i j, i < 21 → j < 21 → a i = a j → i = j) (x1 : Int32) (x2 : Int32) (x3 : Int32) {o0 : Int32} (hf : p_X8_choices (F 2) (I 6) (I 8) x1 x2 x3 = some o0) : Ct 21 l yX8_choices cX8_choices 6 (some .int) rm_X8_choices D (tyM kc) a (wM a kc F G I J) [.ref (a 0), .int x1, .int x2, .int x3] (Qi D (wM a kc F G I J) o0) :=
  Ct.of (by decide +kernel) hAp (Nat.le_of_ble_eq_true rfl) (fun p e s m args below meth c ls X hP hl => t_X8_choices_b0 X  x1 x2 x3 _ _ _ hf  hP va_S.rf hl)
abbrev rm_X8_partsOf : Room := { frames := 0, cells := 0, slots := 0, locals := 0 }
set_option maxHeartbeats 4000000 in
set_option maxRecDepth 100000 in
theorem t_X8_partsOf_b59 {p : Program} {l : Launch} {e : Env} {s : State} {m : MethodId} {args : Array Value} {below : List Frame} {meth : Method} {c : Code} {D : va_G} {a : Nat → Nat} (X : cx 0 p s m args meth c D [] a cX8_partsOf 1 RX8 (some .long))   {r : Int64} :
    ∀  (t0 : Int64) (H : Heap) (locs : List Loc) (ls : Array Slot), p_X8_partsOf_b59  t0 = some r → va_P D vwCl [] H → va_S (ad a 0 s.heap.size) s.heap H locs → lv_has ls 1 [] → W p l e rm_X8_partsOf s m args below meth c H locs 0 0 (MQ below (Ql D [] r (ad a 0 s.heap.size)) args s 0 0 (ad a 0 s.heap.size)) (F0 m 59 ls [.long t0]) := by
  intro  t0 H locs ls hf  hP hS hl
  unfold p_X8_partsOf_b59 at hf
  have e0 := o1 hf
  exact ret_l X hS hP e0 dX8_partsOf_59
set_option maxHeartbeats 4000000 in
set_option maxRecDepth 100000 in
theorem t_X8_partsOf_b0 {p : Program} {l : Launch} {e : Env} {s : State} {m : MethodId} {args : Array Value} {below : List Frame} {meth : Method} {c : Code} {D : va_G} {a : Nat → Nat} (X : cx 0 p s m args meth c D [] a cX8_partsOf 1 RX8 (some .long))   {r : Int64} :
    ∀  (x0 : Int32) (H : Heap) (locs : List Loc) (ls : Array Slot), p_X8_partsOf_b0  x0 = some r → va_P D vwCl [] H → va_S (ad a 0 s.heap.size) s.heap H locs → lv_has ls 1 [(0, .int x0)] → W p l e rm_X8_partsOf s m args below meth c H locs 0 0 (MQ below (Ql D [] r (ad a 0 s.heap.size)) args s 0 0 (ad a 0 s.heap.size)) (F0 m 0 ls []) := by
  intro  x0 H locs ls hf  hP hS hl
  unfold p_X8_partsOf_b0 at hf
  refine lv_iload_n X.1 X.2.1 dX8_partsOf_0 rfl (lv_at hl 0 rfl) ?_
  refine lv_bipush (v := 8) X.1 X.2.1 dX8_partsOf_1 (by decide) ?_
  refine lv_icmp_ne (tgt := 12) X.1 X.2.1 dX8_partsOf_3 (by decide) (fun c3 => ?_) (fun c3 => ?_)
  · have hf := ie_s hf c3
    refine lv_iload_n X.1 X.2.1 dX8_partsOf_12 rfl (lv_at hl 0 rfl) ?_
    refine lv_bipush (v := 7) X.1 X.2.1 dX8_partsOf_13 (by decide) ?_
    refine lv_icmp_ne (tgt := 24) X.1 X.2.1 dX8_partsOf_15 (by decide) (fun c15 => ?_) (fun c15 => ?_)
    · have hf := ie_s hf c15
      refine lv_iload_n X.1 X.2.1 dX8_partsOf_24 rfl (lv_at hl 0 rfl) ?_
      refine lv_iconst (v := 4) X.1 X.2.1 dX8_partsOf_25 (by decide) ?_
      refine lv_icmp_le (tgt := 35) X.1 X.2.1 dX8_partsOf_26 (by decide) (fun c26 => ?_) (fun c26 => ?_)
      · have hf := it_s hf c26
        refine lv_iload_n X.1 X.2.1 dX8_partsOf_35 rfl (lv_at hl 0 rfl) ?_
        refine lv_iconst (v := 4) X.1 X.2.1 dX8_partsOf_36 (by decide) ?_
        refine lv_icmp_ne (tgt := 46) X.1 X.2.1 dX8_partsOf_37 (by decide) (fun c37 => ?_) (fun c37 => ?_)
        · have hf := ie_s hf c37
          refine lv_iload_n X.1 X.2.1 dX8_partsOf_46 rfl (lv_at hl 0 rfl) ?_
          refine lv_iconst (v := 3) X.1 X.2.1 dX8_partsOf_47 (by decide) ?_
          refine lv_icmp_ne (tgt := 57) X.1 X.2.1 dX8_partsOf_48 (by decide) (fun c48 => ?_) (fun c48 => ?_)
          · have hf := ie_s hf c48
            refine lv_iload_n X.1 X.2.1 dX8_partsOf_57 rfl (lv_at hl 0 rfl) ?_
            refine lv_i2l X.1 X.2.1 dX8_partsOf_58 rfl ?_
            exact t_X8_partsOf_b59 X  x0.toInt64 H locs ls hf  hP hS (lv_sub hl [] rfl)
          · have hf := it_s hf c48
            refine lv_ldc2 (v := 6) X.1 X.2.1 X.2.2.2.2.1 (X.2.2.2.2.2.1 _ q_5_120) dX8_partsOf_51 ?_
            refine lv_goto (tgt := 59) X.1 X.2.1 dX8_partsOf_54 (by decide) ?_
            exact t_X8_partsOf_b59 X  6 H locs ls hf  hP hS (lv_sub hl [] rfl)
        · have hf := it_s hf c37
          refine lv_ldc2 (v := 12) X.1 X.2.1 X.2.2.2.2.1 (X.2.2.2.2.2.1 _ q_5_119) dX8_partsOf_40 ?_
          refine lv_goto (tgt := 59) X.1 X.2.1 dX8_partsOf_43 (by decide) ?_
          exact t_X8_partsOf_b59 X  12 H locs ls hf  hP hS (lv_sub hl [] rfl)
      · have hf := ie_s hf c26
        refine lv_ldc2 (v := 60) X.1 X.2.1 X.2.2.2.2.1 (X.2.2.2.2.2.1 _ q_5_118) dX8_partsOf_29 ?_
        refine lv_goto (tgt := 59) X.1 X.2.1 dX8_partsOf_32 (by decide) ?_
        exact t_X8_partsOf_b59 X  60 H locs ls hf  hP hS (lv_sub hl [] rfl)
    · have hf := it_s hf c15
      refine lv_ldc2 (v := 420) X.1 X.2.1 X.2.2.2.2.1 (X.2.2.2.2.2.1 _ q_5_117) dX8_partsOf_18 ?_
      refine lv_goto (tgt := 59) X.1 X.2.1 dX8_partsOf_21 (by decide) ?_
      exact t_X8_partsOf_b59 X  420 H locs ls hf  hP hS (lv_sub hl [] rfl)
  · have hf := it_s hf c3
    refine lv_ldc2 (v := 840) X.1 X.2.1 X.2.2.2.2.1 (X.2.2.2.2.2.1 _ q_5_116) dX8_partsOf_6 ?_
    refine lv_goto (tgt := 59) X.1 X.2.1 dX8_partsOf_9 (by decide) ?_
    exact t_X8_partsOf_b59 X  840 H locs ls hf  hP hS (lv_sub hl [] rfl)
set_option maxRecDepth 100000 in
theorem c_X8_partsOf {l : Launch} {D : va_G} {a : Nat → Nat}  (x0 : Int32) {o0 : Int64} (hf : p_X8_partsOf  x0 = some o0) : Ct 0 l yX8_partsOf cX8_partsOf 1 (some .long) rm_X8_partsOf D [] a [] [.int x0] (Ql D [] o0) :=
  Ct.of (by decide +kernel) (fun i j h => absurd h (Nat.not_lt_zero i)) (Nat.le_of_ble_eq_true rfl) (fun p e s m args below meth c ls X hP hl => t_X8_partsOf_b0 X  x0 _ _ _ hf  hP va_S.rf hl)
abbrev rm_X8_begins : Room := { frames := 0, cells := 0, slots := 0, locals := 0 }
set_option maxHeartbeats 4000000 in
set_option maxRecDepth 100000 in
theorem t_X8_begins_b23 {p : Program} {l : Launch} {e : Env} {s : State} {m : MethodId} {args : Array Value} {below : List Frame} {meth : Method} {c : Code} {D : va_G} {a : Nat → Nat} {kc : Nat → ClassId} (X : cx 21 p s m args meth c D (tyM kc) a cX8_begins 2 RX8 none) {F : Nat → Int32} {I : Nat → Nat → Int32} {Gf : Nat → Int64} {Jf : Nat → Nat → Int64}  {K2 : Int64 → (Nat → Int64) → Int32 → Option (Int64 × (Nat → Int64))} (kh2 : ∀ (G : Nat → Int64) (J : Nat → Nat → Int64) (x1 : Int32) (H : Heap) (locs : List Loc) (ls : Array Slot), K2 (G 0) (J 0) x1 = some ((Gf 0), (Jf 0)) → (∀ k, k ∉ ([0] : List Nat) → Gf k = G k) → (∀ k, k ∉ ([0] : List Nat) → Jf k = J k) → va_P D vwCl (wM a kc F G I J) H → va_S (ad a 21 s.heap.size) s.heap H locs → lv_has ls 2 [(0, .ref (a 0)), (1, .int x1)] → W p l e rm_X8_begins s m args below meth c H locs 0 0 (MQ below (Qv D (wM a kc F Gf I Jf) (ad a 21 s.heap.size)) args s 0 0 (ad a 21 s.heap.size)) (F0 m 2 ls [])) :
    ∀ (G : Nat → Int64) (J : Nat → Nat → Int64) (t1 : Int32) (t2 : Int64) (x1 : Int32) (H : Heap) (locs : List Loc) (ls : Array Slot), p_X8_begins_b23 K2 (G 0) (J 0) t1 t2 x1 = some ((Gf 0), (Jf 0)) → (∀ k, k ∉ ([0] : List Nat) → Gf k = G k) → (∀ k, k ∉ ([0] : List Nat) → Jf k = J k) → va_P D vwCl (wM a kc F G I J) H → va_S (ad a 21 s.heap.size) s.heap H locs → lv_has ls 2 [(0, .ref (a 0)), (1, .int x1)] → W p l e rm_X8_begins s m args below meth c H locs 0 0 (MQ below (Qv D (wM a kc F Gf I Jf) (ad a 21 s.heap.size)) args s 0 0 (ad a 21 s.heap.size)) (F0 m 23 ls [.long t2, .int t1, .ref (a 11)]) := by
  intro G J t1 t2 x1 H locs ls hf hfG hfJ hP hS hl
  unfold p_X8_begins_b23 at hf
  obtain ⟨h23, hf⟩ := gd_s hf
  obtain ⟨m_ways_23, em_ways_23, hf⟩ := nm_x hf
  refine sM_11 (J := J) X h23 em_ways_23 dX8_begins_23 hP hS (fun H locs hP hS => ?_)
  obtain ⟨x24, ex24, hf⟩ := nm_x hf
  refine lv_iinc (v := x24) (lv' := [(1, .int x24), (0, .ref (a 0))]) X.1 X.2.1 dX8_begins_24 hl (k := 1) rfl ex24 (by decide) rfl (fun ls hl => ?_)
  refine lv_goto (tgt := 2) X.1 X.2.1 dX8_begins_27 (by decide) ?_
  exact kh2 G (va_up J 0 m_ways_23) x24 H locs ls hf hfG (frm_up hfJ (by decide)) hP hS (lv_sub hl [1, 0] rfl)
set_option maxHeartbeats 4000000 in
set_option maxRecDepth 100000 in
theorem t_X8_begins_b2x {p : Program} {l : Launch} {e : Env} {s : State} {m : MethodId} {args : Array Value} {below : List Frame} {meth : Method} {c : Code} {D : va_G} {a : Nat → Nat} {kc : Nat → ClassId} (X : cx 21 p s m args meth c D (tyM kc) a cX8_begins 2 RX8 none) {F : Nat → Int32} {I : Nat → Nat → Int32} {Gf : Nat → Int64} {Jf : Nat → Nat → Int64}  {K2 : Int64 → (Nat → Int64) → Int32 → Option (Int64 × (Nat → Int64))} (kh2 : ∀ (G : Nat → Int64) (J : Nat → Nat → Int64) (x1 : Int32) (H : Heap) (locs : List Loc) (ls : Array Slot), K2 (G 0) (J 0) x1 = some ((Gf 0), (Jf 0)) → (∀ k, k ∉ ([0] : List Nat) → Gf k = G k) → (∀ k, k ∉ ([0] : List Nat) → Jf k = J k) → va_P D vwCl (wM a kc F G I J) H → va_S (ad a 21 s.heap.size) s.heap H locs → lv_has ls 2 [(0, .ref (a 0)), (1, .int x1)] → W p l e rm_X8_begins s m args below meth c H locs 0 0 (MQ below (Qv D (wM a kc F Gf I Jf) (ad a 21 s.heap.size)) args s 0 0 (ad a 21 s.heap.size)) (F0 m 2 ls [])) :
    ∀ (G : Nat → Int64) (J : Nat → Nat → Int64) (x1 : Int32) (H : Heap) (locs : List Loc) (ls : Array Slot), p_X8_begins_b2x K2 (G 0) (J 0) x1 = some ((Gf 0), (Jf 0)) → (∀ k, k ∉ ([0] : List Nat) → Gf k = G k) → (∀ k, k ∉ ([0] : List Nat) → Jf k = J k) → va_P D vwCl (wM a kc F G I J) H → va_S (ad a 21 s.heap.size) s.heap H locs → lv_has ls 2 [(0, .ref (a 0)), (1, .int x1)] → W p l e rm_X8_begins s m args below meth c H locs 0 0 (MQ below (Qv D (wM a kc F Gf I Jf) (ad a 21 s.heap.size)) args s 0 0 (ad a 21 s.heap.size)) (F0 m 2 ls []) := by
  intro G J x1 H locs ls hf hfG hfJ hP hS hl
  unfold p_X8_begins_b2x at hf
  refine lv_iload_n X.1 X.2.1 dX8_begins_2 rfl (lv_at hl 1 rfl) ?_
  refine lv_sipush (v := 256) X.1 X.2.1 dX8_begins_3 (by decide) ?_
  refine lv_icmp_ge (tgt := 30) X.1 X.2.1 dX8_begins_6 (by decide) (fun c6 => ?_) (fun c6 => ?_)
  · have hf := it_s hf c6
    refine lv_aload_n X.1 X.2.1 dX8_begins_30 rfl (lv_at hl 0 rfl) ?_
    refine lv_lconst (v := 1) X.1 X.2.1 dX8_begins_31 (by decide) ?_
    refine pM_0_17 X q_4_126 dX8_begins_32 hP hS (fun H locs hP hS => ?_)
    obtain ⟨e0, hf⟩ := o2 hf
    have e1 := o1 hf
    have EG : Gf = (va_up G 0 1) := frm_eq (frm_up hfG (by decide)) (frm_c (e0).symm frm_n)
    have EJ : Jf = J := frm_eq hfJ (frm_c (e1).symm frm_n)
    exact ret_v X hS (by rw [EG, EJ]; exact hP) dX8_begins_35
  · have hf := ie_s hf c6
    refine lv_aload_n X.1 X.2.1 dX8_begins_9 rfl (lv_at hl 0 rfl) ?_
    refine gM_0_15 X q_4_124 dX8_begins_10 hP ?_
    refine lv_iload_n X.1 X.2.1 dX8_begins_13 rfl (lv_at hl 1 rfl) ?_
    refine lv_iload_n X.1 X.2.1 dX8_begins_14 rfl (lv_at hl 1 rfl) ?_
    refine lv_if_ne (tgt := 22) X.1 X.2.1 dX8_begins_15 (by decide) (fun c15 => ?_) (fun c15 => ?_)
    · have hf := ie_s hf c15
      refine lv_lconst (v := 0) X.1 X.2.1 dX8_begins_22 (by decide) ?_
      exact t_X8_begins_b23 X kh2 G J x1 0 x1 H locs ls hf hfG hfJ hP hS (lv_sub hl [0, 1] rfl)
    · have hf := it_s hf c15
      refine lv_lconst (v := 1) X.1 X.2.1 dX8_begins_18 (by decide) ?_
      refine lv_goto (tgt := 23) X.1 X.2.1 dX8_begins_19 (by decide) ?_
      exact t_X8_begins_b23 X kh2 G J x1 1 x1 H locs ls hf hfG hfJ hP hS (lv_sub hl [0, 1] rfl)
set_option maxRecDepth 100000 in
theorem t_X8_begins_b2 {p : Program} {l : Launch} {e : Env} {s : State} {m : MethodId} {args : Array Value} {below : List Frame} {meth : Method} {c : Code} {D : va_G} {a : Nat → Nat} {kc : Nat → ClassId} (X : cx 21 p s m args meth c D (tyM kc) a cX8_begins 2 RX8 none) {F : Nat → Int32} {I : Nat → Nat → Int32} {Gf : Nat → Int64} {Jf : Nat → Nat → Int64}  :
    ∀ (n : Nat) (G : Nat → Int64) (J : Nat → Nat → Int64) (x1 : Int32) (H : Heap) (locs : List Loc) (ls : Array Slot), p_X8_begins_b2 n (G 0) (J 0) x1 = some ((Gf 0), (Jf 0)) → (∀ k, k ∉ ([0] : List Nat) → Gf k = G k) → (∀ k, k ∉ ([0] : List Nat) → Jf k = J k) → va_P D vwCl (wM a kc F G I J) H → va_S (ad a 21 s.heap.size) s.heap H locs → lv_has ls 2 [(0, .ref (a 0)), (1, .int x1)] → W p l e rm_X8_begins s m args below meth c H locs 0 0 (MQ below (Qv D (wM a kc F Gf I Jf) (ad a 21 s.heap.size)) args s 0 0 (ad a 21 s.heap.size)) (F0 m 2 ls []) := by
  intro n
  induction n with
  | zero => intro G J x1 H locs ls hf hfG hfJ hP hS hl; exact (nos hf).elim
  | succ n ih => exact t_X8_begins_b2x X ih
set_option maxHeartbeats 4000000 in
set_option maxRecDepth 100000 in
theorem t_X8_begins_b0 {p : Program} {l : Launch} {e : Env} {s : State} {m : MethodId} {args : Array Value} {below : List Frame} {meth : Method} {c : Code} {D : va_G} {a : Nat → Nat} {kc : Nat → ClassId} (X : cx 21 p s m args meth c D (tyM kc) a cX8_begins 2 RX8 none) {F : Nat → Int32} {I : Nat → Nat → Int32} {Gf : Nat → Int64} {Jf : Nat → Nat → Int64}  :
    ∀ (G : Nat → Int64) (J : Nat → Nat → Int64)  (H : Heap) (locs : List Loc) (ls : Array Slot), p_X8_begins_b0 (G 0) (J 0)  = some ((Gf 0), (Jf 0)) → (∀ k, k ∉ ([0] : List Nat) → Gf k = G k) → (∀ k, k ∉ ([0] : List Nat) → Jf k = J k) → va_P D vwCl (wM a kc F G I J) H → va_S (ad a 21 s.heap.size) s.heap H locs → lv_has ls 2 [(0, .ref (a 0))] → W p l e rm_X8_begins s m args below meth c H locs 0 0 (MQ below (Qv D (wM a kc F Gf I Jf) (ad a 21 s.heap.size)) args s 0 0 (ad a 21 s.heap.size)) (F0 m 0 ls []) := by
  intro G J  H locs ls hf hfG hfJ hP hS hl
  unfold p_X8_begins_b0 at hf
  refine lv_iconst (v := 0) X.1 X.2.1 dX8_begins_0 (by decide) ?_
  refine lv_istore_n (lv' := [(1, .int 0), (0, .ref (a 0))]) X.1 X.2.1 dX8_begins_1 rfl hl (by decide) rfl (fun ls hl => ?_)
  exact t_X8_begins_b2 X 4096 G J 0 H locs ls hf hfG hfJ hP hS (lv_sub hl [1, 0] rfl)
set_option maxRecDepth 100000 in
theorem c_X8_begins {l : Launch} {D : va_G} {a : Nat → Nat} {kc : Nat → ClassId} (F : Nat → Int32) (G : Nat → Int64) (I : Nat → Nat → Int32) (J : Nat → Nat → Int64) (hAp : ∀ i j, i < 21 → j < 21 → a i = a j → i = j)  {o0 : Int64} {o1 : Nat → Int64} (hf : p_X8_begins (G 0) (J 0)  = some (o0, o1)) : Ct 21 l yX8_begins cX8_begins 2 none rm_X8_begins D (tyM kc) a (wM a kc F G I J) [.ref (a 0)] (Qv D (wM a kc F (va_up G 0 o0) I (va_up J 0 o1))) :=
  Ct.of (by decide +kernel) hAp (Nat.le_of_ble_eq_true rfl) (fun p e s m args below meth c ls X hP hl => t_X8_begins_b0 X G J  _ _ _ hf (frm_ul (fun k _ => rfl) (by decide)) (frm_ul (fun k _ => rfl) (by decide)) hP va_S.rf hl)
abbrev rm_X8_kindNow : Room := { frames := 0, cells := 0, slots := 0, locals := 0 }
set_option maxHeartbeats 4000000 in
set_option maxRecDepth 100000 in
theorem t_X8_kindNow_b18 {p : Program} {l : Launch} {e : Env} {s : State} {m : MethodId} {args : Array Value} {below : List Frame} {meth : Method} {c : Code} {D : va_G} {a : Nat → Nat} {kc : Nat → ClassId} (X : cx 21 p s m args meth c D (tyM kc) a cX8_kindNow 2 RX8 (some .int)) {F : Nat → Int32} {G : Nat → Int64} {I : Nat → Nat → Int32} {J : Nat → Nat → Int64}  {r : Int32} :
    ∀  (t0 : Int32) (H : Heap) (locs : List Loc) (ls : Array Slot), p_X8_kindNow_b18 (F 5) (I 9) t0 = some r → va_P D vwCl (wM a kc F G I J) H → va_S (ad a 21 s.heap.size) s.heap H locs → lv_has ls 2 [(0, .ref (a 0))] → W p l e rm_X8_kindNow s m args below meth c H locs 0 0 (MQ below (Qi D (wM a kc F G I J) r (ad a 21 s.heap.size)) args s 0 0 (ad a 21 s.heap.size)) (F0 m 18 ls [.int t0]) := by
  intro  t0 H locs ls hf  hP hS hl
  unfold p_X8_kindNow_b18 at hf
  have e0 := o1 hf
  exact ret_i X hS hP e0 dX8_kindNow_18
set_option maxHeartbeats 4000000 in
set_option maxRecDepth 100000 in
theorem t_X8_kindNow_b0 {p : Program} {l : Launch} {e : Env} {s : State} {m : MethodId} {args : Array Value} {below : List Frame} {meth : Method} {c : Code} {D : va_G} {a : Nat → Nat} {kc : Nat → ClassId} (X : cx 21 p s m args meth c D (tyM kc) a cX8_kindNow 2 RX8 (some .int)) {F : Nat → Int32} {G : Nat → Int64} {I : Nat → Nat → Int32} {J : Nat → Nat → Int64}  {r : Int32} :
    ∀  (x1 : Int32) (H : Heap) (locs : List Loc) (ls : Array Slot), p_X8_kindNow_b0 (F 5) (I 9) x1 = some r → va_P D vwCl (wM a kc F G I J) H → va_S (ad a 21 s.heap.size) s.heap H locs → lv_has ls 2 [(0, .ref (a 0)), (1, .int x1)] → W p l e rm_X8_kindNow s m args below meth c H locs 0 0 (MQ below (Qi D (wM a kc F G I J) r (ad a 21 s.heap.size)) args s 0 0 (ad a 21 s.heap.size)) (F0 m 0 ls []) := by
  intro  x1 H locs ls hf  hP hS hl
  unfold p_X8_kindNow_b0 at hf
  refine lv_iload_n X.1 X.2.1 dX8_kindNow_0 rfl (lv_at hl 1 rfl) ?_
  refine lv_aload_n X.1 X.2.1 dX8_kindNow_1 rfl (lv_at hl 0 rfl) ?_
  refine gM_0_18 (F := F) X (v := (F 5)) rfl q_4_127 dX8_kindNow_2 hP ?_
  refine lv_icmp_ne (tgt := 12) X.1 X.2.1 dX8_kindNow_5 (by decide) (fun c5 => ?_) (fun c5 => ?_)
  · have hf := ie_s hf c5
    refine lv_aload_n X.1 X.2.1 dX8_kindNow_12 rfl (lv_at hl 0 rfl) ?_
    refine gM_0_14 X q_4_123 dX8_kindNow_13 hP ?_
    refine lv_iload_n X.1 X.2.1 dX8_kindNow_16 rfl (lv_at hl 1 rfl) ?_
    obtain ⟨h17, hf⟩ := gd_s hf
    refine lM_10 (I := I) X (f := (I 9)) rfl h17 dX8_kindNow_17 hP ?_
    exact t_X8_kindNow_b18 X  ((I 9) x1.toNatClampNeg) H locs ls hf  hP hS (lv_sub hl [0] rfl)
  · have hf := it_s hf c5
    refine lv_iconst (v := 1) X.1 X.2.1 dX8_kindNow_8 (by decide) ?_
    refine lv_goto (tgt := 18) X.1 X.2.1 dX8_kindNow_9 (by decide) ?_
    exact t_X8_kindNow_b18 X  1 H locs ls hf  hP hS (lv_sub hl [0] rfl)
set_option maxRecDepth 100000 in
theorem c_X8_kindNow {l : Launch} {D : va_G} {a : Nat → Nat} {kc : Nat → ClassId} (F : Nat → Int32) (G : Nat → Int64) (I : Nat → Nat → Int32) (J : Nat → Nat → Int64) (hAp : ∀ i j, i < 21 → j < 21 → a i = a j → i = j) (x1 : Int32) {o0 : Int32} (hf : p_X8_kindNow (F 5) (I 9) x1 = some o0) : Ct 21 l yX8_kindNow cX8_kindNow 2 (some .int) rm_X8_kindNow D (tyM kc) a (wM a kc F G I J) [.ref (a 0), .int x1] (Qi D (wM a kc F G I J) o0) :=
  Ct.of (by decide +kernel) hAp (Nat.le_of_ble_eq_true rfl) (fun p e s m args below meth c ls X hP hl => t_X8_kindNow_b0 X  x1 _ _ _ hf  hP va_S.rf hl)
abbrev rm_X8_noBounds : Room := { frames := 0, cells := 0, slots := 0, locals := 0 }
set_option maxHeartbeats 4000000 in
set_option maxRecDepth 100000 in
theorem t_X8_noBounds_b17x {p : Program} {l : Launch} {e : Env} {s : State} {m : MethodId} {args : Array Value} {below : List Frame} {meth : Method} {c : Code} {D : va_G} {a : Nat → Nat} {kc : Nat → ClassId} (X : cx 21 p s m args meth c D (tyM kc) a cX8_noBounds 2 RX8 none) {G : Nat → Int64} {J : Nat → Nat → Int64} {Ff : Nat → Int32} {If : Nat → Nat → Int32}  {K17 : Int32 → Int32 → Int32 → (Nat → Int32) → Int32 → Option (Int32 × Int32 × Int32 × (Nat → Int32))} (kh17 : ∀ (F : Nat → Int32) (I : Nat → Nat → Int32) (x1 : Int32) (H : Heap) (locs : List Loc) (ls : Array Slot), K17 (F 5) (F 6) (F 8) (I 10) x1 = some ((Ff 5), (Ff 6), (Ff 8), (If 10)) → (∀ k, k ∉ ([5, 6, 8] : List Nat) → Ff k = F k) → (∀ k, k ∉ ([10] : List Nat) → If k = I k) → va_P D vwCl (wM a kc F G I J) H → va_S (ad a 21 s.heap.size) s.heap H locs → lv_has ls 2 [(0, .ref (a 0)), (1, .int x1)] → W p l e rm_X8_noBounds s m args below meth c H locs 0 0 (MQ below (Qv D (wM a kc Ff G If J) (ad a 21 s.heap.size)) args s 0 0 (ad a 21 s.heap.size)) (F0 m 17 ls [])) :
    ∀ (F : Nat → Int32) (I : Nat → Nat → Int32) (x1 : Int32) (H : Heap) (locs : List Loc) (ls : Array Slot), p_X8_noBounds_b17x K17 (F 5) (F 6) (F 8) (I 10) x1 = some ((Ff 5), (Ff 6), (Ff 8), (If 10)) → (∀ k, k ∉ ([5, 6, 8] : List Nat) → Ff k = F k) → (∀ k, k ∉ ([10] : List Nat) → If k = I k) → va_P D vwCl (wM a kc F G I J) H → va_S (ad a 21 s.heap.size) s.heap H locs → lv_has ls 2 [(0, .ref (a 0)), (1, .int x1)] → W p l e rm_X8_noBounds s m args below meth c H locs 0 0 (MQ below (Qv D (wM a kc Ff G If J) (ad a 21 s.heap.size)) args s 0 0 (ad a 21 s.heap.size)) (F0 m 17 ls []) := by
  intro F I x1 H locs ls hf hfF hfI hP hS hl
  unfold p_X8_noBounds_b17x at hf
  refine lv_iload_n X.1 X.2.1 dX8_noBounds_17 rfl (lv_at hl 1 rfl) ?_
  refine lv_bipush (v := 8) X.1 X.2.1 dX8_noBounds_18 (by decide) ?_
  refine lv_icmp_ge (tgt := 36) X.1 X.2.1 dX8_noBounds_20 (by decide) (fun c20 => ?_) (fun c20 => ?_)
  · have hf := it_s hf c20
    obtain ⟨e0, hf⟩ := o2 hf
    obtain ⟨e1, hf⟩ := o2 hf
    obtain ⟨e2, hf⟩ := o2 hf
    have e3 := o1 hf
    have EF : Ff = F := frm_eq hfF (frm_c (e0).symm (frm_c (e1).symm (frm_c (e2).symm frm_n)))
    have EI : If = I := frm_eq hfI (frm_c (e3).symm frm_n)
    exact ret_v X hS (by rw [EF, EI]; exact hP) dX8_noBounds_36
  · have hf := ie_s hf c20
    refine lv_aload_n X.1 X.2.1 dX8_noBounds_23 rfl (lv_at hl 0 rfl) ?_
    refine gM_0_22 X q_4_131 dX8_noBounds_24 hP ?_
    refine lv_iload_n X.1 X.2.1 dX8_noBounds_27 rfl (lv_at hl 1 rfl) ?_
    refine lv_iconst (v := (-1)) X.1 X.2.1 dX8_noBounds_28 (by decide) ?_
    obtain ⟨h29, hf⟩ := gd_s hf
    obtain ⟨m_keptSeat_29, em_keptSeat_29, hf⟩ := nm_x hf
    refine sM_13 (I := I) X h29 em_keptSeat_29 dX8_noBounds_29 hP hS (fun H locs hP hS => ?_)
    obtain ⟨x30, ex30, hf⟩ := nm_x hf
    refine lv_iinc (v := x30) (lv' := [(1, .int x30), (0, .ref (a 0))]) X.1 X.2.1 dX8_noBounds_30 hl (k := 1) rfl ex30 (by decide) rfl (fun ls hl => ?_)
    refine lv_goto (tgt := 17) X.1 X.2.1 dX8_noBounds_33 (by decide) ?_
    exact kh17 F (va_up I 10 m_keptSeat_29) x30 H locs ls hf hfF (frm_up hfI (by decide)) hP hS (lv_sub hl [1, 0] rfl)
set_option maxRecDepth 100000 in
theorem t_X8_noBounds_b17 {p : Program} {l : Launch} {e : Env} {s : State} {m : MethodId} {args : Array Value} {below : List Frame} {meth : Method} {c : Code} {D : va_G} {a : Nat → Nat} {kc : Nat → ClassId} (X : cx 21 p s m args meth c D (tyM kc) a cX8_noBounds 2 RX8 none) {G : Nat → Int64} {J : Nat → Nat → Int64} {Ff : Nat → Int32} {If : Nat → Nat → Int32}  :
    ∀ (n : Nat) (F : Nat → Int32) (I : Nat → Nat → Int32) (x1 : Int32) (H : Heap) (locs : List Loc) (ls : Array Slot), p_X8_noBounds_b17 n (F 5) (F 6) (F 8) (I 10) x1 = some ((Ff 5), (Ff 6), (Ff 8), (If 10)) → (∀ k, k ∉ ([5, 6, 8] : List Nat) → Ff k = F k) → (∀ k, k ∉ ([10] : List Nat) → If k = I k) → va_P D vwCl (wM a kc F G I J) H → va_S (ad a 21 s.heap.size) s.heap H locs → lv_has ls 2 [(0, .ref (a 0)), (1, .int x1)] → W p l e rm_X8_noBounds s m args below meth c H locs 0 0 (MQ below (Qv D (wM a kc Ff G If J) (ad a 21 s.heap.size)) args s 0 0 (ad a 21 s.heap.size)) (F0 m 17 ls []) := by
  intro n
  induction n with
  | zero => intro F I x1 H locs ls hf hfF hfI hP hS hl; exact (nos hf).elim
  | succ n ih => exact t_X8_noBounds_b17x X ih
set_option maxHeartbeats 4000000 in
set_option maxRecDepth 100000 in
theorem t_X8_noBounds_b0 {p : Program} {l : Launch} {e : Env} {s : State} {m : MethodId} {args : Array Value} {below : List Frame} {meth : Method} {c : Code} {D : va_G} {a : Nat → Nat} {kc : Nat → ClassId} (X : cx 21 p s m args meth c D (tyM kc) a cX8_noBounds 2 RX8 none) {G : Nat → Int64} {J : Nat → Nat → Int64} {Ff : Nat → Int32} {If : Nat → Nat → Int32}  :
    ∀ (F : Nat → Int32) (I : Nat → Nat → Int32)  (H : Heap) (locs : List Loc) (ls : Array Slot), p_X8_noBounds_b0 (F 5) (F 6) (F 8) (I 10)  = some ((Ff 5), (Ff 6), (Ff 8), (If 10)) → (∀ k, k ∉ ([5, 6, 8] : List Nat) → Ff k = F k) → (∀ k, k ∉ ([10] : List Nat) → If k = I k) → va_P D vwCl (wM a kc F G I J) H → va_S (ad a 21 s.heap.size) s.heap H locs → lv_has ls 2 [(0, .ref (a 0))] → W p l e rm_X8_noBounds s m args below meth c H locs 0 0 (MQ below (Qv D (wM a kc Ff G If J) (ad a 21 s.heap.size)) args s 0 0 (ad a 21 s.heap.size)) (F0 m 0 ls []) := by
  intro F I  H locs ls hf hfF hfI hP hS hl
  unfold p_X8_noBounds_b0 at hf
  refine lv_aload_n X.1 X.2.1 dX8_noBounds_0 rfl (lv_at hl 0 rfl) ?_
  refine lv_iconst (v := (-1)) X.1 X.2.1 dX8_noBounds_1 (by decide) ?_
  refine pM_0_18 X q_4_127 dX8_noBounds_2 hP hS (fun H locs hP hS => ?_)
  refine lv_aload_n X.1 X.2.1 dX8_noBounds_5 rfl (lv_at hl 0 rfl) ?_
  refine lv_iconst (v := (-1)) X.1 X.2.1 dX8_noBounds_6 (by decide) ?_
  refine pM_0_19 X q_4_128 dX8_noBounds_7 hP hS (fun H locs hP hS => ?_)
  refine lv_aload_n X.1 X.2.1 dX8_noBounds_10 rfl (lv_at hl 0 rfl) ?_
  refine lv_iconst (v := 0) X.1 X.2.1 dX8_noBounds_11 (by decide) ?_
  refine pM_0_21 X q_4_130 dX8_noBounds_12 hP hS (fun H locs hP hS => ?_)
  refine lv_iconst (v := 0) X.1 X.2.1 dX8_noBounds_15 (by decide) ?_
  refine lv_istore_n (lv' := [(1, .int 0), (0, .ref (a 0))]) X.1 X.2.1 dX8_noBounds_16 rfl hl (by decide) rfl (fun ls hl => ?_)
  exact t_X8_noBounds_b17 X 4096 (va_up (va_up (va_up F 5 (-1)) 6 (-1)) 8 0) I 0 H locs ls hf (frm_up (frm_up (frm_up hfF (by decide)) (by decide)) (by decide)) hfI hP hS (lv_sub hl [1, 0] rfl)
set_option maxRecDepth 100000 in
theorem c_X8_noBounds {l : Launch} {D : va_G} {a : Nat → Nat} {kc : Nat → ClassId} (F : Nat → Int32) (G : Nat → Int64) (I : Nat → Nat → Int32) (J : Nat → Nat → Int64) (hAp : ∀ i j, i < 21 → j < 21 → a i = a j → i = j)  {o0 : Int32} {o1 : Int32} {o2 : Int32} {o3 : Nat → Int32} (hf : p_X8_noBounds (F 5) (F 6) (F 8) (I 10)  = some (o0, o1, o2, o3)) : Ct 21 l yX8_noBounds cX8_noBounds 2 none rm_X8_noBounds D (tyM kc) a (wM a kc F G I J) [.ref (a 0)] (Qv D (wM a kc (va_up (va_up (va_up F 5 o0) 6 o1) 8 o2) G (va_up I 10 o3) J)) :=
  Ct.of (by decide +kernel) hAp (Nat.le_of_ble_eq_true rfl) (fun p e s m args below meth c ls X hP hl => t_X8_noBounds_b0 X F I  _ _ _ hf (frm_ul (frm_ul (frm_ul (fun k _ => rfl) (by decide)) (by decide)) (by decide)) (frm_ul (fun k _ => rfl) (by decide)) hP va_S.rf hl)
abbrev rm_X8_mayBe : Room := { frames := 1, cells := 0, slots := 0, locals := 21 }
set_option maxHeartbeats 4000000 in
set_option maxRecDepth 100000 in
theorem t_X8_mayBe_b52 {p : Program} {l : Launch} {e : Env} {s : State} {m : MethodId} {args : Array Value} {below : List Frame} {meth : Method} {c : Code} {D : va_G} {a : Nat → Nat} {kc : Nat → ClassId} (X : cx 21 p s m args meth c D (tyM kc) a cX8_mayBe 3 RX8 (some .boolean)) {F : Nat → Int32} {G : Nat → Int64} {I : Nat → Nat → Int32} {J : Nat → Nat → Int64}  {r : Int32} :
    ∀  (t0 : Int32) (H : Heap) (locs : List Loc) (ls : Array Slot), p_X8_mayBe_b52 (F 6) (F 7) (F 8) (I 10) t0 = some r → va_P D vwCl (wM a kc F G I J) H → va_S (ad a 21 s.heap.size) s.heap H locs → lv_has ls 3 [(0, .ref (a 0))] → W p l e rm_X8_mayBe s m args below meth c H locs 0 0 (MQ below (Qi D (wM a kc F G I J) r (ad a 21 s.heap.size)) args s 0 0 (ad a 21 s.heap.size)) (F0 m 52 ls [.int t0]) := by
  intro  t0 H locs ls hf  hP hS hl
  unfold p_X8_mayBe_b52 at hf
  obtain ⟨h52, hf⟩ := gd_s hf
  have e0 := o1 hf
  exact ret_z X hS hP e0 h52 dX8_mayBe_52
set_option maxHeartbeats 4000000 in
set_option maxRecDepth 100000 in
theorem t_X8_mayBe_b51 {p : Program} {l : Launch} {e : Env} {s : State} {m : MethodId} {args : Array Value} {below : List Frame} {meth : Method} {c : Code} {D : va_G} {a : Nat → Nat} {kc : Nat → ClassId} (X : cx 21 p s m args meth c D (tyM kc) a cX8_mayBe 3 RX8 (some .boolean)) {F : Nat → Int32} {G : Nat → Int64} {I : Nat → Nat → Int32} {J : Nat → Nat → Int64}  {r : Int32} :
    ∀   (H : Heap) (locs : List Loc) (ls : Array Slot), p_X8_mayBe_b51 (F 6) (F 7) (F 8) (I 10)  = some r → va_P D vwCl (wM a kc F G I J) H → va_S (ad a 21 s.heap.size) s.heap H locs → lv_has ls 3 [(0, .ref (a 0))] → W p l e rm_X8_mayBe s m args below meth c H locs 0 0 (MQ below (Qi D (wM a kc F G I J) r (ad a 21 s.heap.size)) args s 0 0 (ad a 21 s.heap.size)) (F0 m 51 ls []) := by
  intro   H locs ls hf  hP hS hl
  unfold p_X8_mayBe_b51 at hf
  refine lv_iconst (v := 0) X.1 X.2.1 dX8_mayBe_51 (by decide) ?_
  exact t_X8_mayBe_b52 X  0 H locs ls hf  hP hS (lv_sub hl [0] rfl)
set_option maxHeartbeats 4000000 in
set_option maxRecDepth 100000 in
theorem t_X8_mayBe_b47 {p : Program} {l : Launch} {e : Env} {s : State} {m : MethodId} {args : Array Value} {below : List Frame} {meth : Method} {c : Code} {D : va_G} {a : Nat → Nat} {kc : Nat → ClassId} (X : cx 21 p s m args meth c D (tyM kc) a cX8_mayBe 3 RX8 (some .boolean)) {F : Nat → Int32} {G : Nat → Int64} {I : Nat → Nat → Int32} {J : Nat → Nat → Int64}  {r : Int32} :
    ∀   (H : Heap) (locs : List Loc) (ls : Array Slot), p_X8_mayBe_b47 (F 6) (F 7) (F 8) (I 10)  = some r → va_P D vwCl (wM a kc F G I J) H → va_S (ad a 21 s.heap.size) s.heap H locs → lv_has ls 3 [(0, .ref (a 0))] → W p l e rm_X8_mayBe s m args below meth c H locs 0 0 (MQ below (Qi D (wM a kc F G I J) r (ad a 21 s.heap.size)) args s 0 0 (ad a 21 s.heap.size)) (F0 m 47 ls []) := by
  intro   H locs ls hf  hP hS hl
  unfold p_X8_mayBe_b47 at hf
  refine lv_iconst (v := 1) X.1 X.2.1 dX8_mayBe_47 (by decide) ?_
  refine lv_goto (tgt := 52) X.1 X.2.1 dX8_mayBe_48 (by decide) ?_
  exact t_X8_mayBe_b52 X  1 H locs ls hf  hP hS (lv_sub hl [0] rfl)
set_option maxHeartbeats 4000000 in
set_option maxRecDepth 100000 in
theorem t_X8_mayBe_b31 {p : Program} {l : Launch} {e : Env} {s : State} {m : MethodId} {args : Array Value} {below : List Frame} {meth : Method} {c : Code} {D : va_G} {a : Nat → Nat} {kc : Nat → ClassId} (X : cx 21 p s m args meth c D (tyM kc) a cX8_mayBe 3 RX8 (some .boolean)) {F : Nat → Int32} {G : Nat → Int64} {I : Nat → Nat → Int32} {J : Nat → Nat → Int64}  {r : Int32} :
    ∀  (x1 : Int32) (x2 : Int32) (H : Heap) (locs : List Loc) (ls : Array Slot), p_X8_mayBe_b31 (F 6) (F 7) (F 8) (I 10) x1 x2 = some r → va_P D vwCl (wM a kc F G I J) H → va_S (ad a 21 s.heap.size) s.heap H locs → lv_has ls 3 [(0, .ref (a 0)), (1, .int x1), (2, .int x2)] → W p l e rm_X8_mayBe s m args below meth c H locs 0 0 (MQ below (Qi D (wM a kc F G I J) r (ad a 21 s.heap.size)) args s 0 0 (ad a 21 s.heap.size)) (F0 m 31 ls []) := by
  intro  x1 x2 H locs ls hf  hP hS hl
  unfold p_X8_mayBe_b31 at hf
  refine lv_aload_n X.1 X.2.1 dX8_mayBe_31 rfl (lv_at hl 0 rfl) ?_
  refine gM_0_19 (F := F) X (v := (F 6)) rfl q_4_128 dX8_mayBe_32 hP ?_
  refine lv_iload_n X.1 X.2.1 dX8_mayBe_35 rfl (lv_at hl 1 rfl) ?_
  refine lv_icmp_ne (tgt := 47) X.1 X.2.1 dX8_mayBe_36 (by decide) (fun c36 => ?_) (fun c36 => ?_)
  · have hf := ie_s hf c36
    exact t_X8_mayBe_b47 X   H locs ls hf  hP hS (lv_sub hl [0] rfl)
  · have hf := it_s hf c36
    refine lv_aload_n X.1 X.2.1 dX8_mayBe_39 rfl (lv_at hl 0 rfl) ?_
    refine gM_0_20 (F := F) X (v := (F 7)) rfl q_4_129 dX8_mayBe_40 hP ?_
    refine lv_iload_n X.1 X.2.1 dX8_mayBe_43 rfl (lv_at hl 2 rfl) ?_
    refine lv_icmp_ne (tgt := 51) X.1 X.2.1 dX8_mayBe_44 (by decide) (fun c44 => ?_) (fun c44 => ?_)
    · have hf := ie_s hf c44
      exact t_X8_mayBe_b51 X   H locs ls hf  hP hS (lv_sub hl [0] rfl)
    · have hf := it_s hf c44
      exact t_X8_mayBe_b47 X   H locs ls hf  hP hS (lv_sub hl [0] rfl)
set_option maxHeartbeats 4000000 in
set_option maxRecDepth 100000 in
theorem t_X8_mayBe_b0 {p : Program} {l : Launch} {e : Env} {s : State} {m : MethodId} {args : Array Value} {below : List Frame} {meth : Method} {c : Code} {D : va_G} {a : Nat → Nat} {kc : Nat → ClassId} (X : cx 21 p s m args meth c D (tyM kc) a cX8_mayBe 3 RX8 (some .boolean)) {F : Nat → Int32} {G : Nat → Int64} {I : Nat → Nat → Int32} {J : Nat → Nat → Int64}  {r : Int32} :
    ∀  (x1 : Int32) (x2 : Int32) (H : Heap) (locs : List Loc) (ls : Array Slot), p_X8_mayBe_b0 (F 6) (F 7) (F 8) (I 10) x1 x2 = some r → va_P D vwCl (wM a kc F G I J) H → va_S (ad a 21 s.heap.size) s.heap H locs → lv_has ls 3 [(0, .ref (a 0)), (1, .int x1), (2, .int x2)] → W p l e rm_X8_mayBe s m args below meth c H locs 0 0 (MQ below (Qi D (wM a kc F G I J) r (ad a 21 s.heap.size)) args s 0 0 (ad a 21 s.heap.size)) (F0 m 0 ls []) := by
  intro  x1 x2 H locs ls hf  hP hS hl
  unfold p_X8_mayBe_b0 at hf
  refine lv_aload_n X.1 X.2.1 dX8_mayBe_0 rfl (lv_at hl 0 rfl) ?_
  refine gM_0_21 (F := F) X (v := (F 8)) rfl q_4_130 dX8_mayBe_1 hP ?_
  refine lv_iload_n X.1 X.2.1 dX8_mayBe_4 rfl (lv_at hl 2 rfl) ?_
  obtain ⟨r5, ho, hf⟩ := b1_s hf
  refine call_si (rest := []) X (c_X8_isIn (F 8) x2 ho) q_5_133 q_5_134 q_1_10 q_5_135 ok_X8_isIn rfl ⟨Nat.le_of_ble_eq_true rfl, Nat.le_of_ble_eq_true rfl⟩ rfl rfl hl.1 rfl (Nat.le_of_ble_eq_true rfl) dX8_mayBe_5 hP hS (fun H locs hP hS => ?_)
  refine lv_if_ne (tgt := 51) X.1 X.2.1 dX8_mayBe_8 (by decide) (fun c8 => ?_) (fun c8 => ?_)
  · have hf := ie_s hf c8
    exact t_X8_mayBe_b51 X   H locs ls hf  hP hS (lv_sub hl [0] rfl)
  · have hf := it_s hf c8
    refine lv_aload_n X.1 X.2.1 dX8_mayBe_11 rfl (lv_at hl 0 rfl) ?_
    refine gM_0_22 X q_4_131 dX8_mayBe_12 hP ?_
    refine lv_iload_n X.1 X.2.1 dX8_mayBe_15 rfl (lv_at hl 1 rfl) ?_
    obtain ⟨h16, hf⟩ := gd_s hf
    refine lM_13 (I := I) X (f := (I 10)) rfl h16 dX8_mayBe_16 hP ?_
    refine lv_iconst (v := (-1)) X.1 X.2.1 dX8_mayBe_17 (by decide) ?_
    refine lv_icmp_eq (tgt := 31) X.1 X.2.1 dX8_mayBe_18 (by decide) (fun c18 => ?_) (fun c18 => ?_)
    · have hf := it_s hf c18
      exact t_X8_mayBe_b31 X  x1 x2 H locs ls hf  hP hS (lv_sub hl [0, 1, 2] rfl)
    · have hf := ie_s hf c18
      refine lv_aload_n X.1 X.2.1 dX8_mayBe_21 rfl (lv_at hl 0 rfl) ?_
      refine gM_0_22 X q_4_131 dX8_mayBe_22 hP ?_
      refine lv_iload_n X.1 X.2.1 dX8_mayBe_25 rfl (lv_at hl 1 rfl) ?_
      obtain ⟨h26, hf⟩ := gd_s hf
      refine lM_13 (I := I) X (f := (I 10)) rfl h26 dX8_mayBe_26 hP ?_
      refine lv_iload_n X.1 X.2.1 dX8_mayBe_27 rfl (lv_at hl 2 rfl) ?_
      refine lv_icmp_ne (tgt := 51) X.1 X.2.1 dX8_mayBe_28 (by decide) (fun c28 => ?_) (fun c28 => ?_)
      · have hf := ie_s hf c28
        exact t_X8_mayBe_b51 X   H locs ls hf  hP hS (lv_sub hl [0] rfl)
      · have hf := it_s hf c28
        exact t_X8_mayBe_b31 X  x1 x2 H locs ls hf  hP hS (lv_sub hl [0, 1, 2] rfl)
set_option maxRecDepth 100000 in
theorem c_X8_mayBe {l : Launch} {D : va_G} {a : Nat → Nat} {kc : Nat → ClassId} (F : Nat → Int32) (G : Nat → Int64) (I : Nat → Nat → Int32) (J : Nat → Nat → Int64) (hAp : ∀ i j, i < 21 → j < 21 → a i = a j → i = j) (x1 : Int32) (x2 : Int32) {o0 : Int32} (hf : p_X8_mayBe (F 6) (F 7) (F 8) (I 10) x1 x2 = some o0) : Ct 21 l yX8_mayBe cX8_mayBe 3 (some .boolean) rm_X8_mayBe D (tyM kc) a (wM a kc F G I J) [.ref (a 0), .int x1, .int x2] (Qi D (wM a kc F G I J) o0) :=
  Ct.of (by decide +kernel) hAp (Nat.le_of_ble_eq_true rfl) (fun p e s m args below meth c ls X hP hl => t_X8_mayBe_b0 X  x1 x2 _ _ _ hf  hP va_S.rf hl)
