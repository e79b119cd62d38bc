abbrev rm_X8_forget : Room := { frames := 0, cells := 0, slots := 0, locals := 0 }
set_option maxHeartbeats 4000000 in
set_option maxRecDepth 100000 in
theorem t_X8_forget_b0 {p : Program} {l : Launch} {e : Env} {s : State} {m : MethodId} {args : Array Value} {below : List Frame} {meth : Method} {c : Code} {D : va_G} {a : Nat → Nat} {kc : Nat → ClassId} (X : cx 21 p s m args meth c D (tyM kc) a cX8_forget 2 RX8 (some .int)) {G : Nat → Int64} {I : Nat → Nat → Int32} {J : Nat → Nat → Int64} {Ff : Nat → Int32} {r : Int32} :
    ∀ (F : Nat → Int32)  (H : Heap) (locs : List Loc) (ls : Array Slot), p_X8_forget_b0 (F 12)  = some (r, (Ff 12)) → (∀ k, k ∉ ([12] : List Nat) → Ff k = F k) → va_P D vwCl (wM a kc F G I J) H → va_S (ad a 21 s.heap.size) s.heap H locs → lv_has ls 2 [(0, .ref (a 0))] → W p l e rm_X8_forget s m args below meth c H locs 0 0 (MQ below (Qi D (wM a kc Ff G I J) r (ad a 21 s.heap.size)) args s 0 0 (ad a 21 s.heap.size)) (F0 m 0 ls []) := by
  intro F  H locs ls hf hfF hP hS hl
  unfold p_X8_forget_b0 at hf
  refine lv_aload_n X.1 X.2.1 dX8_forget_0 rfl (lv_at hl 0 rfl) ?_
  refine gM_0_31 (F := F) X (v := (F 12)) rfl q_4_140 dX8_forget_1 hP ?_
  refine nm_i hf (fun x4 hf => ?_)
  refine lv_istore_n (lv' := [(1, .int x4), (0, .ref (a 0))]) X.1 X.2.1 dX8_forget_4 rfl hl (by decide) rfl (fun ls hl => ?_)
  refine lv_aload_n X.1 X.2.1 dX8_forget_5 rfl (lv_at hl 1 rfl) ?_
  refine lv_iconst (v := 0) X.1 X.2.1 dX8_forget_6 (by decide) ?_
  refine pM_0_31 X q_4_140 dX8_forget_7 hP hS (fun H locs hP hS => ?_)
  refine lv_iload_n X.1 X.2.1 dX8_forget_10 rfl (lv_at hl 0 rfl) ?_
  obtain ⟨e0, hf⟩ := o2 hf
  have e1 := o1 hf
  have EF : Ff = (va_up F 12 0) := frm_eq (frm_up hfF (by decide)) (frm_c (e1).symm frm_n)
  exact ret_i X hS (by rw [EF]; exact hP) e0 dX8_forget_11
set_option maxRecDepth 100000 in
theorem c_X8_forget {l : Launch} {D : va_G} {a : Nat → Nat} {kc : Nat → ClassId} (F : Nat → Int32) (G : Nat → Int64) (I : Nat → Nat → Int32) (J : Nat → Nat → Int64) (hAp : ∀ i j, i < 21 → j < 21 → a i = a j → i = j)  {o0 : Int32} {o1 : Int32} (hf : p_X8_forget (F 12)  = some (o0, o1)) : Ct 21 l yX8_forget cX8_forget 2 (some .int) rm_X8_forget D (tyM kc) a (wM a kc F G I J) [.ref (a 0)] (Qi D (wM a kc (va_up F 12 o1) G I J) o0) :=
  Ct.of (by decide +kernel) hAp (Nat.le_of_ble_eq_true rfl) (fun p e s m args below meth c ls X hP hl => t_X8_forget_b0 X F  _ _ _ hf (frm_ul (fun k _ => rfl) (by decide)) hP va_S.rf hl)
abbrev rm_X8_laysBounds : Room := { frames := 2, cells := 0, slots := 0, locals := 46 }
set_option maxHeartbeats 4000000 in
set_option maxRecDepth 100000 in
theorem t_X8_laysBounds_b44 {p : Program} {l : Launch} {e : Env} {s : State} {m : MethodId} {args : Array Value} {below : List Frame} {meth : Method} {c : Code} {D : va_G} {a : Nat → Nat} {kc : Nat → ClassId} (X : cx 21 p s m args meth c D (tyM kc) a cX8_laysBounds 4 RX8 (some .boolean)) {G : Nat → Int64} {J : Nat → Nat → Int64} {Ff : Nat → Int32} {If : Nat → Nat → Int32} {r : Int32} :
    ∀ (F : Nat → Int32) (I : Nat → Nat → Int32)  (H : Heap) (locs : List Loc) (ls : Array Slot), p_X8_laysBounds_b44 (F 2) (F 4) (F 5) (F 6) (F 8) (F 12) (I 10) (I 13) (I 14)  = some (r, (Ff 5), (Ff 6), (Ff 8), (If 10)) → (∀ k, k ∉ ([5, 6, 8] : List Nat) → Ff k = F k) → (∀ k, k ∉ ([10] : List Nat) → If k = I k) → va_P D vwCl (wM a kc F G I J) H → va_S (ad a 21 s.heap.size) s.heap H locs → lv_has ls 4 [(0, .ref (a 0))] → W p l e rm_X8_laysBounds s m args below meth c H locs 0 0 (MQ below (Qi D (wM a kc Ff G If J) r (ad a 21 s.heap.size)) args s 0 0 (ad a 21 s.heap.size)) (F0 m 44 ls []) := by
  intro F I  H locs ls hf hfF hfI hP hS hl
  unfold p_X8_laysBounds_b44 at hf
  refine lv_iconst (v := 0) X.1 X.2.1 dX8_laysBounds_44 (by decide) ?_
  obtain ⟨e0, hf⟩ := o2 hf
  obtain ⟨e1, hf⟩ := o2 hf
  obtain ⟨e2, hf⟩ := o2 hf
  obtain ⟨e3, hf⟩ := o2 hf
  have e4 := o1 hf
  have EF : Ff = F := frm_eq hfF (frm_c (e1).symm (frm_c (e2).symm (frm_c (e3).symm frm_n)))
  have EI : If = I := frm_eq hfI (frm_c (e4).symm frm_n)
  exact ret_z X hS (by rw [EF, EI]; exact hP) e0 (by decide) dX8_laysBounds_45
set_option maxHeartbeats 4000000 in
set_option maxRecDepth 100000 in
theorem t_X8_laysBounds_b95 {p : Program} {l : Launch} {e : Env} {s : State} {m : MethodId} {args : Array Value} {below : List Frame} {meth : Method} {c : Code} {D : va_G} {a : Nat → Nat} {kc : Nat → ClassId} (X : cx 21 p s m args meth c D (tyM kc) a cX8_laysBounds 4 RX8 (some .boolean)) {G : Nat → Int64} {J : Nat → Nat → Int64} {Ff : Nat → Int32} {If : Nat → Nat → Int32} {r : Int32} {K6 : Int32 → Int32 → Int32 → Int32 → Int32 → Int32 → (Nat → Int32) → (Nat → Int32) → (Nat → Int32) → Int32 → Option (Int32 × Int32 × Int32 × Int32 × (Nat → Int32))} (kh6 : ∀ (F : Nat → Int32) (I : Nat → Nat → Int32) (x1 : Int32) (H : Heap) (locs : List Loc) (ls : Array Slot), K6 (F 2) (F 4) (F 5) (F 6) (F 8) (F 12) (I 10) (I 13) (I 14) x1 = some (r, (Ff 5), (Ff 6), (Ff 8), (If 10)) → (∀ k, k ∉ ([5, 6, 8] : List Nat) → Ff k = F k) → (∀ k, k ∉ ([10] : List Nat) → If k = I k) → va_P D vwCl (wM a kc F G I J) H → va_S (ad a 21 s.heap.size) s.heap H locs → lv_has ls 4 [(0, .ref (a 0)), (1, .int x1)] → W p l e rm_X8_laysBounds s m args below meth c H locs 0 0 (MQ below (Qi D (wM a kc Ff G If J) r (ad a 21 s.heap.size)) args s 0 0 (ad a 21 s.heap.size)) (F0 m 6 ls [])) :
    ∀ (F : Nat → Int32) (I : Nat → Nat → Int32) (x1 : Int32) (H : Heap) (locs : List Loc) (ls : Array Slot), p_X8_laysBounds_b95 K6 (F 2) (F 4) (F 5) (F 6) (F 8) (F 12) (I 10) (I 13) (I 14) x1 = some (r, (Ff 5), (Ff 6), (Ff 8), (If 10)) → (∀ k, k ∉ ([5, 6, 8] : List Nat) → Ff k = F k) → (∀ k, k ∉ ([10] : List Nat) → If k = I k) → va_P D vwCl (wM a kc F G I J) H → va_S (ad a 21 s.heap.size) s.heap H locs → lv_has ls 4 [(0, .ref (a 0)), (1, .int x1)] → W p l e rm_X8_laysBounds s m args below meth c H locs 0 0 (MQ below (Qi D (wM a kc Ff G If J) r (ad a 21 s.heap.size)) args s 0 0 (ad a 21 s.heap.size)) (F0 m 95 ls []) := by
  intro F I x1 H locs ls hf hfF hfI hP hS hl
  unfold p_X8_laysBounds_b95 at hf
  obtain ⟨x95, ex95, hf⟩ := nm_x hf
  refine lv_iinc (v := x95) (lv' := [(1, .int x95), (0, .ref (a 0))]) X.1 X.2.1 dX8_laysBounds_95 hl (k := 1) rfl ex95 (by decide) rfl (fun ls hl => ?_)
  refine lv_goto (tgt := 6) X.1 X.2.1 dX8_laysBounds_98 (by decide) ?_
  exact kh6 F I x95 H locs ls hf hfF hfI hP hS (lv_sub hl [1, 0] rfl)
set_option maxHeartbeats 4000000 in
set_option maxRecDepth 100000 in
theorem t_X8_laysBounds_b88 {p : Program} {l : Launch} {e : Env} {s : State} {m : MethodId} {args : Array Value} {below : List Frame} {meth : Method} {c : Code} {D : va_G} {a : Nat → Nat} {kc : Nat → ClassId} (X : cx 21 p s m args meth c D (tyM kc) a cX8_laysBounds 4 RX8 (some .boolean)) {G : Nat → Int64} {J : Nat → Nat → Int64} {Ff : Nat → Int32} {If : Nat → Nat → Int32} {r : Int32} {K6 : Int32 → Int32 → Int32 → Int32 → Int32 → Int32 → (Nat → Int32) → (Nat → Int32) → (Nat → Int32) → Int32 → Option (Int32 × Int32 × Int32 × Int32 × (Nat → Int32))} (kh6 : ∀ (F : Nat → Int32) (I : Nat → Nat → Int32) (x1 : Int32) (H : Heap) (locs : List Loc) (ls : Array Slot), K6 (F 2) (F 4) (F 5) (F 6) (F 8) (F 12) (I 10) (I 13) (I 14) x1 = some (r, (Ff 5), (Ff 6), (Ff 8), (If 10)) → (∀ k, k ∉ ([5, 6, 8] : List Nat) → Ff k = F k) → (∀ k, k ∉ ([10] : List Nat) → If k = I k) → va_P D vwCl (wM a kc F G I J) H → va_S (ad a 21 s.heap.size) s.heap H locs → lv_has ls 4 [(0, .ref (a 0)), (1, .int x1)] → W p l e rm_X8_laysBounds s m args below meth c H locs 0 0 (MQ below (Qi D (wM a kc Ff G If J) r (ad a 21 s.heap.size)) args s 0 0 (ad a 21 s.heap.size)) (F0 m 6 ls [])) :
    ∀ (F : Nat → Int32) (I : Nat → Nat → Int32) (x1 : Int32) (x2 : Int32) (x3 : Int32) (H : Heap) (locs : List Loc) (ls : Array Slot), p_X8_laysBounds_b88 K6 (F 2) (F 4) (F 5) (F 6) (F 8) (F 12) (I 10) (I 13) (I 14) x1 x2 x3 = some (r, (Ff 5), (Ff 6), (Ff 8), (If 10)) → (∀ k, k ∉ ([5, 6, 8] : List Nat) → Ff k = F k) → (∀ k, k ∉ ([10] : List Nat) → If k = I k) → va_P D vwCl (wM a kc F G I J) H → va_S (ad a 21 s.heap.size) s.heap H locs → lv_has ls 4 [(0, .ref (a 0)), (1, .int x1), (2, .int x2), (3, .int x3)] → W p l e rm_X8_laysBounds s m args below meth c H locs 0 0 (MQ below (Qi D (wM a kc Ff G If J) r (ad a 21 s.heap.size)) args s 0 0 (ad a 21 s.heap.size)) (F0 m 88 ls []) := by
  intro F I x1 x2 x3 H locs ls hf hfF hfI hP hS hl
  unfold p_X8_laysBounds_b88 at hf
  refine lv_aload_n X.1 X.2.1 dX8_laysBounds_88 rfl (lv_at hl 0 rfl) ?_
  refine gM_0_22 X q_4_131 dX8_laysBounds_89 hP ?_
  refine lv_iload_n X.1 X.2.1 dX8_laysBounds_92 rfl (lv_at hl 2 rfl) ?_
  refine lv_iload_n X.1 X.2.1 dX8_laysBounds_93 rfl (lv_at hl 3 rfl) ?_
  obtain ⟨h94, hf⟩ := gd_s hf
  obtain ⟨m_keptSeat_94, em_keptSeat_94, hf⟩ := nm_x hf
  refine sM_13 (I := I) X h94 em_keptSeat_94 dX8_laysBounds_94 hP hS (fun H locs hP hS => ?_)
  exact t_X8_laysBounds_b95 X kh6 F (va_up I 10 m_keptSeat_94) x1 H locs ls hf hfF (frm_up hfI (by decide)) hP hS (lv_sub hl [0, 1] rfl)
set_option maxHeartbeats 4000000 in
set_option maxRecDepth 100000 in
theorem t_X8_laysBounds_b6x {p : Program} {l : Launch} {e : Env} {s : State} {m : MethodId} {args : Array Value} {below : List Frame} {meth : Method} {c : Code} {D : va_G} {a : Nat → Nat} {kc : Nat → ClassId} (X : cx 21 p s m args meth c D (tyM kc) a cX8_laysBounds 4 RX8 (some .boolean)) {G : Nat → Int64} {J : Nat → Nat → Int64} {Ff : Nat → Int32} {If : Nat → Nat → Int32} {r : Int32} {K6 : Int32 → Int32 → Int32 → Int32 → Int32 → Int32 → (Nat → Int32) → (Nat → Int32) → (Nat → Int32) → Int32 → Option (Int32 × Int32 × Int32 × Int32 × (Nat → Int32))} (kh6 : ∀ (F : Nat → Int32) (I : Nat → Nat → Int32) (x1 : Int32) (H : Heap) (locs : List Loc) (ls : Array Slot), K6 (F 2) (F 4) (F 5) (F 6) (F 8) (F 12) (I 10) (I 13) (I 14) x1 = some (r, (Ff 5), (Ff 6), (Ff 8), (If 10)) → (∀ k, k ∉ ([5, 6, 8] : List Nat) → Ff k = F k) → (∀ k, k ∉ ([10] : List Nat) → If k = I k) → va_P D vwCl (wM a kc F G I J) H → va_S (ad a 21 s.heap.size) s.heap H locs → lv_has ls 4 [(0, .ref (a 0)), (1, .int x1)] → W p l e rm_X8_laysBounds s m args below meth c H locs 0 0 (MQ below (Qi D (wM a kc Ff G If J) r (ad a 21 s.heap.size)) args s 0 0 (ad a 21 s.heap.size)) (F0 m 6 ls [])) :
    ∀ (F : Nat → Int32) (I : Nat → Nat → Int32) (x1 : Int32) (H : Heap) (locs : List Loc) (ls : Array Slot), p_X8_laysBounds_b6x K6 (F 2) (F 4) (F 5) (F 6) (F 8) (F 12) (I 10) (I 13) (I 14) x1 = some (r, (Ff 5), (Ff 6), (Ff 8), (If 10)) → (∀ k, k ∉ ([5, 6, 8] : List Nat) → Ff k = F k) → (∀ k, k ∉ ([10] : List Nat) → If k = I k) → va_P D vwCl (wM a kc F G I J) H → va_S (ad a 21 s.heap.size) s.heap H locs → lv_has ls 4 [(0, .ref (a 0)), (1, .int x1)] → W p l e rm_X8_laysBounds s m args below meth c H locs 0 0 (MQ below (Qi D (wM a kc Ff G If J) r (ad a 21 s.heap.size)) args s 0 0 (ad a 21 s.heap.size)) (F0 m 6 ls []) := by
  intro F I x1 H locs ls hf hfF hfI hP hS hl
  unfold p_X8_laysBounds_b6x at hf
  refine lv_iload_n X.1 X.2.1 dX8_laysBounds_6 rfl (lv_at hl 1 rfl) ?_
  refine lv_aload_n X.1 X.2.1 dX8_laysBounds_7 rfl (lv_at hl 0 rfl) ?_
  refine gM_0_31 (F := F) X (v := (F 12)) rfl q_4_140 dX8_laysBounds_8 hP ?_
  refine lv_icmp_ge (tgt := 101) X.1 X.2.1 dX8_laysBounds_11 (by decide) (fun c11 => ?_) (fun c11 => ?_)
  · have hf := it_s hf c11
    refine lv_iconst (v := 1) X.1 X.2.1 dX8_laysBounds_101 (by decide) ?_
    obtain ⟨e0, hf⟩ := o2 hf
    obtain ⟨e1, hf⟩ := o2 hf
    obtain ⟨e2, hf⟩ := o2 hf
    obtain ⟨e3, hf⟩ := o2 hf
    have e4 := o1 hf
    have EF : Ff = F := frm_eq hfF (frm_c (e1).symm (frm_c (e2).symm (frm_c (e3).symm frm_n)))
    have EI : If = I := frm_eq hfI (frm_c (e4).symm frm_n)
    exact ret_z X hS (by rw [EF, EI]; exact hP) e0 (by decide) dX8_laysBounds_102
  · have hf := ie_s hf c11
    refine lv_aload_n X.1 X.2.1 dX8_laysBounds_14 rfl (lv_at hl 0 rfl) ?_
    refine gM_0_32 X q_4_141 dX8_laysBounds_15 hP ?_
    refine lv_iload_n X.1 X.2.1 dX8_laysBounds_18 rfl (lv_at hl 1 rfl) ?_
    obtain ⟨h19, hf⟩ := gd_s hf
    refine lM_18 (I := I) X (f := (I 13)) rfl h19 dX8_laysBounds_19 hP ?_
    refine nm_i hf (fun x20 hf => ?_)
    refine lv_istore_n (lv' := [(2, .int x20), (0, .ref (a 0)), (1, .int x1)]) X.1 X.2.1 dX8_laysBounds_20 rfl hl (by decide) rfl (fun ls hl => ?_)
    refine lv_aload_n X.1 X.2.1 dX8_laysBounds_21 rfl (lv_at hl 1 rfl) ?_
    refine gM_0_33 X q_4_142 dX8_laysBounds_22 hP ?_
    refine lv_iload_n X.1 X.2.1 dX8_laysBounds_25 rfl (lv_at hl 2 rfl) ?_
    obtain ⟨h26, hf⟩ := gd_s hf
    refine lM_19 (I := I) X (f := (I 14)) rfl h26 dX8_laysBounds_26 hP ?_
    refine nm_i hf (fun x27 hf => ?_)
    refine lv_istore_n (lv' := [(3, .int x27), (2, .int x20), (0, .ref (a 0)), (1, .int x1)]) X.1 X.2.1 dX8_laysBounds_27 rfl hl (by decide) rfl (fun ls hl => ?_)
    refine lv_aload_n X.1 X.2.1 dX8_laysBounds_28 rfl (lv_at hl 2 rfl) ?_
    refine lv_iload_n X.1 X.2.1 dX8_laysBounds_29 rfl (lv_at hl 0 rfl) ?_
    obtain ⟨r30, ho, hf⟩ := b1_s hf
    refine call_vi (rest := []) X (c_X8_isSeatNow F G I J X.2.2.2.2.2.2.2.1 x27 ho) q_5_215 q_5_217 qs_yX8_isSeatNow q_1_10 q_5_218 ok_X8_isSeatNow rfl 0 rfl rfl ⟨Nat.le_of_ble_eq_true rfl, Nat.le_of_ble_eq_true rfl⟩ rfl rfl hl.1 rfl (Nat.le_of_ble_eq_true rfl) dX8_laysBounds_30 hP hS (fun H locs hP hS => ?_)
    refine lv_if_eq (tgt := 44) X.1 X.2.1 dX8_laysBounds_33 (by decide) (fun c33 => ?_) (fun c33 => ?_)
    · have hf := it_s hf c33
      exact t_X8_laysBounds_b44 X F I  H locs ls hf hfF hfI hP hS (lv_sub hl [2] rfl)
    · have hf := ie_s hf c33
      refine lv_iload_n X.1 X.2.1 dX8_laysBounds_36 rfl (lv_at hl 1 rfl) ?_
      refine lv_aload_n X.1 X.2.1 dX8_laysBounds_37 rfl (lv_at hl 2 rfl) ?_
      refine gM_0_12 (F := F) X (v := (F 4)) rfl q_4_121 dX8_laysBounds_38 hP ?_
      refine lv_icmp_lt (tgt := 46) X.1 X.2.1 dX8_laysBounds_41 (by decide) (fun c41 => ?_) (fun c41 => ?_)
      · have hf := it_s hf c41
        refine lv_iload_n X.1 X.2.1 dX8_laysBounds_46 rfl (lv_at hl 1 rfl) ?_
        refine lv_iconst (v := (-1)) X.1 X.2.1 dX8_laysBounds_47 (by decide) ?_
        refine lv_icmp_ne (tgt := 66) X.1 X.2.1 dX8_laysBounds_48 (by decide) (fun c48 => ?_) (fun c48 => ?_)
        · have hf := ie_s hf c48
          refine lv_aload_n X.1 X.2.1 dX8_laysBounds_66 rfl (lv_at hl 2 rfl) ?_
          refine gM_0_22 X q_4_131 dX8_laysBounds_67 hP ?_
          refine lv_iload_n X.1 X.2.1 dX8_laysBounds_70 rfl (lv_at hl 1 rfl) ?_
          obtain ⟨h71, hf⟩ := gd_s hf
          refine lM_13 (I := I) X (f := (I 10)) rfl h71 dX8_laysBounds_71 hP ?_
          refine lv_iconst (v := (-1)) X.1 X.2.1 dX8_laysBounds_72 (by decide) ?_
          refine lv_icmp_eq (tgt := 88) X.1 X.2.1 dX8_laysBounds_73 (by decide) (fun c73 => ?_) (fun c73 => ?_)
          · have hf := it_s hf c73
            exact t_X8_laysBounds_b88 X kh6 F I x1 x20 x27 H locs ls hf hfF hfI hP hS (lv_sub hl [2, 3, 1, 0] rfl)
          · have hf := ie_s hf c73
            refine lv_aload_n X.1 X.2.1 dX8_laysBounds_76 rfl (lv_at hl 2 rfl) ?_
            refine gM_0_22 X q_4_131 dX8_laysBounds_77 hP ?_
            refine lv_iload_n X.1 X.2.1 dX8_laysBounds_80 rfl (lv_at hl 1 rfl) ?_
            obtain ⟨h81, hf⟩ := gd_s hf
            refine lM_13 (I := I) X (f := (I 10)) rfl h81 dX8_laysBounds_81 hP ?_
            refine lv_iload_n X.1 X.2.1 dX8_laysBounds_82 rfl (lv_at hl 0 rfl) ?_
            refine lv_icmp_eq (tgt := 88) X.1 X.2.1 dX8_laysBounds_83 (by decide) (fun c83 => ?_) (fun c83 => ?_)
            · have hf := it_s hf c83
              exact t_X8_laysBounds_b88 X kh6 F I x1 x20 x27 H locs ls hf hfF hfI hP hS (lv_sub hl [2, 3, 1, 0] rfl)
            · have hf := ie_s hf c83
              refine lv_iconst (v := 0) X.1 X.2.1 dX8_laysBounds_86 (by decide) ?_
              obtain ⟨e0, hf⟩ := o2 hf
              obtain ⟨e1, hf⟩ := o2 hf
              obtain ⟨e2, hf⟩ := o2 hf
              obtain ⟨e3, hf⟩ := o2 hf
              have e4 := o1 hf
              have EF : Ff = F := frm_eq hfF (frm_c (e1).symm (frm_c (e2).symm (frm_c (e3).symm frm_n)))
              have EI : If = I := frm_eq hfI (frm_c (e4).symm frm_n)
              exact ret_z X hS (by rw [EF, EI]; exact hP) e0 (by decide) dX8_laysBounds_87
        · have hf := it_s hf c48
          refine lv_aload_n X.1 X.2.1 dX8_laysBounds_51 rfl (lv_at hl 2 rfl) ?_
          refine lv_dup X.1 X.2.1 dX8_laysBounds_52 rfl ?_
          refine gM_0_21 (F := F) X (v := (F 8)) rfl q_4_130 dX8_laysBounds_53 hP ?_
          refine lv_iconst (v := 1) X.1 X.2.1 dX8_laysBounds_56 (by decide) ?_
          refine lv_iload_n X.1 X.2.1 dX8_laysBounds_57 rfl (lv_at hl 0 rfl) ?_
          refine lv_ishl X.1 X.2.1 dX8_laysBounds_58 ?_
          refine lv_ior X.1 X.2.1 dX8_laysBounds_59 ?_
          refine nm_i hf (fun m_keptFree_60 hf => ?_)
          refine pM_0_21 X q_4_130 dX8_laysBounds_60 hP hS (fun H locs hP hS => ?_)
          refine lv_goto (tgt := 95) X.1 X.2.1 dX8_laysBounds_63 (by decide) ?_
          exact t_X8_laysBounds_b95 X kh6 (va_up F 8 m_keptFree_60) I x1 H locs ls hf (frm_up hfF (by decide)) hfI hP hS (lv_sub hl [2, 3] rfl)
      · have hf := ie_s hf c41
        exact t_X8_laysBounds_b44 X F I  H locs ls hf hfF hfI hP hS (lv_sub hl [2] rfl)
set_option maxRecDepth 100000 in
theorem t_X8_laysBounds_b6 {p : Program} {l : Launch} {e : Env} {s : State} {m : MethodId} {args : Array Value} {below : List Frame} {meth : Method} {c : Code} {D : va_G} {a : Nat → Nat} {kc : Nat → ClassId} (X : cx 21 p s m args meth c D (tyM kc) a cX8_laysBounds 4 RX8 (some .boolean)) {G : Nat → Int64} {J : Nat → Nat → Int64} {Ff : Nat → Int32} {If : Nat → Nat → Int32} {r : Int32} :
    ∀ (n : Nat) (F : Nat → Int32) (I : Nat → Nat → Int32) (x1 : Int32) (H : Heap) (locs : List Loc) (ls : Array Slot), p_X8_laysBounds_b6 n (F 2) (F 4) (F 5) (F 6) (F 8) (F 12) (I 10) (I 13) (I 14) x1 = some (r, (Ff 5), (Ff 6), (Ff 8), (If 10)) → (∀ k, k ∉ ([5, 6, 8] : List Nat) → Ff k = F k) → (∀ k, k ∉ ([10] : List Nat) → If k = I k) → va_P D vwCl (wM a kc F G I J) H → va_S (ad a 21 s.heap.size) s.heap H locs → lv_has ls 4 [(0, .ref (a 0)), (1, .int x1)] → W p l e rm_X8_laysBounds s m args below meth c H locs 0 0 (MQ below (Qi D (wM a kc Ff G If J) r (ad a 21 s.heap.size)) args s 0 0 (ad a 21 s.heap.size)) (F0 m 6 ls []) := by
  intro n
  induction n with
  | zero => intro F I x1 H locs ls hf hfF hfI hP hS hl; exact (nos hf).elim
  | succ n ih => exact t_X8_laysBounds_b6x X ih
set_option maxHeartbeats 4000000 in
set_option maxRecDepth 100000 in
theorem t_X8_laysBounds_b0 {p : Program} {l : Launch} {e : Env} {s : State} {m : MethodId} {args : Array Value} {below : List Frame} {meth : Method} {c : Code} {D : va_G} {a : Nat → Nat} {kc : Nat → ClassId} (X : cx 21 p s m args meth c D (tyM kc) a cX8_laysBounds 4 RX8 (some .boolean)) {G : Nat → Int64} {J : Nat → Nat → Int64} {Ff : Nat → Int32} {If : Nat → Nat → Int32} {r : Int32} :
    ∀ (F : Nat → Int32) (I : Nat → Nat → Int32)  (H : Heap) (locs : List Loc) (ls : Array Slot), p_X8_laysBounds_b0 (F 2) (F 4) (F 5) (F 6) (F 8) (F 12) (I 10) (I 13) (I 14)  = some (r, (Ff 5), (Ff 6), (Ff 8), (If 10)) → (∀ k, k ∉ ([5, 6, 8] : List Nat) → Ff k = F k) → (∀ k, k ∉ ([10] : List Nat) → If k = I k) → va_P D vwCl (wM a kc F G I J) H → va_S (ad a 21 s.heap.size) s.heap H locs → lv_has ls 4 [(0, .ref (a 0))] → W p l e rm_X8_laysBounds s m args below meth c H locs 0 0 (MQ below (Qi D (wM a kc Ff G If J) r (ad a 21 s.heap.size)) args s 0 0 (ad a 21 s.heap.size)) (F0 m 0 ls []) := by
  intro F I  H locs ls hf hfF hfI hP hS hl
  unfold p_X8_laysBounds_b0 at hf
  refine lv_aload_n X.1 X.2.1 dX8_laysBounds_0 rfl (lv_at hl 0 rfl) ?_
  obtain ⟨m_loser_1, m_onlyWho_1, m_keptFree_1, m_keptSeat_1, ho, hf⟩ := b4_s hf
  refine call_vv (rest := []) X (c_X8_noBounds F G I J X.2.2.2.2.2.2.2.1  ho) q_5_101 q_5_103 qs_yX8_noBounds q_1_10 q_5_104 ok_X8_noBounds rfl 0 rfl rfl ⟨Nat.le_of_ble_eq_true rfl, Nat.le_of_ble_eq_true rfl⟩ rfl rfl hl.1 rfl (Nat.le_of_ble_eq_true rfl) dX8_laysBounds_1 hP hS (fun H locs hP hS => ?_)
  refine lv_iconst (v := 0) X.1 X.2.1 dX8_laysBounds_4 (by decide) ?_
  refine lv_istore_n (lv' := [(1, .int 0), (0, .ref (a 0))]) X.1 X.2.1 dX8_laysBounds_5 rfl hl (by decide) rfl (fun ls hl => ?_)
  exact t_X8_laysBounds_b6 X 4096 (va_up (va_up (va_up F 5 m_loser_1) 6 m_onlyWho_1) 8 m_keptFree_1) (va_up I 10 m_keptSeat_1) 0 H locs ls hf (frm_up (frm_up (frm_up hfF (by decide)) (by decide)) (by decide)) (frm_up hfI (by decide)) hP hS (lv_sub hl [1, 0] rfl)
set_option maxRecDepth 100000 in
theorem c_X8_laysBounds {l : Launch} {D : va_G} {a : Nat → Nat} {kc : Nat → ClassId} (F : Nat → Int32) (G : Nat → Int64) (I : Nat → Nat → Int32) (J : Nat → Nat → Int64) (hAp : ∀ i j, i < 21 → j < 21 → a i = a j → i = j)  {o0 : Int32} {o1 : Int32} {o2 : Int32} {o3 : Int32} {o4 : Nat → Int32} (hf : p_X8_laysBounds (F 2) (F 4) (F 5) (F 6) (F 8) (F 12) (I 10) (I 13) (I 14)  = some (o0, o1, o2, o3, o4)) : Ct 21 l yX8_laysBounds cX8_laysBounds 4 (some .boolean) rm_X8_laysBounds D (tyM kc) a (wM a kc F G I J) [.ref (a 0)] (Qi D (wM a kc (va_up (va_up (va_up F 5 o1) 6 o2) 8 o3) G (va_up I 10 o4) J) o0) :=
  Ct.of (by decide +kernel) hAp (Nat.le_of_ble_eq_true rfl) (fun p e s m args below meth c ls X hP hl => t_X8_laysBounds_b0 X F I  _ _ _ hf (frm_ul (frm_ul (frm_ul (fun k _ => rfl) (by decide)) (by decide)) (by decide)) (frm_ul (fun k _ => rfl) (by decide)) hP va_S.rf hl)
abbrev rm_X8_seenWith : Room := { frames := 4, cells := 0, slots := 0, locals := 98 }
set_option maxHeartbeats 4000000 in
set_option maxRecDepth 100000 in
theorem t_X8_seenWith_b60x {p : Program} {l : Launch} {e : Env} {s : State} {m : MethodId} {args : Array Value} {below : List Frame} {meth : Method} {c : Code} {D : va_G} {a : Nat → Nat} {kc : Nat → ClassId} (X : cx 21 p s m args meth c D (tyM kc) a cX8_seenWith 7 RX8 (some .long))  {Ff : Nat → Int32} {Gf : Nat → Int64} {If : Nat → Nat → Int32} {Jf : Nat → Nat → Int64} {r : Int64} {K60 : Int32 → Int32 → Int32 → Int32 → Int32 → Int32 → Int32 → Int64 → (Nat → Int32) → (Nat → Int32) → (Nat → Int32) → (Nat → Int32) → (Nat → Int32) → (Nat → Int32) → (Nat → Int64) → (Nat → Int64) → Int64 → Int32 → Option (Int64 × Int32 × Int32 × Int32 × Int32 × Int64 × (Nat → Int32) × (Nat → Int64) × (Nat → Int64))} (kh60 : ∀ (F : Nat → Int32) (G : Nat → Int64) (I : Nat → Nat → Int32) (J : Nat → Nat → Int64) (x4 : Int64) (x6 : Int32) (H : Heap) (locs : List Loc) (ls : Array Slot), K60 (F 2) (F 4) (F 5) (F 6) (F 7) (F 8) (F 12) (G 0) (I 6) (I 8) (I 9) (I 10) (I 13) (I 14) (J 0) (J 1) x4 x6 = some (r, (Ff 5), (Ff 6), (Ff 7), (Ff 8), (Gf 0), (If 10), (Jf 0), (Jf 1)) → (∀ k, k ∉ ([5, 6, 7, 8] : List Nat) → Ff k = F k) → (∀ k, k ∉ ([0] : List Nat) → Gf k = G k) → (∀ k, k ∉ ([10] : List Nat) → If k = I k) → (∀ k, k ∉ ([0, 1] : List Nat) → Jf k = J k) → va_P D vwCl (wM a kc F G I J) H → va_S (ad a 21 s.heap.size) s.heap H locs → lv_has ls 7 [(0, .ref (a 0)), (4, .long x4), (6, .int x6)] → W p l e rm_X8_seenWith s m args below meth c H locs 0 0 (MQ below (Ql D (wM a kc Ff Gf If Jf) r (ad a 21 s.heap.size)) args s 0 0 (ad a 21 s.heap.size)) (F0 m 60 ls [])) :
    ∀ (F : Nat → Int32) (G : Nat → Int64) (I : Nat → Nat → Int32) (J : Nat → Nat → Int64) (x4 : Int64) (x6 : Int32) (H : Heap) (locs : List Loc) (ls : Array Slot), p_X8_seenWith_b60x K60 (F 2) (F 4) (F 5) (F 6) (F 7) (F 8) (F 12) (G 0) (I 6) (I 8) (I 9) (I 10) (I 13) (I 14) (J 0) (J 1) x4 x6 = some (r, (Ff 5), (Ff 6), (Ff 7), (Ff 8), (Gf 0), (If 10), (Jf 0), (Jf 1)) → (∀ k, k ∉ ([5, 6, 7, 8] : List Nat) → Ff k = F k) → (∀ k, k ∉ ([0] : List Nat) → Gf k = G k) → (∀ k, k ∉ ([10] : List Nat) → If k = I k) → (∀ k, k ∉ ([0, 1] : List Nat) → Jf k = J k) → va_P D vwCl (wM a kc F G I J) H → va_S (ad a 21 s.heap.size) s.heap H locs → lv_has ls 7 [(0, .ref (a 0)), (4, .long x4), (6, .int x6)] → W p l e rm_X8_seenWith s m args below meth c H locs 0 0 (MQ below (Ql D (wM a kc Ff Gf If Jf) r (ad a 21 s.heap.size)) args s 0 0 (ad a 21 s.heap.size)) (F0 m 60 ls []) := by
  intro F G I J x4 x6 H locs ls hf hfF hfG hfI hfJ hP hS hl
  unfold p_X8_seenWith_b60x at hf
  refine lv_iload X.1 X.2.1 dX8_seenWith_60 (lv_at hl 2 rfl) ?_
  refine lv_aload_n X.1 X.2.1 dX8_seenWith_62 rfl (lv_at hl 0 rfl) ?_
  obtain ⟨r63, ho, hf⟩ := b1_s hf
  refine call_vi (rest := [.int x6]) X (c_X8_whole F G I J X.2.2.2.2.2.2.2.1  ho) q_5_121 q_5_123 qs_yX8_whole q_1_10 q_5_124 ok_X8_whole rfl 0 rfl rfl ⟨Nat.le_of_ble_eq_true rfl, Nat.le_of_ble_eq_true rfl⟩ rfl rfl hl.1 rfl (Nat.le_of_ble_eq_true rfl) dX8_seenWith_63 hP hS (fun H locs hP hS => ?_)
  refine lv_icmp_gt (tgt := 87) X.1 X.2.1 dX8_seenWith_66 (by decide) (fun c66 => ?_) (fun c66 => ?_)
  · have hf := it_s hf c66
    refine lv_lload X.1 X.2.1 dX8_seenWith_87 (lv_at hl 1 rfl) ?_
    obtain ⟨e0, hf⟩ := o2 hf
    obtain ⟨e1, hf⟩ := o2 hf
    obtain ⟨e2, hf⟩ := o2 hf
    obtain ⟨e3, hf⟩ := o2 hf
    obtain ⟨e4, hf⟩ := o2 hf
    obtain ⟨e5, hf⟩ := o2 hf
    obtain ⟨e6, hf⟩ := o2 hf
    obtain ⟨e7, hf⟩ := o2 hf
    have e8 := o1 hf
    have EF : Ff = F := frm_eq hfF (frm_c (e1).symm (frm_c (e2).symm (frm_c (e3).symm (frm_c (e4).symm frm_n))))
    have EG : Gf = G := frm_eq hfG (frm_c (e5).symm frm_n)
    have EI : If = I := frm_eq hfI (frm_c (e6).symm frm_n)
    have EJ : Jf = J := frm_eq hfJ (frm_c (e7).symm (frm_c (e8).symm frm_n))
    exact ret_l X hS (by rw [EF, EG, EI, EJ]; exact hP) e0 dX8_seenWith_89
  · have hf := ie_s hf c66
    refine lv_lload X.1 X.2.1 dX8_seenWith_69 (lv_at hl 1 rfl) ?_
    refine lv_aload_n X.1 X.2.1 dX8_seenWith_71 rfl (lv_at hl 0 rfl) ?_
    refine gM_0_15 X q_4_124 dX8_seenWith_72 hP ?_
    refine lv_iload X.1 X.2.1 dX8_seenWith_75 (lv_at hl 2 rfl) ?_
    obtain ⟨h77, hf⟩ := gd_s hf
    refine lM_11 (J := J) X (f := (J 0)) rfl h77 dX8_seenWith_77 hP ?_
    refine lv_ladd X.1 X.2.1 dX8_seenWith_78 ?_
    refine nm_l hf (fun x79 hf => ?_)
    refine lv_lstore (lv' := [(4, .long x79), (0, .ref (a 0)), (6, .int x6)]) X.1 X.2.1 dX8_seenWith_79 hl (by decide) rfl (fun ls hl => ?_)
    obtain ⟨x81, ex81, hf⟩ := nm_x hf
    refine lv_iinc (v := x81) (lv' := [(6, .int x81), (4, .long x79), (0, .ref (a 0))]) X.1 X.2.1 dX8_seenWith_81 hl (k := 2) rfl ex81 (by decide) rfl (fun ls hl => ?_)
    refine lv_goto (tgt := 60) X.1 X.2.1 dX8_seenWith_84 (by decide) ?_
    exact kh60 F G I J x79 x81 H locs ls hf hfF hfG hfI hfJ hP hS (lv_sub hl [2, 1, 0] rfl)
set_option maxRecDepth 100000 in
theorem t_X8_seenWith_b60 {p : Program} {l : Launch} {e : Env} {s : State} {m : MethodId} {args : Array Value} {below : List Frame} {meth : Method} {c : Code} {D : va_G} {a : Nat → Nat} {kc : Nat → ClassId} (X : cx 21 p s m args meth c D (tyM kc) a cX8_seenWith 7 RX8 (some .long))  {Ff : Nat → Int32} {Gf : Nat → Int64} {If : Nat → Nat → Int32} {Jf : Nat → Nat → Int64} {r : Int64} :
    ∀ (n : Nat) (F : Nat → Int32) (G : Nat → Int64) (I : Nat → Nat → Int32) (J : Nat → Nat → Int64) (x4 : Int64) (x6 : Int32) (H : Heap) (locs : List Loc) (ls : Array Slot), p_X8_seenWith_b60 n (F 2) (F 4) (F 5) (F 6) (F 7) (F 8) (F 12) (G 0) (I 6) (I 8) (I 9) (I 10) (I 13) (I 14) (J 0) (J 1) x4 x6 = some (r, (Ff 5), (Ff 6), (Ff 7), (Ff 8), (Gf 0), (If 10), (Jf 0), (Jf 1)) → (∀ k, k ∉ ([5, 6, 7, 8] : List Nat) → Ff k = F k) → (∀ k, k ∉ ([0] : List Nat) → Gf k = G k) → (∀ k, k ∉ ([10] : List Nat) → If k = I k) → (∀ k, k ∉ ([0, 1] : List Nat) → Jf k = J k) → va_P D vwCl (wM a kc F G I J) H → va_S (ad a 21 s.heap.size) s.heap H locs → lv_has ls 7 [(0, .ref (a 0)), (4, .long x4), (6, .int x6)] → W p l e rm_X8_seenWith s m args below meth c H locs 0 0 (MQ below (Ql D (wM a kc Ff Gf If Jf) r (ad a 21 s.heap.size)) args s 0 0 (ad a 21 s.heap.size)) (F0 m 60 ls []) := by
  intro n
  induction n with
  | zero => intro F G I J x4 x6 H locs ls hf hfF hfG hfI hfJ hP hS hl; exact (nos hf).elim
  | succ n ih => exact t_X8_seenWith_b60x X ih
set_option maxHeartbeats 4000000 in
set_option maxRecDepth 100000 in
theorem t_X8_seenWith_b31x {p : Program} {l : Launch} {e : Env} {s : State} {m : MethodId} {args : Array Value} {below : List Frame} {meth : Method} {c : Code} {D : va_G} {a : Nat → Nat} {kc : Nat → ClassId} (X : cx 21 p s m args meth c D (tyM kc) a cX8_seenWith 7 RX8 (some .long))  {Ff : Nat → Int32} {Gf : Nat → Int64} {If : Nat → Nat → Int32} {Jf : Nat → Nat → Int64} {r : Int64} {K31 : Int32 → Int32 → Int32 → Int32 → Int32 → Int32 → Int32 → Int64 → (Nat → Int32) → (Nat → Int32) → (Nat → Int32) → (Nat → Int32) → (Nat → Int32) → (Nat → Int32) → (Nat → Int64) → (Nat → Int64) → Int32 → Option (Int64 × Int32 × Int32 × Int32 × Int32 × Int64 × (Nat → Int32) × (Nat → Int64) × (Nat → Int64))} (kh31 : ∀ (F : Nat → Int32) (G : Nat → Int64) (I : Nat → Nat → Int32) (J : Nat → Nat → Int64) (x4 : Int32) (H : Heap) (locs : List Loc) (ls : Array Slot), K31 (F 2) (F 4) (F 5) (F 6) (F 7) (F 8) (F 12) (G 0) (I 6) (I 8) (I 9) (I 10) (I 13) (I 14) (J 0) (J 1) x4 = some (r, (Ff 5), (Ff 6), (Ff 7), (Ff 8), (Gf 0), (If 10), (Jf 0), (Jf 1)) → (∀ k, k ∉ ([5, 6, 7, 8] : List Nat) → Ff k = F k) → (∀ k, k ∉ ([0] : List Nat) → Gf k = G k) → (∀ k, k ∉ ([10] : List Nat) → If k = I k) → (∀ k, k ∉ ([0, 1] : List Nat) → Jf k = J k) → va_P D vwCl (wM a kc F G I J) H → va_S (ad a 21 s.heap.size) s.heap H locs → lv_has ls 7 [(0, .ref (a 0)), (4, .int x4)] → W p l e rm_X8_seenWith s m args below meth c H locs 0 0 (MQ below (Ql D (wM a kc Ff Gf If Jf) r (ad a 21 s.heap.size)) args s 0 0 (ad a 21 s.heap.size)) (F0 m 31 ls [])) :
    ∀ (F : Nat → Int32) (G : Nat → Int64) (I : Nat → Nat → Int32) (J : Nat → Nat → Int64) (x4 : Int32) (H : Heap) (locs : List Loc) (ls : Array Slot), p_X8_seenWith_b31x K31 (F 2) (F 4) (F 5) (F 6) (F 7) (F 8) (F 12) (G 0) (I 6) (I 8) (I 9) (I 10) (I 13) (I 14) (J 0) (J 1) x4 = some (r, (Ff 5), (Ff 6), (Ff 7), (Ff 8), (Gf 0), (If 10), (Jf 0), (Jf 1)) → (∀ k, k ∉ ([5, 6, 7, 8] : List Nat) → Ff k = F k) → (∀ k, k ∉ ([0] : List Nat) → Gf k = G k) → (∀ k, k ∉ ([10] : List Nat) → If k = I k) → (∀ k, k ∉ ([0, 1] : List Nat) → Jf k = J k) → va_P D vwCl (wM a kc F G I J) H → va_S (ad a 21 s.heap.size) s.heap H locs → lv_has ls 7 [(0, .ref (a 0)), (4, .int x4)] → W p l e rm_X8_seenWith s m args below meth c H locs 0 0 (MQ below (Ql D (wM a kc Ff Gf If Jf) r (ad a 21 s.heap.size)) args s 0 0 (ad a 21 s.heap.size)) (F0 m 31 ls []) := by
  intro F G I J x4 H locs ls hf hfF hfG hfI hfJ hP hS hl
  unfold p_X8_seenWith_b31x at hf
  refine lv_iload X.1 X.2.1 dX8_seenWith_31 (lv_at hl 1 rfl) ?_
  refine lv_aload_n X.1 X.2.1 dX8_seenWith_33 rfl (lv_at hl 0 rfl) ?_
  refine gM_0_12 (F := F) X (v := (F 4)) rfl q_4_121 dX8_seenWith_34 hP ?_
  refine lv_icmp_ge (tgt := 54) X.1 X.2.1 dX8_seenWith_37 (by decide) (fun c37 => ?_) (fun c37 => ?_)
  · have hf := it_s hf c37
    refine lv_lconst (v := 0) X.1 X.2.1 dX8_seenWith_54 (by decide) ?_
    refine lv_lstore (lv' := [(4, .long 0), (0, .ref (a 0))]) X.1 X.2.1 dX8_seenWith_55 hl (by decide) rfl (fun ls hl => ?_)
    refine lv_iconst (v := 0) X.1 X.2.1 dX8_seenWith_57 (by decide) ?_
    refine lv_istore (lv' := [(6, .int 0), (4, .long 0), (0, .ref (a 0))]) X.1 X.2.1 dX8_seenWith_58 hl (by decide) rfl (fun ls hl => ?_)
    exact t_X8_seenWith_b60 X 4096 F G I J 0 0 H locs ls hf hfF hfG hfI hfJ hP hS (lv_sub hl [2, 1, 0] rfl)
  · have hf := ie_s hf c37
    refine lv_aload_n X.1 X.2.1 dX8_seenWith_40 rfl (lv_at hl 0 rfl) ?_
    refine lv_iload X.1 X.2.1 dX8_seenWith_41 (lv_at hl 1 rfl) ?_
    refine lv_iload X.1 X.2.1 dX8_seenWith_43 (lv_at hl 1 rfl) ?_
    obtain ⟨m_all_45, m_ways_45, m_next_45, ho, hf⟩ := b3_s hf
    refine call_vv (rest := []) X (c_X8_sits F G I J X.2.2.2.2.2.2.2.1 x4 x4 ho) q_5_109 q_5_111 qs_yX8_sits q_1_10 q_5_112 ok_X8_sits rfl 0 rfl rfl ⟨Nat.le_of_ble_eq_true rfl, Nat.le_of_ble_eq_true rfl⟩ rfl rfl hl.1 rfl (Nat.le_of_ble_eq_true rfl) dX8_seenWith_45 hP hS (fun H locs hP hS => ?_)
    obtain ⟨x48, ex48, hf⟩ := nm_x hf
    refine lv_iinc (v := x48) (lv' := [(4, .int x48), (0, .ref (a 0))]) X.1 X.2.1 dX8_seenWith_48 hl (k := 1) rfl ex48 (by decide) rfl (fun ls hl => ?_)
    refine lv_goto (tgt := 31) X.1 X.2.1 dX8_seenWith_51 (by decide) ?_
    exact kh31 F (va_up G 0 m_all_45) I (va_up (va_up J 0 m_ways_45) 1 m_next_45) x48 H locs ls hf hfF (frm_up hfG (by decide)) hfI (frm_up (frm_up hfJ (by decide)) (by decide)) hP hS (lv_sub hl [1, 0] rfl)
set_option maxRecDepth 100000 in
theorem t_X8_seenWith_b31 {p : Program} {l : Launch} {e : Env} {s : State} {m : MethodId} {args : Array Value} {below : List Frame} {meth : Method} {c : Code} {D : va_G} {a : Nat → Nat} {kc : Nat → ClassId} (X : cx 21 p s m args meth c D (tyM kc) a cX8_seenWith 7 RX8 (some .long))  {Ff : Nat → Int32} {Gf : Nat → Int64} {If : Nat → Nat → Int32} {Jf : Nat → Nat → Int64} {r : Int64} :
    ∀ (n : Nat) (F : Nat → Int32) (G : Nat → Int64) (I : Nat → Nat → Int32) (J : Nat → Nat → Int64) (x4 : Int32) (H : Heap) (locs : List Loc) (ls : Array Slot), p_X8_seenWith_b31 n (F 2) (F 4) (F 5) (F 6) (F 7) (F 8) (F 12) (G 0) (I 6) (I 8) (I 9) (I 10) (I 13) (I 14) (J 0) (J 1) x4 = some (r, (Ff 5), (Ff 6), (Ff 7), (Ff 8), (Gf 0), (If 10), (Jf 0), (Jf 1)) → (∀ k, k ∉ ([5, 6, 7, 8] : List Nat) → Ff k = F k) → (∀ k, k ∉ ([0] : List Nat) → Gf k = G k) → (∀ k, k ∉ ([10] : List Nat) → If k = I k) → (∀ k, k ∉ ([0, 1] : List Nat) → Jf k = J k) → va_P D vwCl (wM a kc F G I J) H → va_S (ad a 21 s.heap.size) s.heap H locs → lv_has ls 7 [(0, .ref (a 0)), (4, .int x4)] → W p l e rm_X8_seenWith s m args below meth c H locs 0 0 (MQ below (Ql D (wM a kc Ff Gf If Jf) r (ad a 21 s.heap.size)) args s 0 0 (ad a 21 s.heap.size)) (F0 m 31 ls []) := by
  intro n
  induction n with
  | zero => intro F G I J x4 H locs ls hf hfF hfG hfI hfJ hP hS hl; exact (nos hf).elim
  | succ n ih => exact t_X8_seenWith_b31x X ih
set_option maxHeartbeats 4000000 in
set_option maxRecDepth 100000 in
theorem t_X8_seenWith_b0 {p : Program} {l : Launch} {e : Env} {s : State} {m : MethodId} {args : Array Value} {below : List Frame} {meth : Method} {c : Code} {D : va_G} {a : Nat → Nat} {kc : Nat → ClassId} (X : cx 21 p s m args meth c D (tyM kc) a cX8_seenWith 7 RX8 (some .long))  {Ff : Nat → Int32} {Gf : Nat → Int64} {If : Nat → Nat → Int32} {Jf : Nat → Nat → Int64} {r : Int64} :
    ∀ (F : Nat → Int32) (G : Nat → Int64) (I : Nat → Nat → Int32) (J : Nat → Nat → Int64) (x1 : Int32) (x2 : Int32) (x3 : Int32) (H : Heap) (locs : List Loc) (ls : Array Slot), p_X8_seenWith_b0 (F 2) (F 4) (F 5) (F 6) (F 7) (F 8) (F 12) (G 0) (I 6) (I 8) (I 9) (I 10) (I 13) (I 14) (J 0) (J 1) x1 x2 x3 = some (r, (Ff 5), (Ff 6), (Ff 7), (Ff 8), (Gf 0), (If 10), (Jf 0), (Jf 1)) → (∀ k, k ∉ ([5, 6, 7, 8] : List Nat) → Ff k = F k) → (∀ k, k ∉ ([0] : List Nat) → Gf k = G k) → (∀ k, k ∉ ([10] : List Nat) → If k = I k) → (∀ k, k ∉ ([0, 1] : List Nat) → Jf k = J k) → va_P D vwCl (wM a kc F G I J) H → va_S (ad a 21 s.heap.size) s.heap H locs → lv_has ls 7 [(0, .ref (a 0)), (1, .int x1), (2, .int x2), (3, .int x3)] → W p l e rm_X8_seenWith s m args below meth c H locs 0 0 (MQ below (Ql D (wM a kc Ff Gf If Jf) r (ad a 21 s.heap.size)) args s 0 0 (ad a 21 s.heap.size)) (F0 m 0 ls []) := by
  intro F G I J x1 x2 x3 H locs ls hf hfF hfG hfI hfJ hP hS hl
  unfold p_X8_seenWith_b0 at hf
  refine lv_aload_n X.1 X.2.1 dX8_seenWith_0 rfl (lv_at hl 0 rfl) ?_
  obtain ⟨r1, m_loser_1, m_onlyWho_1, m_keptFree_1, m_keptSeat_1, ho, hf⟩ := b5_s hf
  refine call_vi (rest := []) X (c_X8_laysBounds F G I J X.2.2.2.2.2.2.2.1  ho) q_6_49 q_6_51 qs_yX8_laysBounds q_1_10 q_6_52 ok_X8_laysBounds rfl 0 rfl rfl ⟨Nat.le_of_ble_eq_true rfl, Nat.le_of_ble_eq_true rfl⟩ rfl rfl hl.1 rfl (Nat.le_of_ble_eq_true rfl) dX8_seenWith_1 hP hS (fun H locs hP hS => ?_)
  refine lv_if_ne (tgt := 9) X.1 X.2.1 dX8_seenWith_4 (by decide) (fun c4 => ?_) (fun c4 => ?_)
  · have hf := ie_s hf c4
    refine lv_aload_n X.1 X.2.1 dX8_seenWith_9 rfl (lv_at hl 0 rfl) ?_
    refine lv_iload_n X.1 X.2.1 dX8_seenWith_10 rfl (lv_at hl 1 rfl) ?_
    refine pM_0_18 X q_4_127 dX8_seenWith_11 hP hS (fun H locs hP hS => ?_)
    refine lv_aload_n X.1 X.2.1 dX8_seenWith_14 rfl (lv_at hl 0 rfl) ?_
    refine lv_iload_n X.1 X.2.1 dX8_seenWith_15 rfl (lv_at hl 2 rfl) ?_
    refine pM_0_19 X q_4_128 dX8_seenWith_16 hP hS (fun H locs hP hS => ?_)
    refine lv_aload_n X.1 X.2.1 dX8_seenWith_19 rfl (lv_at hl 0 rfl) ?_
    refine lv_iload_n X.1 X.2.1 dX8_seenWith_20 rfl (lv_at hl 3 rfl) ?_
    refine pM_0_20 X q_4_129 dX8_seenWith_21 hP hS (fun H locs hP hS => ?_)
    refine lv_aload_n X.1 X.2.1 dX8_seenWith_24 rfl (lv_at hl 0 rfl) ?_
    obtain ⟨m_all_25, m_ways_25, ho, hf⟩ := b2_s hf
    refine call_vv (rest := []) X (c_X8_begins (va_up (va_up (va_up (va_up (va_up (va_up F 5 m_loser_1) 6 m_onlyWho_1) 8 m_keptFree_1) 5 x1) 6 x2) 7 x3) G (va_up I 10 m_keptSeat_1) J X.2.2.2.2.2.2.2.1  ho) q_5_105 q_5_107 qs_yX8_begins q_1_10 q_5_108 ok_X8_begins rfl 0 rfl rfl ⟨Nat.le_of_ble_eq_true rfl, Nat.le_of_ble_eq_true rfl⟩ rfl rfl hl.1 rfl (Nat.le_of_ble_eq_true rfl) dX8_seenWith_25 hP hS (fun H locs hP hS => ?_)
    refine lv_iconst (v := 0) X.1 X.2.1 dX8_seenWith_28 (by decide) ?_
    refine lv_istore (lv' := [(4, .int 0), (0, .ref (a 0)), (1, .int x1), (2, .int x2), (3, .int x3)]) X.1 X.2.1 dX8_seenWith_29 hl (by decide) rfl (fun ls hl => ?_)
    exact t_X8_seenWith_b31 X 4096 (va_up (va_up (va_up (va_up (va_up (va_up F 5 m_loser_1) 6 m_onlyWho_1) 8 m_keptFree_1) 5 x1) 6 x2) 7 x3) (va_up G 0 m_all_25) (va_up I 10 m_keptSeat_1) (va_up J 0 m_ways_25) 0 H locs ls hf (frm_up (frm_up (frm_up (frm_up (frm_up (frm_up hfF (by decide)) (by decide)) (by decide)) (by decide)) (by decide)) (by decide)) (frm_up hfG (by decide)) (frm_up hfI (by decide)) (frm_up hfJ (by decide)) hP hS (lv_sub hl [1, 0] rfl)
  · have hf := it_s hf c4
    refine lv_lconst (v := 0) X.1 X.2.1 dX8_seenWith_7 (by decide) ?_
    obtain ⟨e0, hf⟩ := o2 hf
    obtain ⟨e1, hf⟩ := o2 hf
    obtain ⟨e2, hf⟩ := o2 hf
    obtain ⟨e3, hf⟩ := o2 hf
    obtain ⟨e4, hf⟩ := o2 hf
    obtain ⟨e5, hf⟩ := o2 hf
    obtain ⟨e6, hf⟩ := o2 hf
    obtain ⟨e7, hf⟩ := o2 hf
    have e8 := o1 hf
    have EF : Ff = (va_up (va_up (va_up F 5 m_loser_1) 6 m_onlyWho_1) 8 m_keptFree_1) := frm_eq (frm_up (frm_up (frm_up hfF (by decide)) (by decide)) (by decide)) (frm_c (e1).symm (frm_c (e2).symm (frm_c (e3).symm (frm_c (e4).symm frm_n))))
    have EG : Gf = G := frm_eq hfG (frm_c (e5).symm frm_n)
    have EI : If = (va_up I 10 m_keptSeat_1) := frm_eq (frm_up hfI (by decide)) (frm_c (e6).symm frm_n)
    have EJ : Jf = J := frm_eq hfJ (frm_c (e7).symm (frm_c (e8).symm frm_n))
    exact ret_l X hS (by rw [EF, EG, EI, EJ]; exact hP) e0 dX8_seenWith_8
set_option maxRecDepth 100000 in
theorem c_X8_seenWith {l : Launch} {D : va_G} {a : Nat → Nat} {kc : Nat → ClassId} (F : Nat → Int32) (G : Nat → Int64) (I : Nat → Nat → Int32) (J : Nat → Nat → Int64) (hAp : ∀ i j, i < 21 → j < 21 → a i = a j → i = j) (x1 : Int32) (x2 : Int32) (x3 : Int32) {o0 : Int64} {o1 : Int32} {o2 : Int32} {o3 : Int32} {o4 : Int32} {o5 : Int64} {o6 : Nat → Int32} {o7 : Nat → Int64} {o8 : Nat → Int64} (hf : p_X8_seenWith (F 2) (F 4) (F 5) (F 6) (F 7) (F 8) (F 12) (G 0) (I 6) (I 8) (I 9) (I 10) (I 13) (I 14) (J 0) (J 1) x1 x2 x3 = some (o0, o1, o2, o3, o4, o5, o6, o7, o8)) : Ct 21 l yX8_seenWith cX8_seenWith 7 (some .long) rm_X8_seenWith D (tyM kc) a (wM a kc F G I J) [.ref (a 0), .int x1, .int x2, .int x3] (Ql D (wM a kc (va_up (va_up (va_up (va_up F 5 o1) 6 o2) 7 o3) 8 o4) (va_up G 0 o5) (va_up I 10 o6) (va_up (va_up J 0 o7) 1 o8)) o0) :=
  Ct.of (by decide +kernel) hAp (Nat.le_of_ble_eq_true rfl) (fun p e s m args below meth c ls X hP hl => t_X8_seenWith_b0 X F G I J x1 x2 x3 _ _ _ hf (frm_ul (frm_ul (frm_ul (frm_ul (fun k _ => rfl) (by decide)) (by decide)) (by decide)) (by decide)) (frm_ul (fun k _ => rfl) (by decide)) (frm_ul (fun k _ => rfl) (by decide)) (frm_ul (frm_ul (fun k _ => rfl) (by decide)) (by decide)) hP va_S.rf hl)
abbrev rm_X8_losersNow : Room := { frames := 5, cells := 0, slots := 0, locals := 124 }
set_option maxHeartbeats 4000000 in
set_option maxRecDepth 100000 in
theorem t_X8_losersNow_b41 {p : Program} {l : Launch} {e : Env} {s : State} {m : MethodId} {args : Array Value} {below : List Frame} {meth : Method} {c : Code} {D : va_G} {a : Nat → Nat} {kc : Nat → ClassId} (X : cx 21 p s m args meth c D (tyM kc) a cX8_losersNow 3 RX8 (some .int))  {Ff : Nat → Int32} {Gf : Nat → Int64} {If : Nat → Nat → Int32} {Jf : Nat → Nat → Int64} {r : Int32} {K4 : Int32 → Int32 → Int32 → Int32 → Int32 → Int32 → Int32 → Int64 → (Nat → Int32) → (Nat → Int32) → (Nat → Int32) → (Nat → Int32) → (Nat → Int32) → (Nat → Int32) → (Nat → Int64) → (Nat → Int64) → Int32 → Int32 → Option (Int32 × Int32 × Int32 × Int32 × Int32 × Int64 × (Nat → Int32) × (Nat → Int64) × (Nat → Int64))} (kh4 : ∀ (F : Nat → Int32) (G : Nat → Int64) (I : Nat → Nat → Int32) (J : Nat → Nat → Int64) (x1 : Int32) (x2 : Int32) (H : Heap) (locs : List Loc) (ls : Array Slot), K4 (F 2) (F 4) (F 5) (F 6) (F 7) (F 8) (F 12) (G 0) (I 6) (I 8) (I 9) (I 10) (I 13) (I 14) (J 0) (J 1) x1 x2 = some (r, (Ff 5), (Ff 6), (Ff 7), (Ff 8), (Gf 0), (If 10), (Jf 0), (Jf 1)) → (∀ k, k ∉ ([5, 6, 7, 8] : List Nat) → Ff k = F k) → (∀ k, k ∉ ([0] : List Nat) → Gf k = G k) → (∀ k, k ∉ ([10] : List Nat) → If k = I k) → (∀ k, k ∉ ([0, 1] : List Nat) → Jf k = J k) → va_P D vwCl (wM a kc F G I J) H → va_S (ad a 21 s.heap.size) s.heap H locs → lv_has ls 3 [(0, .ref (a 0)), (1, .int x1), (2, .int x2)] → W p l e rm_X8_losersNow s m args below meth c H locs 0 0 (MQ below (Qi D (wM a kc Ff Gf If Jf) r (ad a 21 s.heap.size)) args s 0 0 (ad a 21 s.heap.size)) (F0 m 4 ls [])) :
    ∀ (F : Nat → Int32) (G : Nat → Int64) (I : Nat → Nat → Int32) (J : Nat → Nat → Int64) (t0 : Int32) (t1 : Int32) (x2 : Int32) (H : Heap) (locs : List Loc) (ls : Array Slot), p_X8_losersNow_b41 K4 (F 2) (F 4) (F 5) (F 6) (F 7) (F 8) (F 12) (G 0) (I 6) (I 8) (I 9) (I 10) (I 13) (I 14) (J 0) (J 1) t0 t1 x2 = some (r, (Ff 5), (Ff 6), (Ff 7), (Ff 8), (Gf 0), (If 10), (Jf 0), (Jf 1)) → (∀ k, k ∉ ([5, 6, 7, 8] : List Nat) → Ff k = F k) → (∀ k, k ∉ ([0] : List Nat) → Gf k = G k) → (∀ k, k ∉ ([10] : List Nat) → If k = I k) → (∀ k, k ∉ ([0, 1] : List Nat) → Jf k = J k) → va_P D vwCl (wM a kc F G I J) H → va_S (ad a 21 s.heap.size) s.heap H locs → lv_has ls 3 [(0, .ref (a 0)), (2, .int x2)] → W p l e rm_X8_losersNow s m args below meth c H locs 0 0 (MQ below (Qi D (wM a kc Ff Gf If Jf) r (ad a 21 s.heap.size)) args s 0 0 (ad a 21 s.heap.size)) (F0 m 41 ls [.int t1, .int t0]) := by
  intro F G I J t0 t1 x2 H locs ls hf hfF hfG hfI hfJ hP hS hl
  unfold p_X8_losersNow_b41 at hf
  refine lv_ior X.1 X.2.1 dX8_losersNow_41 ?_
  refine nm_i hf (fun x42 hf => ?_)
  refine lv_istore_n (lv' := [(1, .int x42), (0, .ref (a 0)), (2, .int x2)]) X.1 X.2.1 dX8_losersNow_42 rfl hl (by decide) rfl (fun ls hl => ?_)
  obtain ⟨x43, ex43, hf⟩ := nm_x hf
  refine lv_iinc (v := x43) (lv' := [(2, .int x43), (1, .int x42), (0, .ref (a 0))]) X.1 X.2.1 dX8_losersNow_43 hl (k := 2) rfl ex43 (by decide) rfl (fun ls hl => ?_)
  refine lv_goto (tgt := 4) X.1 X.2.1 dX8_losersNow_46 (by decide) ?_
  exact kh4 F G I J x42 x43 H locs ls hf hfF hfG hfI hfJ hP hS (lv_sub hl [2, 1, 0] rfl)
set_option maxHeartbeats 4000000 in
set_option maxRecDepth 100000 in
theorem t_X8_losersNow_b40 {p : Program} {l : Launch} {e : Env} {s : State} {m : MethodId} {args : Array Value} {below : List Frame} {meth : Method} {c : Code} {D : va_G} {a : Nat → Nat} {kc : Nat → ClassId} (X : cx 21 p s m args meth c D (tyM kc) a cX8_losersNow 3 RX8 (some .int))  {Ff : Nat → Int32} {Gf : Nat → Int64} {If : Nat → Nat → Int32} {Jf : Nat → Nat → Int64} {r : Int32} {K4 : Int32 → Int32 → Int32 → Int32 → Int32 → Int32 → Int32 → Int64 → (Nat → Int32) → (Nat → Int32) → (Nat → Int32) → (Nat → Int32) → (Nat → Int32) → (Nat → Int32) → (Nat → Int64) → (Nat → Int64) → Int32 → Int32 → Option (Int32 × Int32 × Int32 × Int32 × Int32 × Int64 × (Nat → Int32) × (Nat → Int64) × (Nat → Int64))} (kh4 : ∀ (F : Nat → Int32) (G : Nat → Int64) (I : Nat → Nat → Int32) (J : Nat → Nat → Int64) (x1 : Int32) (x2 : Int32) (H : Heap) (locs : List Loc) (ls : Array Slot), K4 (F 2) (F 4) (F 5) (F 6) (F 7) (F 8) (F 12) (G 0) (I 6) (I 8) (I 9) (I 10) (I 13) (I 14) (J 0) (J 1) x1 x2 = some (r, (Ff 5), (Ff 6), (Ff 7), (Ff 8), (Gf 0), (If 10), (Jf 0), (Jf 1)) → (∀ k, k ∉ ([5, 6, 7, 8] : List Nat) → Ff k = F k) → (∀ k, k ∉ ([0] : List Nat) → Gf k = G k) → (∀ k, k ∉ ([10] : List Nat) → If k = I k) → (∀ k, k ∉ ([0, 1] : List Nat) → Jf k = J k) → va_P D vwCl (wM a kc F G I J) H → va_S (ad a 21 s.heap.size) s.heap H locs → lv_has ls 3 [(0, .ref (a 0)), (1, .int x1), (2, .int x2)] → W p l e rm_X8_losersNow s m args below meth c H locs 0 0 (MQ below (Qi D (wM a kc Ff Gf If Jf) r (ad a 21 s.heap.size)) args s 0 0 (ad a 21 s.heap.size)) (F0 m 4 ls [])) :
    ∀ (F : Nat → Int32) (G : Nat → Int64) (I : Nat → Nat → Int32) (J : Nat → Nat → Int64) (t0 : Int32) (x2 : Int32) (H : Heap) (locs : List Loc) (ls : Array Slot), p_X8_losersNow_b40 K4 (F 2) (F 4) (F 5) (F 6) (F 7) (F 8) (F 12) (G 0) (I 6) (I 8) (I 9) (I 10) (I 13) (I 14) (J 0) (J 1) t0 x2 = some (r, (Ff 5), (Ff 6), (Ff 7), (Ff 8), (Gf 0), (If 10), (Jf 0), (Jf 1)) → (∀ k, k ∉ ([5, 6, 7, 8] : List Nat) → Ff k = F k) → (∀ k, k ∉ ([0] : List Nat) → Gf k = G k) → (∀ k, k ∉ ([10] : List Nat) → If k = I k) → (∀ k, k ∉ ([0, 1] : List Nat) → Jf k = J k) → va_P D vwCl (wM a kc F G I J) H → va_S (ad a 21 s.heap.size) s.heap H locs → lv_has ls 3 [(0, .ref (a 0)), (2, .int x2)] → W p l e rm_X8_losersNow s m args below meth c H locs 0 0 (MQ below (Qi D (wM a kc Ff Gf If Jf) r (ad a 21 s.heap.size)) args s 0 0 (ad a 21 s.heap.size)) (F0 m 40 ls [.int t0]) := by
  intro F G I J t0 x2 H locs ls hf hfF hfG hfI hfJ hP hS hl
  unfold p_X8_losersNow_b40 at hf
  refine lv_iconst (v := 0) X.1 X.2.1 dX8_losersNow_40 (by decide) ?_
  exact t_X8_losersNow_b41 X kh4 F G I J t0 0 x2 H locs ls hf hfF hfG hfI hfJ hP hS (lv_sub hl [0, 1] rfl)
set_option maxHeartbeats 4000000 in
set_option maxRecDepth 100000 in
theorem t_X8_losersNow_b4x {p : Program} {l : Launch} {e : Env} {s : State} {m : MethodId} {args : Array Value} {below : List Frame} {meth : Method} {c : Code} {D : va_G} {a : Nat → Nat} {kc : Nat → ClassId} (X : cx 21 p s m args meth c D (tyM kc) a cX8_losersNow 3 RX8 (some .int))  {Ff : Nat → Int32} {Gf : Nat → Int64} {If : Nat → Nat → Int32} {Jf : Nat → Nat → Int64} {r : Int32} {K4 : Int32 → Int32 → Int32 → Int32 → Int32 → Int32 → Int32 → Int64 → (Nat → Int32) → (Nat → Int32) → (Nat → Int32) → (Nat → Int32) → (Nat → Int32) → (Nat → Int32) → (Nat → Int64) → (Nat → Int64) → Int32 → Int32 → Option (Int32 × Int32 × Int32 × Int32 × Int32 × Int64 × (Nat → Int32) × (Nat → Int64) × (Nat → Int64))} (kh4 : ∀ (F : Nat → Int32) (G : Nat → Int64) (I : Nat → Nat → Int32) (J : Nat → Nat → Int64) (x1 : Int32) (x2 : Int32) (H : Heap) (locs : List Loc) (ls : Array Slot), K4 (F 2) (F 4) (F 5) (F 6) (F 7) (F 8) (F 12) (G 0) (I 6) (I 8) (I 9) (I 10) (I 13) (I 14) (J 0) (J 1) x1 x2 = some (r, (Ff 5), (Ff 6), (Ff 7), (Ff 8), (Gf 0), (If 10), (Jf 0), (Jf 1)) → (∀ k, k ∉ ([5, 6, 7, 8] : List Nat) → Ff k = F k) → (∀ k, k ∉ ([0] : List Nat) → Gf k = G k) → (∀ k, k ∉ ([10] : List Nat) → If k = I k) → (∀ k, k ∉ ([0, 1] : List Nat) → Jf k = J k) → va_P D vwCl (wM a kc F G I J) H → va_S (ad a 21 s.heap.size) s.heap H locs → lv_has ls 3 [(0, .ref (a 0)), (1, .int x1), (2, .int x2)] → W p l e rm_X8_losersNow s m args below meth c H locs 0 0 (MQ below (Qi D (wM a kc Ff Gf If Jf) r (ad a 21 s.heap.size)) args s 0 0 (ad a 21 s.heap.size)) (F0 m 4 ls [])) :
    ∀ (F : Nat → Int32) (G : Nat → Int64) (I : Nat → Nat → Int32) (J : Nat → Nat → Int64) (x1 : Int32) (x2 : Int32) (H : Heap) (locs : List Loc) (ls : Array Slot), p_X8_losersNow_b4x K4 (F 2) (F 4) (F 5) (F 6) (F 7) (F 8) (F 12) (G 0) (I 6) (I 8) (I 9) (I 10) (I 13) (I 14) (J 0) (J 1) x1 x2 = some (r, (Ff 5), (Ff 6), (Ff 7), (Ff 8), (Gf 0), (If 10), (Jf 0), (Jf 1)) → (∀ k, k ∉ ([5, 6, 7, 8] : List Nat) → Ff k = F k) → (∀ k, k ∉ ([0] : List Nat) → Gf k = G k) → (∀ k, k ∉ ([10] : List Nat) → If k = I k) → (∀ k, k ∉ ([0, 1] : List Nat) → Jf k = J k) → va_P D vwCl (wM a kc F G I J) H → va_S (ad a 21 s.heap.size) s.heap H locs → lv_has ls 3 [(0, .ref (a 0)), (1, .int x1), (2, .int x2)] → W p l e rm_X8_losersNow s m args below meth c H locs 0 0 (MQ below (Qi D (wM a kc Ff Gf If Jf) r (ad a 21 s.heap.size)) args s 0 0 (ad a 21 s.heap.size)) (F0 m 4 ls []) := by
  intro F G I J x1 x2 H locs ls hf hfF hfG hfI hfJ hP hS hl
  unfold p_X8_losersNow_b4x at hf
  refine lv_iload_n X.1 X.2.1 dX8_losersNow_4 rfl (lv_at hl 2 rfl) ?_
  refine lv_aload_n X.1 X.2.1 dX8_losersNow_5 rfl (lv_at hl 0 rfl) ?_
  refine gM_0_12 (F := F) X (v := (F 4)) rfl q_4_121 dX8_losersNow_6 hP ?_
  refine lv_icmp_ge (tgt := 49) X.1 X.2.1 dX8_losersNow_9 (by decide) (fun c9 => ?_) (fun c9 => ?_)
  · have hf := it_s hf c9
    refine lv_iload_n X.1 X.2.1 dX8_losersNow_49 rfl (lv_at hl 1 rfl) ?_
    obtain ⟨e0, hf⟩ := o2 hf
    obtain ⟨e1, hf⟩ := o2 hf
    obtain ⟨e2, hf⟩ := o2 hf
    obtain ⟨e3, hf⟩ := o2 hf
    obtain ⟨e4, hf⟩ := o2 hf
    obtain ⟨e5, hf⟩ := o2 hf
    obtain ⟨e6, hf⟩ := o2 hf
    obtain ⟨e7, hf⟩ := o2 hf
    have e8 := o1 hf
    have EF : Ff = F := frm_eq hfF (frm_c (e1).symm (frm_c (e2).symm (frm_c (e3).symm (frm_c (e4).symm frm_n))))
    have EG : Gf = G := frm_eq hfG (frm_c (e5).symm frm_n)
    have EI : If = I := frm_eq hfI (frm_c (e6).symm frm_n)
    have EJ : Jf = J := frm_eq hfJ (frm_c (e7).symm (frm_c (e8).symm frm_n))
    exact ret_i X hS (by rw [EF, EG, EI, EJ]; exact hP) e0 dX8_losersNow_50
  · have hf := ie_s hf c9
    refine lv_iload_n X.1 X.2.1 dX8_losersNow_12 rfl (lv_at hl 1 rfl) ?_
    refine lv_aload_n X.1 X.2.1 dX8_losersNow_13 rfl (lv_at hl 0 rfl) ?_
    refine gM_0_14 X q_4_123 dX8_losersNow_14 hP ?_
    refine lv_iload_n X.1 X.2.1 dX8_losersNow_17 rfl (lv_at hl 2 rfl) ?_
    obtain ⟨h18, hf⟩ := gd_s hf
    refine lM_10 (I := I) X (f := (I 9)) rfl h18 dX8_losersNow_18 hP ?_
    refine lv_if_ne (tgt := 40) X.1 X.2.1 dX8_losersNow_19 (by decide) (fun c19 => ?_) (fun c19 => ?_)
    · have hf := ie_s hf c19
      exact t_X8_losersNow_b40 X kh4 F G I J x1 x2 H locs ls hf hfF hfG hfI hfJ hP hS (lv_sub hl [0, 2] rfl)
    · have hf := it_s hf c19
      refine lv_aload_n X.1 X.2.1 dX8_losersNow_22 rfl (lv_at hl 0 rfl) ?_
      refine lv_iload_n X.1 X.2.1 dX8_losersNow_23 rfl (lv_at hl 2 rfl) ?_
      refine lv_iconst (v := (-1)) X.1 X.2.1 dX8_losersNow_24 (by decide) ?_
      refine lv_iconst (v := 0) X.1 X.2.1 dX8_losersNow_25 (by decide) ?_
      obtain ⟨r26, m_loser_26, m_onlyWho_26, m_onlyWhere_26, m_keptFree_26, m_all_26, m_keptSeat_26, m_ways_26, m_next_26, ho, hf⟩ := b9_s hf
      refine call_vl (rest := [.int x1]) X (c_X8_seenWith F G I J X.2.2.2.2.2.2.2.1 x2 (-1) 0 ho) q_6_45 q_6_47 qs_yX8_seenWith q_1_10 q_6_48 ok_X8_seenWith rfl 0 rfl rfl ⟨Nat.le_of_ble_eq_true rfl, Nat.le_of_ble_eq_true rfl⟩ rfl rfl hl.1 rfl (Nat.le_of_ble_eq_true rfl) dX8_losersNow_26 hP hS (fun H locs hP hS => ?_)
      refine lv_lconst (v := 0) X.1 X.2.1 dX8_losersNow_29 (by decide) ?_
      refine W.lcmp X.1 X.2.1 dX8_losersNow_30 ?_
      refine lv_if_le (tgt := 40) X.1 X.2.1 dX8_losersNow_31 (by decide) (fun c31 => ?_) (fun c31 => ?_)
      · have hf := it_s hf c31
        exact t_X8_losersNow_b40 X kh4 (va_up (va_up (va_up (va_up F 5 m_loser_26) 6 m_onlyWho_26) 7 m_onlyWhere_26) 8 m_keptFree_26) (va_up G 0 m_all_26) (va_up I 10 m_keptSeat_26) (va_up (va_up J 0 m_ways_26) 1 m_next_26) x1 x2 H locs ls hf (frm_up (frm_up (frm_up (frm_up hfF (by decide)) (by decide)) (by decide)) (by decide)) (frm_up hfG (by decide)) (frm_up hfI (by decide)) (frm_up (frm_up hfJ (by decide)) (by decide)) hP hS (lv_sub hl [0, 2] rfl)
      · have hf := ie_s hf c31
        refine lv_iconst (v := 1) X.1 X.2.1 dX8_losersNow_34 (by decide) ?_
        refine lv_iload_n X.1 X.2.1 dX8_losersNow_35 rfl (lv_at hl 2 rfl) ?_
        refine lv_ishl X.1 X.2.1 dX8_losersNow_36 ?_
        refine lv_goto (tgt := 41) X.1 X.2.1 dX8_losersNow_37 (by decide) ?_
        exact t_X8_losersNow_b41 X kh4 (va_up (va_up (va_up (va_up F 5 m_loser_26) 6 m_onlyWho_26) 7 m_onlyWhere_26) 8 m_keptFree_26) (va_up G 0 m_all_26) (va_up I 10 m_keptSeat_26) (va_up (va_up J 0 m_ways_26) 1 m_next_26) x1 ((1 : Int32) <<< (x2 &&& 31)) x2 H locs ls hf (frm_up (frm_up (frm_up (frm_up hfF (by decide)) (by decide)) (by decide)) (by decide)) (frm_up hfG (by decide)) (frm_up hfI (by decide)) (frm_up (frm_up hfJ (by decide)) (by decide)) hP hS (lv_sub hl [0, 2] rfl)
set_option maxRecDepth 100000 in
theorem t_X8_losersNow_b4 {p : Program} {l : Launch} {e : Env} {s : State} {m : MethodId} {args : Array Value} {below : List Frame} {meth : Method} {c : Code} {D : va_G} {a : Nat → Nat} {kc : Nat → ClassId} (X : cx 21 p s m args meth c D (tyM kc) a cX8_losersNow 3 RX8 (some .int))  {Ff : Nat → Int32} {Gf : Nat → Int64} {If : Nat → Nat → Int32} {Jf : Nat → Nat → Int64} {r : Int32} :
    ∀ (n : Nat) (F : Nat → Int32) (G : Nat → Int64) (I : Nat → Nat → Int32) (J : Nat → Nat → Int64) (x1 : Int32) (x2 : Int32) (H : Heap) (locs : List Loc) (ls : Array Slot), p_X8_losersNow_b4 n (F 2) (F 4) (F 5) (F 6) (F 7) (F 8) (F 12) (G 0) (I 6) (I 8) (I 9) (I 10) (I 13) (I 14) (J 0) (J 1) x1 x2 = some (r, (Ff 5), (Ff 6), (Ff 7), (Ff 8), (Gf 0), (If 10), (Jf 0), (Jf 1)) → (∀ k, k ∉ ([5, 6, 7, 8] : List Nat) → Ff k = F k) → (∀ k, k ∉ ([0] : List Nat) → Gf k = G k) → (∀ k, k ∉ ([10] : List Nat) → If k = I k) → (∀ k, k ∉ ([0, 1] : List Nat) → Jf k = J k) → va_P D vwCl (wM a kc F G I J) H → va_S (ad a 21 s.heap.size) s.heap H locs → lv_has ls 3 [(0, .ref (a 0)), (1, .int x1), (2, .int x2)] → W p l e rm_X8_losersNow s m args below meth c H locs 0 0 (MQ below (Qi D (wM a kc Ff Gf If Jf) r (ad a 21 s.heap.size)) args s 0 0 (ad a 21 s.heap.size)) (F0 m 4 ls []) := by
  intro n
  induction n with
  | zero => intro F G I J x1 x2 H locs ls hf hfF hfG hfI hfJ hP hS hl; exact (nos hf).elim
  | succ n ih => exact t_X8_losersNow_b4x X ih
set_option maxHeartbeats 4000000 in
set_option maxRecDepth 100000 in
theorem t_X8_losersNow_b0 {p : Program} {l : Launch} {e : Env} {s : State} {m : MethodId} {args : Array Value} {below : List Frame} {meth : Method} {c : Code} {D : va_G} {a : Nat → Nat} {kc : Nat → ClassId} (X : cx 21 p s m args meth c D (tyM kc) a cX8_losersNow 3 RX8 (some .int))  {Ff : Nat → Int32} {Gf : Nat → Int64} {If : Nat → Nat → Int32} {Jf : Nat → Nat → Int64} {r : Int32} :
    ∀ (F : Nat → Int32) (G : Nat → Int64) (I : Nat → Nat → Int32) (J : Nat → Nat → Int64)  (H : Heap) (locs : List Loc) (ls : Array Slot), p_X8_losersNow_b0 (F 2) (F 4) (F 5) (F 6) (F 7) (F 8) (F 12) (G 0) (I 6) (I 8) (I 9) (I 10) (I 13) (I 14) (J 0) (J 1)  = some (r, (Ff 5), (Ff 6), (Ff 7), (Ff 8), (Gf 0), (If 10), (Jf 0), (Jf 1)) → (∀ k, k ∉ ([5, 6, 7, 8] : List Nat) → Ff k = F k) → (∀ k, k ∉ ([0] : List Nat) → Gf k = G k) → (∀ k, k ∉ ([10] : List Nat) → If k = I k) → (∀ k, k ∉ ([0, 1] : List Nat) → Jf k = J k) → va_P D vwCl (wM a kc F G I J) H → va_S (ad a 21 s.heap.size) s.heap H locs → lv_has ls 3 [(0, .ref (a 0))] → W p l e rm_X8_losersNow s m args below meth c H locs 0 0 (MQ below (Qi D (wM a kc Ff Gf If Jf) r (ad a 21 s.heap.size)) args s 0 0 (ad a 21 s.heap.size)) (F0 m 0 ls []) := by
  intro F G I J  H locs ls hf hfF hfG hfI hfJ hP hS hl
  unfold p_X8_losersNow_b0 at hf
  refine lv_iconst (v := 0) X.1 X.2.1 dX8_losersNow_0 (by decide) ?_
  refine lv_istore_n (lv' := [(1, .int 0), (0, .ref (a 0))]) X.1 X.2.1 dX8_losersNow_1 rfl hl (by decide) rfl (fun ls hl => ?_)
  refine lv_iconst (v := 0) X.1 X.2.1 dX8_losersNow_2 (by decide) ?_
  refine lv_istore_n (lv' := [(2, .int 0), (1, .int 0), (0, .ref (a 0))]) X.1 X.2.1 dX8_losersNow_3 rfl hl (by decide) rfl (fun ls hl => ?_)
  exact t_X8_losersNow_b4 X 4096 F G I J 0 0 H locs ls hf hfF hfG hfI hfJ hP hS (lv_sub hl [2, 1, 0] rfl)
set_option maxRecDepth 100000 in
theorem c_X8_losersNow {l : Launch} {D : va_G} {a : Nat → Nat} {kc : Nat → ClassId} (F : Nat → Int32) (G : Nat → Int64) (I : Nat → Nat → Int32) (J : Nat → Nat → Int64) (hAp : ∀ i j, i < 21 → j < 21 → a i = a j → i = j)  {o0 : Int32} {o1 : Int32} {o2 : Int32} {o3 : Int32} {o4 : Int32} {o5 : Int64} {o6 : Nat → Int32} {o7 : Nat → Int64} {o8 : Nat → Int64} (hf : p_X8_losersNow (F 2) (F 4) (F 5) (F 6) (F 7) (F 8) (F 12) (G 0) (I 6) (I 8) (I 9) (I 10) (I 13) (I 14) (J 0) (J 1)  = some (o0, o1, o2, o3, o4, o5, o6, o7, o8)) : Ct 21 l yX8_losersNow cX8_losersNow 3 (some .int) rm_X8_losersNow D (tyM kc) a (wM a kc F G I J) [.ref (a 0)] (Qi D (wM a kc (va_up (va_up (va_up (va_up F 5 o1) 6 o2) 7 o3) 8 o4) (va_up G 0 o5) (va_up I 10 o6) (va_up (va_up J 0 o7) 1 o8)) o0) :=
  Ct.of (by decide +kernel) hAp (Nat.le_of_ble_eq_true rfl) (fun p e s m args below meth c ls X hP hl => t_X8_losersNow_b0 X F G I J  _ _ _ hf (frm_ul (frm_ul (frm_ul (frm_ul (fun k _ => rfl) (by decide)) (by decide)) (by decide)) (by decide)) (frm_ul (fun k _ => rfl) (by decide)) (frm_ul (fun k _ => rfl) (by decide)) (frm_ul (frm_ul (fun k _ => rfl) (by decide)) (by decide)) hP va_S.rf hl)
abbrev rm_X8_losers : Room := { frames := 6, cells := 0, slots := 0, locals := 146 }
set_option maxHeartbeats 4000000 in
set_option maxRecDepth 100000 in
theorem t_X8_losers_b0 {p : Program} {l : Launch} {e : Env} {s : State} {m : MethodId} {args : Array Value} {below : List Frame} {meth : Method} {c : Code} {D : va_G} {a : Nat → Nat} {kc : Nat → ClassId} (X : cx 21 p s m args meth c D (tyM kc) a cX8_losers 1 RX8 (some .int))  {Ff : Nat → Int32} {Gf : Nat → Int64} {If : Nat → Nat → Int32} {Jf : Nat → Nat → Int64} {r : Int32} :
    ∀ (F : Nat → Int32) (G : Nat → Int64) (I : Nat → Nat → Int32) (J : Nat → Nat → Int64)  (H : Heap) (locs : List Loc) (ls : Array Slot), p_X8_losers_b0 (F 1) (F 2) (F 3) (F 4) (F 5) (F 6) (F 7) (F 8) (F 12) (G 0) (I 4) (I 5) (I 6) (I 7) (I 8) (I 9) (I 10) (I 13) (I 14) (J 0) (J 1)  = some (r, (Ff 1), (Ff 2), (Ff 3), (Ff 4), (Ff 5), (Ff 6), (Ff 7), (Ff 8), (Gf 0), (If 6), (If 7), (If 8), (If 9), (If 10), (Jf 0), (Jf 1)) → (∀ k, k ∉ ([1, 2, 3, 4, 5, 6, 7, 8] : List Nat) → Ff k = F k) → (∀ k, k ∉ ([0] : List Nat) → Gf k = G k) → (∀ k, k ∉ ([6, 7, 8, 9, 10] : List Nat) → If k = I k) → (∀ k, k ∉ ([0, 1] : List Nat) → Jf k = J k) → va_P D vwCl (wM a kc F G I J) H → va_S (ad a 21 s.heap.size) s.heap H locs → lv_has ls 1 [(0, .ref (a 0))] → W p l e rm_X8_losers s m args below meth c H locs 0 0 (MQ below (Qi D (wM a kc Ff Gf If Jf) r (ad a 21 s.heap.size)) args s 0 0 (ad a 21 s.heap.size)) (F0 m 0 ls []) := by
  intro F G I J  H locs ls hf hfF hfG hfI hfJ hP hS hl
  unfold p_X8_losers_b0 at hf
  refine lv_aload_n X.1 X.2.1 dX8_losers_0 rfl (lv_at hl 0 rfl) ?_
  obtain ⟨m_at_1, m_seats_1, m_rows_1, m_people_1, m_sorts_1, m_rowOf_1, m_own_1, m_kinds_1, ho, hf⟩ := b8_s hf
  refine call_vv (rest := []) X (c_X8_find F G I J X.2.2.2.2.2.2.2.1  ho) q_5_69 q_5_71 qs_yX8_find q_1_10 q_5_72 ok_X8_find rfl 0 rfl rfl ⟨Nat.le_of_ble_eq_true rfl, Nat.le_of_ble_eq_true rfl⟩ rfl rfl hl.1 rfl (Nat.le_of_ble_eq_true rfl) dX8_losers_1 hP hS (fun H locs hP hS => ?_)
  refine lv_aload_n X.1 X.2.1 dX8_losers_4 rfl (lv_at hl 0 rfl) ?_
  obtain ⟨r5, m_loser_5, m_onlyWho_5, m_onlyWhere_5, m_keptFree_5, m_all_5, m_keptSeat_5, m_ways_5, m_next_5, ho, hf⟩ := b9_s hf
  refine call_vi (rest := []) X (c_X8_losersNow (va_up (va_up (va_up (va_up F 1 m_at_1) 2 m_seats_1) 3 m_rows_1) 4 m_people_1) G (va_up (va_up (va_up (va_up I 6 m_sorts_1) 7 m_rowOf_1) 8 m_own_1) 9 m_kinds_1) J X.2.2.2.2.2.2.2.1  ho) q_6_41 q_6_43 qs_yX8_losersNow q_1_10 q_6_44 ok_X8_losersNow rfl 0 rfl rfl ⟨Nat.le_of_ble_eq_true rfl, Nat.le_of_ble_eq_true rfl⟩ rfl rfl hl.1 rfl (Nat.le_of_ble_eq_true rfl) dX8_losers_5 hP hS (fun H locs hP hS => ?_)
  obtain ⟨e0, hf⟩ := o2 hf
  obtain ⟨e1, hf⟩ := o2 hf
  obtain ⟨e2, hf⟩ := o2 hf
  obtain ⟨e3, hf⟩ := o2 hf
  obtain ⟨e4, hf⟩ := o2 hf
  obtain ⟨e5, hf⟩ := o2 hf
  obtain ⟨e6, hf⟩ := o2 hf
  obtain ⟨e7, hf⟩ := o2 hf
  obtain ⟨e8, hf⟩ := o2 hf
  obtain ⟨e9, hf⟩ := o2 hf
  obtain ⟨e10, hf⟩ := o2 hf
  obtain ⟨e11, hf⟩ := o2 hf
  obtain ⟨e12, hf⟩ := o2 hf
  obtain ⟨e13, hf⟩ := o2 hf
  obtain ⟨e14, hf⟩ := o2 hf
  obtain ⟨e15, hf⟩ := o2 hf
  have e16 := o1 hf
  have EF : Ff = (va_up (va_up (va_up (va_up (va_up (va_up (va_up (va_up F 1 m_at_1) 2 m_seats_1) 3 m_rows_1) 4 m_people_1) 5 m_loser_5) 6 m_onlyWho_5) 7 m_onlyWhere_5) 8 m_keptFree_5) := frm_eq (frm_up (frm_up (frm_up (frm_up (frm_up (frm_up (frm_up (frm_up hfF (by decide)) (by decide)) (by decide)) (by decide)) (by decide)) (by decide)) (by decide)) (by decide)) (frm_c (e1).symm (frm_c (e2).symm (frm_c (e3).symm (frm_c (e4).symm (frm_c (e5).symm (frm_c (e6).symm (frm_c (e7).symm (frm_c (e8).symm frm_n))))))))
  have EG : Gf = (va_up G 0 m_all_5) := frm_eq (frm_up hfG (by decide)) (frm_c (e9).symm frm_n)
  have EI : If = (va_up (va_up (va_up (va_up (va_up I 6 m_sorts_1) 7 m_rowOf_1) 8 m_own_1) 9 m_kinds_1) 10 m_keptSeat_5) := frm_eq (frm_up (frm_up (frm_up (frm_up (frm_up hfI (by decide)) (by decide)) (by decide)) (by decide)) (by decide)) (frm_c (e10).symm (frm_c (e11).symm (frm_c (e12).symm (frm_c (e13).symm (frm_c (e14).symm frm_n)))))
  have EJ : Jf = (va_up (va_up J 0 m_ways_5) 1 m_next_5) := frm_eq (frm_up (frm_up hfJ (by decide)) (by decide)) (frm_c (e15).symm (frm_c (e16).symm frm_n))
  exact ret_i X hS (by rw [EF, EG, EI, EJ]; exact hP) e0 dX8_losers_8
set_option maxRecDepth 100000 in
theorem c_X8_losers {l : Launch} {D : va_G} {a : Nat → Nat} {kc : Nat → ClassId} (F : Nat → Int32) (G : Nat → Int64) (I : Nat → Nat → Int32) (J : Nat → Nat → Int64) (hAp : ∀ i j, i < 21 → j < 21 → a i = a j → i = j)  {o0 : Int32} {o1 : Int32} {o2 : Int32} {o3 : Int32} {o4 : Int32} {o5 : Int32} {o6 : Int32} {o7 : Int32} {o8 : Int32} {o9 : Int64} {o10 : Nat → Int32} {o11 : Nat → Int32} {o12 : Nat → Int32} {o13 : Nat → Int32} {o14 : Nat → Int32} {o15 : Nat → Int64} {o16 : Nat → Int64} (hf : p_X8_losers (F 1) (F 2) (F 3) (F 4) (F 5) (F 6) (F 7) (F 8) (F 12) (G 0) (I 4) (I 5) (I 6) (I 7) (I 8) (I 9) (I 10) (I 13) (I 14) (J 0) (J 1)  = some (o0, o1, o2, o3, o4, o5, o6, o7, o8, o9, o10, o11, o12, o13, o14, o15, o16)) : Ct 21 l yX8_losers cX8_losers 1 (some .int) rm_X8_losers D (tyM kc) a (wM a kc F G I J) [.ref (a 0)] (Qi D (wM a kc (va_up (va_up (va_up (va_up (va_up (va_up (va_up (va_up F 1 o1) 2 o2) 3 o3) 4 o4) 5 o5) 6 o6) 7 o7) 8 o8) (va_up G 0 o9) (va_up (va_up (va_up (va_up (va_up I 6 o10) 7 o11) 8 o12) 9 o13) 10 o14) (va_up (va_up J 0 o15) 1 o16)) o0) :=
  Ct.of (by decide +kernel) hAp (Nat.le_of_ble_eq_true rfl) (fun p e s m args below meth c ls X hP hl => t_X8_losers_b0 X F G I J  _ _ _ hf (frm_ul (frm_ul (frm_ul (frm_ul (frm_ul (frm_ul (frm_ul (frm_ul (fun k _ => rfl) (by decide)) (by decide)) (by decide)) (by decide)) (by decide)) (by decide)) (by decide)) (by decide)) (frm_ul (fun k _ => rfl) (by decide)) (frm_ul (frm_ul (frm_ul (frm_ul (frm_ul (fun k _ => rfl) (by decide)) (by decide)) (by decide)) (by decide)) (by decide)) (frm_ul (frm_ul (fun k _ => rfl) (by decide)) (by decide)) hP va_S.rf hl)
abbrev rm_X8_share : Room := { frames := 5, cells := 0, slots := 0, locals := 124 }
set_option maxHeartbeats 4000000 in
set_option maxRecDepth 100000 in
theorem t_X8_share_b24 {p : Program} {l : Launch} {e : Env} {s : State} {m : MethodId} {args : Array Value} {below : List Frame} {meth : Method} {c : Code} {D : va_G} {a : Nat → Nat} {kc : Nat → ClassId} (X : cx 21 p s m args meth c D (tyM kc) a cX8_share 6 RX8 (some .long))  {Ff : Nat → Int32} {Gf : Nat → Int64} {If : Nat → Nat → Int32} {Jf : Nat → Nat → Int64} {r : Int64} :
    ∀ (F : Nat → Int32) (G : Nat → Int64) (I : Nat → Nat → Int32) (J : Nat → Nat → Int64)  (H : Heap) (locs : List Loc) (ls : Array Slot), p_X8_share_b24 (F 1) (F 2) (F 3) (F 4) (F 5) (F 6) (F 7) (F 8) (F 12) (G 0) (I 4) (I 5) (I 6) (I 7) (I 8) (I 9) (I 10) (I 13) (I 14) (J 0) (J 1)  = some (r, (Ff 1), (Ff 2), (Ff 3), (Ff 4), (Ff 5), (Ff 6), (Ff 7), (Ff 8), (Gf 0), (If 6), (If 7), (If 8), (If 9), (If 10), (Jf 0), (Jf 1)) → (∀ k, k ∉ ([1, 2, 3, 4, 5, 6, 7, 8] : List Nat) → Ff k = F k) → (∀ k, k ∉ ([0] : List Nat) → Gf k = G k) → (∀ k, k ∉ ([6, 7, 8, 9, 10] : List Nat) → If k = I k) → (∀ k, k ∉ ([0, 1] : List Nat) → Jf k = J k) → va_P D vwCl (wM a kc F G I J) H → va_S (ad a 21 s.heap.size) s.heap H locs → lv_has ls 6 [(0, .ref (a 0))] → W p l e rm_X8_share s m args below meth c H locs 0 0 (MQ below (Ql D (wM a kc Ff Gf If Jf) r (ad a 21 s.heap.size)) args s 0 0 (ad a 21 s.heap.size)) (F0 m 24 ls []) := by
  intro F G I J  H locs ls hf hfF hfG hfI hfJ hP hS hl
  unfold p_X8_share_b24 at hf
  refine lv_bipush (v := (-2)) X.1 X.2.1 dX8_share_24 (by decide) ?_
  obtain ⟨r26, ho, hf⟩ := b1_s hf
  refine call_sl (rest := []) X (c_X8_no (-2) ho) q_5_158 q_5_159 q_1_10 q_5_160 ok_X8_no rfl ⟨Nat.le_of_ble_eq_true rfl, Nat.le_of_ble_eq_true rfl⟩ rfl rfl hl.1 rfl (Nat.le_of_ble_eq_true rfl) dX8_share_26 hP hS (fun H locs hP hS => ?_)
  obtain ⟨e0, hf⟩ := o2 hf
  obtain ⟨e1, hf⟩ := o2 hf
  obtain ⟨e2, hf⟩ := o2 hf
  obtain ⟨e3, hf⟩ := o2 hf
  obtain ⟨e4, hf⟩ := o2 hf
  obtain ⟨e5, hf⟩ := o2 hf
  obtain ⟨e6, hf⟩ := o2 hf
  obtain ⟨e7, hf⟩ := o2 hf
  obtain ⟨e8, hf⟩ := o2 hf
  obtain ⟨e9, hf⟩ := o2 hf
  obtain ⟨e10, hf⟩ := o2 hf
  obtain ⟨e11, hf⟩ := o2 hf
  obtain ⟨e12, hf⟩ := o2 hf
  obtain ⟨e13, hf⟩ := o2 hf
  obtain ⟨e14, hf⟩ := o2 hf
  obtain ⟨e15, hf⟩ := o2 hf
  have e16 := o1 hf
  have EF : Ff = F := frm_eq hfF (frm_c (e1).symm (frm_c (e2).symm (frm_c (e3).symm (frm_c (e4).symm (frm_c (e5).symm (frm_c (e6).symm (frm_c (e7).symm (frm_c (e8).symm frm_n))))))))
  have EG : Gf = G := frm_eq hfG (frm_c (e9).symm frm_n)
  have EI : If = I := frm_eq hfI (frm_c (e10).symm (frm_c (e11).symm (frm_c (e12).symm (frm_c (e13).symm (frm_c (e14).symm frm_n)))))
  have EJ : Jf = J := frm_eq hfJ (frm_c (e15).symm (frm_c (e16).symm frm_n))
  exact ret_l X hS (by rw [EF, EG, EI, EJ]; exact hP) e0 dX8_share_29
set_option maxHeartbeats 4000000 in
set_option maxRecDepth 100000 in
theorem t_X8_share_b101 {p : Program} {l : Launch} {e : Env} {s : State} {m : MethodId} {args : Array Value} {below : List Frame} {meth : Method} {c : Code} {D : va_G} {a : Nat → Nat} {kc : Nat → ClassId} (X : cx 21 p s m args meth c D (tyM kc) a cX8_share 6 RX8 (some .long))  {Ff : Nat → Int32} {Gf : Nat → Int64} {If : Nat → Nat → Int32} {Jf : Nat → Nat → Int64} {r : Int64} :
    ∀ (F : Nat → Int32) (G : Nat → Int64) (I : Nat → Nat → Int32) (J : Nat → Nat → Int64) (t0 : Int64) (H : Heap) (locs : List Loc) (ls : Array Slot), p_X8_share_b101 (F 1) (F 2) (F 3) (F 4) (F 5) (F 6) (F 7) (F 8) (F 12) (G 0) (I 4) (I 5) (I 6) (I 7) (I 8) (I 9) (I 10) (I 13) (I 14) (J 0) (J 1) t0 = some (r, (Ff 1), (Ff 2), (Ff 3), (Ff 4), (Ff 5), (Ff 6), (Ff 7), (Ff 8), (Gf 0), (If 6), (If 7), (If 8), (If 9), (If 10), (Jf 0), (Jf 1)) → (∀ k, k ∉ ([1, 2, 3, 4, 5, 6, 7, 8] : List Nat) → Ff k = F k) → (∀ k, k ∉ ([0] : List Nat) → Gf k = G k) → (∀ k, k ∉ ([6, 7, 8, 9, 10] : List Nat) → If k = I k) → (∀ k, k ∉ ([0, 1] : List Nat) → Jf k = J k) → va_P D vwCl (wM a kc F G I J) H → va_S (ad a 21 s.heap.size) s.heap H locs → lv_has ls 6 [(0, .ref (a 0))] → W p l e rm_X8_share s m args below meth c H locs 0 0 (MQ below (Ql D (wM a kc Ff Gf If Jf) r (ad a 21 s.heap.size)) args s 0 0 (ad a 21 s.heap.size)) (F0 m 101 ls [.long t0]) := by
  intro F G I J t0 H locs ls hf hfF hfG hfI hfJ hP hS hl
  unfold p_X8_share_b101 at hf
  obtain ⟨e0, hf⟩ := o2 hf
  obtain ⟨e1, hf⟩ := o2 hf
  obtain ⟨e2, hf⟩ := o2 hf
  obtain ⟨e3, hf⟩ := o2 hf
  obtain ⟨e4, hf⟩ := o2 hf
  obtain ⟨e5, hf⟩ := o2 hf
  obtain ⟨e6, hf⟩ := o2 hf
  obtain ⟨e7, hf⟩ := o2 hf
  obtain ⟨e8, hf⟩ := o2 hf
  obtain ⟨e9, hf⟩ := o2 hf
  obtain ⟨e10, hf⟩ := o2 hf
  obtain ⟨e11, hf⟩ := o2 hf
  obtain ⟨e12, hf⟩ := o2 hf
  obtain ⟨e13, hf⟩ := o2 hf
  obtain ⟨e14, hf⟩ := o2 hf
  obtain ⟨e15, hf⟩ := o2 hf
  have e16 := o1 hf
  have EF : Ff = F := frm_eq hfF (frm_c (e1).symm (frm_c (e2).symm (frm_c (e3).symm (frm_c (e4).symm (frm_c (e5).symm (frm_c (e6).symm (frm_c (e7).symm (frm_c (e8).symm frm_n))))))))
  have EG : Gf = G := frm_eq hfG (frm_c (e9).symm frm_n)
  have EI : If = I := frm_eq hfI (frm_c (e10).symm (frm_c (e11).symm (frm_c (e12).symm (frm_c (e13).symm (frm_c (e14).symm frm_n)))))
  have EJ : Jf = J := frm_eq hfJ (frm_c (e15).symm (frm_c (e16).symm frm_n))
  exact ret_l X hS (by rw [EF, EG, EI, EJ]; exact hP) e0 dX8_share_101
set_option maxHeartbeats 4000000 in
set_option maxRecDepth 100000 in
theorem t_X8_share_b67 {p : Program} {l : Launch} {e : Env} {s : State} {m : MethodId} {args : Array Value} {below : List Frame} {meth : Method} {c : Code} {D : va_G} {a : Nat → Nat} {kc : Nat → ClassId} (X : cx 21 p s m args meth c D (tyM kc) a cX8_share 6 RX8 (some .long))  {Ff : Nat → Int32} {Gf : Nat → Int64} {If : Nat → Nat → Int32} {Jf : Nat → Nat → Int64} {r : Int64} {K35 : Int32 → Int32 → Int32 → Int32 → Int32 → Int32 → Int32 → Int32 → Int32 → Int64 → (Nat → Int32) → (Nat → Int32) → (Nat → Int32) → (Nat → Int32) → (Nat → Int32) → (Nat → Int32) → (Nat → Int32) → (Nat → Int32) → (Nat → Int32) → (Nat → Int64) → (Nat → Int64) → Int32 → Int32 → Int64 → Int32 → Option (Int64 × Int32 × Int32 × Int32 × Int32 × Int32 × Int32 × Int32 × Int32 × Int64 × (Nat → Int32) × (Nat → Int32) × (Nat → Int32) × (Nat → Int32) × (Nat → Int32) × (Nat → Int64) × (Nat → Int64))} (kh35 : ∀ (F : Nat → Int32) (G : Nat → Int64) (I : Nat → Nat → Int32) (J : Nat → Nat → Int64) (x1 : Int32) (x2 : Int32) (x3 : Int64) (x5 : Int32) (H : Heap) (locs : List Loc) (ls : Array Slot), K35 (F 1) (F 2) (F 3) (F 4) (F 5) (F 6) (F 7) (F 8) (F 12) (G 0) (I 4) (I 5) (I 6) (I 7) (I 8) (I 9) (I 10) (I 13) (I 14) (J 0) (J 1) x1 x2 x3 x5 = some (r, (Ff 1), (Ff 2), (Ff 3), (Ff 4), (Ff 5), (Ff 6), (Ff 7), (Ff 8), (Gf 0), (If 6), (If 7), (If 8), (If 9), (If 10), (Jf 0), (Jf 1)) → (∀ k, k ∉ ([1, 2, 3, 4, 5, 6, 7, 8] : List Nat) → Ff k = F k) → (∀ k, k ∉ ([0] : List Nat) → Gf k = G k) → (∀ k, k ∉ ([6, 7, 8, 9, 10] : List Nat) → If k = I k) → (∀ k, k ∉ ([0, 1] : List Nat) → Jf k = J k) → va_P D vwCl (wM a kc F G I J) H → va_S (ad a 21 s.heap.size) s.heap H locs → lv_has ls 6 [(0, .ref (a 0)), (1, .int x1), (2, .int x2), (3, .long x3), (5, .int x5)] → W p l e rm_X8_share s m args below meth c H locs 0 0 (MQ below (Ql D (wM a kc Ff Gf If Jf) r (ad a 21 s.heap.size)) args s 0 0 (ad a 21 s.heap.size)) (F0 m 35 ls [])) :
    ∀ (F : Nat → Int32) (G : Nat → Int64) (I : Nat → Nat → Int32) (J : Nat → Nat → Int64) (t0 : Int64) (t1 : Int64) (x1 : Int32) (x2 : Int32) (x5 : Int32) (H : Heap) (locs : List Loc) (ls : Array Slot), p_X8_share_b67 K35 (F 1) (F 2) (F 3) (F 4) (F 5) (F 6) (F 7) (F 8) (F 12) (G 0) (I 4) (I 5) (I 6) (I 7) (I 8) (I 9) (I 10) (I 13) (I 14) (J 0) (J 1) t0 t1 x1 x2 x5 = some (r, (Ff 1), (Ff 2), (Ff 3), (Ff 4), (Ff 5), (Ff 6), (Ff 7), (Ff 8), (Gf 0), (If 6), (If 7), (If 8), (If 9), (If 10), (Jf 0), (Jf 1)) → (∀ k, k ∉ ([1, 2, 3, 4, 5, 6, 7, 8] : List Nat) → Ff k = F k) → (∀ k, k ∉ ([0] : List Nat) → Gf k = G k) → (∀ k, k ∉ ([6, 7, 8, 9, 10] : List Nat) → If k = I k) → (∀ k, k ∉ ([0, 1] : List Nat) → Jf k = J k) → va_P D vwCl (wM a kc F G I J) H → va_S (ad a 21 s.heap.size) s.heap H locs → lv_has ls 6 [(0, .ref (a 0)), (1, .int x1), (2, .int x2), (5, .int x5)] → W p l e rm_X8_share s m args below meth c H locs 0 0 (MQ below (Ql D (wM a kc Ff Gf If Jf) r (ad a 21 s.heap.size)) args s 0 0 (ad a 21 s.heap.size)) (F0 m 67 ls [.long t1, .long t0]) := by
  intro F G I J t0 t1 x1 x2 x5 H locs ls hf hfF hfG hfI hfJ hP hS hl
  unfold p_X8_share_b67 at hf
  refine lv_ladd X.1 X.2.1 dX8_share_67 ?_
  refine nm_l hf (fun x68 hf => ?_)
  refine lv_lstore_n (lv' := [(3, .long x68), (0, .ref (a 0)), (1, .int x1), (2, .int x2), (5, .int x5)]) X.1 X.2.1 dX8_share_68 rfl hl (by decide) rfl (fun ls hl => ?_)
  obtain ⟨x69, ex69, hf⟩ := nm_x hf
  refine lv_iinc (v := x69) (lv' := [(5, .int x69), (3, .long x68), (0, .ref (a 0)), (1, .int x1), (2, .int x2)]) X.1 X.2.1 dX8_share_69 hl (k := 4) rfl ex69 (by decide) rfl (fun ls hl => ?_)
  refine lv_goto (tgt := 35) X.1 X.2.1 dX8_share_72 (by decide) ?_
  exact kh35 F G I J x1 x2 x68 x69 H locs ls hf hfF hfG hfI hfJ hP hS (lv_sub hl [2, 3, 4, 1, 0] rfl)
set_option maxHeartbeats 4000000 in
set_option maxRecDepth 100000 in
theorem t_X8_share_b35x {p : Program} {l : Launch} {e : Env} {s : State} {m : MethodId} {args : Array Value} {below : List Frame} {meth : Method} {c : Code} {D : va_G} {a : Nat → Nat} {kc : Nat → ClassId} (X : cx 21 p s m args meth c D (tyM kc) a cX8_share 6 RX8 (some .long))  {Ff : Nat → Int32} {Gf : Nat → Int64} {If : Nat → Nat → Int32} {Jf : Nat → Nat → Int64} {r : Int64} {K35 : Int32 → Int32 → Int32 → Int32 → Int32 → Int32 → Int32 → Int32 → Int32 → Int64 → (Nat → Int32) → (Nat → Int32) → (Nat → Int32) → (Nat → Int32) → (Nat → Int32) → (Nat → Int32) → (Nat → Int32) → (Nat → Int32) → (Nat → Int32) → (Nat → Int64) → (Nat → Int64) → Int32 → Int32 → Int64 → Int32 → Option (Int64 × Int32 × Int32 × Int32 × Int32 × Int32 × Int32 × Int32 × Int32 × Int64 × (Nat → Int32) × (Nat → Int32) × (Nat → Int32) × (Nat → Int32) × (Nat → Int32) × (Nat → Int64) × (Nat → Int64))} (kh35 : ∀ (F : Nat → Int32) (G : Nat → Int64) (I : Nat → Nat → Int32) (J : Nat → Nat → Int64) (x1 : Int32) (x2 : Int32) (x3 : Int64) (x5 : Int32) (H : Heap) (locs : List Loc) (ls : Array Slot), K35 (F 1) (F 2) (F 3) (F 4) (F 5) (F 6) (F 7) (F 8) (F 12) (G 0) (I 4) (I 5) (I 6) (I 7) (I 8) (I 9) (I 10) (I 13) (I 14) (J 0) (J 1) x1 x2 x3 x5 = some (r, (Ff 1), (Ff 2), (Ff 3), (Ff 4), (Ff 5), (Ff 6), (Ff 7), (Ff 8), (Gf 0), (If 6), (If 7), (If 8), (If 9), (If 10), (Jf 0), (Jf 1)) → (∀ k, k ∉ ([1, 2, 3, 4, 5, 6, 7, 8] : List Nat) → Ff k = F k) → (∀ k, k ∉ ([0] : List Nat) → Gf k = G k) → (∀ k, k ∉ ([6, 7, 8, 9, 10] : List Nat) → If k = I k) → (∀ k, k ∉ ([0, 1] : List Nat) → Jf k = J k) → va_P D vwCl (wM a kc F G I J) H → va_S (ad a 21 s.heap.size) s.heap H locs → lv_has ls 6 [(0, .ref (a 0)), (1, .int x1), (2, .int x2), (3, .long x3), (5, .int x5)] → W p l e rm_X8_share s m args below meth c H locs 0 0 (MQ below (Ql D (wM a kc Ff Gf If Jf) r (ad a 21 s.heap.size)) args s 0 0 (ad a 21 s.heap.size)) (F0 m 35 ls [])) :
    ∀ (F : Nat → Int32) (G : Nat → Int64) (I : Nat → Nat → Int32) (J : Nat → Nat → Int64) (x1 : Int32) (x2 : Int32) (x3 : Int64) (x5 : Int32) (H : Heap) (locs : List Loc) (ls : Array Slot), p_X8_share_b35x K35 (F 1) (F 2) (F 3) (F 4) (F 5) (F 6) (F 7) (F 8) (F 12) (G 0) (I 4) (I 5) (I 6) (I 7) (I 8) (I 9) (I 10) (I 13) (I 14) (J 0) (J 1) x1 x2 x3 x5 = some (r, (Ff 1), (Ff 2), (Ff 3), (Ff 4), (Ff 5), (Ff 6), (Ff 7), (Ff 8), (Gf 0), (If 6), (If 7), (If 8), (If 9), (If 10), (Jf 0), (Jf 1)) → (∀ k, k ∉ ([1, 2, 3, 4, 5, 6, 7, 8] : List Nat) → Ff k = F k) → (∀ k, k ∉ ([0] : List Nat) → Gf k = G k) → (∀ k, k ∉ ([6, 7, 8, 9, 10] : List Nat) → If k = I k) → (∀ k, k ∉ ([0, 1] : List Nat) → Jf k = J k) → va_P D vwCl (wM a kc F G I J) H → va_S (ad a 21 s.heap.size) s.heap H locs → lv_has ls 6 [(0, .ref (a 0)), (1, .int x1), (2, .int x2), (3, .long x3), (5, .int x5)] → W p l e rm_X8_share s m args below meth c H locs 0 0 (MQ below (Ql D (wM a kc Ff Gf If Jf) r (ad a 21 s.heap.size)) args s 0 0 (ad a 21 s.heap.size)) (F0 m 35 ls []) := by
  intro F G I J x1 x2 x3 x5 H locs ls hf hfF hfG hfI hfJ hP hS hl
  unfold p_X8_share_b35x at hf
  refine lv_iload X.1 X.2.1 dX8_share_35 (lv_at hl 4 rfl) ?_
  refine lv_aload_n X.1 X.2.1 dX8_share_37 rfl (lv_at hl 0 rfl) ?_
  refine gM_0_12 (F := F) X (v := (F 4)) rfl q_4_121 dX8_share_38 hP ?_
  refine lv_icmp_ge (tgt := 75) X.1 X.2.1 dX8_share_41 (by decide) (fun c41 => ?_) (fun c41 => ?_)
  · have hf := it_s hf c41
    refine lv_lload_n X.1 X.2.1 dX8_share_75 rfl (lv_at hl 3 rfl) ?_
    refine lv_lconst (v := 0) X.1 X.2.1 dX8_share_76 (by decide) ?_
    refine W.lcmp X.1 X.2.1 dX8_share_77 ?_
    refine lv_if_ne (tgt := 89) X.1 X.2.1 dX8_share_78 (by decide) (fun c78 => ?_) (fun c78 => ?_)
    · have hf := ie_s hf c78
      refine lv_aload_n X.1 X.2.1 dX8_share_89 rfl (lv_at hl 0 rfl) ?_
      refine lv_iload_n X.1 X.2.1 dX8_share_90 rfl (lv_at hl 1 rfl) ?_
      refine lv_iconst (v := (-1)) X.1 X.2.1 dX8_share_91 (by decide) ?_
      refine lv_iconst (v := 0) X.1 X.2.1 dX8_share_92 (by decide) ?_
      obtain ⟨r93, m_loser_93, m_onlyWho_93, m_onlyWhere_93, m_keptFree_93, m_all_93, m_keptSeat_93, m_ways_93, m_next_93, ho, hf⟩ := b9_s hf
      refine call_vl (rest := []) X (c_X8_seenWith F G I J X.2.2.2.2.2.2.2.1 x1 (-1) 0 ho) q_6_45 q_6_47 qs_yX8_seenWith q_1_10 q_6_48 ok_X8_seenWith rfl 0 rfl rfl ⟨Nat.le_of_ble_eq_true rfl, Nat.le_of_ble_eq_true rfl⟩ rfl rfl hl.1 rfl (Nat.le_of_ble_eq_true rfl) dX8_share_93 hP hS (fun H locs hP hS => ?_)
      refine lv_lload_n X.1 X.2.1 dX8_share_96 rfl (lv_at hl 3 rfl) ?_
      refine lv_iload_n X.1 X.2.1 dX8_share_97 rfl (lv_at hl 2 rfl) ?_
      obtain ⟨r98, ho, hf⟩ := b1_s hf
      refine call_sl (rest := []) X (c_X8_part r93 x3 x2 ho) q_5_155 q_5_156 q_1_10 q_5_157 ok_X8_part rfl ⟨Nat.le_of_ble_eq_true rfl, Nat.le_of_ble_eq_true rfl⟩ rfl rfl hl.1 rfl (Nat.le_of_ble_eq_true rfl) dX8_share_98 hP hS (fun H locs hP hS => ?_)
      exact t_X8_share_b101 X (va_up (va_up (va_up (va_up F 5 m_loser_93) 6 m_onlyWho_93) 7 m_onlyWhere_93) 8 m_keptFree_93) (va_up G 0 m_all_93) (va_up I 10 m_keptSeat_93) (va_up (va_up J 0 m_ways_93) 1 m_next_93) r98 H locs ls hf (frm_up (frm_up (frm_up (frm_up hfF (by decide)) (by decide)) (by decide)) (by decide)) (frm_up hfG (by decide)) (frm_up hfI (by decide)) (frm_up (frm_up hfJ (by decide)) (by decide)) hP hS (lv_sub hl [0] rfl)
    · have hf := it_s hf c78
      refine lv_bipush (v := (-3)) X.1 X.2.1 dX8_share_81 (by decide) ?_
      obtain ⟨r83, ho, hf⟩ := b1_s hf
      refine call_sl (rest := []) X (c_X8_no (-3) ho) q_5_158 q_5_159 q_1_10 q_5_160 ok_X8_no rfl ⟨Nat.le_of_ble_eq_true rfl, Nat.le_of_ble_eq_true rfl⟩ rfl rfl hl.1 rfl (Nat.le_of_ble_eq_true rfl) dX8_share_83 hP hS (fun H locs hP hS => ?_)
      refine lv_goto (tgt := 101) X.1 X.2.1 dX8_share_86 (by decide) ?_
      exact t_X8_share_b101 X F G I J r83 H locs ls hf hfF hfG hfI hfJ hP hS (lv_sub hl [0] rfl)
  · have hf := ie_s hf c41
    refine lv_lload_n X.1 X.2.1 dX8_share_44 rfl (lv_at hl 3 rfl) ?_
    refine lv_aload_n X.1 X.2.1 dX8_share_45 rfl (lv_at hl 0 rfl) ?_
    refine gM_0_14 X q_4_123 dX8_share_46 hP ?_
    refine lv_iload X.1 X.2.1 dX8_share_49 (lv_at hl 4 rfl) ?_
    obtain ⟨h51, hf⟩ := gd_s hf
    refine lM_10 (I := I) X (f := (I 9)) rfl h51 dX8_share_51 hP ?_
    refine lv_if_ne (tgt := 66) X.1 X.2.1 dX8_share_52 (by decide) (fun c52 => ?_) (fun c52 => ?_)
    · have hf := ie_s hf c52
      refine lv_lconst (v := 0) X.1 X.2.1 dX8_share_66 (by decide) ?_
      exact t_X8_share_b67 X kh35 F G I J x3 0 x1 x2 x5 H locs ls hf hfF hfG hfI hfJ hP hS (lv_sub hl [0, 1, 2, 4] rfl)
    · have hf := it_s hf c52
      refine lv_aload_n X.1 X.2.1 dX8_share_55 rfl (lv_at hl 0 rfl) ?_
      refine lv_iload X.1 X.2.1 dX8_share_56 (lv_at hl 4 rfl) ?_
      refine lv_iconst (v := (-1)) X.1 X.2.1 dX8_share_58 (by decide) ?_
      refine lv_iconst (v := 0) X.1 X.2.1 dX8_share_59 (by decide) ?_
      obtain ⟨r60, m_loser_60, m_onlyWho_60, m_onlyWhere_60, m_keptFree_60, m_all_60, m_keptSeat_60, m_ways_60, m_next_60, ho, hf⟩ := b9_s hf
      refine call_vl (rest := [.long x3]) X (c_X8_seenWith F G I J X.2.2.2.2.2.2.2.1 x5 (-1) 0 ho) q_6_45 q_6_47 qs_yX8_seenWith q_1_10 q_6_48 ok_X8_seenWith rfl 0 rfl rfl ⟨Nat.le_of_ble_eq_true rfl, Nat.le_of_ble_eq_true rfl⟩ rfl rfl hl.1 rfl (Nat.le_of_ble_eq_true rfl) dX8_share_60 hP hS (fun H locs hP hS => ?_)
      refine lv_goto (tgt := 67) X.1 X.2.1 dX8_share_63 (by decide) ?_
      exact t_X8_share_b67 X kh35 (va_up (va_up (va_up (va_up F 5 m_loser_60) 6 m_onlyWho_60) 7 m_onlyWhere_60) 8 m_keptFree_60) (va_up G 0 m_all_60) (va_up I 10 m_keptSeat_60) (va_up (va_up J 0 m_ways_60) 1 m_next_60) x3 r60 x1 x2 x5 H locs ls hf (frm_up (frm_up (frm_up (frm_up hfF (by decide)) (by decide)) (by decide)) (by decide)) (frm_up hfG (by decide)) (frm_up hfI (by decide)) (frm_up (frm_up hfJ (by decide)) (by decide)) hP hS (lv_sub hl [0, 1, 2, 4] rfl)
set_option maxRecDepth 100000 in
theorem t_X8_share_b35 {p : Program} {l : Launch} {e : Env} {s : State} {m : MethodId} {args : Array Value} {below : List Frame} {meth : Method} {c : Code} {D : va_G} {a : Nat → Nat} {kc : Nat → ClassId} (X : cx 21 p s m args meth c D (tyM kc) a cX8_share 6 RX8 (some .long))  {Ff : Nat → Int32} {Gf : Nat → Int64} {If : Nat → Nat → Int32} {Jf : Nat → Nat → Int64} {r : Int64} :
    ∀ (n : Nat) (F : Nat → Int32) (G : Nat → Int64) (I : Nat → Nat → Int32) (J : Nat → Nat → Int64) (x1 : Int32) (x2 : Int32) (x3 : Int64) (x5 : Int32) (H : Heap) (locs : List Loc) (ls : Array Slot), p_X8_share_b35 n (F 1) (F 2) (F 3) (F 4) (F 5) (F 6) (F 7) (F 8) (F 12) (G 0) (I 4) (I 5) (I 6) (I 7) (I 8) (I 9) (I 10) (I 13) (I 14) (J 0) (J 1) x1 x2 x3 x5 = some (r, (Ff 1), (Ff 2), (Ff 3), (Ff 4), (Ff 5), (Ff 6), (Ff 7), (Ff 8), (Gf 0), (If 6), (If 7), (If 8), (If 9), (If 10), (Jf 0), (Jf 1)) → (∀ k, k ∉ ([1, 2, 3, 4, 5, 6, 7, 8] : List Nat) → Ff k = F k) → (∀ k, k ∉ ([0] : List Nat) → Gf k = G k) → (∀ k, k ∉ ([6, 7, 8, 9, 10] : List Nat) → If k = I k) → (∀ k, k ∉ ([0, 1] : List Nat) → Jf k = J k) → va_P D vwCl (wM a kc F G I J) H → va_S (ad a 21 s.heap.size) s.heap H locs → lv_has ls 6 [(0, .ref (a 0)), (1, .int x1), (2, .int x2), (3, .long x3), (5, .int x5)] → W p l e rm_X8_share s m args below meth c H locs 0 0 (MQ below (Ql D (wM a kc Ff Gf If Jf) r (ad a 21 s.heap.size)) args s 0 0 (ad a 21 s.heap.size)) (F0 m 35 ls []) := by
  intro n
  induction n with
  | zero => intro F G I J x1 x2 x3 x5 H locs ls hf hfF hfG hfI hfJ hP hS hl; exact (nos hf).elim
  | succ n ih => exact t_X8_share_b35x X ih
set_option maxHeartbeats 4000000 in
set_option maxRecDepth 100000 in
theorem t_X8_share_b0 {p : Program} {l : Launch} {e : Env} {s : State} {m : MethodId} {args : Array Value} {below : List Frame} {meth : Method} {c : Code} {D : va_G} {a : Nat → Nat} {kc : Nat → ClassId} (X : cx 21 p s m args meth c D (tyM kc) a cX8_share 6 RX8 (some .long))  {Ff : Nat → Int32} {Gf : Nat → Int64} {If : Nat → Nat → Int32} {Jf : Nat → Nat → Int64} {r : Int64} :
    ∀ (F : Nat → Int32) (G : Nat → Int64) (I : Nat → Nat → Int32) (J : Nat → Nat → Int64) (x1 : Int32) (x2 : Int32) (H : Heap) (locs : List Loc) (ls : Array Slot), p_X8_share_b0 (F 1) (F 2) (F 3) (F 4) (F 5) (F 6) (F 7) (F 8) (F 12) (G 0) (I 4) (I 5) (I 6) (I 7) (I 8) (I 9) (I 10) (I 13) (I 14) (J 0) (J 1) x1 x2 = some (r, (Ff 1), (Ff 2), (Ff 3), (Ff 4), (Ff 5), (Ff 6), (Ff 7), (Ff 8), (Gf 0), (If 6), (If 7), (If 8), (If 9), (If 10), (Jf 0), (Jf 1)) → (∀ k, k ∉ ([1, 2, 3, 4, 5, 6, 7, 8] : List Nat) → Ff k = F k) → (∀ k, k ∉ ([0] : List Nat) → Gf k = G k) → (∀ k, k ∉ ([6, 7, 8, 9, 10] : List Nat) → If k = I k) → (∀ k, k ∉ ([0, 1] : List Nat) → Jf k = J k) → va_P D vwCl (wM a kc F G I J) H → va_S (ad a 21 s.heap.size) s.heap H locs → lv_has ls 6 [(0, .ref (a 0)), (1, .int x1), (2, .int x2)] → W p l e rm_X8_share s m args below meth c H locs 0 0 (MQ below (Ql D (wM a kc Ff Gf If Jf) r (ad a 21 s.heap.size)) args s 0 0 (ad a 21 s.heap.size)) (F0 m 0 ls []) := by
  intro F G I J x1 x2 H locs ls hf hfF hfG hfI hfJ hP hS hl
  unfold p_X8_share_b0 at hf
  refine lv_aload_n X.1 X.2.1 dX8_share_0 rfl (lv_at hl 0 rfl) ?_
  refine lv_iload_n X.1 X.2.1 dX8_share_1 rfl (lv_at hl 1 rfl) ?_
  obtain ⟨r2, m_at_2, m_seats_2, m_rows_2, m_people_2, m_sorts_2, m_rowOf_2, m_own_2, m_kinds_2, ho, hf⟩ := b9_s hf
  refine call_vi (rest := []) X (c_X8_isPerson F G I J X.2.2.2.2.2.2.2.1 x1 ho) q_5_85 q_5_87 qs_yX8_isPerson q_1_10 q_5_88 ok_X8_isPerson rfl 0 rfl rfl ⟨Nat.le_of_ble_eq_true rfl, Nat.le_of_ble_eq_true rfl⟩ rfl rfl hl.1 rfl (Nat.le_of_ble_eq_true rfl) dX8_share_2 hP hS (fun H locs hP hS => ?_)
  refine lv_if_eq (tgt := 24) X.1 X.2.1 dX8_share_5 (by decide) (fun c5 => ?_) (fun c5 => ?_)
  · have hf := it_s hf c5
    exact t_X8_share_b24 X (va_up (va_up (va_up (va_up F 1 m_at_2) 2 m_seats_2) 3 m_rows_2) 4 m_people_2) G (va_up (va_up (va_up (va_up I 6 m_sorts_2) 7 m_rowOf_2) 8 m_own_2) 9 m_kinds_2) J  H locs ls hf (frm_up (frm_up (frm_up (frm_up hfF (by decide)) (by decide)) (by decide)) (by decide)) hfG (frm_up (frm_up (frm_up (frm_up hfI (by decide)) (by decide)) (by decide)) (by decide)) hfJ hP hS (lv_sub hl [0] rfl)
  · have hf := ie_s hf c5
    refine lv_aload_n X.1 X.2.1 dX8_share_8 rfl (lv_at hl 0 rfl) ?_
    refine gM_0_14 X q_4_123 dX8_share_9 hP ?_
    refine lv_iload_n X.1 X.2.1 dX8_share_12 rfl (lv_at hl 1 rfl) ?_
    obtain ⟨h13, hf⟩ := gd_s hf
    refine lM_10 (I := (va_up (va_up (va_up (va_up I 6 m_sorts_2) 7 m_rowOf_2) 8 m_own_2) 9 m_kinds_2)) X (f := m_kinds_2) rfl h13 dX8_share_13 hP ?_
    refine lv_if_ne (tgt := 24) X.1 X.2.1 dX8_share_14 (by decide) (fun c14 => ?_) (fun c14 => ?_)
    · have hf := ie_s hf c14
      exact t_X8_share_b24 X (va_up (va_up (va_up (va_up F 1 m_at_2) 2 m_seats_2) 3 m_rows_2) 4 m_people_2) G (va_up (va_up (va_up (va_up I 6 m_sorts_2) 7 m_rowOf_2) 8 m_own_2) 9 m_kinds_2) J  H locs ls hf (frm_up (frm_up (frm_up (frm_up hfF (by decide)) (by decide)) (by decide)) (by decide)) hfG (frm_up (frm_up (frm_up (frm_up hfI (by decide)) (by decide)) (by decide)) (by decide)) hfJ hP hS (lv_sub hl [0] rfl)
    · have hf := it_s hf c14
      refine lv_iload_n X.1 X.2.1 dX8_share_17 rfl (lv_at hl 2 rfl) ?_
      obtain ⟨r18, ho, hf⟩ := b1_s hf
      refine call_si (rest := []) X (c_X8_isTwo x2 ho) q_5_22 q_5_23 q_1_10 q_5_24 ok_X8_isTwo rfl ⟨Nat.le_of_ble_eq_true rfl, Nat.le_of_ble_eq_true rfl⟩ rfl rfl hl.1 rfl (Nat.le_of_ble_eq_true rfl) dX8_share_18 hP hS (fun H locs hP hS => ?_)
      refine lv_if_ne (tgt := 30) X.1 X.2.1 dX8_share_21 (by decide) (fun c21 => ?_) (fun c21 => ?_)
      · have hf := ie_s hf c21
        refine lv_lconst (v := 0) X.1 X.2.1 dX8_share_30 (by decide) ?_
        refine lv_lstore_n (lv' := [(3, .long 0), (0, .ref (a 0)), (1, .int x1), (2, .int x2)]) X.1 X.2.1 dX8_share_31 rfl hl (by decide) rfl (fun ls hl => ?_)
        refine lv_iconst (v := 0) X.1 X.2.1 dX8_share_32 (by decide) ?_
        refine lv_istore (lv' := [(5, .int 0), (3, .long 0), (0, .ref (a 0)), (1, .int x1), (2, .int x2)]) X.1 X.2.1 dX8_share_33 hl (by decide) rfl (fun ls hl => ?_)
        exact t_X8_share_b35 X 4096 (va_up (va_up (va_up (va_up F 1 m_at_2) 2 m_seats_2) 3 m_rows_2) 4 m_people_2) G (va_up (va_up (va_up (va_up I 6 m_sorts_2) 7 m_rowOf_2) 8 m_own_2) 9 m_kinds_2) J x1 x2 0 0 H locs ls hf (frm_up (frm_up (frm_up (frm_up hfF (by decide)) (by decide)) (by decide)) (by decide)) hfG (frm_up (frm_up (frm_up (frm_up hfI (by decide)) (by decide)) (by decide)) (by decide)) hfJ hP hS (lv_sub hl [2, 3, 4, 1, 0] rfl)
      · have hf := it_s hf c21
        exact t_X8_share_b24 X (va_up (va_up (va_up (va_up F 1 m_at_2) 2 m_seats_2) 3 m_rows_2) 4 m_people_2) G (va_up (va_up (va_up (va_up I 6 m_sorts_2) 7 m_rowOf_2) 8 m_own_2) 9 m_kinds_2) J  H locs ls hf (frm_up (frm_up (frm_up (frm_up hfF (by decide)) (by decide)) (by decide)) (by decide)) hfG (frm_up (frm_up (frm_up (frm_up hfI (by decide)) (by decide)) (by decide)) (by decide)) hfJ hP hS (lv_sub hl [0] rfl)
set_option maxRecDepth 100000 in
theorem c_X8_share {l : Launch} {D : va_G} {a : Nat → Nat} {kc : Nat → ClassId} (F : Nat → Int32) (G : Nat → Int64) (I : Nat → Nat → Int32) (J : Nat → Nat → Int64) (hAp : ∀ i j, i < 21 → j < 21 → a i = a j → i = j) (x1 : Int32) (x2 : Int32) {o0 : Int64} {o1 : Int32} {o2 : Int32} {o3 : Int32} {o4 : Int32} {o5 : Int32} {o6 : Int32} {o7 : Int32} {o8 : Int32} {o9 : Int64} {o10 : Nat → Int32} {o11 : Nat → Int32} {o12 : Nat → Int32} {o13 : Nat → Int32} {o14 : Nat → Int32} {o15 : Nat → Int64} {o16 : Nat → Int64} (hf : p_X8_share (F 1) (F 2) (F 3) (F 4) (F 5) (F 6) (F 7) (F 8) (F 12) (G 0) (I 4) (I 5) (I 6) (I 7) (I 8) (I 9) (I 10) (I 13) (I 14) (J 0) (J 1) x1 x2 = some (o0, o1, o2, o3, o4, o5, o6, o7, o8, o9, o10, o11, o12, o13, o14, o15, o16)) : Ct 21 l yX8_share cX8_share 6 (some .long) rm_X8_share D (tyM kc) a (wM a kc F G I J) [.ref (a 0), .int x1, .int x2] (Ql D (wM a kc (va_up (va_up (va_up (va_up (va_up (va_up (va_up (va_up F 1 o1) 2 o2) 3 o3) 4 o4) 5 o5) 6 o6) 7 o7) 8 o8) (va_up G 0 o9) (va_up (va_up (va_up (va_up (va_up I 6 o10) 7 o11) 8 o12) 9 o13) 10 o14) (va_up (va_up J 0 o15) 1 o16)) o0) :=
  Ct.of (by decide +kernel) hAp (Nat.le_of_ble_eq_true rfl) (fun p e s m args below meth c ls X hP hl => t_X8_share_b0 X F G I J x1 x2 _ _ _ hf (frm_ul (frm_ul (frm_ul (frm_ul (frm_ul (frm_ul (frm_ul (frm_ul (fun k _ => rfl) (by decide)) (by decide)) (by decide)) (by decide)) (by decide)) (by decide)) (by decide)) (by decide)) (frm_ul (fun k _ => rfl) (by decide)) (frm_ul (frm_ul (frm_ul (frm_ul (frm_ul (fun k _ => rfl) (by decide)) (by decide)) (by decide)) (by decide)) (by decide)) (frm_ul (frm_ul (fun k _ => rfl) (by decide)) (by decide)) hP va_S.rf hl)
abbrev rm_X8_likeliestNow : Room := { frames := 5, cells := 0, slots := 0, locals := 124 }
set_option maxHeartbeats 4000000 in
set_option maxRecDepth 100000 in
theorem t_X8_likeliestNow_b67 {p : Program} {l : Launch} {e : Env} {s : State} {m : MethodId} {args : Array Value} {below : List Frame} {meth : Method} {c : Code} {D : va_G} {a : Nat → Nat} {kc : Nat → ClassId} (X : cx 21 p s m args meth c D (tyM kc) a cX8_likeliestNow 7 RX8 (some .int))  {Ff : Nat → Int32} {Gf : Nat → Int64} {If : Nat → Nat → Int32} {Jf : Nat → Nat → Int64} {r : Int32} {K7 : Int32 → Int32 → Int32 → Int32 → Int32 → Int32 → Int32 → Int64 → (Nat → Int32) → (Nat → Int32) → (Nat → Int32) → (Nat → Int32) → (Nat → Int32) → (Nat → Int32) → (Nat → Int64) → (Nat → Int64) → Int32 → Int64 → Int32 → Option (Int32 × Int32 × Int32 × Int32 × Int32 × Int64 × (Nat → Int32) × (Nat → Int64) × (Nat → Int64))} (kh7 : ∀ (F : Nat → Int32) (G : Nat → Int64) (I : Nat → Nat → Int32) (J : Nat → Nat → Int64) (x1 : Int32) (x2 : Int64) (x4 : Int32) (H : Heap) (locs : List Loc) (ls : Array Slot), K7 (F 2) (F 4) (F 5) (F 6) (F 7) (F 8) (F 12) (G 0) (I 6) (I 8) (I 9) (I 10) (I 13) (I 14) (J 0) (J 1) x1 x2 x4 = some (r, (Ff 5), (Ff 6), (Ff 7), (Ff 8), (Gf 0), (If 10), (Jf 0), (Jf 1)) → (∀ k, k ∉ ([5, 6, 7, 8] : List Nat) → Ff k = F k) → (∀ k, k ∉ ([0] : List Nat) → Gf k = G k) → (∀ k, k ∉ ([10] : List Nat) → If k = I k) → (∀ k, k ∉ ([0, 1] : List Nat) → Jf k = J k) → va_P D vwCl (wM a kc F G I J) H → va_S (ad a 21 s.heap.size) s.heap H locs → lv_has ls 7 [(0, .ref (a 0)), (1, .int x1), (2, .long x2), (4, .int x4)] → W p l e rm_X8_likeliestNow s m args below meth c H locs 0 0 (MQ below (Qi D (wM a kc Ff Gf If Jf) r (ad a 21 s.heap.size)) args s 0 0 (ad a 21 s.heap.size)) (F0 m 7 ls [])) :
    ∀ (F : Nat → Int32) (G : Nat → Int64) (I : Nat → Nat → Int32) (J : Nat → Nat → Int64) (t0 : Int64) (x1 : Int32) (x4 : Int32) (H : Heap) (locs : List Loc) (ls : Array Slot), p_X8_likeliestNow_b67 K7 (F 2) (F 4) (F 5) (F 6) (F 7) (F 8) (F 12) (G 0) (I 6) (I 8) (I 9) (I 10) (I 13) (I 14) (J 0) (J 1) t0 x1 x4 = some (r, (Ff 5), (Ff 6), (Ff 7), (Ff 8), (Gf 0), (If 10), (Jf 0), (Jf 1)) → (∀ k, k ∉ ([5, 6, 7, 8] : List Nat) → Ff k = F k) → (∀ k, k ∉ ([0] : List Nat) → Gf k = G k) → (∀ k, k ∉ ([10] : List Nat) → If k = I k) → (∀ k, k ∉ ([0, 1] : List Nat) → Jf k = J k) → va_P D vwCl (wM a kc F G I J) H → va_S (ad a 21 s.heap.size) s.heap H locs → lv_has ls 7 [(0, .ref (a 0)), (1, .int x1), (4, .int x4)] → W p l e rm_X8_likeliestNow s m args below meth c H locs 0 0 (MQ below (Qi D (wM a kc Ff Gf If Jf) r (ad a 21 s.heap.size)) args s 0 0 (ad a 21 s.heap.size)) (F0 m 67 ls [.long t0]) := by
  intro F G I J t0 x1 x4 H locs ls hf hfF hfG hfI hfJ hP hS hl
  unfold p_X8_likeliestNow_b67 at hf
  refine lv_lstore_n (lv' := [(2, .long t0), (0, .ref (a 0)), (1, .int x1), (4, .int x4)]) X.1 X.2.1 dX8_likeliestNow_67 rfl hl (by decide) rfl (fun ls hl => ?_)
  obtain ⟨x68, ex68, hf⟩ := nm_x hf
  refine lv_iinc (v := x68) (lv' := [(4, .int x68), (2, .long t0), (0, .ref (a 0)), (1, .int x1)]) X.1 X.2.1 dX8_likeliestNow_68 hl (k := 3) rfl ex68 (by decide) rfl (fun ls hl => ?_)
  refine lv_goto (tgt := 7) X.1 X.2.1 dX8_likeliestNow_71 (by decide) ?_
  exact kh7 F G I J x1 t0 x68 H locs ls hf hfF hfG hfI hfJ hP hS (lv_sub hl [2, 3, 1, 0] rfl)
set_option maxHeartbeats 4000000 in
set_option maxRecDepth 100000 in
theorem t_X8_likeliestNow_b53 {p : Program} {l : Launch} {e : Env} {s : State} {m : MethodId} {args : Array Value} {below : List Frame} {meth : Method} {c : Code} {D : va_G} {a : Nat → Nat} {kc : Nat → ClassId} (X : cx 21 p s m args meth c D (tyM kc) a cX8_likeliestNow 7 RX8 (some .int))  {Ff : Nat → Int32} {Gf : Nat → Int64} {If : Nat → Nat → Int32} {Jf : Nat → Nat → Int64} {r : Int32} {K7 : Int32 → Int32 → Int32 → Int32 → Int32 → Int32 → Int32 → Int64 → (Nat → Int32) → (Nat → Int32) → (Nat → Int32) → (Nat → Int32) → (Nat → Int32) → (Nat → Int32) → (Nat → Int64) → (Nat → Int64) → Int32 → Int64 → Int32 → Option (Int32 × Int32 × Int32 × Int32 × Int32 × Int64 × (Nat → Int32) × (Nat → Int64) × (Nat → Int64))} (kh7 : ∀ (F : Nat → Int32) (G : Nat → Int64) (I : Nat → Nat → Int32) (J : Nat → Nat → Int64) (x1 : Int32) (x2 : Int64) (x4 : Int32) (H : Heap) (locs : List Loc) (ls : Array Slot), K7 (F 2) (F 4) (F 5) (F 6) (F 7) (F 8) (F 12) (G 0) (I 6) (I 8) (I 9) (I 10) (I 13) (I 14) (J 0) (J 1) x1 x2 x4 = some (r, (Ff 5), (Ff 6), (Ff 7), (Ff 8), (Gf 0), (If 10), (Jf 0), (Jf 1)) → (∀ k, k ∉ ([5, 6, 7, 8] : List Nat) → Ff k = F k) → (∀ k, k ∉ ([0] : List Nat) → Gf k = G k) → (∀ k, k ∉ ([10] : List Nat) → If k = I k) → (∀ k, k ∉ ([0, 1] : List Nat) → Jf k = J k) → va_P D vwCl (wM a kc F G I J) H → va_S (ad a 21 s.heap.size) s.heap H locs → lv_has ls 7 [(0, .ref (a 0)), (1, .int x1), (2, .long x2), (4, .int x4)] → W p l e rm_X8_likeliestNow s m args below meth c H locs 0 0 (MQ below (Qi D (wM a kc Ff Gf If Jf) r (ad a 21 s.heap.size)) args s 0 0 (ad a 21 s.heap.size)) (F0 m 7 ls [])) :
    ∀ (F : Nat → Int32) (G : Nat → Int64) (I : Nat → Nat → Int32) (J : Nat → Nat → Int64) (t0 : Int32) (x2 : Int64) (x4 : Int32) (x5 : Int64) (H : Heap) (locs : List Loc) (ls : Array Slot), p_X8_likeliestNow_b53 K7 (F 2) (F 4) (F 5) (F 6) (F 7) (F 8) (F 12) (G 0) (I 6) (I 8) (I 9) (I 10) (I 13) (I 14) (J 0) (J 1) t0 x2 x4 x5 = some (r, (Ff 5), (Ff 6), (Ff 7), (Ff 8), (Gf 0), (If 10), (Jf 0), (Jf 1)) → (∀ k, k ∉ ([5, 6, 7, 8] : List Nat) → Ff k = F k) → (∀ k, k ∉ ([0] : List Nat) → Gf k = G k) → (∀ k, k ∉ ([10] : List Nat) → If k = I k) → (∀ k, k ∉ ([0, 1] : List Nat) → Jf k = J k) → va_P D vwCl (wM a kc F G I J) H → va_S (ad a 21 s.heap.size) s.heap H locs → lv_has ls 7 [(0, .ref (a 0)), (2, .long x2), (4, .int x4), (5, .long x5)] → W p l e rm_X8_likeliestNow s m args below meth c H locs 0 0 (MQ below (Qi D (wM a kc Ff Gf If Jf) r (ad a 21 s.heap.size)) args s 0 0 (ad a 21 s.heap.size)) (F0 m 53 ls [.int t0]) := by
  intro F G I J t0 x2 x4 x5 H locs ls hf hfF hfG hfI hfJ hP hS hl
  unfold p_X8_likeliestNow_b53 at hf
  refine lv_istore_n (lv' := [(1, .int t0), (0, .ref (a 0)), (2, .long x2), (4, .int x4), (5, .long x5)]) X.1 X.2.1 dX8_likeliestNow_53 rfl hl (by decide) rfl (fun ls hl => ?_)
  refine lv_lload X.1 X.2.1 dX8_likeliestNow_54 (lv_at hl 4 rfl) ?_
  refine lv_lload_n X.1 X.2.1 dX8_likeliestNow_56 rfl (lv_at hl 2 rfl) ?_
  refine W.lcmp X.1 X.2.1 dX8_likeliestNow_57 ?_
  refine lv_if_le (tgt := 66) X.1 X.2.1 dX8_likeliestNow_58 (by decide) (fun c58 => ?_) (fun c58 => ?_)
  · have hf := it_s hf c58
    refine lv_lload_n X.1 X.2.1 dX8_likeliestNow_66 rfl (lv_at hl 2 rfl) ?_
    exact t_X8_likeliestNow_b67 X kh7 F G I J x2 t0 x4 H locs ls hf hfF hfG hfI hfJ hP hS (lv_sub hl [1, 0, 3] rfl)
  · have hf := ie_s hf c58
    refine lv_lload X.1 X.2.1 dX8_likeliestNow_61 (lv_at hl 4 rfl) ?_
    refine lv_goto (tgt := 67) X.1 X.2.1 dX8_likeliestNow_63 (by decide) ?_
    exact t_X8_likeliestNow_b67 X kh7 F G I J x5 t0 x4 H locs ls hf hfF hfG hfI hfJ hP hS (lv_sub hl [1, 0, 3] rfl)
set_option maxHeartbeats 4000000 in
set_option maxRecDepth 100000 in
theorem t_X8_likeliestNow_b38 {p : Program} {l : Launch} {e : Env} {s : State} {m : MethodId} {args : Array Value} {below : List Frame} {meth : Method} {c : Code} {D : va_G} {a : Nat → Nat} {kc : Nat → ClassId} (X : cx 21 p s m args meth c D (tyM kc) a cX8_likeliestNow 7 RX8 (some .int))  {Ff : Nat → Int32} {Gf : Nat → Int64} {If : Nat → Nat → Int32} {Jf : Nat → Nat → Int64} {r : Int32} {K7 : Int32 → Int32 → Int32 → Int32 → Int32 → Int32 → Int32 → Int64 → (Nat → Int32) → (Nat → Int32) → (Nat → Int32) → (Nat → Int32) → (Nat → Int32) → (Nat → Int32) → (Nat → Int64) → (Nat → Int64) → Int32 → Int64 → Int32 → Option (Int32 × Int32 × Int32 × Int32 × Int32 × Int64 × (Nat → Int32) × (Nat → Int64) × (Nat → Int64))} (kh7 : ∀ (F : Nat → Int32) (G : Nat → Int64) (I : Nat → Nat → Int32) (J : Nat → Nat → Int64) (x1 : Int32) (x2 : Int64) (x4 : Int32) (H : Heap) (locs : List Loc) (ls : Array Slot), K7 (F 2) (F 4) (F 5) (F 6) (F 7) (F 8) (F 12) (G 0) (I 6) (I 8) (I 9) (I 10) (I 13) (I 14) (J 0) (J 1) x1 x2 x4 = some (r, (Ff 5), (Ff 6), (Ff 7), (Ff 8), (Gf 0), (If 10), (Jf 0), (Jf 1)) → (∀ k, k ∉ ([5, 6, 7, 8] : List Nat) → Ff k = F k) → (∀ k, k ∉ ([0] : List Nat) → Gf k = G k) → (∀ k, k ∉ ([10] : List Nat) → If k = I k) → (∀ k, k ∉ ([0, 1] : List Nat) → Jf k = J k) → va_P D vwCl (wM a kc F G I J) H → va_S (ad a 21 s.heap.size) s.heap H locs → lv_has ls 7 [(0, .ref (a 0)), (1, .int x1), (2, .long x2), (4, .int x4)] → W p l e rm_X8_likeliestNow s m args below meth c H locs 0 0 (MQ below (Qi D (wM a kc Ff Gf If Jf) r (ad a 21 s.heap.size)) args s 0 0 (ad a 21 s.heap.size)) (F0 m 7 ls [])) :
    ∀ (F : Nat → Int32) (G : Nat → Int64) (I : Nat → Nat → Int32) (J : Nat → Nat → Int64) (t0 : Int64) (x1 : Int32) (x2 : Int64) (x4 : Int32) (H : Heap) (locs : List Loc) (ls : Array Slot), p_X8_likeliestNow_b38 K7 (F 2) (F 4) (F 5) (F 6) (F 7) (F 8) (F 12) (G 0) (I 6) (I 8) (I 9) (I 10) (I 13) (I 14) (J 0) (J 1) t0 x1 x2 x4 = some (r, (Ff 5), (Ff 6), (Ff 7), (Ff 8), (Gf 0), (If 10), (Jf 0), (Jf 1)) → (∀ k, k ∉ ([5, 6, 7, 8] : List Nat) → Ff k = F k) → (∀ k, k ∉ ([0] : List Nat) → Gf k = G k) → (∀ k, k ∉ ([10] : List Nat) → If k = I k) → (∀ k, k ∉ ([0, 1] : List Nat) → Jf k = J k) → va_P D vwCl (wM a kc F G I J) H → va_S (ad a 21 s.heap.size) s.heap H locs → lv_has ls 7 [(0, .ref (a 0)), (1, .int x1), (2, .long x2), (4, .int x4)] → W p l e rm_X8_likeliestNow s m args below meth c H locs 0 0 (MQ below (Qi D (wM a kc Ff Gf If Jf) r (ad a 21 s.heap.size)) args s 0 0 (ad a 21 s.heap.size)) (F0 m 38 ls [.long t0]) := by
  intro F G I J t0 x1 x2 x4 H locs ls hf hfF hfG hfI hfJ hP hS hl
  unfold p_X8_likeliestNow_b38 at hf
  refine lv_lstore (lv' := [(5, .long t0), (0, .ref (a 0)), (1, .int x1), (2, .long x2), (4, .int x4)]) X.1 X.2.1 dX8_likeliestNow_38 hl (by decide) rfl (fun ls hl => ?_)
  refine lv_lload X.1 X.2.1 dX8_likeliestNow_40 (lv_at hl 0 rfl) ?_
  refine lv_lload_n X.1 X.2.1 dX8_likeliestNow_42 rfl (lv_at hl 3 rfl) ?_
  refine W.lcmp X.1 X.2.1 dX8_likeliestNow_43 ?_
  refine lv_if_le (tgt := 52) X.1 X.2.1 dX8_likeliestNow_44 (by decide) (fun c44 => ?_) (fun c44 => ?_)
  · have hf := it_s hf c44
    refine lv_iload_n X.1 X.2.1 dX8_likeliestNow_52 rfl (lv_at hl 2 rfl) ?_
    exact t_X8_likeliestNow_b53 X kh7 F G I J x1 x2 x4 t0 H locs ls hf hfF hfG hfI hfJ hP hS (lv_sub hl [1, 3, 4, 0] rfl)
  · have hf := ie_s hf c44
    refine lv_iload X.1 X.2.1 dX8_likeliestNow_47 (lv_at hl 4 rfl) ?_
    refine lv_goto (tgt := 53) X.1 X.2.1 dX8_likeliestNow_49 (by decide) ?_
    exact t_X8_likeliestNow_b53 X kh7 F G I J x4 x2 x4 t0 H locs ls hf hfF hfG hfI hfJ hP hS (lv_sub hl [1, 3, 4, 0] rfl)
set_option maxHeartbeats 4000000 in
set_option maxRecDepth 100000 in
theorem t_X8_likeliestNow_b7x {p : Program} {l : Launch} {e : Env} {s : State} {m : MethodId} {args : Array Value} {below : List Frame} {meth : Method} {c : Code} {D : va_G} {a : Nat → Nat} {kc : Nat → ClassId} (X : cx 21 p s m args meth c D (tyM kc) a cX8_likeliestNow 7 RX8 (some .int))  {Ff : Nat → Int32} {Gf : Nat → Int64} {If : Nat → Nat → Int32} {Jf : Nat → Nat → Int64} {r : Int32} {K7 : Int32 → Int32 → Int32 → Int32 → Int32 → Int32 → Int32 → Int64 → (Nat → Int32) → (Nat → Int32) → (Nat → Int32) → (Nat → Int32) → (Nat → Int32) → (Nat → Int32) → (Nat → Int64) → (Nat → Int64) → Int32 → Int64 → Int32 → Option (Int32 × Int32 × Int32 × Int32 × Int32 × Int64 × (Nat → Int32) × (Nat → Int64) × (Nat → Int64))} (kh7 : ∀ (F : Nat → Int32) (G : Nat → Int64) (I : Nat → Nat → Int32) (J : Nat → Nat → Int64) (x1 : Int32) (x2 : Int64) (x4 : Int32) (H : Heap) (locs : List Loc) (ls : Array Slot), K7 (F 2) (F 4) (F 5) (F 6) (F 7) (F 8) (F 12) (G 0) (I 6) (I 8) (I 9) (I 10) (I 13) (I 14) (J 0) (J 1) x1 x2 x4 = some (r, (Ff 5), (Ff 6), (Ff 7), (Ff 8), (Gf 0), (If 10), (Jf 0), (Jf 1)) → (∀ k, k ∉ ([5, 6, 7, 8] : List Nat) → Ff k = F k) → (∀ k, k ∉ ([0] : List Nat) → Gf k = G k) → (∀ k, k ∉ ([10] : List Nat) → If k = I k) → (∀ k, k ∉ ([0, 1] : List Nat) → Jf k = J k) → va_P D vwCl (wM a kc F G I J) H → va_S (ad a 21 s.heap.size) s.heap H locs → lv_has ls 7 [(0, .ref (a 0)), (1, .int x1), (2, .long x2), (4, .int x4)] → W p l e rm_X8_likeliestNow s m args below meth c H locs 0 0 (MQ below (Qi D (wM a kc Ff Gf If Jf) r (ad a 21 s.heap.size)) args s 0 0 (ad a 21 s.heap.size)) (F0 m 7 ls [])) :
    ∀ (F : Nat → Int32) (G : Nat → Int64) (I : Nat → Nat → Int32) (J : Nat → Nat → Int64) (x1 : Int32) (x2 : Int64) (x4 : Int32) (H : Heap) (locs : List Loc) (ls : Array Slot), p_X8_likeliestNow_b7x K7 (F 2) (F 4) (F 5) (F 6) (F 7) (F 8) (F 12) (G 0) (I 6) (I 8) (I 9) (I 10) (I 13) (I 14) (J 0) (J 1) x1 x2 x4 = some (r, (Ff 5), (Ff 6), (Ff 7), (Ff 8), (Gf 0), (If 10), (Jf 0), (Jf 1)) → (∀ k, k ∉ ([5, 6, 7, 8] : List Nat) → Ff k = F k) → (∀ k, k ∉ ([0] : List Nat) → Gf k = G k) → (∀ k, k ∉ ([10] : List Nat) → If k = I k) → (∀ k, k ∉ ([0, 1] : List Nat) → Jf k = J k) → va_P D vwCl (wM a kc F G I J) H → va_S (ad a 21 s.heap.size) s.heap H locs → lv_has ls 7 [(0, .ref (a 0)), (1, .int x1), (2, .long x2), (4, .int x4)] → W p l e rm_X8_likeliestNow s m args below meth c H locs 0 0 (MQ below (Qi D (wM a kc Ff Gf If Jf) r (ad a 21 s.heap.size)) args s 0 0 (ad a 21 s.heap.size)) (F0 m 7 ls []) := by
  intro F G I J x1 x2 x4 H locs ls hf hfF hfG hfI hfJ hP hS hl
  unfold p_X8_likeliestNow_b7x at hf
  refine lv_iload X.1 X.2.1 dX8_likeliestNow_7 (lv_at hl 3 rfl) ?_
  refine lv_aload_n X.1 X.2.1 dX8_likeliestNow_9 rfl (lv_at hl 0 rfl) ?_
  refine gM_0_12 (F := F) X (v := (F 4)) rfl q_4_121 dX8_likeliestNow_10 hP ?_
  refine lv_icmp_ge (tgt := 74) X.1 X.2.1 dX8_likeliestNow_13 (by decide) (fun c13 => ?_) (fun c13 => ?_)
  · have hf := it_s hf c13
    refine lv_iload_n X.1 X.2.1 dX8_likeliestNow_74 rfl (lv_at hl 1 rfl) ?_
    obtain ⟨e0, hf⟩ := o2 hf
    obtain ⟨e1, hf⟩ := o2 hf
    obtain ⟨e2, hf⟩ := o2 hf
    obtain ⟨e3, hf⟩ := o2 hf
    obtain ⟨e4, hf⟩ := o2 hf
    obtain ⟨e5, hf⟩ := o2 hf
    obtain ⟨e6, hf⟩ := o2 hf
    obtain ⟨e7, hf⟩ := o2 hf
    have e8 := o1 hf
    have EF : Ff = F := frm_eq hfF (frm_c (e1).symm (frm_c (e2).symm (frm_c (e3).symm (frm_c (e4).symm frm_n))))
    have EG : Gf = G := frm_eq hfG (frm_c (e5).symm frm_n)
    have EI : If = I := frm_eq hfI (frm_c (e6).symm frm_n)
    have EJ : Jf = J := frm_eq hfJ (frm_c (e7).symm (frm_c (e8).symm frm_n))
    exact ret_i X hS (by rw [EF, EG, EI, EJ]; exact hP) e0 dX8_likeliestNow_75
  · have hf := ie_s hf c13
    refine lv_aload_n X.1 X.2.1 dX8_likeliestNow_16 rfl (lv_at hl 0 rfl) ?_
    refine gM_0_14 X q_4_123 dX8_likeliestNow_17 hP ?_
    refine lv_iload X.1 X.2.1 dX8_likeliestNow_20 (lv_at hl 3 rfl) ?_
    obtain ⟨h22, hf⟩ := gd_s hf
    refine lM_10 (I := I) X (f := (I 9)) rfl h22 dX8_likeliestNow_22 hP ?_
    refine lv_if_ne (tgt := 37) X.1 X.2.1 dX8_likeliestNow_23 (by decide) (fun c23 => ?_) (fun c23 => ?_)
    · have hf := ie_s hf c23
      refine lv_lconst (v := 0) X.1 X.2.1 dX8_likeliestNow_37 (by decide) ?_
      exact t_X8_likeliestNow_b38 X kh7 F G I J 0 x1 x2 x4 H locs ls hf hfF hfG hfI hfJ hP hS (lv_sub hl [0, 1, 2, 3] rfl)
    · have hf := it_s hf c23
      refine lv_aload_n X.1 X.2.1 dX8_likeliestNow_26 rfl (lv_at hl 0 rfl) ?_
      refine lv_iload X.1 X.2.1 dX8_likeliestNow_27 (lv_at hl 3 rfl) ?_
      refine lv_iconst (v := (-1)) X.1 X.2.1 dX8_likeliestNow_29 (by decide) ?_
      refine lv_iconst (v := 0) X.1 X.2.1 dX8_likeliestNow_30 (by decide) ?_
      obtain ⟨r31, m_loser_31, m_onlyWho_31, m_onlyWhere_31, m_keptFree_31, m_all_31, m_keptSeat_31, m_ways_31, m_next_31, ho, hf⟩ := b9_s hf
      refine call_vl (rest := []) X (c_X8_seenWith F G I J X.2.2.2.2.2.2.2.1 x4 (-1) 0 ho) q_6_45 q_6_47 qs_yX8_seenWith q_1_10 q_6_48 ok_X8_seenWith rfl 0 rfl rfl ⟨Nat.le_of_ble_eq_true rfl, Nat.le_of_ble_eq_true rfl⟩ rfl rfl hl.1 rfl (Nat.le_of_ble_eq_true rfl) dX8_likeliestNow_31 hP hS (fun H locs hP hS => ?_)
      refine lv_goto (tgt := 38) X.1 X.2.1 dX8_likeliestNow_34 (by decide) ?_
      exact t_X8_likeliestNow_b38 X kh7 (va_up (va_up (va_up (va_up F 5 m_loser_31) 6 m_onlyWho_31) 7 m_onlyWhere_31) 8 m_keptFree_31) (va_up G 0 m_all_31) (va_up I 10 m_keptSeat_31) (va_up (va_up J 0 m_ways_31) 1 m_next_31) r31 x1 x2 x4 H locs ls hf (frm_up (frm_up (frm_up (frm_up hfF (by decide)) (by decide)) (by decide)) (by decide)) (frm_up hfG (by decide)) (frm_up hfI (by decide)) (frm_up (frm_up hfJ (by decide)) (by decide)) hP hS (lv_sub hl [0, 1, 2, 3] rfl)
set_option maxRecDepth 100000 in
theorem t_X8_likeliestNow_b7 {p : Program} {l : Launch} {e : Env} {s : State} {m : MethodId} {args : Array Value} {below : List Frame} {meth : Method} {c : Code} {D : va_G} {a : Nat → Nat} {kc : Nat → ClassId} (X : cx 21 p s m args meth c D (tyM kc) a cX8_likeliestNow 7 RX8 (some .int))  {Ff : Nat → Int32} {Gf : Nat → Int64} {If : Nat → Nat → Int32} {Jf : Nat → Nat → Int64} {r : Int32} :
    ∀ (n : Nat) (F : Nat → Int32) (G : Nat → Int64) (I : Nat → Nat → Int32) (J : Nat → Nat → Int64) (x1 : Int32) (x2 : Int64) (x4 : Int32) (H : Heap) (locs : List Loc) (ls : Array Slot), p_X8_likeliestNow_b7 n (F 2) (F 4) (F 5) (F 6) (F 7) (F 8) (F 12) (G 0) (I 6) (I 8) (I 9) (I 10) (I 13) (I 14) (J 0) (J 1) x1 x2 x4 = some (r, (Ff 5), (Ff 6), (Ff 7), (Ff 8), (Gf 0), (If 10), (Jf 0), (Jf 1)) → (∀ k, k ∉ ([5, 6, 7, 8] : List Nat) → Ff k = F k) → (∀ k, k ∉ ([0] : List Nat) → Gf k = G k) → (∀ k, k ∉ ([10] : List Nat) → If k = I k) → (∀ k, k ∉ ([0, 1] : List Nat) → Jf k = J k) → va_P D vwCl (wM a kc F G I J) H → va_S (ad a 21 s.heap.size) s.heap H locs → lv_has ls 7 [(0, .ref (a 0)), (1, .int x1), (2, .long x2), (4, .int x4)] → W p l e rm_X8_likeliestNow s m args below meth c H locs 0 0 (MQ below (Qi D (wM a kc Ff Gf If Jf) r (ad a 21 s.heap.size)) args s 0 0 (ad a 21 s.heap.size)) (F0 m 7 ls []) := by
  intro n
  induction n with
  | zero => intro F G I J x1 x2 x4 H locs ls hf hfF hfG hfI hfJ hP hS hl; exact (nos hf).elim
  | succ n ih => exact t_X8_likeliestNow_b7x X ih
set_option maxHeartbeats 4000000 in
set_option maxRecDepth 100000 in
theorem t_X8_likeliestNow_b0 {p : Program} {l : Launch} {e : Env} {s : State} {m : MethodId} {args : Array Value} {below : List Frame} {meth : Method} {c : Code} {D : va_G} {a : Nat → Nat} {kc : Nat → ClassId} (X : cx 21 p s m args meth c D (tyM kc) a cX8_likeliestNow 7 RX8 (some .int))  {Ff : Nat → Int32} {Gf : Nat → Int64} {If : Nat → Nat → Int32} {Jf : Nat → Nat → Int64} {r : Int32} :
    ∀ (F : Nat → Int32) (G : Nat → Int64) (I : Nat → Nat → Int32) (J : Nat → Nat → Int64)  (H : Heap) (locs : List Loc) (ls : Array Slot), p_X8_likeliestNow_b0 (F 2) (F 4) (F 5) (F 6) (F 7) (F 8) (F 12) (G 0) (I 6) (I 8) (I 9) (I 10) (I 13) (I 14) (J 0) (J 1)  = some (r, (Ff 5), (Ff 6), (Ff 7), (Ff 8), (Gf 0), (If 10), (Jf 0), (Jf 1)) → (∀ k, k ∉ ([5, 6, 7, 8] : List Nat) → Ff k = F k) → (∀ k, k ∉ ([0] : List Nat) → Gf k = G k) → (∀ k, k ∉ ([10] : List Nat) → If k = I k) → (∀ k, k ∉ ([0, 1] : List Nat) → Jf k = J k) → va_P D vwCl (wM a kc F G I J) H → va_S (ad a 21 s.heap.size) s.heap H locs → lv_has ls 7 [(0, .ref (a 0))] → W p l e rm_X8_likeliestNow s m args below meth c H locs 0 0 (MQ below (Qi D (wM a kc Ff Gf If Jf) r (ad a 21 s.heap.size)) args s 0 0 (ad a 21 s.heap.size)) (F0 m 0 ls []) := by
  intro F G I J  H locs ls hf hfF hfG hfI hfJ hP hS hl
  unfold p_X8_likeliestNow_b0 at hf
  refine lv_iconst (v := (-1)) X.1 X.2.1 dX8_likeliestNow_0 (by decide) ?_
  refine lv_istore_n (lv' := [(1, .int (-1)), (0, .ref (a 0))]) X.1 X.2.1 dX8_likeliestNow_1 rfl hl (by decide) rfl (fun ls hl => ?_)
  refine lv_lconst (v := 0) X.1 X.2.1 dX8_likeliestNow_2 (by decide) ?_
  refine lv_lstore_n (lv' := [(2, .long 0), (1, .int (-1)), (0, .ref (a 0))]) X.1 X.2.1 dX8_likeliestNow_3 rfl hl (by decide) rfl (fun ls hl => ?_)
  refine lv_iconst (v := 0) X.1 X.2.1 dX8_likeliestNow_4 (by decide) ?_
  refine lv_istore (lv' := [(4, .int 0), (2, .long 0), (1, .int (-1)), (0, .ref (a 0))]) X.1 X.2.1 dX8_likeliestNow_5 hl (by decide) rfl (fun ls hl => ?_)
  exact t_X8_likeliestNow_b7 X 4096 F G I J (-1) 0 0 H locs ls hf hfF hfG hfI hfJ hP hS (lv_sub hl [3, 2, 1, 0] rfl)
set_option maxRecDepth 100000 in
theorem c_X8_likeliestNow {l : Launch} {D : va_G} {a : Nat → Nat} {kc : Nat → ClassId} (F : Nat → Int32) (G : Nat → Int64) (I : Nat → Nat → Int32) (J : Nat → Nat → Int64) (hAp : ∀ i j, i < 21 → j < 21 → a i = a j → i = j)  {o0 : Int32} {o1 : Int32} {o2 : Int32} {o3 : Int32} {o4 : Int32} {o5 : Int64} {o6 : Nat → Int32} {o7 : Nat → Int64} {o8 : Nat → Int64} (hf : p_X8_likeliestNow (F 2) (F 4) (F 5) (F 6) (F 7) (F 8) (F 12) (G 0) (I 6) (I 8) (I 9) (I 10) (I 13) (I 14) (J 0) (J 1)  = some (o0, o1, o2, o3, o4, o5, o6, o7, o8)) : Ct 21 l yX8_likeliestNow cX8_likeliestNow 7 (some .int) rm_X8_likeliestNow D (tyM kc) a (wM a kc F G I J) [.ref (a 0)] (Qi D (wM a kc (va_up (va_up (va_up (va_up F 5 o1) 6 o2) 7 o3) 8 o4) (va_up G 0 o5) (va_up I 10 o6) (va_up (va_up J 0 o7) 1 o8)) o0) :=
  Ct.of (by decide +kernel) hAp (Nat.le_of_ble_eq_true rfl) (fun p e s m args below meth c ls X hP hl => t_X8_likeliestNow_b0 X F G I J  _ _ _ hf (frm_ul (frm_ul (frm_ul (frm_ul (fun k _ => rfl) (by decide)) (by decide)) (by decide)) (by decide)) (frm_ul (fun k _ => rfl) (by decide)) (frm_ul (fun k _ => rfl) (by decide)) (frm_ul (frm_ul (fun k _ => rfl) (by decide)) (by decide)) hP va_S.rf hl)
abbrev rm_X8_likeliest : Room := { frames := 6, cells := 0, slots := 0, locals := 150 }
set_option maxHeartbeats 4000000 in
set_option maxRecDepth 100000 in
theorem t_X8_likeliest_b0 {p : Program} {l : Launch} {e : Env} {s : State} {m : MethodId} {args : Array Value} {below : List Frame} {meth : Method} {c : Code} {D : va_G} {a : Nat → Nat} {kc : Nat → ClassId} (X : cx 21 p s m args meth c D (tyM kc) a cX8_likeliest 1 RX8 (some .int))  {Ff : Nat → Int32} {Gf : Nat → Int64} {If : Nat → Nat → Int32} {Jf : Nat → Nat → Int64} {r : Int32} :
    ∀ (F : Nat → Int32) (G : Nat → Int64) (I : Nat → Nat → Int32) (J : Nat → Nat → Int64)  (H : Heap) (locs : List Loc) (ls : Array Slot), p_X8_likeliest_b0 (F 1) (F 2) (F 3) (F 4) (F 5) (F 6) (F 7) (F 8) (F 12) (G 0) (I 4) (I 5) (I 6) (I 7) (I 8) (I 9) (I 10) (I 13) (I 14) (J 0) (J 1)  = some (r, (Ff 1), (Ff 2), (Ff 3), (Ff 4), (Ff 5), (Ff 6), (Ff 7), (Ff 8), (Gf 0), (If 6), (If 7), (If 8), (If 9), (If 10), (Jf 0), (Jf 1)) → (∀ k, k ∉ ([1, 2, 3, 4, 5, 6, 7, 8] : List Nat) → Ff k = F k) → (∀ k, k ∉ ([0] : List Nat) → Gf k = G k) → (∀ k, k ∉ ([6, 7, 8, 9, 10] : List Nat) → If k = I k) → (∀ k, k ∉ ([0, 1] : List Nat) → Jf k = J k) → va_P D vwCl (wM a kc F G I J) H → va_S (ad a 21 s.heap.size) s.heap H locs → lv_has ls 1 [(0, .ref (a 0))] → W p l e rm_X8_likeliest s m args below meth c H locs 0 0 (MQ below (Qi D (wM a kc Ff Gf If Jf) r (ad a 21 s.heap.size)) args s 0 0 (ad a 21 s.heap.size)) (F0 m 0 ls []) := by
  intro F G I J  H locs ls hf hfF hfG hfI hfJ hP hS hl
  unfold p_X8_likeliest_b0 at hf
  refine lv_aload_n X.1 X.2.1 dX8_likeliest_0 rfl (lv_at hl 0 rfl) ?_
  obtain ⟨m_at_1, m_seats_1, m_rows_1, m_people_1, m_sorts_1, m_rowOf_1, m_own_1, m_kinds_1, ho, hf⟩ := b8_s hf
  refine call_vv (rest := []) X (c_X8_find F G I J X.2.2.2.2.2.2.2.1  ho) q_5_69 q_5_71 qs_yX8_find q_1_10 q_5_72 ok_X8_find rfl 0 rfl rfl ⟨Nat.le_of_ble_eq_true rfl, Nat.le_of_ble_eq_true rfl⟩ rfl rfl hl.1 rfl (Nat.le_of_ble_eq_true rfl) dX8_likeliest_1 hP hS (fun H locs hP hS => ?_)
  refine lv_aload_n X.1 X.2.1 dX8_likeliest_4 rfl (lv_at hl 0 rfl) ?_
  obtain ⟨r5, m_loser_5, m_onlyWho_5, m_onlyWhere_5, m_keptFree_5, m_all_5, m_keptSeat_5, m_ways_5, m_next_5, ho, hf⟩ := b9_s hf
  refine call_vi (rest := []) X (c_X8_likeliestNow (va_up (va_up (va_up (va_up F 1 m_at_1) 2 m_seats_1) 3 m_rows_1) 4 m_people_1) G (va_up (va_up (va_up (va_up I 6 m_sorts_1) 7 m_rowOf_1) 8 m_own_1) 9 m_kinds_1) J X.2.2.2.2.2.2.2.1  ho) q_6_61 q_6_63 qs_yX8_likeliestNow q_1_10 q_6_64 ok_X8_likeliestNow rfl 0 rfl rfl ⟨Nat.le_of_ble_eq_true rfl, Nat.le_of_ble_eq_true rfl⟩ rfl rfl hl.1 rfl (Nat.le_of_ble_eq_true rfl) dX8_likeliest_5 hP hS (fun H locs hP hS => ?_)
  obtain ⟨e0, hf⟩ := o2 hf
  obtain ⟨e1, hf⟩ := o2 hf
  obtain ⟨e2, hf⟩ := o2 hf
  obtain ⟨e3, hf⟩ := o2 hf
  obtain ⟨e4, hf⟩ := o2 hf
  obtain ⟨e5, hf⟩ := o2 hf
  obtain ⟨e6, hf⟩ := o2 hf
  obtain ⟨e7, hf⟩ := o2 hf
  obtain ⟨e8, hf⟩ := o2 hf
  obtain ⟨e9, hf⟩ := o2 hf
  obtain ⟨e10, hf⟩ := o2 hf
  obtain ⟨e11, hf⟩ := o2 hf
  obtain ⟨e12, hf⟩ := o2 hf
  obtain ⟨e13, hf⟩ := o2 hf
  obtain ⟨e14, hf⟩ := o2 hf
  obtain ⟨e15, hf⟩ := o2 hf
  have e16 := o1 hf
  have EF : Ff = (va_up (va_up (va_up (va_up (va_up (va_up (va_up (va_up F 1 m_at_1) 2 m_seats_1) 3 m_rows_1) 4 m_people_1) 5 m_loser_5) 6 m_onlyWho_5) 7 m_onlyWhere_5) 8 m_keptFree_5) := frm_eq (frm_up (frm_up (frm_up (frm_up (frm_up (frm_up (frm_up (frm_up hfF (by decide)) (by decide)) (by decide)) (by decide)) (by decide)) (by decide)) (by decide)) (by decide)) (frm_c (e1).symm (frm_c (e2).symm (frm_c (e3).symm (frm_c (e4).symm (frm_c (e5).symm (frm_c (e6).symm (frm_c (e7).symm (frm_c (e8).symm frm_n))))))))
  have EG : Gf = (va_up G 0 m_all_5) := frm_eq (frm_up hfG (by decide)) (frm_c (e9).symm frm_n)
  have EI : If = (va_up (va_up (va_up (va_up (va_up I 6 m_sorts_1) 7 m_rowOf_1) 8 m_own_1) 9 m_kinds_1) 10 m_keptSeat_5) := frm_eq (frm_up (frm_up (frm_up (frm_up (frm_up hfI (by decide)) (by decide)) (by decide)) (by decide)) (by decide)) (frm_c (e10).symm (frm_c (e11).symm (frm_c (e12).symm (frm_c (e13).symm (frm_c (e14).symm frm_n)))))
  have EJ : Jf = (va_up (va_up J 0 m_ways_5) 1 m_next_5) := frm_eq (frm_up (frm_up hfJ (by decide)) (by decide)) (frm_c (e15).symm (frm_c (e16).symm frm_n))
  exact ret_i X hS (by rw [EF, EG, EI, EJ]; exact hP) e0 dX8_likeliest_8
set_option maxRecDepth 100000 in
theorem c_X8_likeliest {l : Launch} {D : va_G} {a : Nat → Nat} {kc : Nat → ClassId} (F : Nat → Int32) (G : Nat → Int64) (I : Nat → Nat → Int32) (J : Nat → Nat → Int64) (hAp : ∀ i j, i < 21 → j < 21 → a i = a j → i = j)  {o0 : Int32} {o1 : Int32} {o2 : Int32} {o3 : Int32} {o4 : Int32} {o5 : Int32} {o6 : Int32} {o7 : Int32} {o8 : Int32} {o9 : Int64} {o10 : Nat → Int32} {o11 : Nat → Int32} {o12 : Nat → Int32} {o13 : Nat → Int32} {o14 : Nat → Int32} {o15 : Nat → Int64} {o16 : Nat → Int64} (hf : p_X8_likeliest (F 1) (F 2) (F 3) (F 4) (F 5) (F 6) (F 7) (F 8) (F 12) (G 0) (I 4) (I 5) (I 6) (I 7) (I 8) (I 9) (I 10) (I 13) (I 14) (J 0) (J 1)  = some (o0, o1, o2, o3, o4, o5, o6, o7, o8, o9, o10, o11, o12, o13, o14, o15, o16)) : Ct 21 l yX8_likeliest cX8_likeliest 1 (some .int) rm_X8_likeliest D (tyM kc) a (wM a kc F G I J) [.ref (a 0)] (Qi D (wM a kc (va_up (va_up (va_up (va_up (va_up (va_up (va_up (va_up F 1 o1) 2 o2) 3 o3) 4 o4) 5 o5) 6 o6) 7 o7) 8 o8) (va_up G 0 o9) (va_up (va_up (va_up (va_up (va_up I 6 o10) 7 o11) 8 o12) 9 o13) 10 o14) (va_up (va_up J 0 o15) 1 o16)) o0) :=
  Ct.of (by decide +kernel) hAp (Nat.le_of_ble_eq_true rfl) (fun p e s m args below meth c ls X hP hl => t_X8_likeliest_b0 X F G I J  _ _ _ hf (frm_ul (frm_ul (frm_ul (frm_ul (frm_ul (frm_ul (frm_ul (frm_ul (fun k _ => rfl) (by decide)) (by decide)) (by decide)) (by decide)) (by decide)) (by decide)) (by decide)) (by decide)) (frm_ul (fun k _ => rfl) (by decide)) (frm_ul (frm_ul (frm_ul (frm_ul (frm_ul (fun k _ => rfl) (by decide)) (by decide)) (by decide)) (by decide)) (by decide)) (frm_ul (frm_ul (fun k _ => rfl) (by decide)) (by decide)) hP va_S.rf hl)
abbrev rm_X8_wasSeen : Room := { frames := 0, cells := 0, slots := 0, locals := 0 }
set_option maxHeartbeats 4000000 in
set_option maxRecDepth 100000 in
theorem t_X8_wasSeen_b31 {p : Program} {l : Launch} {e : Env} {s : State} {m : MethodId} {args : Array Value} {below : List Frame} {meth : Method} {c : Code} {D : va_G} {a : Nat → Nat} {kc : Nat → ClassId} (X : cx 21 p s m args meth c D (tyM kc) a cX8_wasSeen 4 RX8 (some .boolean)) {F : Nat → Int32} {G : Nat → Int64} {I : Nat → Nat → Int32} {J : Nat → Nat → Int64}  {r : Int32} {K4 : Int32 → (Nat → Int32) → Int32 → Int32 → Int32 → Option (Int32)} (kh4 : ∀  (x1 : Int32) (x2 : Int32) (x3 : Int32) (H : Heap) (locs : List Loc) (ls : Array Slot), K4 (F 12) (I 13) x1 x2 x3 = some r → va_P D vwCl (wM a kc F G I J) H → va_S (ad a 21 s.heap.size) s.heap H locs → lv_has ls 4 [(0, .ref (a 0)), (1, .int x1), (2, .int x2), (3, .int x3)] → W p l e rm_X8_wasSeen s m args below meth c H locs 0 0 (MQ below (Qi D (wM a kc F G I J) r (ad a 21 s.heap.size)) args s 0 0 (ad a 21 s.heap.size)) (F0 m 4 ls [])) :
    ∀  (t0 : Int32) (x1 : Int32) (x3 : Int32) (H : Heap) (locs : List Loc) (ls : Array Slot), p_X8_wasSeen_b31 K4 (F 12) (I 13) t0 x1 x3 = some r → va_P D vwCl (wM a kc F G I J) H → va_S (ad a 21 s.heap.size) s.heap H locs → lv_has ls 4 [(0, .ref (a 0)), (1, .int x1), (3, .int x3)] → W p l e rm_X8_wasSeen s m args below meth c H locs 0 0 (MQ below (Qi D (wM a kc F G I J) r (ad a 21 s.heap.size)) args s 0 0 (ad a 21 s.heap.size)) (F0 m 31 ls [.int t0]) := by
  intro  t0 x1 x3 H locs ls hf  hP hS hl
  unfold p_X8_wasSeen_b31 at hf
  refine lv_istore_n (lv' := [(2, .int t0), (0, .ref (a 0)), (1, .int x1), (3, .int x3)]) X.1 X.2.1 dX8_wasSeen_31 rfl hl (by decide) rfl (fun ls hl => ?_)
  obtain ⟨x32, ex32, hf⟩ := nm_x hf
  refine lv_iinc (v := x32) (lv' := [(3, .int x32), (2, .int t0), (0, .ref (a 0)), (1, .int x1)]) X.1 X.2.1 dX8_wasSeen_32 hl (k := 3) rfl ex32 (by decide) rfl (fun ls hl => ?_)
  refine lv_goto (tgt := 4) X.1 X.2.1 dX8_wasSeen_35 (by decide) ?_
  exact kh4  x1 t0 x32 H locs ls hf  hP hS (lv_sub hl [2, 3, 1, 0] rfl)
set_option maxHeartbeats 4000000 in
set_option maxRecDepth 100000 in
theorem t_X8_wasSeen_b26 {p : Program} {l : Launch} {e : Env} {s : State} {m : MethodId} {args : Array Value} {below : List Frame} {meth : Method} {c : Code} {D : va_G} {a : Nat → Nat} {kc : Nat → ClassId} (X : cx 21 p s m args meth c D (tyM kc) a cX8_wasSeen 4 RX8 (some .boolean)) {F : Nat → Int32} {G : Nat → Int64} {I : Nat → Nat → Int32} {J : Nat → Nat → Int64}  {r : Int32} {K4 : Int32 → (Nat → Int32) → Int32 → Int32 → Int32 → Option (Int32)} (kh4 : ∀  (x1 : Int32) (x2 : Int32) (x3 : Int32) (H : Heap) (locs : List Loc) (ls : Array Slot), K4 (F 12) (I 13) x1 x2 x3 = some r → va_P D vwCl (wM a kc F G I J) H → va_S (ad a 21 s.heap.size) s.heap H locs → lv_has ls 4 [(0, .ref (a 0)), (1, .int x1), (2, .int x2), (3, .int x3)] → W p l e rm_X8_wasSeen s m args below meth c H locs 0 0 (MQ below (Qi D (wM a kc F G I J) r (ad a 21 s.heap.size)) args s 0 0 (ad a 21 s.heap.size)) (F0 m 4 ls [])) :
    ∀  (x1 : Int32) (x3 : Int32) (H : Heap) (locs : List Loc) (ls : Array Slot), p_X8_wasSeen_b26 K4 (F 12) (I 13) x1 x3 = some r → va_P D vwCl (wM a kc F G I J) H → va_S (ad a 21 s.heap.size) s.heap H locs → lv_has ls 4 [(0, .ref (a 0)), (1, .int x1), (3, .int x3)] → W p l e rm_X8_wasSeen s m args below meth c H locs 0 0 (MQ below (Qi D (wM a kc F G I J) r (ad a 21 s.heap.size)) args s 0 0 (ad a 21 s.heap.size)) (F0 m 26 ls []) := by
  intro  x1 x3 H locs ls hf  hP hS hl
  unfold p_X8_wasSeen_b26 at hf
  refine lv_iconst (v := 1) X.1 X.2.1 dX8_wasSeen_26 (by decide) ?_
  refine lv_goto (tgt := 31) X.1 X.2.1 dX8_wasSeen_27 (by decide) ?_
  exact t_X8_wasSeen_b31 X kh4  1 x1 x3 H locs ls hf  hP hS (lv_sub hl [0, 1, 2] rfl)
set_option maxHeartbeats 4000000 in
set_option maxRecDepth 100000 in
theorem t_X8_wasSeen_b4x {p : Program} {l : Launch} {e : Env} {s : State} {m : MethodId} {args : Array Value} {below : List Frame} {meth : Method} {c : Code} {D : va_G} {a : Nat → Nat} {kc : Nat → ClassId} (X : cx 21 p s m args meth c D (tyM kc) a cX8_wasSeen 4 RX8 (some .boolean)) {F : Nat → Int32} {G : Nat → Int64} {I : Nat → Nat → Int32} {J : Nat → Nat → Int64}  {r : Int32} {K4 : Int32 → (Nat → Int32) → Int32 → Int32 → Int32 → Option (Int32)} (kh4 : ∀  (x1 : Int32) (x2 : Int32) (x3 : Int32) (H : Heap) (locs : List Loc) (ls : Array Slot), K4 (F 12) (I 13) x1 x2 x3 = some r → va_P D vwCl (wM a kc F G I J) H → va_S (ad a 21 s.heap.size) s.heap H locs → lv_has ls 4 [(0, .ref (a 0)), (1, .int x1), (2, .int x2), (3, .int x3)] → W p l e rm_X8_wasSeen s m args below meth c H locs 0 0 (MQ below (Qi D (wM a kc F G I J) r (ad a 21 s.heap.size)) args s 0 0 (ad a 21 s.heap.size)) (F0 m 4 ls [])) :
    ∀  (x1 : Int32) (x2 : Int32) (x3 : Int32) (H : Heap) (locs : List Loc) (ls : Array Slot), p_X8_wasSeen_b4x K4 (F 12) (I 13) x1 x2 x3 = some r → va_P D vwCl (wM a kc F G I J) H → va_S (ad a 21 s.heap.size) s.heap H locs → lv_has ls 4 [(0, .ref (a 0)), (1, .int x1), (2, .int x2), (3, .int x3)] → W p l e rm_X8_wasSeen s m args below meth c H locs 0 0 (MQ below (Qi D (wM a kc F G I J) r (ad a 21 s.heap.size)) args s 0 0 (ad a 21 s.heap.size)) (F0 m 4 ls []) := by
  intro  x1 x2 x3 H locs ls hf  hP hS hl
  unfold p_X8_wasSeen_b4x at hf
  refine lv_iload_n X.1 X.2.1 dX8_wasSeen_4 rfl (lv_at hl 3 rfl) ?_
  refine lv_aload_n X.1 X.2.1 dX8_wasSeen_5 rfl (lv_at hl 0 rfl) ?_
  refine gM_0_31 (F := F) X (v := (F 12)) rfl q_4_140 dX8_wasSeen_6 hP ?_
  refine lv_icmp_ge (tgt := 38) X.1 X.2.1 dX8_wasSeen_9 (by decide) (fun c9 => ?_) (fun c9 => ?_)
  · have hf := it_s hf c9
    refine lv_iload_n X.1 X.2.1 dX8_wasSeen_38 rfl (lv_at hl 2 rfl) ?_
    obtain ⟨h39, hf⟩ := gd_s hf
    have e0 := o1 hf
    exact ret_z X hS hP e0 h39 dX8_wasSeen_39
  · have hf := ie_s hf c9
    refine lv_iload_n X.1 X.2.1 dX8_wasSeen_12 rfl (lv_at hl 2 rfl) ?_
    refine lv_if_ne (tgt := 26) X.1 X.2.1 dX8_wasSeen_13 (by decide) (fun c13 => ?_) (fun c13 => ?_)
    · have hf := ie_s hf c13
      exact t_X8_wasSeen_b26 X kh4  x1 x3 H locs ls hf  hP hS (lv_sub hl [0, 1, 3] rfl)
    · have hf := it_s hf c13
      refine lv_aload_n X.1 X.2.1 dX8_wasSeen_16 rfl (lv_at hl 0 rfl) ?_
      refine gM_0_32 X q_4_141 dX8_wasSeen_17 hP ?_
      refine lv_iload_n X.1 X.2.1 dX8_wasSeen_20 rfl (lv_at hl 3 rfl) ?_
      obtain ⟨h21, hf⟩ := gd_s hf
      refine lM_18 (I := I) X (f := (I 13)) rfl h21 dX8_wasSeen_21 hP ?_
      refine lv_iload_n X.1 X.2.1 dX8_wasSeen_22 rfl (lv_at hl 1 rfl) ?_
      refine lv_icmp_ne (tgt := 30) X.1 X.2.1 dX8_wasSeen_23 (by decide) (fun c23 => ?_) (fun c23 => ?_)
      · have hf := ie_s hf c23
        refine lv_iconst (v := 0) X.1 X.2.1 dX8_wasSeen_30 (by decide) ?_
        exact t_X8_wasSeen_b31 X kh4  0 x1 x3 H locs ls hf  hP hS (lv_sub hl [0, 1, 3] rfl)
      · have hf := it_s hf c23
        exact t_X8_wasSeen_b26 X kh4  x1 x3 H locs ls hf  hP hS (lv_sub hl [0, 1, 3] rfl)
set_option maxRecDepth 100000 in
theorem t_X8_wasSeen_b4 {p : Program} {l : Launch} {e : Env} {s : State} {m : MethodId} {args : Array Value} {below : List Frame} {meth : Method} {c : Code} {D : va_G} {a : Nat → Nat} {kc : Nat → ClassId} (X : cx 21 p s m args meth c D (tyM kc) a cX8_wasSeen 4 RX8 (some .boolean)) {F : Nat → Int32} {G : Nat → Int64} {I : Nat → Nat → Int32} {J : Nat → Nat → Int64}  {r : Int32} :
    ∀ (n : Nat)  (x1 : Int32) (x2 : Int32) (x3 : Int32) (H : Heap) (locs : List Loc) (ls : Array Slot), p_X8_wasSeen_b4 n (F 12) (I 13) x1 x2 x3 = some r → va_P D vwCl (wM a kc F G I J) H → va_S (ad a 21 s.heap.size) s.heap H locs → lv_has ls 4 [(0, .ref (a 0)), (1, .int x1), (2, .int x2), (3, .int x3)] → W p l e rm_X8_wasSeen s m args below meth c H locs 0 0 (MQ below (Qi D (wM a kc F G I J) r (ad a 21 s.heap.size)) args s 0 0 (ad a 21 s.heap.size)) (F0 m 4 ls []) := by
  intro n
  induction n with
  | zero => intro  x1 x2 x3 H locs ls hf  hP hS hl; exact (nos hf).elim
  | succ n ih => exact t_X8_wasSeen_b4x X ih
set_option maxHeartbeats 4000000 in
set_option maxRecDepth 100000 in
theorem t_X8_wasSeen_b0 {p : Program} {l : Launch} {e : Env} {s : State} {m : MethodId} {args : Array Value} {below : List Frame} {meth : Method} {c : Code} {D : va_G} {a : Nat → Nat} {kc : Nat → ClassId} (X : cx 21 p s m args meth c D (tyM kc) a cX8_wasSeen 4 RX8 (some .boolean)) {F : Nat → Int32} {G : Nat → Int64} {I : Nat → Nat → Int32} {J : Nat → Nat → Int64}  {r : Int32} :
    ∀  (x1 : Int32) (H : Heap) (locs : List Loc) (ls : Array Slot), p_X8_wasSeen_b0 (F 12) (I 13) x1 = some r → va_P D vwCl (wM a kc F G I J) H → va_S (ad a 21 s.heap.size) s.heap H locs → lv_has ls 4 [(0, .ref (a 0)), (1, .int x1)] → W p l e rm_X8_wasSeen s m args below meth c H locs 0 0 (MQ below (Qi D (wM a kc F G I J) r (ad a 21 s.heap.size)) args s 0 0 (ad a 21 s.heap.size)) (F0 m 0 ls []) := by
  intro  x1 H locs ls hf  hP hS hl
  unfold p_X8_wasSeen_b0 at hf
  refine lv_iconst (v := 0) X.1 X.2.1 dX8_wasSeen_0 (by decide) ?_
  refine lv_istore_n (lv' := [(2, .int 0), (0, .ref (a 0)), (1, .int x1)]) X.1 X.2.1 dX8_wasSeen_1 rfl hl (by decide) rfl (fun ls hl => ?_)
  refine lv_iconst (v := 0) X.1 X.2.1 dX8_wasSeen_2 (by decide) ?_
  refine lv_istore_n (lv' := [(3, .int 0), (2, .int 0), (0, .ref (a 0)), (1, .int x1)]) X.1 X.2.1 dX8_wasSeen_3 rfl hl (by decide) rfl (fun ls hl => ?_)
  exact t_X8_wasSeen_b4 X 4096  x1 0 0 H locs ls hf  hP hS (lv_sub hl [2, 3, 1, 0] rfl)
set_option maxRecDepth 100000 in
theorem c_X8_wasSeen {l : Launch} {D : va_G} {a : Nat → Nat} {kc : Nat → ClassId} (F : Nat → Int32) (G : Nat → Int64) (I : Nat → Nat → Int32) (J : Nat → Nat → Int64) (hAp : ∀ i j, i < 21 → j < 21 → a i = a j → i = j) (x1 : Int32) {o0 : Int32} (hf : p_X8_wasSeen (F 12) (I 13) x1 = some o0) : Ct 21 l yX8_wasSeen cX8_wasSeen 4 (some .boolean) rm_X8_wasSeen D (tyM kc) a (wM a kc F G I J) [.ref (a 0), .int x1] (Qi D (wM a kc F G I J) o0) :=
  Ct.of (by decide +kernel) hAp (Nat.le_of_ble_eq_true rfl) (fun p e s m args below meth c ls X hP hl => t_X8_wasSeen_b0 X  x1 _ _ _ hf  hP va_S.rf hl)
abbrev rm_X8_worstBy : Room := { frames := 5, cells := 0, slots := 0, locals := 124 }
set_option maxHeartbeats 4000000 in
set_option maxRecDepth 100000 in
theorem t_X8_worstBy_b80 {p : Program} {l : Launch} {e : Env} {s : State} {m : MethodId} {args : Array Value} {below : List Frame} {meth : Method} {c : Code} {D : va_G} {a : Nat → Nat} {kc : Nat → ClassId} (X : cx 21 p s m args meth c D (tyM kc) a cX8_worstBy 7 RX8 (some .int))  {Ff : Nat → Int32} {Gf : Nat → Int64} {If : Nat → Nat → Int32} {Jf : Nat → Nat → Int64} {r : Int32} {K5 : Int32 → Int32 → Int32 → Int32 → Int32 → Int32 → Int32 → Int64 → (Nat → Int32) → (Nat → Int32) → (Nat → Int32) → (Nat → Int32) → (Nat → Int32) → (Nat → Int32) → (Nat → Int64) → (Nat → Int64) → Int32 → Int32 → Int32 → Int32 → Option (Int32 × Int32 × Int32 × Int32 × Int32 × Int64 × (Nat → Int32) × (Nat → Int64) × (Nat → Int64))} (kh5 : ∀ (F : Nat → Int32) (G : Nat → Int64) (I : Nat → Nat → Int32) (J : Nat → Nat → Int64) (x1 : Int32) (x2 : Int32) (x3 : Int32) (x4 : Int32) (H : Heap) (locs : List Loc) (ls : Array Slot), K5 (F 2) (F 4) (F 5) (F 6) (F 7) (F 8) (F 12) (G 0) (I 6) (I 8) (I 9) (I 10) (I 13) (I 14) (J 0) (J 1) x1 x2 x3 x4 = some (r, (Ff 5), (Ff 6), (Ff 7), (Ff 8), (Gf 0), (If 10), (Jf 0), (Jf 1)) → (∀ k, k ∉ ([5, 6, 7, 8] : List Nat) → Ff k = F k) → (∀ k, k ∉ ([0] : List Nat) → Gf k = G k) → (∀ k, k ∉ ([10] : List Nat) → If k = I k) → (∀ k, k ∉ ([0, 1] : List Nat) → Jf k = J k) → va_P D vwCl (wM a kc F G I J) H → va_S (ad a 21 s.heap.size) s.heap H locs → lv_has ls 7 [(0, .ref (a 0)), (1, .int x1), (2, .int x2), (3, .int x3), (4, .int x4)] → W p l e rm_X8_worstBy s m args below meth c H locs 0 0 (MQ below (Qi D (wM a kc Ff Gf If Jf) r (ad a 21 s.heap.size)) args s 0 0 (ad a 21 s.heap.size)) (F0 m 5 ls [])) :
    ∀ (F : Nat → Int32) (G : Nat → Int64) (I : Nat → Nat → Int32) (J : Nat → Nat → Int64) (t0 : Int32) (x1 : Int32) (x2 : Int32) (x4 : Int32) (H : Heap) (locs : List Loc) (ls : Array Slot), p_X8_worstBy_b80 K5 (F 2) (F 4) (F 5) (F 6) (F 7) (F 8) (F 12) (G 0) (I 6) (I 8) (I 9) (I 10) (I 13) (I 14) (J 0) (J 1) t0 x1 x2 x4 = some (r, (Ff 5), (Ff 6), (Ff 7), (Ff 8), (Gf 0), (If 10), (Jf 0), (Jf 1)) → (∀ k, k ∉ ([5, 6, 7, 8] : List Nat) → Ff k = F k) → (∀ k, k ∉ ([0] : List Nat) → Gf k = G k) → (∀ k, k ∉ ([10] : List Nat) → If k = I k) → (∀ k, k ∉ ([0, 1] : List Nat) → Jf k = J k) → va_P D vwCl (wM a kc F G I J) H → va_S (ad a 21 s.heap.size) s.heap H locs → lv_has ls 7 [(0, .ref (a 0)), (1, .int x1), (2, .int x2), (4, .int x4)] → W p l e rm_X8_worstBy s m args below meth c H locs 0 0 (MQ below (Qi D (wM a kc Ff Gf If Jf) r (ad a 21 s.heap.size)) args s 0 0 (ad a 21 s.heap.size)) (F0 m 80 ls [.int t0]) := by
  intro F G I J t0 x1 x2 x4 H locs ls hf hfF hfG hfI hfJ hP hS hl
  unfold p_X8_worstBy_b80 at hf
  refine lv_istore_n (lv' := [(3, .int t0), (0, .ref (a 0)), (1, .int x1), (2, .int x2), (4, .int x4)]) X.1 X.2.1 dX8_worstBy_80 rfl hl (by decide) rfl (fun ls hl => ?_)
  obtain ⟨x81, ex81, hf⟩ := nm_x hf
  refine lv_iinc (v := x81) (lv' := [(4, .int x81), (3, .int t0), (0, .ref (a 0)), (1, .int x1), (2, .int x2)]) X.1 X.2.1 dX8_worstBy_81 hl (k := 4) rfl ex81 (by decide) rfl (fun ls hl => ?_)
  refine lv_goto (tgt := 5) X.1 X.2.1 dX8_worstBy_84 (by decide) ?_
  exact kh5 F G I J x1 x2 t0 x81 H locs ls hf hfF hfG hfI hfJ hP hS (lv_sub hl [2, 3, 4, 1, 0] rfl)
set_option maxHeartbeats 4000000 in
set_option maxRecDepth 100000 in
theorem t_X8_worstBy_b59 {p : Program} {l : Launch} {e : Env} {s : State} {m : MethodId} {args : Array Value} {below : List Frame} {meth : Method} {c : Code} {D : va_G} {a : Nat → Nat} {kc : Nat → ClassId} (X : cx 21 p s m args meth c D (tyM kc) a cX8_worstBy 7 RX8 (some .int))  {Ff : Nat → Int32} {Gf : Nat → Int64} {If : Nat → Nat → Int32} {Jf : Nat → Nat → Int64} {r : Int32} {K5 : Int32 → Int32 → Int32 → Int32 → Int32 → Int32 → Int32 → Int64 → (Nat → Int32) → (Nat → Int32) → (Nat → Int32) → (Nat → Int32) → (Nat → Int32) → (Nat → Int32) → (Nat → Int64) → (Nat → Int64) → Int32 → Int32 → Int32 → Int32 → Option (Int32 × Int32 × Int32 × Int32 × Int32 × Int64 × (Nat → Int32) × (Nat → Int64) × (Nat → Int64))} (kh5 : ∀ (F : Nat → Int32) (G : Nat → Int64) (I : Nat → Nat → Int32) (J : Nat → Nat → Int64) (x1 : Int32) (x2 : Int32) (x3 : Int32) (x4 : Int32) (H : Heap) (locs : List Loc) (ls : Array Slot), K5 (F 2) (F 4) (F 5) (F 6) (F 7) (F 8) (F 12) (G 0) (I 6) (I 8) (I 9) (I 10) (I 13) (I 14) (J 0) (J 1) x1 x2 x3 x4 = some (r, (Ff 5), (Ff 6), (Ff 7), (Ff 8), (Gf 0), (If 10), (Jf 0), (Jf 1)) → (∀ k, k ∉ ([5, 6, 7, 8] : List Nat) → Ff k = F k) → (∀ k, k ∉ ([0] : List Nat) → Gf k = G k) → (∀ k, k ∉ ([10] : List Nat) → If k = I k) → (∀ k, k ∉ ([0, 1] : List Nat) → Jf k = J k) → va_P D vwCl (wM a kc F G I J) H → va_S (ad a 21 s.heap.size) s.heap H locs → lv_has ls 7 [(0, .ref (a 0)), (1, .int x1), (2, .int x2), (3, .int x3), (4, .int x4)] → W p l e rm_X8_worstBy s m args below meth c H locs 0 0 (MQ below (Qi D (wM a kc Ff Gf If Jf) r (ad a 21 s.heap.size)) args s 0 0 (ad a 21 s.heap.size)) (F0 m 5 ls [])) {K20 : Int32 → Int32 → Int32 → Int32 → Int32 → Int32 → Int32 → Int64 → (Nat → Int32) → (Nat → Int32) → (Nat → Int32) → (Nat → Int32) → (Nat → Int32) → (Nat → Int32) → (Nat → Int64) → (Nat → Int64) → Int32 → Int32 → Int32 → Int32 → Int32 → Int32 → Option (Int32 × Int32 × Int32 × Int32 × Int32 × Int64 × (Nat → Int32) × (Nat → Int64) × (Nat → Int64))} (kh20 : ∀ (F : Nat → Int32) (G : Nat → Int64) (I : Nat → Nat → Int32) (J : Nat → Nat → Int64) (x1 : Int32) (x2 : Int32) (x3 : Int32) (x4 : Int32) (x5 : Int32) (x6 : Int32) (H : Heap) (locs : List Loc) (ls : Array Slot), K20 (F 2) (F 4) (F 5) (F 6) (F 7) (F 8) (F 12) (G 0) (I 6) (I 8) (I 9) (I 10) (I 13) (I 14) (J 0) (J 1) x1 x2 x3 x4 x5 x6 = some (r, (Ff 5), (Ff 6), (Ff 7), (Ff 8), (Gf 0), (If 10), (Jf 0), (Jf 1)) → (∀ k, k ∉ ([5, 6, 7, 8] : List Nat) → Ff k = F k) → (∀ k, k ∉ ([0] : List Nat) → Gf k = G k) → (∀ k, k ∉ ([10] : List Nat) → If k = I k) → (∀ k, k ∉ ([0, 1] : List Nat) → Jf k = J k) → va_P D vwCl (wM a kc F G I J) H → va_S (ad a 21 s.heap.size) s.heap H locs → lv_has ls 7 [(0, .ref (a 0)), (1, .int x1), (2, .int x2), (3, .int x3), (4, .int x4), (5, .int x5), (6, .int x6)] → W p l e rm_X8_worstBy s m args below meth c H locs 0 0 (MQ below (Qi D (wM a kc Ff Gf If Jf) r (ad a 21 s.heap.size)) args s 0 0 (ad a 21 s.heap.size)) (F0 m 20 ls [])) :
    ∀ (F : Nat → Int32) (G : Nat → Int64) (I : Nat → Nat → Int32) (J : Nat → Nat → Int64) (t0 : Int32) (t1 : Int32) (x1 : Int32) (x2 : Int32) (x3 : Int32) (x4 : Int32) (x6 : Int32) (H : Heap) (locs : List Loc) (ls : Array Slot), p_X8_worstBy_b59 K5 K20 (F 2) (F 4) (F 5) (F 6) (F 7) (F 8) (F 12) (G 0) (I 6) (I 8) (I 9) (I 10) (I 13) (I 14) (J 0) (J 1) t0 t1 x1 x2 x3 x4 x6 = some (r, (Ff 5), (Ff 6), (Ff 7), (Ff 8), (Gf 0), (If 10), (Jf 0), (Jf 1)) → (∀ k, k ∉ ([5, 6, 7, 8] : List Nat) → Ff k = F k) → (∀ k, k ∉ ([0] : List Nat) → Gf k = G k) → (∀ k, k ∉ ([10] : List Nat) → If k = I k) → (∀ k, k ∉ ([0, 1] : List Nat) → Jf k = J k) → va_P D vwCl (wM a kc F G I J) H → va_S (ad a 21 s.heap.size) s.heap H locs → lv_has ls 7 [(0, .ref (a 0)), (1, .int x1), (2, .int x2), (3, .int x3), (4, .int x4), (6, .int x6)] → W p l e rm_X8_worstBy s m args below meth c H locs 0 0 (MQ below (Qi D (wM a kc Ff Gf If Jf) r (ad a 21 s.heap.size)) args s 0 0 (ad a 21 s.heap.size)) (F0 m 59 ls [.int t1, .int t0]) := by
  intro F G I J t0 t1 x1 x2 x3 x4 x6 H locs ls hf hfF hfG hfI hfJ hP hS hl
  unfold p_X8_worstBy_b59 at hf
  refine lv_iadd X.1 X.2.1 dX8_worstBy_59 ?_
  refine nm_i hf (fun x60 hf => ?_)
  refine lv_istore (lv' := [(5, .int x60), (0, .ref (a 0)), (1, .int x1), (2, .int x2), (3, .int x3), (4, .int x4), (6, .int x6)]) X.1 X.2.1 dX8_worstBy_60 hl (by decide) rfl (fun ls hl => ?_)
  obtain ⟨x62, ex62, hf⟩ := nm_x hf
  refine lv_iinc (v := x62) (lv' := [(6, .int x62), (5, .int x60), (0, .ref (a 0)), (1, .int x1), (2, .int x2), (3, .int x3), (4, .int x4)]) X.1 X.2.1 dX8_worstBy_62 hl (k := 6) rfl ex62 (by decide) rfl (fun ls hl => ?_)
  refine lv_goto (tgt := 20) X.1 X.2.1 dX8_worstBy_65 (by decide) ?_
  exact kh20 F G I J x1 x2 x3 x4 x60 x62 H locs ls hf hfF hfG hfI hfJ hP hS (lv_sub hl [2, 3, 4, 5, 6, 1, 0] rfl)
set_option maxHeartbeats 4000000 in
set_option maxRecDepth 100000 in
theorem t_X8_worstBy_b58 {p : Program} {l : Launch} {e : Env} {s : State} {m : MethodId} {args : Array Value} {below : List Frame} {meth : Method} {c : Code} {D : va_G} {a : Nat → Nat} {kc : Nat → ClassId} (X : cx 21 p s m args meth c D (tyM kc) a cX8_worstBy 7 RX8 (some .int))  {Ff : Nat → Int32} {Gf : Nat → Int64} {If : Nat → Nat → Int32} {Jf : Nat → Nat → Int64} {r : Int32} {K5 : Int32 → Int32 → Int32 → Int32 → Int32 → Int32 → Int32 → Int64 → (Nat → Int32) → (Nat → Int32) → (Nat → Int32) → (Nat → Int32) → (Nat → Int32) → (Nat → Int32) → (Nat → Int64) → (Nat → Int64) → Int32 → Int32 → Int32 → Int32 → Option (Int32 × Int32 × Int32 × Int32 × Int32 × Int64 × (Nat → Int32) × (Nat → Int64) × (Nat → Int64))} (kh5 : ∀ (F : Nat → Int32) (G : Nat → Int64) (I : Nat → Nat → Int32) (J : Nat → Nat → Int64) (x1 : Int32) (x2 : Int32) (x3 : Int32) (x4 : Int32) (H : Heap) (locs : List Loc) (ls : Array Slot), K5 (F 2) (F 4) (F 5) (F 6) (F 7) (F 8) (F 12) (G 0) (I 6) (I 8) (I 9) (I 10) (I 13) (I 14) (J 0) (J 1) x1 x2 x3 x4 = some (r, (Ff 5), (Ff 6), (Ff 7), (Ff 8), (Gf 0), (If 10), (Jf 0), (Jf 1)) → (∀ k, k ∉ ([5, 6, 7, 8] : List Nat) → Ff k = F k) → (∀ k, k ∉ ([0] : List Nat) → Gf k = G k) → (∀ k, k ∉ ([10] : List Nat) → If k = I k) → (∀ k, k ∉ ([0, 1] : List Nat) → Jf k = J k) → va_P D vwCl (wM a kc F G I J) H → va_S (ad a 21 s.heap.size) s.heap H locs → lv_has ls 7 [(0, .ref (a 0)), (1, .int x1), (2, .int x2), (3, .int x3), (4, .int x4)] → W p l e rm_X8_worstBy s m args below meth c H locs 0 0 (MQ below (Qi D (wM a kc Ff Gf If Jf) r (ad a 21 s.heap.size)) args s 0 0 (ad a 21 s.heap.size)) (F0 m 5 ls [])) {K20 : Int32 → Int32 → Int32 → Int32 → Int32 → Int32 → Int32 → Int64 → (Nat → Int32) → (Nat → Int32) → (Nat → Int32) → (Nat → Int32) → (Nat → Int32) → (Nat → Int32) → (Nat → Int64) → (Nat → Int64) → Int32 → Int32 → Int32 → Int32 → Int32 → Int32 → Option (Int32 × Int32 × Int32 × Int32 × Int32 × Int64 × (Nat → Int32) × (Nat → Int64) × (Nat → Int64))} (kh20 : ∀ (F : Nat → Int32) (G : Nat → Int64) (I : Nat → Nat → Int32) (J : Nat → Nat → Int64) (x1 : Int32) (x2 : Int32) (x3 : Int32) (x4 : Int32) (x5 : Int32) (x6 : Int32) (H : Heap) (locs : List Loc) (ls : Array Slot), K20 (F 2) (F 4) (F 5) (F 6) (F 7) (F 8) (F 12) (G 0) (I 6) (I 8) (I 9) (I 10) (I 13) (I 14) (J 0) (J 1) x1 x2 x3 x4 x5 x6 = some (r, (Ff 5), (Ff 6), (Ff 7), (Ff 8), (Gf 0), (If 10), (Jf 0), (Jf 1)) → (∀ k, k ∉ ([5, 6, 7, 8] : List Nat) → Ff k = F k) → (∀ k, k ∉ ([0] : List Nat) → Gf k = G k) → (∀ k, k ∉ ([10] : List Nat) → If k = I k) → (∀ k, k ∉ ([0, 1] : List Nat) → Jf k = J k) → va_P D vwCl (wM a kc F G I J) H → va_S (ad a 21 s.heap.size) s.heap H locs → lv_has ls 7 [(0, .ref (a 0)), (1, .int x1), (2, .int x2), (3, .int x3), (4, .int x4), (5, .int x5), (6, .int x6)] → W p l e rm_X8_worstBy s m args below meth c H locs 0 0 (MQ below (Qi D (wM a kc Ff Gf If Jf) r (ad a 21 s.heap.size)) args s 0 0 (ad a 21 s.heap.size)) (F0 m 20 ls [])) :
    ∀ (F : Nat → Int32) (G : Nat → Int64) (I : Nat → Nat → Int32) (J : Nat → Nat → Int64) (t0 : Int32) (x1 : Int32) (x2 : Int32) (x3 : Int32) (x4 : Int32) (x6 : Int32) (H : Heap) (locs : List Loc) (ls : Array Slot), p_X8_worstBy_b58 K5 K20 (F 2) (F 4) (F 5) (F 6) (F 7) (F 8) (F 12) (G 0) (I 6) (I 8) (I 9) (I 10) (I 13) (I 14) (J 0) (J 1) t0 x1 x2 x3 x4 x6 = some (r, (Ff 5), (Ff 6), (Ff 7), (Ff 8), (Gf 0), (If 10), (Jf 0), (Jf 1)) → (∀ k, k ∉ ([5, 6, 7, 8] : List Nat) → Ff k = F k) → (∀ k, k ∉ ([0] : List Nat) → Gf k = G k) → (∀ k, k ∉ ([10] : List Nat) → If k = I k) → (∀ k, k ∉ ([0, 1] : List Nat) → Jf k = J k) → va_P D vwCl (wM a kc F G I J) H → va_S (ad a 21 s.heap.size) s.heap H locs → lv_has ls 7 [(0, .ref (a 0)), (1, .int x1), (2, .int x2), (3, .int x3), (4, .int x4), (6, .int x6)] → W p l e rm_X8_worstBy s m args below meth c H locs 0 0 (MQ below (Qi D (wM a kc Ff Gf If Jf) r (ad a 21 s.heap.size)) args s 0 0 (ad a 21 s.heap.size)) (F0 m 58 ls [.int t0]) := by
  intro F G I J t0 x1 x2 x3 x4 x6 H locs ls hf hfF hfG hfI hfJ hP hS hl
  unfold p_X8_worstBy_b58 at hf
  refine lv_iconst (v := 0) X.1 X.2.1 dX8_worstBy_58 (by decide) ?_
  exact t_X8_worstBy_b59 X kh5 kh20 F G I J t0 0 x1 x2 x3 x4 x6 H locs ls hf hfF hfG hfI hfJ hP hS (lv_sub hl [0, 1, 2, 3, 4, 5] rfl)
set_option maxHeartbeats 4000000 in
set_option maxRecDepth 100000 in
theorem t_X8_worstBy_b20x {p : Program} {l : Launch} {e : Env} {s : State} {m : MethodId} {args : Array Value} {below : List Frame} {meth : Method} {c : Code} {D : va_G} {a : Nat → Nat} {kc : Nat → ClassId} (X : cx 21 p s m args meth c D (tyM kc) a cX8_worstBy 7 RX8 (some .int))  {Ff : Nat → Int32} {Gf : Nat → Int64} {If : Nat → Nat → Int32} {Jf : Nat → Nat → Int64} {r : Int32} {K5 : Int32 → Int32 → Int32 → Int32 → Int32 → Int32 → Int32 → Int64 → (Nat → Int32) → (Nat → Int32) → (Nat → Int32) → (Nat → Int32) → (Nat → Int32) → (Nat → Int32) → (Nat → Int64) → (Nat → Int64) → Int32 → Int32 → Int32 → Int32 → Option (Int32 × Int32 × Int32 × Int32 × Int32 × Int64 × (Nat → Int32) × (Nat → Int64) × (Nat → Int64))} (kh5 : ∀ (F : Nat → Int32) (G : Nat → Int64) (I : Nat → Nat → Int32) (J : Nat → Nat → Int64) (x1 : Int32) (x2 : Int32) (x3 : Int32) (x4 : Int32) (H : Heap) (locs : List Loc) (ls : Array Slot), K5 (F 2) (F 4) (F 5) (F 6) (F 7) (F 8) (F 12) (G 0) (I 6) (I 8) (I 9) (I 10) (I 13) (I 14) (J 0) (J 1) x1 x2 x3 x4 = some (r, (Ff 5), (Ff 6), (Ff 7), (Ff 8), (Gf 0), (If 10), (Jf 0), (Jf 1)) → (∀ k, k ∉ ([5, 6, 7, 8] : List Nat) → Ff k = F k) → (∀ k, k ∉ ([0] : List Nat) → Gf k = G k) → (∀ k, k ∉ ([10] : List Nat) → If k = I k) → (∀ k, k ∉ ([0, 1] : List Nat) → Jf k = J k) → va_P D vwCl (wM a kc F G I J) H → va_S (ad a 21 s.heap.size) s.heap H locs → lv_has ls 7 [(0, .ref (a 0)), (1, .int x1), (2, .int x2), (3, .int x3), (4, .int x4)] → W p l e rm_X8_worstBy s m args below meth c H locs 0 0 (MQ below (Qi D (wM a kc Ff Gf If Jf) r (ad a 21 s.heap.size)) args s 0 0 (ad a 21 s.heap.size)) (F0 m 5 ls [])) {K20 : Int32 → Int32 → Int32 → Int32 → Int32 → Int32 → Int32 → Int64 → (Nat → Int32) → (Nat → Int32) → (Nat → Int32) → (Nat → Int32) → (Nat → Int32) → (Nat → Int32) → (Nat → Int64) → (Nat → Int64) → Int32 → Int32 → Int32 → Int32 → Int32 → Int32 → Option (Int32 × Int32 × Int32 × Int32 × Int32 × Int64 × (Nat → Int32) × (Nat → Int64) × (Nat → Int64))} (kh20 : ∀ (F : Nat → Int32) (G : Nat → Int64) (I : Nat → Nat → Int32) (J : Nat → Nat → Int64) (x1 : Int32) (x2 : Int32) (x3 : Int32) (x4 : Int32) (x5 : Int32) (x6 : Int32) (H : Heap) (locs : List Loc) (ls : Array Slot), K20 (F 2) (F 4) (F 5) (F 6) (F 7) (F 8) (F 12) (G 0) (I 6) (I 8) (I 9) (I 10) (I 13) (I 14) (J 0) (J 1) x1 x2 x3 x4 x5 x6 = some (r, (Ff 5), (Ff 6), (Ff 7), (Ff 8), (Gf 0), (If 10), (Jf 0), (Jf 1)) → (∀ k, k ∉ ([5, 6, 7, 8] : List Nat) → Ff k = F k) → (∀ k, k ∉ ([0] : List Nat) → Gf k = G k) → (∀ k, k ∉ ([10] : List Nat) → If k = I k) → (∀ k, k ∉ ([0, 1] : List Nat) → Jf k = J k) → va_P D vwCl (wM a kc F G I J) H → va_S (ad a 21 s.heap.size) s.heap H locs → lv_has ls 7 [(0, .ref (a 0)), (1, .int x1), (2, .int x2), (3, .int x3), (4, .int x4), (5, .int x5), (6, .int x6)] → W p l e rm_X8_worstBy s m args below meth c H locs 0 0 (MQ below (Qi D (wM a kc Ff Gf If Jf) r (ad a 21 s.heap.size)) args s 0 0 (ad a 21 s.heap.size)) (F0 m 20 ls [])) :
    ∀ (F : Nat → Int32) (G : Nat → Int64) (I : Nat → Nat → Int32) (J : Nat → Nat → Int64) (x1 : Int32) (x2 : Int32) (x3 : Int32) (x4 : Int32) (x5 : Int32) (x6 : Int32) (H : Heap) (locs : List Loc) (ls : Array Slot), p_X8_worstBy_b20x K5 K20 (F 2) (F 4) (F 5) (F 6) (F 7) (F 8) (F 12) (G 0) (I 6) (I 8) (I 9) (I 10) (I 13) (I 14) (J 0) (J 1) x1 x2 x3 x4 x5 x6 = some (r, (Ff 5), (Ff 6), (Ff 7), (Ff 8), (Gf 0), (If 10), (Jf 0), (Jf 1)) → (∀ k, k ∉ ([5, 6, 7, 8] : List Nat) → Ff k = F k) → (∀ k, k ∉ ([0] : List Nat) → Gf k = G k) → (∀ k, k ∉ ([10] : List Nat) → If k = I k) → (∀ k, k ∉ ([0, 1] : List Nat) → Jf k = J k) → va_P D vwCl (wM a kc F G I J) H → va_S (ad a 21 s.heap.size) s.heap H locs → lv_has ls 7 [(0, .ref (a 0)), (1, .int x1), (2, .int x2), (3, .int x3), (4, .int x4), (5, .int x5), (6, .int x6)] → W p l e rm_X8_worstBy s m args below meth c H locs 0 0 (MQ below (Qi D (wM a kc Ff Gf If Jf) r (ad a 21 s.heap.size)) args s 0 0 (ad a 21 s.heap.size)) (F0 m 20 ls []) := by
  intro F G I J x1 x2 x3 x4 x5 x6 H locs ls hf hfF hfG hfI hfJ hP hS hl
  unfold p_X8_worstBy_b20x at hf
  refine lv_iload X.1 X.2.1 dX8_worstBy_20 (lv_at hl 6 rfl) ?_
  refine lv_aload_n X.1 X.2.1 dX8_worstBy_22 rfl (lv_at hl 0 rfl) ?_
  refine gM_0_12 (F := F) X (v := (F 4)) rfl q_4_121 dX8_worstBy_23 hP ?_
  refine lv_icmp_ge (tgt := 68) X.1 X.2.1 dX8_worstBy_26 (by decide) (fun c26 => ?_) (fun c26 => ?_)
  · have hf := it_s hf c26
    refine lv_iload X.1 X.2.1 dX8_worstBy_68 (lv_at hl 5 rfl) ?_
    refine lv_iload_n X.1 X.2.1 dX8_worstBy_70 rfl (lv_at hl 3 rfl) ?_
    refine lv_icmp_le (tgt := 79) X.1 X.2.1 dX8_worstBy_71 (by decide) (fun c71 => ?_) (fun c71 => ?_)
    · have hf := it_s hf c71
      refine lv_iload_n X.1 X.2.1 dX8_worstBy_79 rfl (lv_at hl 3 rfl) ?_
      exact t_X8_worstBy_b80 X kh5 F G I J x3 x1 x2 x4 H locs ls hf hfF hfG hfI hfJ hP hS (lv_sub hl [0, 1, 2, 4] rfl)
    · have hf := ie_s hf c71
      refine lv_iload X.1 X.2.1 dX8_worstBy_74 (lv_at hl 5 rfl) ?_
      refine lv_goto (tgt := 80) X.1 X.2.1 dX8_worstBy_76 (by decide) ?_
      exact t_X8_worstBy_b80 X kh5 F G I J x5 x1 x2 x4 H locs ls hf hfF hfG hfI hfJ hP hS (lv_sub hl [0, 1, 2, 4] rfl)
  · have hf := ie_s hf c26
    refine lv_iload X.1 X.2.1 dX8_worstBy_29 (lv_at hl 5 rfl) ?_
    refine lv_iload_n X.1 X.2.1 dX8_worstBy_31 rfl (lv_at hl 2 rfl) ?_
    refine lv_iload X.1 X.2.1 dX8_worstBy_32 (lv_at hl 6 rfl) ?_
    obtain ⟨r34, ho, hf⟩ := b1_s hf
    refine call_si (rest := [.int x5]) X (c_X8_isIn x2 x6 ho) q_5_133 q_5_134 q_1_10 q_5_135 ok_X8_isIn rfl ⟨Nat.le_of_ble_eq_true rfl, Nat.le_of_ble_eq_true rfl⟩ rfl rfl hl.1 rfl (Nat.le_of_ble_eq_true rfl) dX8_worstBy_34 hP hS (fun H locs hP hS => ?_)
    refine lv_if_eq (tgt := 58) X.1 X.2.1 dX8_worstBy_37 (by decide) (fun c37 => ?_) (fun c37 => ?_)
    · have hf := it_s hf c37
      exact t_X8_worstBy_b58 X kh5 kh20 F G I J x5 x1 x2 x3 x4 x6 H locs ls hf hfF hfG hfI hfJ hP hS (lv_sub hl [0, 1, 2, 3, 4, 6] rfl)
    · have hf := ie_s hf c37
      refine lv_aload_n X.1 X.2.1 dX8_worstBy_40 rfl (lv_at hl 0 rfl) ?_
      refine lv_iload X.1 X.2.1 dX8_worstBy_41 (lv_at hl 6 rfl) ?_
      refine lv_iload_n X.1 X.2.1 dX8_worstBy_43 rfl (lv_at hl 1 rfl) ?_
      refine lv_iload X.1 X.2.1 dX8_worstBy_44 (lv_at hl 4 rfl) ?_
      obtain ⟨r46, m_loser_46, m_onlyWho_46, m_onlyWhere_46, m_keptFree_46, m_all_46, m_keptSeat_46, m_ways_46, m_next_46, ho, hf⟩ := b9_s hf
      refine call_vl (rest := [.int x5]) X (c_X8_seenWith F G I J X.2.2.2.2.2.2.2.1 x6 x1 x4 ho) q_6_45 q_6_47 qs_yX8_seenWith q_1_10 q_6_48 ok_X8_seenWith rfl 0 rfl rfl ⟨Nat.le_of_ble_eq_true rfl, Nat.le_of_ble_eq_true rfl⟩ rfl rfl hl.1 rfl (Nat.le_of_ble_eq_true rfl) dX8_worstBy_46 hP hS (fun H locs hP hS => ?_)
      refine lv_lconst (v := 0) X.1 X.2.1 dX8_worstBy_49 (by decide) ?_
      refine W.lcmp X.1 X.2.1 dX8_worstBy_50 ?_
      refine lv_if_le (tgt := 58) X.1 X.2.1 dX8_worstBy_51 (by decide) (fun c51 => ?_) (fun c51 => ?_)
      · have hf := it_s hf c51
        exact t_X8_worstBy_b58 X kh5 kh20 (va_up (va_up (va_up (va_up F 5 m_loser_46) 6 m_onlyWho_46) 7 m_onlyWhere_46) 8 m_keptFree_46) (va_up G 0 m_all_46) (va_up I 10 m_keptSeat_46) (va_up (va_up J 0 m_ways_46) 1 m_next_46) x5 x1 x2 x3 x4 x6 H locs ls hf (frm_up (frm_up (frm_up (frm_up hfF (by decide)) (by decide)) (by decide)) (by decide)) (frm_up hfG (by decide)) (frm_up hfI (by decide)) (frm_up (frm_up hfJ (by decide)) (by decide)) hP hS (lv_sub hl [0, 1, 2, 3, 4, 6] rfl)
      · have hf := ie_s hf c51
        refine lv_iconst (v := 1) X.1 X.2.1 dX8_worstBy_54 (by decide) ?_
        refine lv_goto (tgt := 59) X.1 X.2.1 dX8_worstBy_55 (by decide) ?_
        exact t_X8_worstBy_b59 X kh5 kh20 (va_up (va_up (va_up (va_up F 5 m_loser_46) 6 m_onlyWho_46) 7 m_onlyWhere_46) 8 m_keptFree_46) (va_up G 0 m_all_46) (va_up I 10 m_keptSeat_46) (va_up (va_up J 0 m_ways_46) 1 m_next_46) x5 1 x1 x2 x3 x4 x6 H locs ls hf (frm_up (frm_up (frm_up (frm_up hfF (by decide)) (by decide)) (by decide)) (by decide)) (frm_up hfG (by decide)) (frm_up hfI (by decide)) (frm_up (frm_up hfJ (by decide)) (by decide)) hP hS (lv_sub hl [0, 1, 2, 3, 4, 6] rfl)
set_option maxRecDepth 100000 in
theorem t_X8_worstBy_b20 {p : Program} {l : Launch} {e : Env} {s : State} {m : MethodId} {args : Array Value} {below : List Frame} {meth : Method} {c : Code} {D : va_G} {a : Nat → Nat} {kc : Nat → ClassId} (X : cx 21 p s m args meth c D (tyM kc) a cX8_worstBy 7 RX8 (some .int))  {Ff : Nat → Int32} {Gf : Nat → Int64} {If : Nat → Nat → Int32} {Jf : Nat → Nat → Int64} {r : Int32} {K5 : Int32 → Int32 → Int32 → Int32 → Int32 → Int32 → Int32 → Int64 → (Nat → Int32) → (Nat → Int32) → (Nat → Int32) → (Nat → Int32) → (Nat → Int32) → (Nat → Int32) → (Nat → Int64) → (Nat → Int64) → Int32 → Int32 → Int32 → Int32 → Option (Int32 × Int32 × Int32 × Int32 × Int32 × Int64 × (Nat → Int32) × (Nat → Int64) × (Nat → Int64))} (kh5 : ∀ (F : Nat → Int32) (G : Nat → Int64) (I : Nat → Nat → Int32) (J : Nat → Nat → Int64) (x1 : Int32) (x2 : Int32) (x3 : Int32) (x4 : Int32) (H : Heap) (locs : List Loc) (ls : Array Slot), K5 (F 2) (F 4) (F 5) (F 6) (F 7) (F 8) (F 12) (G 0) (I 6) (I 8) (I 9) (I 10) (I 13) (I 14) (J 0) (J 1) x1 x2 x3 x4 = some (r, (Ff 5), (Ff 6), (Ff 7), (Ff 8), (Gf 0), (If 10), (Jf 0), (Jf 1)) → (∀ k, k ∉ ([5, 6, 7, 8] : List Nat) → Ff k = F k) → (∀ k, k ∉ ([0] : List Nat) → Gf k = G k) → (∀ k, k ∉ ([10] : List Nat) → If k = I k) → (∀ k, k ∉ ([0, 1] : List Nat) → Jf k = J k) → va_P D vwCl (wM a kc F G I J) H → va_S (ad a 21 s.heap.size) s.heap H locs → lv_has ls 7 [(0, .ref (a 0)), (1, .int x1), (2, .int x2), (3, .int x3), (4, .int x4)] → W p l e rm_X8_worstBy s m args below meth c H locs 0 0 (MQ below (Qi D (wM a kc Ff Gf If Jf) r (ad a 21 s.heap.size)) args s 0 0 (ad a 21 s.heap.size)) (F0 m 5 ls [])) :
    ∀ (n : Nat) (F : Nat → Int32) (G : Nat → Int64) (I : Nat → Nat → Int32) (J : Nat → Nat → Int64) (x1 : Int32) (x2 : Int32) (x3 : Int32) (x4 : Int32) (x5 : Int32) (x6 : Int32) (H : Heap) (locs : List Loc) (ls : Array Slot), p_X8_worstBy_b20 K5 n (F 2) (F 4) (F 5) (F 6) (F 7) (F 8) (F 12) (G 0) (I 6) (I 8) (I 9) (I 10) (I 13) (I 14) (J 0) (J 1) x1 x2 x3 x4 x5 x6 = some (r, (Ff 5), (Ff 6), (Ff 7), (Ff 8), (Gf 0), (If 10), (Jf 0), (Jf 1)) → (∀ k, k ∉ ([5, 6, 7, 8] : List Nat) → Ff k = F k) → (∀ k, k ∉ ([0] : List Nat) → Gf k = G k) → (∀ k, k ∉ ([10] : List Nat) → If k = I k) → (∀ k, k ∉ ([0, 1] : List Nat) → Jf k = J k) → va_P D vwCl (wM a kc F G I J) H → va_S (ad a 21 s.heap.size) s.heap H locs → lv_has ls 7 [(0, .ref (a 0)), (1, .int x1), (2, .int x2), (3, .int x3), (4, .int x4), (5, .int x5), (6, .int x6)] → W p l e rm_X8_worstBy s m args below meth c H locs 0 0 (MQ below (Qi D (wM a kc Ff Gf If Jf) r (ad a 21 s.heap.size)) args s 0 0 (ad a 21 s.heap.size)) (F0 m 20 ls []) := by
  intro n
  induction n with
  | zero => intro F G I J x1 x2 x3 x4 x5 x6 H locs ls hf hfF hfG hfI hfJ hP hS hl; exact (nos hf).elim
  | succ n ih => exact t_X8_worstBy_b20x X kh5 ih
set_option maxHeartbeats 4000000 in
set_option maxRecDepth 100000 in
theorem t_X8_worstBy_b5x {p : Program} {l : Launch} {e : Env} {s : State} {m : MethodId} {args : Array Value} {below : List Frame} {meth : Method} {c : Code} {D : va_G} {a : Nat → Nat} {kc : Nat → ClassId} (X : cx 21 p s m args meth c D (tyM kc) a cX8_worstBy 7 RX8 (some .int))  {Ff : Nat → Int32} {Gf : Nat → Int64} {If : Nat → Nat → Int32} {Jf : Nat → Nat → Int64} {r : Int32} {K5 : Int32 → Int32 → Int32 → Int32 → Int32 → Int32 → Int32 → Int64 → (Nat → Int32) → (Nat → Int32) → (Nat → Int32) → (Nat → Int32) → (Nat → Int32) → (Nat → Int32) → (Nat → Int64) → (Nat → Int64) → Int32 → Int32 → Int32 → Int32 → Option (Int32 × Int32 × Int32 × Int32 × Int32 × Int64 × (Nat → Int32) × (Nat → Int64) × (Nat → Int64))} (kh5 : ∀ (F : Nat → Int32) (G : Nat → Int64) (I : Nat → Nat → Int32) (J : Nat → Nat → Int64) (x1 : Int32) (x2 : Int32) (x3 : Int32) (x4 : Int32) (H : Heap) (locs : List Loc) (ls : Array Slot), K5 (F 2) (F 4) (F 5) (F 6) (F 7) (F 8) (F 12) (G 0) (I 6) (I 8) (I 9) (I 10) (I 13) (I 14) (J 0) (J 1) x1 x2 x3 x4 = some (r, (Ff 5), (Ff 6), (Ff 7), (Ff 8), (Gf 0), (If 10), (Jf 0), (Jf 1)) → (∀ k, k ∉ ([5, 6, 7, 8] : List Nat) → Ff k = F k) → (∀ k, k ∉ ([0] : List Nat) → Gf k = G k) → (∀ k, k ∉ ([10] : List Nat) → If k = I k) → (∀ k, k ∉ ([0, 1] : List Nat) → Jf k = J k) → va_P D vwCl (wM a kc F G I J) H → va_S (ad a 21 s.heap.size) s.heap H locs → lv_has ls 7 [(0, .ref (a 0)), (1, .int x1), (2, .int x2), (3, .int x3), (4, .int x4)] → W p l e rm_X8_worstBy s m args below meth c H locs 0 0 (MQ below (Qi D (wM a kc Ff Gf If Jf) r (ad a 21 s.heap.size)) args s 0 0 (ad a 21 s.heap.size)) (F0 m 5 ls [])) :
    ∀ (F : Nat → Int32) (G : Nat → Int64) (I : Nat → Nat → Int32) (J : Nat → Nat → Int64) (x1 : Int32) (x2 : Int32) (x3 : Int32) (x4 : Int32) (H : Heap) (locs : List Loc) (ls : Array Slot), p_X8_worstBy_b5x K5 (F 2) (F 4) (F 5) (F 6) (F 7) (F 8) (F 12) (G 0) (I 6) (I 8) (I 9) (I 10) (I 13) (I 14) (J 0) (J 1) x1 x2 x3 x4 = some (r, (Ff 5), (Ff 6), (Ff 7), (Ff 8), (Gf 0), (If 10), (Jf 0), (Jf 1)) → (∀ k, k ∉ ([5, 6, 7, 8] : List Nat) → Ff k = F k) → (∀ k, k ∉ ([0] : List Nat) → Gf k = G k) → (∀ k, k ∉ ([10] : List Nat) → If k = I k) → (∀ k, k ∉ ([0, 1] : List Nat) → Jf k = J k) → va_P D vwCl (wM a kc F G I J) H → va_S (ad a 21 s.heap.size) s.heap H locs → lv_has ls 7 [(0, .ref (a 0)), (1, .int x1), (2, .int x2), (3, .int x3), (4, .int x4)] → W p l e rm_X8_worstBy s m args below meth c H locs 0 0 (MQ below (Qi D (wM a kc Ff Gf If Jf) r (ad a 21 s.heap.size)) args s 0 0 (ad a 21 s.heap.size)) (F0 m 5 ls []) := by
  intro F G I J x1 x2 x3 x4 H locs ls hf hfF hfG hfI hfJ hP hS hl
  unfold p_X8_worstBy_b5x at hf
  refine lv_iload X.1 X.2.1 dX8_worstBy_5 (lv_at hl 4 rfl) ?_
  refine lv_aload_n X.1 X.2.1 dX8_worstBy_7 rfl (lv_at hl 0 rfl) ?_
  refine gM_0_8 (F := F) X (v := (F 2)) rfl q_4_117 dX8_worstBy_8 hP ?_
  refine lv_icmp_ge (tgt := 87) X.1 X.2.1 dX8_worstBy_11 (by decide) (fun c11 => ?_) (fun c11 => ?_)
  · have hf := it_s hf c11
    refine lv_iload_n X.1 X.2.1 dX8_worstBy_87 rfl (lv_at hl 3 rfl) ?_
    obtain ⟨e0, hf⟩ := o2 hf
    obtain ⟨e1, hf⟩ := o2 hf
    obtain ⟨e2, hf⟩ := o2 hf
    obtain ⟨e3, hf⟩ := o2 hf
    obtain ⟨e4, hf⟩ := o2 hf
    obtain ⟨e5, hf⟩ := o2 hf
    obtain ⟨e6, hf⟩ := o2 hf
    obtain ⟨e7, hf⟩ := o2 hf
    have e8 := o1 hf
    have EF : Ff = F := frm_eq hfF (frm_c (e1).symm (frm_c (e2).symm (frm_c (e3).symm (frm_c (e4).symm frm_n))))
    have EG : Gf = G := frm_eq hfG (frm_c (e5).symm frm_n)
    have EI : If = I := frm_eq hfI (frm_c (e6).symm frm_n)
    have EJ : Jf = J := frm_eq hfJ (frm_c (e7).symm (frm_c (e8).symm frm_n))
    exact ret_i X hS (by rw [EF, EG, EI, EJ]; exact hP) e0 dX8_worstBy_88
  · have hf := ie_s hf c11
    refine lv_iconst (v := 0) X.1 X.2.1 dX8_worstBy_14 (by decide) ?_
    refine lv_istore (lv' := [(5, .int 0), (0, .ref (a 0)), (1, .int x1), (2, .int x2), (3, .int x3), (4, .int x4)]) X.1 X.2.1 dX8_worstBy_15 hl (by decide) rfl (fun ls hl => ?_)
    refine lv_iconst (v := 0) X.1 X.2.1 dX8_worstBy_17 (by decide) ?_
    refine lv_istore (lv' := [(6, .int 0), (5, .int 0), (0, .ref (a 0)), (1, .int x1), (2, .int x2), (3, .int x3), (4, .int x4)]) X.1 X.2.1 dX8_worstBy_18 hl (by decide) rfl (fun ls hl => ?_)
    exact t_X8_worstBy_b20 X kh5 4096 F G I J x1 x2 x3 x4 0 0 H locs ls hf hfF hfG hfI hfJ hP hS (lv_sub hl [2, 3, 4, 5, 6, 1, 0] rfl)
set_option maxRecDepth 100000 in
theorem t_X8_worstBy_b5 {p : Program} {l : Launch} {e : Env} {s : State} {m : MethodId} {args : Array Value} {below : List Frame} {meth : Method} {c : Code} {D : va_G} {a : Nat → Nat} {kc : Nat → ClassId} (X : cx 21 p s m args meth c D (tyM kc) a cX8_worstBy 7 RX8 (some .int))  {Ff : Nat → Int32} {Gf : Nat → Int64} {If : Nat → Nat → Int32} {Jf : Nat → Nat → Int64} {r : Int32} :
    ∀ (n : Nat) (F : Nat → Int32) (G : Nat → Int64) (I : Nat → Nat → Int32) (J : Nat → Nat → Int64) (x1 : Int32) (x2 : Int32) (x3 : Int32) (x4 : Int32) (H : Heap) (locs : List Loc) (ls : Array Slot), p_X8_worstBy_b5 n (F 2) (F 4) (F 5) (F 6) (F 7) (F 8) (F 12) (G 0) (I 6) (I 8) (I 9) (I 10) (I 13) (I 14) (J 0) (J 1) x1 x2 x3 x4 = some (r, (Ff 5), (Ff 6), (Ff 7), (Ff 8), (Gf 0), (If 10), (Jf 0), (Jf 1)) → (∀ k, k ∉ ([5, 6, 7, 8] : List Nat) → Ff k = F k) → (∀ k, k ∉ ([0] : List Nat) → Gf k = G k) → (∀ k, k ∉ ([10] : List Nat) → If k = I k) → (∀ k, k ∉ ([0, 1] : List Nat) → Jf k = J k) → va_P D vwCl (wM a kc F G I J) H → va_S (ad a 21 s.heap.size) s.heap H locs → lv_has ls 7 [(0, .ref (a 0)), (1, .int x1), (2, .int x2), (3, .int x3), (4, .int x4)] → W p l e rm_X8_worstBy s m args below meth c H locs 0 0 (MQ below (Qi D (wM a kc Ff Gf If Jf) r (ad a 21 s.heap.size)) args s 0 0 (ad a 21 s.heap.size)) (F0 m 5 ls []) := by
  intro n
  induction n with
  | zero => intro F G I J x1 x2 x3 x4 H locs ls hf hfF hfG hfI hfJ hP hS hl; exact (nos hf).elim
  | succ n ih => exact t_X8_worstBy_b5x X ih
set_option maxHeartbeats 4000000 in
set_option maxRecDepth 100000 in
theorem t_X8_worstBy_b0 {p : Program} {l : Launch} {e : Env} {s : State} {m : MethodId} {args : Array Value} {below : List Frame} {meth : Method} {c : Code} {D : va_G} {a : Nat → Nat} {kc : Nat → ClassId} (X : cx 21 p s m args meth c D (tyM kc) a cX8_worstBy 7 RX8 (some .int))  {Ff : Nat → Int32} {Gf : Nat → Int64} {If : Nat → Nat → Int32} {Jf : Nat → Nat → Int64} {r : Int32} :
    ∀ (F : Nat → Int32) (G : Nat → Int64) (I : Nat → Nat → Int32) (J : Nat → Nat → Int64) (x1 : Int32) (x2 : Int32) (H : Heap) (locs : List Loc) (ls : Array Slot), p_X8_worstBy_b0 (F 2) (F 4) (F 5) (F 6) (F 7) (F 8) (F 12) (G 0) (I 6) (I 8) (I 9) (I 10) (I 13) (I 14) (J 0) (J 1) x1 x2 = some (r, (Ff 5), (Ff 6), (Ff 7), (Ff 8), (Gf 0), (If 10), (Jf 0), (Jf 1)) → (∀ k, k ∉ ([5, 6, 7, 8] : List Nat) → Ff k = F k) → (∀ k, k ∉ ([0] : List Nat) → Gf k = G k) → (∀ k, k ∉ ([10] : List Nat) → If k = I k) → (∀ k, k ∉ ([0, 1] : List Nat) → Jf k = J k) → va_P D vwCl (wM a kc F G I J) H → va_S (ad a 21 s.heap.size) s.heap H locs → lv_has ls 7 [(0, .ref (a 0)), (1, .int x1), (2, .int x2)] → W p l e rm_X8_worstBy s m args below meth c H locs 0 0 (MQ below (Qi D (wM a kc Ff Gf If Jf) r (ad a 21 s.heap.size)) args s 0 0 (ad a 21 s.heap.size)) (F0 m 0 ls []) := by
  intro F G I J x1 x2 H locs ls hf hfF hfG hfI hfJ hP hS hl
  unfold p_X8_worstBy_b0 at hf
  refine lv_iconst (v := 0) X.1 X.2.1 dX8_worstBy_0 (by decide) ?_
  refine lv_istore_n (lv' := [(3, .int 0), (0, .ref (a 0)), (1, .int x1), (2, .int x2)]) X.1 X.2.1 dX8_worstBy_1 rfl hl (by decide) rfl (fun ls hl => ?_)
  refine lv_iconst (v := 0) X.1 X.2.1 dX8_worstBy_2 (by decide) ?_
  refine lv_istore (lv' := [(4, .int 0), (3, .int 0), (0, .ref (a 0)), (1, .int x1), (2, .int x2)]) X.1 X.2.1 dX8_worstBy_3 hl (by decide) rfl (fun ls hl => ?_)
  exact t_X8_worstBy_b5 X 4096 F G I J x1 x2 0 0 H locs ls hf hfF hfG hfI hfJ hP hS (lv_sub hl [2, 3, 4, 1, 0] rfl)
set_option maxRecDepth 100000 in
theorem c_X8_worstBy {l : Launch} {D : va_G} {a : Nat → Nat} {kc : Nat → ClassId} (F : Nat → Int32) (G : Nat → Int64) (I : Nat → Nat → Int32) (J : Nat → Nat → Int64) (hAp : ∀ i j, i < 21 → j < 21 → a i = a j → i = j) (x1 : Int32) (x2 : Int32) {o0 : Int32} {o1 : Int32} {o2 : Int32} {o3 : Int32} {o4 : Int32} {o5 : Int64} {o6 : Nat → Int32} {o7 : Nat → Int64} {o8 : Nat → Int64} (hf : p_X8_worstBy (F 2) (F 4) (F 5) (F 6) (F 7) (F 8) (F 12) (G 0) (I 6) (I 8) (I 9) (I 10) (I 13) (I 14) (J 0) (J 1) x1 x2 = some (o0, o1, o2, o3, o4, o5, o6, o7, o8)) : Ct 21 l yX8_worstBy cX8_worstBy 7 (some .int) rm_X8_worstBy D (tyM kc) a (wM a kc F G I J) [.ref (a 0), .int x1, .int x2] (Qi D (wM a kc (va_up (va_up (va_up (va_up F 5 o1) 6 o2) 7 o3) 8 o4) (va_up G 0 o5) (va_up I 10 o6) (va_up (va_up J 0 o7) 1 o8)) o0) :=
  Ct.of (by decide +kernel) hAp (Nat.le_of_ble_eq_true rfl) (fun p e s m args below meth c ls X hP hl => t_X8_worstBy_b0 X F G I J x1 x2 _ _ _ hf (frm_ul (frm_ul (frm_ul (frm_ul (fun k _ => rfl) (by decide)) (by decide)) (by decide)) (by decide)) (frm_ul (fun k _ => rfl) (by decide)) (frm_ul (fun k _ => rfl) (by decide)) (frm_ul (frm_ul (fun k _ => rfl) (by decide)) (by decide)) hP va_S.rf hl)
abbrev rm_X8_askNow : Room := { frames := 6, cells := 0, slots := 0, locals := 150 }
set_option maxHeartbeats 4000000 in
set_option maxRecDepth 100000 in
theorem t_X8_askNow_b89 {p : Program} {l : Launch} {e : Env} {s : State} {m : MethodId} {args : Array Value} {below : List Frame} {meth : Method} {c : Code} {D : va_G} {a : Nat → Nat} {kc : Nat → ClassId} (X : cx 21 p s m args meth c D (tyM kc) a cX8_askNow 7 RX8 (some .int))  {Ff : Nat → Int32} {Gf : Nat → Int64} {If : Nat → Nat → Int32} {Jf : Nat → Nat → Int64} {r : Int32} :
    ∀ (F : Nat → Int32) (G : Nat → Int64) (I : Nat → Nat → Int32) (J : Nat → Nat → Int64) (t0 : Int32) (H : Heap) (locs : List Loc) (ls : Array Slot), p_X8_askNow_b89 (F 2) (F 4) (F 5) (F 6) (F 7) (F 8) (F 12) (G 0) (I 6) (I 8) (I 9) (I 10) (I 13) (I 14) (J 0) (J 1) t0 = some (r, (Ff 5), (Ff 6), (Ff 7), (Ff 8), (Gf 0), (If 10), (Jf 0), (Jf 1)) → (∀ k, k ∉ ([5, 6, 7, 8] : List Nat) → Ff k = F k) → (∀ k, k ∉ ([0] : List Nat) → Gf k = G k) → (∀ k, k ∉ ([10] : List Nat) → If k = I k) → (∀ k, k ∉ ([0, 1] : List Nat) → Jf k = J k) → va_P D vwCl (wM a kc F G I J) H → va_S (ad a 21 s.heap.size) s.heap H locs → lv_has ls 7 [(0, .ref (a 0))] → W p l e rm_X8_askNow s m args below meth c H locs 0 0 (MQ below (Qi D (wM a kc Ff Gf If Jf) r (ad a 21 s.heap.size)) args s 0 0 (ad a 21 s.heap.size)) (F0 m 89 ls [.int t0]) := by
  intro F G I J t0 H locs ls hf hfF hfG hfI hfJ hP hS hl
  unfold p_X8_askNow_b89 at hf
  obtain ⟨e0, hf⟩ := o2 hf
  obtain ⟨e1, hf⟩ := o2 hf
  obtain ⟨e2, hf⟩ := o2 hf
  obtain ⟨e3, hf⟩ := o2 hf
  obtain ⟨e4, hf⟩ := o2 hf
  obtain ⟨e5, hf⟩ := o2 hf
  obtain ⟨e6, hf⟩ := o2 hf
  obtain ⟨e7, hf⟩ := o2 hf
  have e8 := o1 hf
  have EF : Ff = F := frm_eq hfF (frm_c (e1).symm (frm_c (e2).symm (frm_c (e3).symm (frm_c (e4).symm frm_n))))
  have EG : Gf = G := frm_eq hfG (frm_c (e5).symm frm_n)
  have EI : If = I := frm_eq hfI (frm_c (e6).symm frm_n)
  have EJ : Jf = J := frm_eq hfJ (frm_c (e7).symm (frm_c (e8).symm frm_n))
  exact ret_i X hS (by rw [EF, EG, EI, EJ]; exact hP) e0 dX8_askNow_89
set_option maxHeartbeats 4000000 in
set_option maxRecDepth 100000 in
theorem t_X8_askNow_b69 {p : Program} {l : Launch} {e : Env} {s : State} {m : MethodId} {args : Array Value} {below : List Frame} {meth : Method} {c : Code} {D : va_G} {a : Nat → Nat} {kc : Nat → ClassId} (X : cx 21 p s m args meth c D (tyM kc) a cX8_askNow 7 RX8 (some .int))  {Ff : Nat → Int32} {Gf : Nat → Int64} {If : Nat → Nat → Int32} {Jf : Nat → Nat → Int64} {r : Int32} :
    ∀ (F : Nat → Int32) (G : Nat → Int64) (I : Nat → Nat → Int32) (J : Nat → Nat → Int64) (x1 : Int32) (x3 : Int32) (x4 : Int32) (H : Heap) (locs : List Loc) (ls : Array Slot), p_X8_askNow_b69 (F 2) (F 4) (F 5) (F 6) (F 7) (F 8) (F 12) (G 0) (I 6) (I 8) (I 9) (I 10) (I 13) (I 14) (J 0) (J 1) x1 x3 x4 = some (r, (Ff 5), (Ff 6), (Ff 7), (Ff 8), (Gf 0), (If 10), (Jf 0), (Jf 1)) → (∀ k, k ∉ ([5, 6, 7, 8] : List Nat) → Ff k = F k) → (∀ k, k ∉ ([0] : List Nat) → Gf k = G k) → (∀ k, k ∉ ([10] : List Nat) → If k = I k) → (∀ k, k ∉ ([0, 1] : List Nat) → Jf k = J k) → va_P D vwCl (wM a kc F G I J) H → va_S (ad a 21 s.heap.size) s.heap H locs → lv_has ls 7 [(0, .ref (a 0)), (1, .int x1), (3, .int x3), (4, .int x4)] → W p l e rm_X8_askNow s m args below meth c H locs 0 0 (MQ below (Qi D (wM a kc Ff Gf If Jf) r (ad a 21 s.heap.size)) args s 0 0 (ad a 21 s.heap.size)) (F0 m 69 ls []) := by
  intro F G I J x1 x3 x4 H locs ls hf hfF hfG hfI hfJ hP hS hl
  unfold p_X8_askNow_b69 at hf
  refine lv_iload_n X.1 X.2.1 dX8_askNow_69 rfl (lv_at hl 2 rfl) ?_
  refine lv_iconst (v := (-1)) X.1 X.2.1 dX8_askNow_70 (by decide) ?_
  refine lv_icmp_ne (tgt := 79) X.1 X.2.1 dX8_askNow_71 (by decide) (fun c71 => ?_) (fun c71 => ?_)
  · have hf := ie_s hf c71
    refine lv_iload_n X.1 X.2.1 dX8_askNow_79 rfl (lv_at hl 1 rfl) ?_
    refine lv_if_ne (tgt := 87) X.1 X.2.1 dX8_askNow_80 (by decide) (fun c80 => ?_) (fun c80 => ?_)
    · have hf := ie_s hf c80
      refine lv_iload X.1 X.2.1 dX8_askNow_87 (lv_at hl 3 rfl) ?_
      exact t_X8_askNow_b89 X F G I J x4 H locs ls hf hfF hfG hfI hfJ hP hS (lv_sub hl [0] rfl)
    · have hf := it_s hf c80
      refine lv_iload_n X.1 X.2.1 dX8_askNow_83 rfl (lv_at hl 2 rfl) ?_
      refine lv_goto (tgt := 89) X.1 X.2.1 dX8_askNow_84 (by decide) ?_
      exact t_X8_askNow_b89 X F G I J x3 H locs ls hf hfF hfG hfI hfJ hP hS (lv_sub hl [0] rfl)
  · have hf := it_s hf c71
    refine lv_bipush (v := (-3)) X.1 X.2.1 dX8_askNow_74 (by decide) ?_
    refine lv_goto (tgt := 89) X.1 X.2.1 dX8_askNow_76 (by decide) ?_
    exact t_X8_askNow_b89 X F G I J (-3) H locs ls hf hfF hfG hfI hfJ hP hS (lv_sub hl [0] rfl)
set_option maxHeartbeats 4000000 in
set_option maxRecDepth 100000 in
theorem t_X8_askNow_b63 {p : Program} {l : Launch} {e : Env} {s : State} {m : MethodId} {args : Array Value} {below : List Frame} {meth : Method} {c : Code} {D : va_G} {a : Nat → Nat} {kc : Nat → ClassId} (X : cx 21 p s m args meth c D (tyM kc) a cX8_askNow 7 RX8 (some .int))  {Ff : Nat → Int32} {Gf : Nat → Int64} {If : Nat → Nat → Int32} {Jf : Nat → Nat → Int64} {r : Int32} {K13 : Int32 → Int32 → Int32 → Int32 → Int32 → Int32 → Int32 → Int64 → (Nat → Int32) → (Nat → Int32) → (Nat → Int32) → (Nat → Int32) → (Nat → Int32) → (Nat → Int32) → (Nat → Int64) → (Nat → Int64) → Int32 → Int32 → Int32 → Int32 → Int32 → Option (Int32 × Int32 × Int32 × Int32 × Int32 × Int64 × (Nat → Int32) × (Nat → Int64) × (Nat → Int64))} (kh13 : ∀ (F : Nat → Int32) (G : Nat → Int64) (I : Nat → Nat → Int32) (J : Nat → Nat → Int64) (x1 : Int32) (x2 : Int32) (x3 : Int32) (x4 : Int32) (x5 : Int32) (H : Heap) (locs : List Loc) (ls : Array Slot), K13 (F 2) (F 4) (F 5) (F 6) (F 7) (F 8) (F 12) (G 0) (I 6) (I 8) (I 9) (I 10) (I 13) (I 14) (J 0) (J 1) x1 x2 x3 x4 x5 = some (r, (Ff 5), (Ff 6), (Ff 7), (Ff 8), (Gf 0), (If 10), (Jf 0), (Jf 1)) → (∀ k, k ∉ ([5, 6, 7, 8] : List Nat) → Ff k = F k) → (∀ k, k ∉ ([0] : List Nat) → Gf k = G k) → (∀ k, k ∉ ([10] : List Nat) → If k = I k) → (∀ k, k ∉ ([0, 1] : List Nat) → Jf k = J k) → va_P D vwCl (wM a kc F G I J) H → va_S (ad a 21 s.heap.size) s.heap H locs → lv_has ls 7 [(0, .ref (a 0)), (1, .int x1), (2, .int x2), (3, .int x3), (4, .int x4), (5, .int x5)] → W p l e rm_X8_askNow s m args below meth c H locs 0 0 (MQ below (Qi D (wM a kc Ff Gf If Jf) r (ad a 21 s.heap.size)) args s 0 0 (ad a 21 s.heap.size)) (F0 m 13 ls [])) :
    ∀ (F : Nat → Int32) (G : Nat → Int64) (I : Nat → Nat → Int32) (J : Nat → Nat → Int64) (x1 : Int32) (x2 : Int32) (x3 : Int32) (x4 : Int32) (x5 : Int32) (H : Heap) (locs : List Loc) (ls : Array Slot), p_X8_askNow_b63 K13 (F 2) (F 4) (F 5) (F 6) (F 7) (F 8) (F 12) (G 0) (I 6) (I 8) (I 9) (I 10) (I 13) (I 14) (J 0) (J 1) x1 x2 x3 x4 x5 = some (r, (Ff 5), (Ff 6), (Ff 7), (Ff 8), (Gf 0), (If 10), (Jf 0), (Jf 1)) → (∀ k, k ∉ ([5, 6, 7, 8] : List Nat) → Ff k = F k) → (∀ k, k ∉ ([0] : List Nat) → Gf k = G k) → (∀ k, k ∉ ([10] : List Nat) → If k = I k) → (∀ k, k ∉ ([0, 1] : List Nat) → Jf k = J k) → va_P D vwCl (wM a kc F G I J) H → va_S (ad a 21 s.heap.size) s.heap H locs → lv_has ls 7 [(0, .ref (a 0)), (1, .int x1), (2, .int x2), (3, .int x3), (4, .int x4), (5, .int x5)] → W p l e rm_X8_askNow s m args below meth c H locs 0 0 (MQ below (Qi D (wM a kc Ff Gf If Jf) r (ad a 21 s.heap.size)) args s 0 0 (ad a 21 s.heap.size)) (F0 m 63 ls []) := by
  intro F G I J x1 x2 x3 x4 x5 H locs ls hf hfF hfG hfI hfJ hP hS hl
  unfold p_X8_askNow_b63 at hf
  obtain ⟨x63, ex63, hf⟩ := nm_x hf
  refine lv_iinc (v := x63) (lv' := [(5, .int x63), (0, .ref (a 0)), (1, .int x1), (2, .int x2), (3, .int x3), (4, .int x4)]) X.1 X.2.1 dX8_askNow_63 hl (k := 5) rfl ex63 (by decide) rfl (fun ls hl => ?_)
  refine lv_goto (tgt := 13) X.1 X.2.1 dX8_askNow_66 (by decide) ?_
  exact kh13 F G I J x1 x2 x3 x4 x63 H locs ls hf hfF hfG hfI hfJ hP hS (lv_sub hl [1, 2, 3, 4, 5, 0] rfl)
set_option maxHeartbeats 4000000 in
set_option maxRecDepth 100000 in
theorem t_X8_askNow_b56 {p : Program} {l : Launch} {e : Env} {s : State} {m : MethodId} {args : Array Value} {below : List Frame} {meth : Method} {c : Code} {D : va_G} {a : Nat → Nat} {kc : Nat → ClassId} (X : cx 21 p s m args meth c D (tyM kc) a cX8_askNow 7 RX8 (some .int))  {Ff : Nat → Int32} {Gf : Nat → Int64} {If : Nat → Nat → Int32} {Jf : Nat → Nat → Int64} {r : Int32} {K13 : Int32 → Int32 → Int32 → Int32 → Int32 → Int32 → Int32 → Int64 → (Nat → Int32) → (Nat → Int32) → (Nat → Int32) → (Nat → Int32) → (Nat → Int32) → (Nat → Int32) → (Nat → Int64) → (Nat → Int64) → Int32 → Int32 → Int32 → Int32 → Int32 → Option (Int32 × Int32 × Int32 × Int32 × Int32 × Int64 × (Nat → Int32) × (Nat → Int64) × (Nat → Int64))} (kh13 : ∀ (F : Nat → Int32) (G : Nat → Int64) (I : Nat → Nat → Int32) (J : Nat → Nat → Int64) (x1 : Int32) (x2 : Int32) (x3 : Int32) (x4 : Int32) (x5 : Int32) (H : Heap) (locs : List Loc) (ls : Array Slot), K13 (F 2) (F 4) (F 5) (F 6) (F 7) (F 8) (F 12) (G 0) (I 6) (I 8) (I 9) (I 10) (I 13) (I 14) (J 0) (J 1) x1 x2 x3 x4 x5 = some (r, (Ff 5), (Ff 6), (Ff 7), (Ff 8), (Gf 0), (If 10), (Jf 0), (Jf 1)) → (∀ k, k ∉ ([5, 6, 7, 8] : List Nat) → Ff k = F k) → (∀ k, k ∉ ([0] : List Nat) → Gf k = G k) → (∀ k, k ∉ ([10] : List Nat) → If k = I k) → (∀ k, k ∉ ([0, 1] : List Nat) → Jf k = J k) → va_P D vwCl (wM a kc F G I J) H → va_S (ad a 21 s.heap.size) s.heap H locs → lv_has ls 7 [(0, .ref (a 0)), (1, .int x1), (2, .int x2), (3, .int x3), (4, .int x4), (5, .int x5)] → W p l e rm_X8_askNow s m args below meth c H locs 0 0 (MQ below (Qi D (wM a kc Ff Gf If Jf) r (ad a 21 s.heap.size)) args s 0 0 (ad a 21 s.heap.size)) (F0 m 13 ls [])) :
    ∀ (F : Nat → Int32) (G : Nat → Int64) (I : Nat → Nat → Int32) (J : Nat → Nat → Int64) (x1 : Int32) (x2 : Int32) (x5 : Int32) (x6 : Int32) (H : Heap) (locs : List Loc) (ls : Array Slot), p_X8_askNow_b56 K13 (F 2) (F 4) (F 5) (F 6) (F 7) (F 8) (F 12) (G 0) (I 6) (I 8) (I 9) (I 10) (I 13) (I 14) (J 0) (J 1) x1 x2 x5 x6 = some (r, (Ff 5), (Ff 6), (Ff 7), (Ff 8), (Gf 0), (If 10), (Jf 0), (Jf 1)) → (∀ k, k ∉ ([5, 6, 7, 8] : List Nat) → Ff k = F k) → (∀ k, k ∉ ([0] : List Nat) → Gf k = G k) → (∀ k, k ∉ ([10] : List Nat) → If k = I k) → (∀ k, k ∉ ([0, 1] : List Nat) → Jf k = J k) → va_P D vwCl (wM a kc F G I J) H → va_S (ad a 21 s.heap.size) s.heap H locs → lv_has ls 7 [(0, .ref (a 0)), (1, .int x1), (2, .int x2), (5, .int x5), (6, .int x6)] → W p l e rm_X8_askNow s m args below meth c H locs 0 0 (MQ below (Qi D (wM a kc Ff Gf If Jf) r (ad a 21 s.heap.size)) args s 0 0 (ad a 21 s.heap.size)) (F0 m 56 ls []) := by
  intro F G I J x1 x2 x5 x6 H locs ls hf hfF hfG hfI hfJ hP hS hl
  unfold p_X8_askNow_b56 at hf
  refine lv_iload X.1 X.2.1 dX8_askNow_56 (lv_at hl 3 rfl) ?_
  refine lv_istore_n (lv' := [(3, .int x5), (0, .ref (a 0)), (1, .int x1), (2, .int x2), (5, .int x5), (6, .int x6)]) X.1 X.2.1 dX8_askNow_58 rfl hl (by decide) rfl (fun ls hl => ?_)
  refine lv_iload X.1 X.2.1 dX8_askNow_59 (lv_at hl 5 rfl) ?_
  refine lv_istore (lv' := [(4, .int x6), (3, .int x5), (0, .ref (a 0)), (1, .int x1), (2, .int x2), (5, .int x5), (6, .int x6)]) X.1 X.2.1 dX8_askNow_61 hl (by decide) rfl (fun ls hl => ?_)
  exact t_X8_askNow_b63 X kh13 F G I J x1 x2 x5 x6 x5 H locs ls hf hfF hfG hfI hfJ hP hS (lv_sub hl [2, 3, 4, 1, 0, 5] rfl)
set_option maxHeartbeats 4000000 in
set_option maxRecDepth 100000 in
theorem t_X8_askNow_b13x {p : Program} {l : Launch} {e : Env} {s : State} {m : MethodId} {args : Array Value} {below : List Frame} {meth : Method} {c : Code} {D : va_G} {a : Nat → Nat} {kc : Nat → ClassId} (X : cx 21 p s m args meth c D (tyM kc) a cX8_askNow 7 RX8 (some .int))  {Ff : Nat → Int32} {Gf : Nat → Int64} {If : Nat → Nat → Int32} {Jf : Nat → Nat → Int64} {r : Int32} {K13 : Int32 → Int32 → Int32 → Int32 → Int32 → Int32 → Int32 → Int64 → (Nat → Int32) → (Nat → Int32) → (Nat → Int32) → (Nat → Int32) → (Nat → Int32) → (Nat → Int32) → (Nat → Int64) → (Nat → Int64) → Int32 → Int32 → Int32 → Int32 → Int32 → Option (Int32 × Int32 × Int32 × Int32 × Int32 × Int64 × (Nat → Int32) × (Nat → Int64) × (Nat → Int64))} (kh13 : ∀ (F : Nat → Int32) (G : Nat → Int64) (I : Nat → Nat → Int32) (J : Nat → Nat → Int64) (x1 : Int32) (x2 : Int32) (x3 : Int32) (x4 : Int32) (x5 : Int32) (H : Heap) (locs : List Loc) (ls : Array Slot), K13 (F 2) (F 4) (F 5) (F 6) (F 7) (F 8) (F 12) (G 0) (I 6) (I 8) (I 9) (I 10) (I 13) (I 14) (J 0) (J 1) x1 x2 x3 x4 x5 = some (r, (Ff 5), (Ff 6), (Ff 7), (Ff 8), (Gf 0), (If 10), (Jf 0), (Jf 1)) → (∀ k, k ∉ ([5, 6, 7, 8] : List Nat) → Ff k = F k) → (∀ k, k ∉ ([0] : List Nat) → Gf k = G k) → (∀ k, k ∉ ([10] : List Nat) → If k = I k) → (∀ k, k ∉ ([0, 1] : List Nat) → Jf k = J k) → va_P D vwCl (wM a kc F G I J) H → va_S (ad a 21 s.heap.size) s.heap H locs → lv_has ls 7 [(0, .ref (a 0)), (1, .int x1), (2, .int x2), (3, .int x3), (4, .int x4), (5, .int x5)] → W p l e rm_X8_askNow s m args below meth c H locs 0 0 (MQ below (Qi D (wM a kc Ff Gf If Jf) r (ad a 21 s.heap.size)) args s 0 0 (ad a 21 s.heap.size)) (F0 m 13 ls [])) :
    ∀ (F : Nat → Int32) (G : Nat → Int64) (I : Nat → Nat → Int32) (J : Nat → Nat → Int64) (x1 : Int32) (x2 : Int32) (x3 : Int32) (x4 : Int32) (x5 : Int32) (H : Heap) (locs : List Loc) (ls : Array Slot), p_X8_askNow_b13x K13 (F 2) (F 4) (F 5) (F 6) (F 7) (F 8) (F 12) (G 0) (I 6) (I 8) (I 9) (I 10) (I 13) (I 14) (J 0) (J 1) x1 x2 x3 x4 x5 = some (r, (Ff 5), (Ff 6), (Ff 7), (Ff 8), (Gf 0), (If 10), (Jf 0), (Jf 1)) → (∀ k, k ∉ ([5, 6, 7, 8] : List Nat) → Ff k = F k) → (∀ k, k ∉ ([0] : List Nat) → Gf k = G k) → (∀ k, k ∉ ([10] : List Nat) → If k = I k) → (∀ k, k ∉ ([0, 1] : List Nat) → Jf k = J k) → va_P D vwCl (wM a kc F G I J) H → va_S (ad a 21 s.heap.size) s.heap H locs → lv_has ls 7 [(0, .ref (a 0)), (1, .int x1), (2, .int x2), (3, .int x3), (4, .int x4), (5, .int x5)] → W p l e rm_X8_askNow s m args below meth c H locs 0 0 (MQ below (Qi D (wM a kc Ff Gf If Jf) r (ad a 21 s.heap.size)) args s 0 0 (ad a 21 s.heap.size)) (F0 m 13 ls []) := by
  intro F G I J x1 x2 x3 x4 x5 H locs ls hf hfF hfG hfI hfJ hP hS hl
  unfold p_X8_askNow_b13x at hf
  refine lv_iload X.1 X.2.1 dX8_askNow_13 (lv_at hl 5 rfl) ?_
  refine lv_aload_n X.1 X.2.1 dX8_askNow_15 rfl (lv_at hl 0 rfl) ?_
  refine gM_0_12 (F := F) X (v := (F 4)) rfl q_4_121 dX8_askNow_16 hP ?_
  refine lv_icmp_ge (tgt := 69) X.1 X.2.1 dX8_askNow_19 (by decide) (fun c19 => ?_) (fun c19 => ?_)
  · have hf := it_s hf c19
    exact t_X8_askNow_b69 X F G I J x1 x3 x4 H locs ls hf hfF hfG hfI hfJ hP hS (lv_sub hl [0, 1, 3, 4] rfl)
  · have hf := ie_s hf c19
    refine lv_iload_n X.1 X.2.1 dX8_askNow_22 rfl (lv_at hl 2 rfl) ?_
    refine lv_if_eq (tgt := 69) X.1 X.2.1 dX8_askNow_23 (by decide) (fun c23 => ?_) (fun c23 => ?_)
    · have hf := it_s hf c23
      exact t_X8_askNow_b69 X F G I J x1 x3 x4 H locs ls hf hfF hfG hfI hfJ hP hS (lv_sub hl [0, 1, 3, 4] rfl)
    · have hf := ie_s hf c23
      refine lv_aload_n X.1 X.2.1 dX8_askNow_26 rfl (lv_at hl 0 rfl) ?_
      refine lv_iload X.1 X.2.1 dX8_askNow_27 (lv_at hl 5 rfl) ?_
      obtain ⟨r29, ho, hf⟩ := b1_s hf
      refine call_vi (rest := []) X (c_X8_wasSeen F G I J X.2.2.2.2.2.2.2.1 x5 ho) q_6_73 q_6_75 qs_yX8_wasSeen q_1_10 q_6_76 ok_X8_wasSeen rfl 0 rfl rfl ⟨Nat.le_of_ble_eq_true rfl, Nat.le_of_ble_eq_true rfl⟩ rfl rfl hl.1 rfl (Nat.le_of_ble_eq_true rfl) dX8_askNow_29 hP hS (fun H locs hP hS => ?_)
      refine lv_if_ne (tgt := 63) X.1 X.2.1 dX8_askNow_32 (by decide) (fun c32 => ?_) (fun c32 => ?_)
      · have hf := ie_s hf c32
        exact t_X8_askNow_b63 X kh13 F G I J x1 x2 x3 x4 x5 H locs ls hf hfF hfG hfI hfJ hP hS (lv_sub hl [0, 1, 2, 3, 4, 5] rfl)
      · have hf := it_s hf c32
        refine lv_aload_n X.1 X.2.1 dX8_askNow_35 rfl (lv_at hl 0 rfl) ?_
        refine lv_iload X.1 X.2.1 dX8_askNow_36 (lv_at hl 5 rfl) ?_
        refine lv_iload_n X.1 X.2.1 dX8_askNow_38 rfl (lv_at hl 2 rfl) ?_
        obtain ⟨r39, m_loser_39, m_onlyWho_39, m_onlyWhere_39, m_keptFree_39, m_all_39, m_keptSeat_39, m_ways_39, m_next_39, ho, hf⟩ := b9_s hf
        refine call_vi (rest := []) X (c_X8_worstBy F G I J X.2.2.2.2.2.2.2.1 x5 x2 ho) q_6_77 q_6_79 qs_yX8_worstBy q_1_10 q_6_80 ok_X8_worstBy rfl 0 rfl rfl ⟨Nat.le_of_ble_eq_true rfl, Nat.le_of_ble_eq_true rfl⟩ rfl rfl hl.1 rfl (Nat.le_of_ble_eq_true rfl) dX8_askNow_39 hP hS (fun H locs hP hS => ?_)
        refine lv_istore (lv' := [(6, .int r39), (0, .ref (a 0)), (1, .int x1), (2, .int x2), (3, .int x3), (4, .int x4), (5, .int x5)]) X.1 X.2.1 dX8_askNow_42 hl (by decide) rfl (fun ls hl => ?_)
        refine lv_iload_n X.1 X.2.1 dX8_askNow_44 rfl (lv_at hl 4 rfl) ?_
        refine lv_iconst (v := (-1)) X.1 X.2.1 dX8_askNow_45 (by decide) ?_
        refine lv_icmp_eq (tgt := 56) X.1 X.2.1 dX8_askNow_46 (by decide) (fun c46 => ?_) (fun c46 => ?_)
        · have hf := it_s hf c46
          exact t_X8_askNow_b56 X kh13 (va_up (va_up (va_up (va_up F 5 m_loser_39) 6 m_onlyWho_39) 7 m_onlyWhere_39) 8 m_keptFree_39) (va_up G 0 m_all_39) (va_up I 10 m_keptSeat_39) (va_up (va_up J 0 m_ways_39) 1 m_next_39) x1 x2 x5 r39 H locs ls hf (frm_up (frm_up (frm_up (frm_up hfF (by decide)) (by decide)) (by decide)) (by decide)) (frm_up hfG (by decide)) (frm_up hfI (by decide)) (frm_up (frm_up hfJ (by decide)) (by decide)) hP hS (lv_sub hl [1, 2, 3, 6, 0] rfl)
        · have hf := ie_s hf c46
          refine lv_iload X.1 X.2.1 dX8_askNow_49 (lv_at hl 0 rfl) ?_
          refine lv_iload X.1 X.2.1 dX8_askNow_51 (lv_at hl 5 rfl) ?_
          refine lv_icmp_ge (tgt := 63) X.1 X.2.1 dX8_askNow_53 (by decide) (fun c53 => ?_) (fun c53 => ?_)
          · have hf := it_s hf c53
            exact t_X8_askNow_b63 X kh13 (va_up (va_up (va_up (va_up F 5 m_loser_39) 6 m_onlyWho_39) 7 m_onlyWhere_39) 8 m_keptFree_39) (va_up G 0 m_all_39) (va_up I 10 m_keptSeat_39) (va_up (va_up J 0 m_ways_39) 1 m_next_39) x1 x2 x3 x4 x5 H locs ls hf (frm_up (frm_up (frm_up (frm_up hfF (by decide)) (by decide)) (by decide)) (by decide)) (frm_up hfG (by decide)) (frm_up hfI (by decide)) (frm_up (frm_up hfJ (by decide)) (by decide)) hP hS (lv_sub hl [1, 2, 3, 4, 5, 6] rfl)
          · have hf := ie_s hf c53
            exact t_X8_askNow_b56 X kh13 (va_up (va_up (va_up (va_up F 5 m_loser_39) 6 m_onlyWho_39) 7 m_onlyWhere_39) 8 m_keptFree_39) (va_up G 0 m_all_39) (va_up I 10 m_keptSeat_39) (va_up (va_up J 0 m_ways_39) 1 m_next_39) x1 x2 x5 r39 H locs ls hf (frm_up (frm_up (frm_up (frm_up hfF (by decide)) (by decide)) (by decide)) (by decide)) (frm_up hfG (by decide)) (frm_up hfI (by decide)) (frm_up (frm_up hfJ (by decide)) (by decide)) hP hS (lv_sub hl [1, 2, 3, 6, 0] rfl)
set_option maxRecDepth 100000 in
theorem t_X8_askNow_b13 {p : Program} {l : Launch} {e : Env} {s : State} {m : MethodId} {args : Array Value} {below : List Frame} {meth : Method} {c : Code} {D : va_G} {a : Nat → Nat} {kc : Nat → ClassId} (X : cx 21 p s m args meth c D (tyM kc) a cX8_askNow 7 RX8 (some .int))  {Ff : Nat → Int32} {Gf : Nat → Int64} {If : Nat → Nat → Int32} {Jf : Nat → Nat → Int64} {r : Int32} :
    ∀ (n : Nat) (F : Nat → Int32) (G : Nat → Int64) (I : Nat → Nat → Int32) (J : Nat → Nat → Int64) (x1 : Int32) (x2 : Int32) (x3 : Int32) (x4 : Int32) (x5 : Int32) (H : Heap) (locs : List Loc) (ls : Array Slot), p_X8_askNow_b13 n (F 2) (F 4) (F 5) (F 6) (F 7) (F 8) (F 12) (G 0) (I 6) (I 8) (I 9) (I 10) (I 13) (I 14) (J 0) (J 1) x1 x2 x3 x4 x5 = some (r, (Ff 5), (Ff 6), (Ff 7), (Ff 8), (Gf 0), (If 10), (Jf 0), (Jf 1)) → (∀ k, k ∉ ([5, 6, 7, 8] : List Nat) → Ff k = F k) → (∀ k, k ∉ ([0] : List Nat) → Gf k = G k) → (∀ k, k ∉ ([10] : List Nat) → If k = I k) → (∀ k, k ∉ ([0, 1] : List Nat) → Jf k = J k) → va_P D vwCl (wM a kc F G I J) H → va_S (ad a 21 s.heap.size) s.heap H locs → lv_has ls 7 [(0, .ref (a 0)), (1, .int x1), (2, .int x2), (3, .int x3), (4, .int x4), (5, .int x5)] → W p l e rm_X8_askNow s m args below meth c H locs 0 0 (MQ below (Qi D (wM a kc Ff Gf If Jf) r (ad a 21 s.heap.size)) args s 0 0 (ad a 21 s.heap.size)) (F0 m 13 ls []) := by
  intro n
  induction n with
  | zero => intro F G I J x1 x2 x3 x4 x5 H locs ls hf hfF hfG hfI hfJ hP hS hl; exact (nos hf).elim
  | succ n ih => exact t_X8_askNow_b13x X ih
set_option maxHeartbeats 4000000 in
set_option maxRecDepth 100000 in
theorem t_X8_askNow_b0 {p : Program} {l : Launch} {e : Env} {s : State} {m : MethodId} {args : Array Value} {below : List Frame} {meth : Method} {c : Code} {D : va_G} {a : Nat → Nat} {kc : Nat → ClassId} (X : cx 21 p s m args meth c D (tyM kc) a cX8_askNow 7 RX8 (some .int))  {Ff : Nat → Int32} {Gf : Nat → Int64} {If : Nat → Nat → Int32} {Jf : Nat → Nat → Int64} {r : Int32} :
    ∀ (F : Nat → Int32) (G : Nat → Int64) (I : Nat → Nat → Int32) (J : Nat → Nat → Int64) (x1 : Int32) (H : Heap) (locs : List Loc) (ls : Array Slot), p_X8_askNow_b0 (F 2) (F 4) (F 5) (F 6) (F 7) (F 8) (F 12) (G 0) (I 6) (I 8) (I 9) (I 10) (I 13) (I 14) (J 0) (J 1) x1 = some (r, (Ff 5), (Ff 6), (Ff 7), (Ff 8), (Gf 0), (If 10), (Jf 0), (Jf 1)) → (∀ k, k ∉ ([5, 6, 7, 8] : List Nat) → Ff k = F k) → (∀ k, k ∉ ([0] : List Nat) → Gf k = G k) → (∀ k, k ∉ ([10] : List Nat) → If k = I k) → (∀ k, k ∉ ([0, 1] : List Nat) → Jf k = J k) → va_P D vwCl (wM a kc F G I J) H → va_S (ad a 21 s.heap.size) s.heap H locs → lv_has ls 7 [(0, .ref (a 0)), (1, .int x1)] → W p l e rm_X8_askNow s m args below meth c H locs 0 0 (MQ below (Qi D (wM a kc Ff Gf If Jf) r (ad a 21 s.heap.size)) args s 0 0 (ad a 21 s.heap.size)) (F0 m 0 ls []) := by
  intro F G I J x1 H locs ls hf hfF hfG hfI hfJ hP hS hl
  unfold p_X8_askNow_b0 at hf
  refine lv_aload_n X.1 X.2.1 dX8_askNow_0 rfl (lv_at hl 0 rfl) ?_
  obtain ⟨r1, m_loser_1, m_onlyWho_1, m_onlyWhere_1, m_keptFree_1, m_all_1, m_keptSeat_1, m_ways_1, m_next_1, ho, hf⟩ := b9_s hf
  refine call_vi (rest := []) X (c_X8_losersNow F G I J X.2.2.2.2.2.2.2.1  ho) q_6_41 q_6_43 qs_yX8_losersNow q_1_10 q_6_44 ok_X8_losersNow rfl 0 rfl rfl ⟨Nat.le_of_ble_eq_true rfl, Nat.le_of_ble_eq_true rfl⟩ rfl rfl hl.1 rfl (Nat.le_of_ble_eq_true rfl) dX8_askNow_1 hP hS (fun H locs hP hS => ?_)
  refine lv_istore_n (lv' := [(2, .int r1), (0, .ref (a 0)), (1, .int x1)]) X.1 X.2.1 dX8_askNow_4 rfl hl (by decide) rfl (fun ls hl => ?_)
  refine lv_iconst (v := (-1)) X.1 X.2.1 dX8_askNow_5 (by decide) ?_
  refine lv_istore_n (lv' := [(3, .int (-1)), (2, .int r1), (0, .ref (a 0)), (1, .int x1)]) X.1 X.2.1 dX8_askNow_6 rfl hl (by decide) rfl (fun ls hl => ?_)
  refine lv_iconst (v := 0) X.1 X.2.1 dX8_askNow_7 (by decide) ?_
  refine lv_istore (lv' := [(4, .int 0), (3, .int (-1)), (2, .int r1), (0, .ref (a 0)), (1, .int x1)]) X.1 X.2.1 dX8_askNow_8 hl (by decide) rfl (fun ls hl => ?_)
  refine lv_iconst (v := 0) X.1 X.2.1 dX8_askNow_10 (by decide) ?_
  refine lv_istore (lv' := [(5, .int 0), (4, .int 0), (3, .int (-1)), (2, .int r1), (0, .ref (a 0)), (1, .int x1)]) X.1 X.2.1 dX8_askNow_11 hl (by decide) rfl (fun ls hl => ?_)
  exact t_X8_askNow_b13 X 4096 (va_up (va_up (va_up (va_up F 5 m_loser_1) 6 m_onlyWho_1) 7 m_onlyWhere_1) 8 m_keptFree_1) (va_up G 0 m_all_1) (va_up I 10 m_keptSeat_1) (va_up (va_up J 0 m_ways_1) 1 m_next_1) x1 r1 (-1) 0 0 H locs ls hf (frm_up (frm_up (frm_up (frm_up hfF (by decide)) (by decide)) (by decide)) (by decide)) (frm_up hfG (by decide)) (frm_up hfI (by decide)) (frm_up (frm_up hfJ (by decide)) (by decide)) hP hS (lv_sub hl [4, 5, 3, 2, 1, 0] rfl)
set_option maxRecDepth 100000 in
theorem c_X8_askNow {l : Launch} {D : va_G} {a : Nat → Nat} {kc : Nat → ClassId} (F : Nat → Int32) (G : Nat → Int64) (I : Nat → Nat → Int32) (J : Nat → Nat → Int64) (hAp : ∀ i j, i < 21 → j < 21 → a i = a j → i = j) (x1 : Int32) {o0 : Int32} {o1 : Int32} {o2 : Int32} {o3 : Int32} {o4 : Int32} {o5 : Int64} {o6 : Nat → Int32} {o7 : Nat → Int64} {o8 : Nat → Int64} (hf : p_X8_askNow (F 2) (F 4) (F 5) (F 6) (F 7) (F 8) (F 12) (G 0) (I 6) (I 8) (I 9) (I 10) (I 13) (I 14) (J 0) (J 1) x1 = some (o0, o1, o2, o3, o4, o5, o6, o7, o8)) : Ct 21 l yX8_askNow cX8_askNow 7 (some .int) rm_X8_askNow D (tyM kc) a (wM a kc F G I J) [.ref (a 0), .int x1] (Qi D (wM a kc (va_up (va_up (va_up (va_up F 5 o1) 6 o2) 7 o3) 8 o4) (va_up G 0 o5) (va_up I 10 o6) (va_up (va_up J 0 o7) 1 o8)) o0) :=
  Ct.of (by decide +kernel) hAp (Nat.le_of_ble_eq_true rfl) (fun p e s m args below meth c ls X hP hl => t_X8_askNow_b0 X F G I J x1 _ _ _ hf (frm_ul (frm_ul (frm_ul (frm_ul (fun k _ => rfl) (by decide)) (by decide)) (by decide)) (by decide)) (frm_ul (fun k _ => rfl) (by decide)) (frm_ul (fun k _ => rfl) (by decide)) (frm_ul (frm_ul (fun k _ => rfl) (by decide)) (by decide)) hP va_S.rf hl)
abbrev rm_X8_ask : Room := { frames := 7, cells := 0, slots := 0, locals := 176 }
set_option maxHeartbeats 4000000 in
set_option maxRecDepth 100000 in
theorem t_X8_ask_b21 {p : Program} {l : Launch} {e : Env} {s : State} {m : MethodId} {args : Array Value} {below : List Frame} {meth : Method} {c : Code} {D : va_G} {a : Nat → Nat} {kc : Nat → ClassId} (X : cx 21 p s m args meth c D (tyM kc) a cX8_ask 2 RX8 (some .int))  {Ff : Nat → Int32} {Gf : Nat → Int64} {If : Nat → Nat → Int32} {Jf : Nat → Nat → Int64} {r : Int32} :
    ∀ (F : Nat → Int32) (G : Nat → Int64) (I : Nat → Nat → Int32) (J : Nat → Nat → Int64) (t0 : Int32) (H : Heap) (locs : List Loc) (ls : Array Slot), p_X8_ask_b21 (F 1) (F 2) (F 3) (F 4) (F 5) (F 6) (F 7) (F 8) (F 12) (G 0) (I 4) (I 5) (I 6) (I 7) (I 8) (I 9) (I 10) (I 13) (I 14) (J 0) (J 1) t0 = some (r, (Ff 1), (Ff 2), (Ff 3), (Ff 4), (Ff 5), (Ff 6), (Ff 7), (Ff 8), (Gf 0), (If 6), (If 7), (If 8), (If 9), (If 10), (Jf 0), (Jf 1)) → (∀ k, k ∉ ([1, 2, 3, 4, 5, 6, 7, 8] : List Nat) → Ff k = F k) → (∀ k, k ∉ ([0] : List Nat) → Gf k = G k) → (∀ k, k ∉ ([6, 7, 8, 9, 10] : List Nat) → If k = I k) → (∀ k, k ∉ ([0, 1] : List Nat) → Jf k = J k) → va_P D vwCl (wM a kc F G I J) H → va_S (ad a 21 s.heap.size) s.heap H locs → lv_has ls 2 [(0, .ref (a 0))] → W p l e rm_X8_ask s m args below meth c H locs 0 0 (MQ below (Qi D (wM a kc Ff Gf If Jf) r (ad a 21 s.heap.size)) args s 0 0 (ad a 21 s.heap.size)) (F0 m 21 ls [.int t0]) := by
  intro F G I J t0 H locs ls hf hfF hfG hfI hfJ hP hS hl
  unfold p_X8_ask_b21 at hf
  obtain ⟨e0, hf⟩ := o2 hf
  obtain ⟨e1, hf⟩ := o2 hf
  obtain ⟨e2, hf⟩ := o2 hf
  obtain ⟨e3, hf⟩ := o2 hf
  obtain ⟨e4, hf⟩ := o2 hf
  obtain ⟨e5, hf⟩ := o2 hf
  obtain ⟨e6, hf⟩ := o2 hf
  obtain ⟨e7, hf⟩ := o2 hf
  obtain ⟨e8, hf⟩ := o2 hf
  obtain ⟨e9, hf⟩ := o2 hf
  obtain ⟨e10, hf⟩ := o2 hf
  obtain ⟨e11, hf⟩ := o2 hf
  obtain ⟨e12, hf⟩ := o2 hf
  obtain ⟨e13, hf⟩ := o2 hf
  obtain ⟨e14, hf⟩ := o2 hf
  obtain ⟨e15, hf⟩ := o2 hf
  have e16 := o1 hf
  have EF : Ff = F := frm_eq hfF (frm_c (e1).symm (frm_c (e2).symm (frm_c (e3).symm (frm_c (e4).symm (frm_c (e5).symm (frm_c (e6).symm (frm_c (e7).symm (frm_c (e8).symm frm_n))))))))
  have EG : Gf = G := frm_eq hfG (frm_c (e9).symm frm_n)
  have EI : If = I := frm_eq hfI (frm_c (e10).symm (frm_c (e11).symm (frm_c (e12).symm (frm_c (e13).symm (frm_c (e14).symm frm_n)))))
  have EJ : Jf = J := frm_eq hfJ (frm_c (e15).symm (frm_c (e16).symm frm_n))
  exact ret_i X hS (by rw [EF, EG, EI, EJ]; exact hP) e0 dX8_ask_21
set_option maxHeartbeats 4000000 in
set_option maxRecDepth 100000 in
theorem t_X8_ask_b0 {p : Program} {l : Launch} {e : Env} {s : State} {m : MethodId} {args : Array Value} {below : List Frame} {meth : Method} {c : Code} {D : va_G} {a : Nat → Nat} {kc : Nat → ClassId} (X : cx 21 p s m args meth c D (tyM kc) a cX8_ask 2 RX8 (some .int))  {Ff : Nat → Int32} {Gf : Nat → Int64} {If : Nat → Nat → Int32} {Jf : Nat → Nat → Int64} {r : Int32} :
    ∀ (F : Nat → Int32) (G : Nat → Int64) (I : Nat → Nat → Int32) (J : Nat → Nat → Int64) (x1 : Int32) (H : Heap) (locs : List Loc) (ls : Array Slot), p_X8_ask_b0 (F 1) (F 2) (F 3) (F 4) (F 5) (F 6) (F 7) (F 8) (F 12) (G 0) (I 4) (I 5) (I 6) (I 7) (I 8) (I 9) (I 10) (I 13) (I 14) (J 0) (J 1) x1 = some (r, (Ff 1), (Ff 2), (Ff 3), (Ff 4), (Ff 5), (Ff 6), (Ff 7), (Ff 8), (Gf 0), (If 6), (If 7), (If 8), (If 9), (If 10), (Jf 0), (Jf 1)) → (∀ k, k ∉ ([1, 2, 3, 4, 5, 6, 7, 8] : List Nat) → Ff k = F k) → (∀ k, k ∉ ([0] : List Nat) → Gf k = G k) → (∀ k, k ∉ ([6, 7, 8, 9, 10] : List Nat) → If k = I k) → (∀ k, k ∉ ([0, 1] : List Nat) → Jf k = J k) → va_P D vwCl (wM a kc F G I J) H → va_S (ad a 21 s.heap.size) s.heap H locs → lv_has ls 2 [(0, .ref (a 0)), (1, .int x1)] → W p l e rm_X8_ask s m args below meth c H locs 0 0 (MQ below (Qi D (wM a kc Ff Gf If Jf) r (ad a 21 s.heap.size)) args s 0 0 (ad a 21 s.heap.size)) (F0 m 0 ls []) := by
  intro F G I J x1 H locs ls hf hfF hfG hfI hfJ hP hS hl
  unfold p_X8_ask_b0 at hf
  refine lv_aload_n X.1 X.2.1 dX8_ask_0 rfl (lv_at hl 0 rfl) ?_
  obtain ⟨m_at_1, m_seats_1, m_rows_1, m_people_1, m_sorts_1, m_rowOf_1, m_own_1, m_kinds_1, ho, hf⟩ := b8_s hf
  refine call_vv (rest := []) X (c_X8_find F G I J X.2.2.2.2.2.2.2.1  ho) q_5_69 q_5_71 qs_yX8_find q_1_10 q_5_72 ok_X8_find rfl 0 rfl rfl ⟨Nat.le_of_ble_eq_true rfl, Nat.le_of_ble_eq_true rfl⟩ rfl rfl hl.1 rfl (Nat.le_of_ble_eq_true rfl) dX8_ask_1 hP hS (fun H locs hP hS => ?_)
  refine lv_iload_n X.1 X.2.1 dX8_ask_4 rfl (lv_at hl 1 rfl) ?_
  obtain ⟨r5, ho, hf⟩ := b1_s hf
  refine call_si (rest := []) X (c_X8_isTwo x1 ho) q_5_22 q_5_23 q_1_10 q_5_24 ok_X8_isTwo rfl ⟨Nat.le_of_ble_eq_true rfl, Nat.le_of_ble_eq_true rfl⟩ rfl rfl hl.1 rfl (Nat.le_of_ble_eq_true rfl) dX8_ask_5 hP hS (fun H locs hP hS => ?_)
  refine lv_if_eq (tgt := 19) X.1 X.2.1 dX8_ask_8 (by decide) (fun c8 => ?_) (fun c8 => ?_)
  · have hf := it_s hf c8
    refine lv_bipush (v := (-2)) X.1 X.2.1 dX8_ask_19 (by decide) ?_
    exact t_X8_ask_b21 X (va_up (va_up (va_up (va_up F 1 m_at_1) 2 m_seats_1) 3 m_rows_1) 4 m_people_1) G (va_up (va_up (va_up (va_up I 6 m_sorts_1) 7 m_rowOf_1) 8 m_own_1) 9 m_kinds_1) J (-2) H locs ls hf (frm_up (frm_up (frm_up (frm_up hfF (by decide)) (by decide)) (by decide)) (by decide)) hfG (frm_up (frm_up (frm_up (frm_up hfI (by decide)) (by decide)) (by decide)) (by decide)) hfJ hP hS (lv_sub hl [0] rfl)
  · have hf := ie_s hf c8
    refine lv_aload_n X.1 X.2.1 dX8_ask_11 rfl (lv_at hl 0 rfl) ?_
    refine lv_iload_n X.1 X.2.1 dX8_ask_12 rfl (lv_at hl 1 rfl) ?_
    obtain ⟨r13, m_loser_13, m_onlyWho_13, m_onlyWhere_13, m_keptFree_13, m_all_13, m_keptSeat_13, m_ways_13, m_next_13, ho, hf⟩ := b9_s hf
    refine call_vi (rest := []) X (c_X8_askNow (va_up (va_up (va_up (va_up F 1 m_at_1) 2 m_seats_1) 3 m_rows_1) 4 m_people_1) G (va_up (va_up (va_up (va_up I 6 m_sorts_1) 7 m_rowOf_1) 8 m_own_1) 9 m_kinds_1) J X.2.2.2.2.2.2.2.1 x1 ho) q_6_69 q_6_71 qs_yX8_askNow q_1_10 q_6_72 ok_X8_askNow rfl 0 rfl rfl ⟨Nat.le_of_ble_eq_true rfl, Nat.le_of_ble_eq_true rfl⟩ rfl rfl hl.1 rfl (Nat.le_of_ble_eq_true rfl) dX8_ask_13 hP hS (fun H locs hP hS => ?_)
    refine lv_goto (tgt := 21) X.1 X.2.1 dX8_ask_16 (by decide) ?_
    exact t_X8_ask_b21 X (va_up (va_up (va_up (va_up (va_up (va_up (va_up (va_up F 1 m_at_1) 2 m_seats_1) 3 m_rows_1) 4 m_people_1) 5 m_loser_13) 6 m_onlyWho_13) 7 m_onlyWhere_13) 8 m_keptFree_13) (va_up G 0 m_all_13) (va_up (va_up (va_up (va_up (va_up I 6 m_sorts_1) 7 m_rowOf_1) 8 m_own_1) 9 m_kinds_1) 10 m_keptSeat_13) (va_up (va_up J 0 m_ways_13) 1 m_next_13) r13 H locs ls hf (frm_up (frm_up (frm_up (frm_up (frm_up (frm_up (frm_up (frm_up hfF (by decide)) (by decide)) (by decide)) (by decide)) (by decide)) (by decide)) (by decide)) (by decide)) (frm_up hfG (by decide)) (frm_up (frm_up (frm_up (frm_up (frm_up hfI (by decide)) (by decide)) (by decide)) (by decide)) (by decide)) (frm_up (frm_up hfJ (by decide)) (by decide)) hP hS (lv_sub hl [0] rfl)
set_option maxRecDepth 100000 in
theorem c_X8_ask {l : Launch} {D : va_G} {a : Nat → Nat} {kc : Nat → ClassId} (F : Nat → Int32) (G : Nat → Int64) (I : Nat → Nat → Int32) (J : Nat → Nat → Int64) (hAp : ∀ i j, i < 21 → j < 21 → a i = a j → i = j) (x1 : Int32) {o0 : Int32} {o1 : Int32} {o2 : Int32} {o3 : Int32} {o4 : Int32} {o5 : Int32} {o6 : Int32} {o7 : Int32} {o8 : Int32} {o9 : Int64} {o10 : Nat → Int32} {o11 : Nat → Int32} {o12 : Nat → Int32} {o13 : Nat → Int32} {o14 : Nat → Int32} {o15 : Nat → Int64} {o16 : Nat → Int64} (hf : p_X8_ask (F 1) (F 2) (F 3) (F 4) (F 5) (F 6) (F 7) (F 8) (F 12) (G 0) (I 4) (I 5) (I 6) (I 7) (I 8) (I 9) (I 10) (I 13) (I 14) (J 0) (J 1) x1 = some (o0, o1, o2, o3, o4, o5, o6, o7, o8, o9, o10, o11, o12, o13, o14, o15, o16)) : Ct 21 l yX8_ask cX8_ask 2 (some .int) rm_X8_ask D (tyM kc) a (wM a kc F G I J) [.ref (a 0), .int x1] (Qi D (wM a kc (va_up (va_up (va_up (va_up (va_up (va_up (va_up (va_up F 1 o1) 2 o2) 3 o3) 4 o4) 5 o5) 6 o6) 7 o7) 8 o8) (va_up G 0 o9) (va_up (va_up (va_up (va_up (va_up I 6 o10) 7 o11) 8 o12) 9 o13) 10 o14) (va_up (va_up J 0 o15) 1 o16)) o0) :=
  Ct.of (by decide +kernel) hAp (Nat.le_of_ble_eq_true rfl) (fun p e s m args below meth c ls X hP hl => t_X8_ask_b0 X F G I J x1 _ _ _ hf (frm_ul (frm_ul (frm_ul (frm_ul (frm_ul (frm_ul (frm_ul (frm_ul (fun k _ => rfl) (by decide)) (by decide)) (by decide)) (by decide)) (by decide)) (by decide)) (by decide)) (by decide)) (frm_ul (fun k _ => rfl) (by decide)) (frm_ul (frm_ul (frm_ul (frm_ul (frm_ul (fun k _ => rfl) (by decide)) (by decide)) (by decide)) (by decide)) (by decide)) (frm_ul (frm_ul (fun k _ => rfl) (by decide)) (by decide)) hP va_S.rf hl)
abbrev rm_X8_turnedOf : Room := { frames := 1, cells := 0, slots := 0, locals := 30 }
set_option maxHeartbeats 4000000 in
set_option maxRecDepth 100000 in
theorem t_X8_turnedOf_b5x {p : Program} {l : Launch} {e : Env} {s : State} {m : MethodId} {args : Array Value} {below : List Frame} {meth : Method} {c : Code} {D : va_G} {a : Nat → Nat} (X : cx 0 p s m args meth c D [] a cX8_turnedOf 6 RX8 (some .long))   {r : Int64} {K5 : Int32 → Int32 → Int64 → Int32 → Option (Int64)} (kh5 : ∀  (x1 : Int32) (x2 : Int32) (x3 : Int64) (x5 : Int32) (H : Heap) (locs : List Loc) (ls : Array Slot), K5  x1 x2 x3 x5 = some r → va_P D vwCl [] H → va_S (ad a 0 s.heap.size) s.heap H locs → lv_has ls 6 [(1, .int x1), (2, .int x2), (3, .long x3), (5, .int x5)] → W p l e rm_X8_turnedOf s m args below meth c H locs 0 0 (MQ below (Ql D [] r (ad a 0 s.heap.size)) args s 0 0 (ad a 0 s.heap.size)) (F0 m 5 ls [])) :
    ∀  (x1 : Int32) (x2 : Int32) (x3 : Int64) (x5 : Int32) (H : Heap) (locs : List Loc) (ls : Array Slot), p_X8_turnedOf_b5x K5  x1 x2 x3 x5 = some r → va_P D vwCl [] H → va_S (ad a 0 s.heap.size) s.heap H locs → lv_has ls 6 [(1, .int x1), (2, .int x2), (3, .long x3), (5, .int x5)] → W p l e rm_X8_turnedOf s m args below meth c H locs 0 0 (MQ below (Ql D [] r (ad a 0 s.heap.size)) args s 0 0 (ad a 0 s.heap.size)) (F0 m 5 ls []) := by
  intro  x1 x2 x3 x5 H locs ls hf  hP hS hl
  unfold p_X8_turnedOf_b5x at hf
  refine lv_iload X.1 X.2.1 dX8_turnedOf_5 (lv_at hl 3 rfl) ?_
  refine lv_iload_n X.1 X.2.1 dX8_turnedOf_7 rfl (lv_at hl 0 rfl) ?_
  refine lv_icmp_le (tgt := 30) X.1 X.2.1 dX8_turnedOf_8 (by decide) (fun c8 => ?_) (fun c8 => ?_)
  · have hf := it_s hf c8
    refine lv_lload_n X.1 X.2.1 dX8_turnedOf_30 rfl (lv_at hl 2 rfl) ?_
    refine lv_ldc2 (v := 2520) X.1 X.2.1 X.2.2.2.2.1 (X.2.2.2.2.2.1 _ q_6_89) dX8_turnedOf_31 ?_
    refine lv_iload_n X.1 X.2.1 dX8_turnedOf_34 rfl (lv_at hl 1 rfl) ?_
    obtain ⟨r35, ho, hf⟩ := b1_s hf
    refine call_sl (rest := []) X (c_X8_part x3 2520 x2 ho) q_5_155 q_5_156 q_1_10 q_5_157 ok_X8_part rfl ⟨Nat.le_of_ble_eq_true rfl, Nat.le_of_ble_eq_true rfl⟩ rfl rfl hl.1 rfl (Nat.le_of_ble_eq_true rfl) dX8_turnedOf_35 hP hS (fun H locs hP hS => ?_)
    have e0 := o1 hf
    exact ret_l X hS hP e0 dX8_turnedOf_38
  · have hf := ie_s hf c8
    refine lv_lload_n X.1 X.2.1 dX8_turnedOf_11 rfl (lv_at hl 2 rfl) ?_
    refine lv_ldc2 (v := 2520) X.1 X.2.1 X.2.2.2.2.1 (X.2.2.2.2.2.1 _ q_6_89) dX8_turnedOf_12 ?_
    refine lv_iload X.1 X.2.1 dX8_turnedOf_15 (lv_at hl 3 rfl) ?_
    refine lv_i2l X.1 X.2.1 dX8_turnedOf_17 rfl ?_
    obtain ⟨h18, hf⟩ := gd_s hf
    refine lv_ldiv X.1 X.2.1 dX8_turnedOf_18 (of_decide_eq_true h18) ?_
    refine lv_iload_n X.1 X.2.1 dX8_turnedOf_19 rfl (lv_at hl 0 rfl) ?_
    refine lv_i2l X.1 X.2.1 dX8_turnedOf_20 rfl ?_
    refine lv_lmul X.1 X.2.1 dX8_turnedOf_21 ?_
    refine lv_ladd X.1 X.2.1 dX8_turnedOf_22 ?_
    refine nm_l hf (fun x23 hf => ?_)
    refine lv_lstore_n (lv' := [(3, .long x23), (1, .int x1), (2, .int x2), (5, .int x5)]) X.1 X.2.1 dX8_turnedOf_23 rfl hl (by decide) rfl (fun ls hl => ?_)
    obtain ⟨x24, ex24, hf⟩ := nm_x hf
    refine lv_iinc (v := x24) (lv' := [(5, .int x24), (3, .long x23), (1, .int x1), (2, .int x2)]) X.1 X.2.1 dX8_turnedOf_24 hl (k := 3) rfl ex24 (by decide) rfl (fun ls hl => ?_)
    refine lv_goto (tgt := 5) X.1 X.2.1 dX8_turnedOf_27 (by decide) ?_
    exact kh5  x1 x2 x23 x24 H locs ls hf  hP hS (lv_sub hl [2, 3, 1, 0] rfl)
set_option maxRecDepth 100000 in
theorem t_X8_turnedOf_b5 {p : Program} {l : Launch} {e : Env} {s : State} {m : MethodId} {args : Array Value} {below : List Frame} {meth : Method} {c : Code} {D : va_G} {a : Nat → Nat} (X : cx 0 p s m args meth c D [] a cX8_turnedOf 6 RX8 (some .long))   {r : Int64} :
    ∀ (n : Nat)  (x1 : Int32) (x2 : Int32) (x3 : Int64) (x5 : Int32) (H : Heap) (locs : List Loc) (ls : Array Slot), p_X8_turnedOf_b5 n  x1 x2 x3 x5 = some r → va_P D vwCl [] H → va_S (ad a 0 s.heap.size) s.heap H locs → lv_has ls 6 [(1, .int x1), (2, .int x2), (3, .long x3), (5, .int x5)] → W p l e rm_X8_turnedOf s m args below meth c H locs 0 0 (MQ below (Ql D [] r (ad a 0 s.heap.size)) args s 0 0 (ad a 0 s.heap.size)) (F0 m 5 ls []) := by
  intro n
  induction n with
  | zero => intro  x1 x2 x3 x5 H locs ls hf  hP hS hl; exact (nos hf).elim
  | succ n ih => exact t_X8_turnedOf_b5x X ih
set_option maxHeartbeats 4000000 in
set_option maxRecDepth 100000 in
theorem t_X8_turnedOf_b0 {p : Program} {l : Launch} {e : Env} {s : State} {m : MethodId} {args : Array Value} {below : List Frame} {meth : Method} {c : Code} {D : va_G} {a : Nat → Nat} (X : cx 0 p s m args meth c D [] a cX8_turnedOf 6 RX8 (some .long))   {r : Int64} :
    ∀  (x0 : Int32) (x1 : Int32) (x2 : Int32) (H : Heap) (locs : List Loc) (ls : Array Slot), p_X8_turnedOf_b0  x0 x1 x2 = some r → va_P D vwCl [] H → va_S (ad a 0 s.heap.size) s.heap H locs → lv_has ls 6 [(0, .int x0), (1, .int x1), (2, .int x2)] → W p l e rm_X8_turnedOf s m args below meth c H locs 0 0 (MQ below (Ql D [] r (ad a 0 s.heap.size)) args s 0 0 (ad a 0 s.heap.size)) (F0 m 0 ls []) := by
  intro  x0 x1 x2 H locs ls hf  hP hS hl
  unfold p_X8_turnedOf_b0 at hf
  refine lv_lconst (v := 0) X.1 X.2.1 dX8_turnedOf_0 (by decide) ?_
  refine lv_lstore_n (lv' := [(3, .long 0), (0, .int x0), (1, .int x1), (2, .int x2)]) X.1 X.2.1 dX8_turnedOf_1 rfl hl (by decide) rfl (fun ls hl => ?_)
  refine lv_iload_n X.1 X.2.1 dX8_turnedOf_2 rfl (lv_at hl 1 rfl) ?_
  refine lv_istore (lv' := [(5, .int x0), (3, .long 0), (0, .int x0), (1, .int x1), (2, .int x2)]) X.1 X.2.1 dX8_turnedOf_3 hl (by decide) rfl (fun ls hl => ?_)
  exact t_X8_turnedOf_b5 X 4096  x1 x2 0 x0 H locs ls hf  hP hS (lv_sub hl [3, 4, 1, 0] rfl)
set_option maxRecDepth 100000 in
theorem c_X8_turnedOf {l : Launch} {D : va_G} {a : Nat → Nat}  (x0 : Int32) (x1 : Int32) (x2 : Int32) {o0 : Int64} (hf : p_X8_turnedOf  x0 x1 x2 = some o0) : Ct 0 l yX8_turnedOf cX8_turnedOf 6 (some .long) rm_X8_turnedOf D [] a [] [.int x0, .int x1, .int x2] (Ql D [] o0) :=
  Ct.of (by decide +kernel) (fun i j h => absurd h (Nat.not_lt_zero i)) (Nat.le_of_ble_eq_true rfl) (fun p e s m args below meth c ls X hP hl => t_X8_turnedOf_b0 X  x0 x1 x2 _ _ _ hf  hP va_S.rf hl)
abbrev rm_X8_turned : Room := { frames := 2, cells := 0, slots := 0, locals := 55 }
set_option maxHeartbeats 4000000 in
set_option maxRecDepth 100000 in
theorem t_X8_turned_b44 {p : Program} {l : Launch} {e : Env} {s : State} {m : MethodId} {args : Array Value} {below : List Frame} {meth : Method} {c : Code} {D : va_G} {a : Nat → Nat} {kc : Nat → ClassId} (X : cx 21 p s m args meth c D (tyM kc) a cX8_turned 4 RX8 (some .long)) {F : Nat → Int32} {G : Nat → Int64} {I : Nat → Nat → Int32} {J : Nat → Nat → Int64}  {r : Int64} :
    ∀  (t0 : Int64) (H : Heap) (locs : List Loc) (ls : Array Slot), p_X8_turned_b44  t0 = some r → va_P D vwCl (wM a kc F G I J) H → va_S (ad a 21 s.heap.size) s.heap H locs → lv_has ls 4 [(0, .ref (a 0))] → W p l e rm_X8_turned s m args below meth c H locs 0 0 (MQ below (Ql D (wM a kc F G I J) r (ad a 21 s.heap.size)) args s 0 0 (ad a 21 s.heap.size)) (F0 m 44 ls [.long t0]) := by
  intro  t0 H locs ls hf  hP hS hl
  unfold p_X8_turned_b44 at hf
  have e0 := o1 hf
  exact ret_l X hS hP e0 dX8_turned_44
set_option maxHeartbeats 4000000 in
set_option maxRecDepth 100000 in
theorem t_X8_turned_b39 {p : Program} {l : Launch} {e : Env} {s : State} {m : MethodId} {args : Array Value} {below : List Frame} {meth : Method} {c : Code} {D : va_G} {a : Nat → Nat} {kc : Nat → ClassId} (X : cx 21 p s m args meth c D (tyM kc) a cX8_turned 4 RX8 (some .long)) {F : Nat → Int32} {G : Nat → Int64} {I : Nat → Nat → Int32} {J : Nat → Nat → Int64}  {r : Int64} :
    ∀   (H : Heap) (locs : List Loc) (ls : Array Slot), p_X8_turned_b39   = some r → va_P D vwCl (wM a kc F G I J) H → va_S (ad a 21 s.heap.size) s.heap H locs → lv_has ls 4 [(0, .ref (a 0))] → W p l e rm_X8_turned s m args below meth c H locs 0 0 (MQ below (Ql D (wM a kc F G I J) r (ad a 21 s.heap.size)) args s 0 0 (ad a 21 s.heap.size)) (F0 m 39 ls []) := by
  intro   H locs ls hf  hP hS hl
  unfold p_X8_turned_b39 at hf
  refine lv_bipush (v := (-2)) X.1 X.2.1 dX8_turned_39 (by decide) ?_
  obtain ⟨r41, ho, hf⟩ := b1_s hf
  refine call_sl (rest := []) X (c_X8_no (-2) ho) q_5_158 q_5_159 q_1_10 q_5_160 ok_X8_no rfl ⟨Nat.le_of_ble_eq_true rfl, Nat.le_of_ble_eq_true rfl⟩ rfl rfl hl.1 rfl (Nat.le_of_ble_eq_true rfl) dX8_turned_41 hP hS (fun H locs hP hS => ?_)
  exact t_X8_turned_b44 X  r41 H locs ls hf  hP hS (lv_sub hl [0] rfl)
set_option maxHeartbeats 4000000 in
set_option maxRecDepth 100000 in
theorem t_X8_turned_b0 {p : Program} {l : Launch} {e : Env} {s : State} {m : MethodId} {args : Array Value} {below : List Frame} {meth : Method} {c : Code} {D : va_G} {a : Nat → Nat} {kc : Nat → ClassId} (X : cx 21 p s m args meth c D (tyM kc) a cX8_turned 4 RX8 (some .long)) {F : Nat → Int32} {G : Nat → Int64} {I : Nat → Nat → Int32} {J : Nat → Nat → Int64}  {r : Int64} :
    ∀  (x1 : Int32) (x2 : Int32) (x3 : Int32) (H : Heap) (locs : List Loc) (ls : Array Slot), p_X8_turned_b0  x1 x2 x3 = some r → va_P D vwCl (wM a kc F G I J) H → va_S (ad a 21 s.heap.size) s.heap H locs → lv_has ls 4 [(0, .ref (a 0)), (1, .int x1), (2, .int x2), (3, .int x3)] → W p l e rm_X8_turned s m args below meth c H locs 0 0 (MQ below (Ql D (wM a kc F G I J) r (ad a 21 s.heap.size)) args s 0 0 (ad a 21 s.heap.size)) (F0 m 0 ls []) := by
  intro  x1 x2 x3 H locs ls hf  hP hS hl
  unfold p_X8_turned_b0 at hf
  refine lv_iload_n X.1 X.2.1 dX8_turned_0 rfl (lv_at hl 1 rfl) ?_
  refine lv_i2l X.1 X.2.1 dX8_turned_1 rfl ?_
  refine lv_lconst (v := 1) X.1 X.2.1 dX8_turned_2 (by decide) ?_
  refine lv_ldc2 (v := 9) X.1 X.2.1 X.2.2.2.2.1 (X.2.2.2.2.2.1 _ q_6_85) dX8_turned_3 ?_
  obtain ⟨r6, ho, hf⟩ := b1_s hf
  refine call_si (rest := []) X (c_X8_in x1.toInt64 1 9 ho) q_4_226 q_4_227 q_1_10 q_4_228 ok_X8_in rfl ⟨Nat.le_of_ble_eq_true rfl, Nat.le_of_ble_eq_true rfl⟩ rfl rfl hl.1 rfl (Nat.le_of_ble_eq_true rfl) dX8_turned_6 hP hS (fun H locs hP hS => ?_)
  refine lv_if_eq (tgt := 39) X.1 X.2.1 dX8_turned_9 (by decide) (fun c9 => ?_) (fun c9 => ?_)
  · have hf := it_s hf c9
    exact t_X8_turned_b39 X   H locs ls hf  hP hS (lv_sub hl [0] rfl)
  · have hf := ie_s hf c9
    refine lv_iload_n X.1 X.2.1 dX8_turned_12 rfl (lv_at hl 2 rfl) ?_
    refine lv_i2l X.1 X.2.1 dX8_turned_13 rfl ?_
    refine lv_lconst (v := 0) X.1 X.2.1 dX8_turned_14 (by decide) ?_
    refine lv_iload_n X.1 X.2.1 dX8_turned_15 rfl (lv_at hl 1 rfl) ?_
    refine lv_i2l X.1 X.2.1 dX8_turned_16 rfl ?_
    obtain ⟨r17, ho, hf⟩ := b1_s hf
    refine call_si (rest := []) X (c_X8_in x2.toInt64 0 x1.toInt64 ho) q_4_226 q_4_227 q_1_10 q_4_228 ok_X8_in rfl ⟨Nat.le_of_ble_eq_true rfl, Nat.le_of_ble_eq_true rfl⟩ rfl rfl hl.1 rfl (Nat.le_of_ble_eq_true rfl) dX8_turned_17 hP hS (fun H locs hP hS => ?_)
    refine lv_if_eq (tgt := 39) X.1 X.2.1 dX8_turned_20 (by decide) (fun c20 => ?_) (fun c20 => ?_)
    · have hf := it_s hf c20
      exact t_X8_turned_b39 X   H locs ls hf  hP hS (lv_sub hl [0] rfl)
    · have hf := ie_s hf c20
      refine lv_iload_n X.1 X.2.1 dX8_turned_23 rfl (lv_at hl 3 rfl) ?_
      obtain ⟨r24, ho, hf⟩ := b1_s hf
      refine call_si (rest := []) X (c_X8_isTwo x3 ho) q_5_22 q_5_23 q_1_10 q_5_24 ok_X8_isTwo rfl ⟨Nat.le_of_ble_eq_true rfl, Nat.le_of_ble_eq_true rfl⟩ rfl rfl hl.1 rfl (Nat.le_of_ble_eq_true rfl) dX8_turned_24 hP hS (fun H locs hP hS => ?_)
      refine lv_if_eq (tgt := 39) X.1 X.2.1 dX8_turned_27 (by decide) (fun c27 => ?_) (fun c27 => ?_)
      · have hf := it_s hf c27
        exact t_X8_turned_b39 X   H locs ls hf  hP hS (lv_sub hl [0] rfl)
      · have hf := ie_s hf c27
        refine lv_iload_n X.1 X.2.1 dX8_turned_30 rfl (lv_at hl 1 rfl) ?_
        refine lv_iload_n X.1 X.2.1 dX8_turned_31 rfl (lv_at hl 2 rfl) ?_
        refine lv_iload_n X.1 X.2.1 dX8_turned_32 rfl (lv_at hl 3 rfl) ?_
        obtain ⟨r33, ho, hf⟩ := b1_s hf
        refine call_sl (rest := []) X (c_X8_turnedOf x1 x2 x3 ho) q_6_86 q_6_87 q_1_10 q_6_88 ok_X8_turnedOf rfl ⟨Nat.le_of_ble_eq_true rfl, Nat.le_of_ble_eq_true rfl⟩ rfl rfl hl.1 rfl (Nat.le_of_ble_eq_true rfl) dX8_turned_33 hP hS (fun H locs hP hS => ?_)
        refine lv_goto (tgt := 44) X.1 X.2.1 dX8_turned_36 (by decide) ?_
        exact t_X8_turned_b44 X  r33 H locs ls hf  hP hS (lv_sub hl [0] rfl)
set_option maxRecDepth 100000 in
theorem c_X8_turned {l : Launch} {D : va_G} {a : Nat → Nat} {kc : Nat → ClassId} (F : Nat → Int32) (G : Nat → Int64) (I : Nat → Nat → Int32) (J : Nat → Nat → Int64) (hAp : ∀ i j, i < 21 → j < 21 → a i = a j → i = j) (x1 : Int32) (x2 : Int32) (x3 : Int32) {o0 : Int64} (hf : p_X8_turned  x1 x2 x3 = some o0) : Ct 21 l yX8_turned cX8_turned 4 (some .long) rm_X8_turned D (tyM kc) a (wM a kc F G I J) [.ref (a 0), .int x1, .int x2, .int x3] (Ql D (wM a kc F G I J) o0) :=
  Ct.of (by decide +kernel) hAp (Nat.le_of_ble_eq_true rfl) (fun p e s m args below meth c ls X hP hl => t_X8_turned_b0 X  x1 x2 x3 _ _ _ hf  hP va_S.rf hl)
abbrev rm_X8_lot : Room := { frames := 0, cells := 0, slots := 0, locals := 0 }
set_option maxHeartbeats 4000000 in
set_option maxRecDepth 100000 in
theorem t_X8_lot_b0 {p : Program} {l : Launch} {e : Env} {s : State} {m : MethodId} {args : Array Value} {below : List Frame} {meth : Method} {c : Code} {D : va_G} {a : Nat → Nat} {kc : Nat → ClassId} (X : cx 21 p s m args meth c D (tyM kc) a cX8_lot 2 RX8 (some .int)) {G : Nat → Int64} {I : Nat → Nat → Int32} {J : Nat → Nat → Int64} {Ff : Nat → Int32} {r : Int32} :
    ∀ (F : Nat → Int32) (x1 : Int32) (H : Heap) (locs : List Loc) (ls : Array Slot), p_X8_lot_b0 (F 13) x1 = some (r, (Ff 13)) → (∀ k, k ∉ ([13] : List Nat) → Ff k = F k) → va_P D vwCl (wM a kc F G I J) H → va_S (ad a 21 s.heap.size) s.heap H locs → lv_has ls 2 [(0, .ref (a 0)), (1, .int x1)] → W p l e rm_X8_lot s m args below meth c H locs 0 0 (MQ below (Qi D (wM a kc Ff G I J) r (ad a 21 s.heap.size)) args s 0 0 (ad a 21 s.heap.size)) (F0 m 0 ls []) := by
  intro F x1 H locs ls hf hfF hP hS hl
  unfold p_X8_lot_b0 at hf
  refine lv_aload_n X.1 X.2.1 dX8_lot_0 rfl (lv_at hl 0 rfl) ?_
  refine lv_ldcw (v := 1103515245) X.1 X.2.1 X.2.2.2.2.1 (X.2.2.2.2.2.1 _ q_6_106) dX8_lot_1 ?_
  refine lv_aload_n X.1 X.2.1 dX8_lot_4 rfl (lv_at hl 0 rfl) ?_
  refine gM_0_34 (F := F) X (v := (F 13)) rfl q_4_143 dX8_lot_5 hP ?_
  refine lv_imul X.1 X.2.1 dX8_lot_8 ?_
  refine lv_sipush (v := 12345) X.1 X.2.1 dX8_lot_9 (by decide) ?_
  refine lv_iadd X.1 X.2.1 dX8_lot_12 ?_
  refine nm_i hf (fun m_seedNow_13 hf => ?_)
  refine pM_0_34 X q_4_143 dX8_lot_13 hP hS (fun H locs hP hS => ?_)
  refine lv_aload_n X.1 X.2.1 dX8_lot_16 rfl (lv_at hl 0 rfl) ?_
  refine gM_0_34 (F := (va_up F 13 m_seedNow_13)) X (v := m_seedNow_13) rfl q_4_143 dX8_lot_17 hP ?_
  refine lv_bipush (v := 16) X.1 X.2.1 dX8_lot_20 (by decide) ?_
  refine lv_iushr X.1 X.2.1 dX8_lot_22 rfl ?_
  refine lv_iload_n X.1 X.2.1 dX8_lot_23 rfl (lv_at hl 1 rfl) ?_
  obtain ⟨h24, hf⟩ := gd_s hf
  refine lv_irem X.1 X.2.1 dX8_lot_24 (of_decide_eq_true h24) ?_
  obtain ⟨e0, hf⟩ := o2 hf
  have e1 := o1 hf
  have EF : Ff = (va_up F 13 m_seedNow_13) := frm_eq (frm_up hfF (by decide)) (frm_c (e1).symm frm_n)
  exact ret_i X hS (by rw [EF]; exact hP) e0 dX8_lot_25
set_option maxRecDepth 100000 in
theorem c_X8_lot {l : Launch} {D : va_G} {a : Nat → Nat} {kc : Nat → ClassId} (F : Nat → Int32) (G : Nat → Int64) (I : Nat → Nat → Int32) (J : Nat → Nat → Int64) (hAp : ∀ i j, i < 21 → j < 21 → a i = a j → i = j) (x1 : Int32) {o0 : Int32} {o1 : Int32} (hf : p_X8_lot (F 13) x1 = some (o0, o1)) : Ct 21 l yX8_lot cX8_lot 2 (some .int) rm_X8_lot D (tyM kc) a (wM a kc F G I J) [.ref (a 0), .int x1] (Qi D (wM a kc (va_up F 13 o1) G I J) o0) :=
  Ct.of (by decide +kernel) hAp (Nat.le_of_ble_eq_true rfl) (fun p e s m args below meth c ls X hP hl => t_X8_lot_b0 X F x1 _ _ _ hf (frm_ul (fun k _ => rfl) (by decide)) hP va_S.rf hl)
abbrev rm_X8_findEvening : Room := { frames := 3, cells := 0, slots := 0, locals := 69 }
set_option maxHeartbeats 4000000 in
set_option maxRecDepth 100000 in
theorem t_X8_findEvening_b135 {p : Program} {l : Launch} {e : Env} {s : State} {m : MethodId} {args : Array Value} {below : List Frame} {meth : Method} {c : Code} {D : va_G} {a : Nat → Nat} {kc : Nat → ClassId} (X : cx 21 p s m args meth c D (tyM kc) a cX8_findEvening 9 RX8 (some .int)) {G : Nat → Int64} {J : Nat → Nat → Int64} {Ff : Nat → Int32} {If : Nat → Nat → Int32} {r : Int32} {K12 : Int32 → Int32 → Int32 → (Nat → Int32) → (Nat → Int32) → (Nat → Int32) → (Nat → Int32) → Int32 → Int32 → Int32 → Option (Int32 × Int32 × (Nat → Int32))} (kh12 : ∀ (F : Nat → Int32) (I : Nat → Nat → Int32) (x2 : Int32) (x3 : Int32) (x4 : Int32) (H : Heap) (locs : List Loc) (ls : Array Slot), K12 (F 2) (F 4) (F 13) (I 6) (I 8) (I 9) (I 15) x2 x3 x4 = some (r, (Ff 13), (If 15)) → (∀ k, k ∉ ([13] : List Nat) → Ff k = F k) → (∀ k, k ∉ ([15] : List Nat) → If k = I k) → va_P D vwCl (wM a kc F G I J) H → va_S (ad a 21 s.heap.size) s.heap H locs → lv_has ls 9 [(0, .ref (a 0)), (2, .int x2), (3, .int x3), (4, .int x4)] → W p l e rm_X8_findEvening s m args below meth c H locs 0 0 (MQ below (Qi D (wM a kc Ff G If J) r (ad a 21 s.heap.size)) args s 0 0 (ad a 21 s.heap.size)) (F0 m 12 ls [])) {K103 : Int32 → Int32 → Int32 → (Nat → Int32) → (Nat → Int32) → (Nat → Int32) → (Nat → Int32) → Int32 → Int32 → Int32 → Int32 → Int32 → Int32 → Option (Int32 × Int32 × (Nat → Int32))} (kh103 : ∀ (F : Nat → Int32) (I : Nat → Nat → Int32) (x2 : Int32) (x3 : Int32) (x4 : Int32) (x5 : Int32) (x7 : Int32) (x8 : Int32) (H : Heap) (locs : List Loc) (ls : Array Slot), K103 (F 2) (F 4) (F 13) (I 6) (I 8) (I 9) (I 15) x2 x3 x4 x5 x7 x8 = some (r, (Ff 13), (If 15)) → (∀ k, k ∉ ([13] : List Nat) → Ff k = F k) → (∀ k, k ∉ ([15] : List Nat) → If k = I k) → va_P D vwCl (wM a kc F G I J) H → va_S (ad a 21 s.heap.size) s.heap H locs → lv_has ls 9 [(0, .ref (a 0)), (2, .int x2), (3, .int x3), (4, .int x4), (5, .int x5), (7, .int x7), (8, .int x8)] → W p l e rm_X8_findEvening s m args below meth c H locs 0 0 (MQ below (Qi D (wM a kc Ff G If J) r (ad a 21 s.heap.size)) args s 0 0 (ad a 21 s.heap.size)) (F0 m 103 ls [])) :
    ∀ (F : Nat → Int32) (I : Nat → Nat → Int32) (t0 : Int32) (t1 : Int32) (x2 : Int32) (x3 : Int32) (x4 : Int32) (x5 : Int32) (x8 : Int32) (H : Heap) (locs : List Loc) (ls : Array Slot), p_X8_findEvening_b135 K12 K103 (F 2) (F 4) (F 13) (I 6) (I 8) (I 9) (I 15) t0 t1 x2 x3 x4 x5 x8 = some (r, (Ff 13), (If 15)) → (∀ k, k ∉ ([13] : List Nat) → Ff k = F k) → (∀ k, k ∉ ([15] : List Nat) → If k = I k) → va_P D vwCl (wM a kc F G I J) H → va_S (ad a 21 s.heap.size) s.heap H locs → lv_has ls 9 [(0, .ref (a 0)), (2, .int x2), (3, .int x3), (4, .int x4), (5, .int x5), (8, .int x8)] → W p l e rm_X8_findEvening s m args below meth c H locs 0 0 (MQ below (Qi D (wM a kc Ff G If J) r (ad a 21 s.heap.size)) args s 0 0 (ad a 21 s.heap.size)) (F0 m 135 ls [.int t1, .int t0]) := by
  intro F I t0 t1 x2 x3 x4 x5 x8 H locs ls hf hfF hfI hP hS hl
  unfold p_X8_findEvening_b135 at hf
  refine lv_isub X.1 X.2.1 dX8_findEvening_135 ?_
  refine nm_i hf (fun x136 hf => ?_)
  refine lv_istore (lv' := [(7, .int x136), (0, .ref (a 0)), (2, .int x2), (3, .int x3), (4, .int x4), (5, .int x5), (8, .int x8)]) X.1 X.2.1 dX8_findEvening_136 hl (by decide) rfl (fun ls hl => ?_)
  obtain ⟨x138, ex138, hf⟩ := nm_x hf
  refine lv_iinc (v := x138) (lv' := [(8, .int x138), (7, .int x136), (0, .ref (a 0)), (2, .int x2), (3, .int x3), (4, .int x4), (5, .int x5)]) X.1 X.2.1 dX8_findEvening_138 hl (k := 6) rfl ex138 (by decide) rfl (fun ls hl => ?_)
  refine lv_goto (tgt := 103) X.1 X.2.1 dX8_findEvening_141 (by decide) ?_
  exact kh103 F I x2 x3 x4 x5 x136 x138 H locs ls hf hfF hfI hP hS (lv_sub hl [2, 3, 4, 5, 6, 1, 0] rfl)
set_option maxHeartbeats 4000000 in
set_option maxRecDepth 100000 in
theorem t_X8_findEvening_b118 {p : Program} {l : Launch} {e : Env} {s : State} {m : MethodId} {args : Array Value} {below : List Frame} {meth : Method} {c : Code} {D : va_G} {a : Nat → Nat} {kc : Nat → ClassId} (X : cx 21 p s m args meth c D (tyM kc) a cX8_findEvening 9 RX8 (some .int)) {G : Nat → Int64} {J : Nat → Nat → Int64} {Ff : Nat → Int32} {If : Nat → Nat → Int32} {r : Int32} {K12 : Int32 → Int32 → Int32 → (Nat → Int32) → (Nat → Int32) → (Nat → Int32) → (Nat → Int32) → Int32 → Int32 → Int32 → Option (Int32 × Int32 × (Nat → Int32))} (kh12 : ∀ (F : Nat → Int32) (I : Nat → Nat → Int32) (x2 : Int32) (x3 : Int32) (x4 : Int32) (H : Heap) (locs : List Loc) (ls : Array Slot), K12 (F 2) (F 4) (F 13) (I 6) (I 8) (I 9) (I 15) x2 x3 x4 = some (r, (Ff 13), (If 15)) → (∀ k, k ∉ ([13] : List Nat) → Ff k = F k) → (∀ k, k ∉ ([15] : List Nat) → If k = I k) → va_P D vwCl (wM a kc F G I J) H → va_S (ad a 21 s.heap.size) s.heap H locs → lv_has ls 9 [(0, .ref (a 0)), (2, .int x2), (3, .int x3), (4, .int x4)] → W p l e rm_X8_findEvening s m args below meth c H locs 0 0 (MQ below (Qi D (wM a kc Ff G If J) r (ad a 21 s.heap.size)) args s 0 0 (ad a 21 s.heap.size)) (F0 m 12 ls [])) {K103 : Int32 → Int32 → Int32 → (Nat → Int32) → (Nat → Int32) → (Nat → Int32) → (Nat → Int32) → Int32 → Int32 → Int32 → Int32 → Int32 → Int32 → Option (Int32 × Int32 × (Nat → Int32))} (kh103 : ∀ (F : Nat → Int32) (I : Nat → Nat → Int32) (x2 : Int32) (x3 : Int32) (x4 : Int32) (x5 : Int32) (x7 : Int32) (x8 : Int32) (H : Heap) (locs : List Loc) (ls : Array Slot), K103 (F 2) (F 4) (F 13) (I 6) (I 8) (I 9) (I 15) x2 x3 x4 x5 x7 x8 = some (r, (Ff 13), (If 15)) → (∀ k, k ∉ ([13] : List Nat) → Ff k = F k) → (∀ k, k ∉ ([15] : List Nat) → If k = I k) → va_P D vwCl (wM a kc F G I J) H → va_S (ad a 21 s.heap.size) s.heap H locs → lv_has ls 9 [(0, .ref (a 0)), (2, .int x2), (3, .int x3), (4, .int x4), (5, .int x5), (7, .int x7), (8, .int x8)] → W p l e rm_X8_findEvening s m args below meth c H locs 0 0 (MQ below (Qi D (wM a kc Ff G If J) r (ad a 21 s.heap.size)) args s 0 0 (ad a 21 s.heap.size)) (F0 m 103 ls [])) :
    ∀ (F : Nat → Int32) (I : Nat → Nat → Int32) (x2 : Int32) (x3 : Int32) (x4 : Int32) (x5 : Int32) (x7 : Int32) (x8 : Int32) (H : Heap) (locs : List Loc) (ls : Array Slot), p_X8_findEvening_b118 K12 K103 (F 2) (F 4) (F 13) (I 6) (I 8) (I 9) (I 15) x2 x3 x4 x5 x7 x8 = some (r, (Ff 13), (If 15)) → (∀ k, k ∉ ([13] : List Nat) → Ff k = F k) → (∀ k, k ∉ ([15] : List Nat) → If k = I k) → va_P D vwCl (wM a kc F G I J) H → va_S (ad a 21 s.heap.size) s.heap H locs → lv_has ls 9 [(0, .ref (a 0)), (2, .int x2), (3, .int x3), (4, .int x4), (5, .int x5), (7, .int x7), (8, .int x8)] → W p l e rm_X8_findEvening s m args below meth c H locs 0 0 (MQ below (Qi D (wM a kc Ff G If J) r (ad a 21 s.heap.size)) args s 0 0 (ad a 21 s.heap.size)) (F0 m 118 ls []) := by
  intro F I x2 x3 x4 x5 x7 x8 H locs ls hf hfF hfI hP hS hl
  unfold p_X8_findEvening_b118 at hf
  refine lv_iload X.1 X.2.1 dX8_findEvening_118 (lv_at hl 5 rfl) ?_
  refine lv_iload X.1 X.2.1 dX8_findEvening_120 (lv_at hl 4 rfl) ?_
  refine lv_iload X.1 X.2.1 dX8_findEvening_122 (lv_at hl 6 rfl) ?_
  obtain ⟨r124, ho, hf⟩ := b1_s hf
  refine call_si (rest := [.int x7]) X (c_X8_isIn x5 x8 ho) q_5_133 q_5_134 q_1_10 q_5_135 ok_X8_isIn rfl ⟨Nat.le_of_ble_eq_true rfl, Nat.le_of_ble_eq_true rfl⟩ rfl rfl hl.1 rfl (Nat.le_of_ble_eq_true rfl) dX8_findEvening_124 hP hS (fun H locs hP hS => ?_)
  refine lv_if_eq (tgt := 134) X.1 X.2.1 dX8_findEvening_127 (by decide) (fun c127 => ?_) (fun c127 => ?_)
  · have hf := it_s hf c127
    refine lv_iconst (v := 0) X.1 X.2.1 dX8_findEvening_134 (by decide) ?_
    exact t_X8_findEvening_b135 X kh12 kh103 F I x7 0 x2 x3 x4 x5 x8 H locs ls hf hfF hfI hP hS (lv_sub hl [0, 1, 2, 3, 4, 6] rfl)
  · have hf := ie_s hf c127
    refine lv_iconst (v := 1) X.1 X.2.1 dX8_findEvening_130 (by decide) ?_
    refine lv_goto (tgt := 135) X.1 X.2.1 dX8_findEvening_131 (by decide) ?_
    exact t_X8_findEvening_b135 X kh12 kh103 F I x7 1 x2 x3 x4 x5 x8 H locs ls hf hfF hfI hP hS (lv_sub hl [0, 1, 2, 3, 4, 6] rfl)
set_option maxHeartbeats 4000000 in
set_option maxRecDepth 100000 in
theorem t_X8_findEvening_b178 {p : Program} {l : Launch} {e : Env} {s : State} {m : MethodId} {args : Array Value} {below : List Frame} {meth : Method} {c : Code} {D : va_G} {a : Nat → Nat} {kc : Nat → ClassId} (X : cx 21 p s m args meth c D (tyM kc) a cX8_findEvening 9 RX8 (some .int)) {G : Nat → Int64} {J : Nat → Nat → Int64} {Ff : Nat → Int32} {If : Nat → Nat → Int32} {r : Int32} {K12 : Int32 → Int32 → Int32 → (Nat → Int32) → (Nat → Int32) → (Nat → Int32) → (Nat → Int32) → Int32 → Int32 → Int32 → Option (Int32 × Int32 × (Nat → Int32))} (kh12 : ∀ (F : Nat → Int32) (I : Nat → Nat → Int32) (x2 : Int32) (x3 : Int32) (x4 : Int32) (H : Heap) (locs : List Loc) (ls : Array Slot), K12 (F 2) (F 4) (F 13) (I 6) (I 8) (I 9) (I 15) x2 x3 x4 = some (r, (Ff 13), (If 15)) → (∀ k, k ∉ ([13] : List Nat) → Ff k = F k) → (∀ k, k ∉ ([15] : List Nat) → If k = I k) → va_P D vwCl (wM a kc F G I J) H → va_S (ad a 21 s.heap.size) s.heap H locs → lv_has ls 9 [(0, .ref (a 0)), (2, .int x2), (3, .int x3), (4, .int x4)] → W p l e rm_X8_findEvening s m args below meth c H locs 0 0 (MQ below (Qi D (wM a kc Ff G If J) r (ad a 21 s.heap.size)) args s 0 0 (ad a 21 s.heap.size)) (F0 m 12 ls [])) :
    ∀ (F : Nat → Int32) (I : Nat → Nat → Int32) (t0 : Int32) (t1 : Int32) (x2 : Int32) (x4 : Int32) (H : Heap) (locs : List Loc) (ls : Array Slot), p_X8_findEvening_b178 K12 (F 2) (F 4) (F 13) (I 6) (I 8) (I 9) (I 15) t0 t1 x2 x4 = some (r, (Ff 13), (If 15)) → (∀ k, k ∉ ([13] : List Nat) → Ff k = F k) → (∀ k, k ∉ ([15] : List Nat) → If k = I k) → va_P D vwCl (wM a kc F G I J) H → va_S (ad a 21 s.heap.size) s.heap H locs → lv_has ls 9 [(0, .ref (a 0)), (2, .int x2), (4, .int x4)] → W p l e rm_X8_findEvening s m args below meth c H locs 0 0 (MQ below (Qi D (wM a kc Ff G If J) r (ad a 21 s.heap.size)) args s 0 0 (ad a 21 s.heap.size)) (F0 m 178 ls [.int t1, .int t0]) := by
  intro F I t0 t1 x2 x4 H locs ls hf hfF hfI hP hS hl
  unfold p_X8_findEvening_b178 at hf
  refine lv_iadd X.1 X.2.1 dX8_findEvening_178 ?_
  refine nm_i hf (fun x179 hf => ?_)
  refine lv_istore_n (lv' := [(3, .int x179), (0, .ref (a 0)), (2, .int x2), (4, .int x4)]) X.1 X.2.1 dX8_findEvening_179 rfl hl (by decide) rfl (fun ls hl => ?_)
  obtain ⟨x180, ex180, hf⟩ := nm_x hf
  refine lv_iinc (v := x180) (lv' := [(4, .int x180), (3, .int x179), (0, .ref (a 0)), (2, .int x2)]) X.1 X.2.1 dX8_findEvening_180 hl (k := 3) rfl ex180 (by decide) rfl (fun ls hl => ?_)
  refine lv_goto (tgt := 12) X.1 X.2.1 dX8_findEvening_183 (by decide) ?_
  exact kh12 F I x2 x179 x180 H locs ls hf hfF hfI hP hS (lv_sub hl [2, 3, 1, 0] rfl)
set_option maxHeartbeats 4000000 in
set_option maxRecDepth 100000 in
theorem t_X8_findEvening_b103x {p : Program} {l : Launch} {e : Env} {s : State} {m : MethodId} {args : Array Value} {below : List Frame} {meth : Method} {c : Code} {D : va_G} {a : Nat → Nat} {kc : Nat → ClassId} (X : cx 21 p s m args meth c D (tyM kc) a cX8_findEvening 9 RX8 (some .int)) {G : Nat → Int64} {J : Nat → Nat → Int64} {Ff : Nat → Int32} {If : Nat → Nat → Int32} {r : Int32} {K12 : Int32 → Int32 → Int32 → (Nat → Int32) → (Nat → Int32) → (Nat → Int32) → (Nat → Int32) → Int32 → Int32 → Int32 → Option (Int32 × Int32 × (Nat → Int32))} (kh12 : ∀ (F : Nat → Int32) (I : Nat → Nat → Int32) (x2 : Int32) (x3 : Int32) (x4 : Int32) (H : Heap) (locs : List Loc) (ls : Array Slot), K12 (F 2) (F 4) (F 13) (I 6) (I 8) (I 9) (I 15) x2 x3 x4 = some (r, (Ff 13), (If 15)) → (∀ k, k ∉ ([13] : List Nat) → Ff k = F k) → (∀ k, k ∉ ([15] : List Nat) → If k = I k) → va_P D vwCl (wM a kc F G I J) H → va_S (ad a 21 s.heap.size) s.heap H locs → lv_has ls 9 [(0, .ref (a 0)), (2, .int x2), (3, .int x3), (4, .int x4)] → W p l e rm_X8_findEvening s m args below meth c H locs 0 0 (MQ below (Qi D (wM a kc Ff G If J) r (ad a 21 s.heap.size)) args s 0 0 (ad a 21 s.heap.size)) (F0 m 12 ls [])) {K103 : Int32 → Int32 → Int32 → (Nat → Int32) → (Nat → Int32) → (Nat → Int32) → (Nat → Int32) → Int32 → Int32 → Int32 → Int32 → Int32 → Int32 → Option (Int32 × Int32 × (Nat → Int32))} (kh103 : ∀ (F : Nat → Int32) (I : Nat → Nat → Int32) (x2 : Int32) (x3 : Int32) (x4 : Int32) (x5 : Int32) (x7 : Int32) (x8 : Int32) (H : Heap) (locs : List Loc) (ls : Array Slot), K103 (F 2) (F 4) (F 13) (I 6) (I 8) (I 9) (I 15) x2 x3 x4 x5 x7 x8 = some (r, (Ff 13), (If 15)) → (∀ k, k ∉ ([13] : List Nat) → Ff k = F k) → (∀ k, k ∉ ([15] : List Nat) → If k = I k) → va_P D vwCl (wM a kc F G I J) H → va_S (ad a 21 s.heap.size) s.heap H locs → lv_has ls 9 [(0, .ref (a 0)), (2, .int x2), (3, .int x3), (4, .int x4), (5, .int x5), (7, .int x7), (8, .int x8)] → W p l e rm_X8_findEvening s m args below meth c H locs 0 0 (MQ below (Qi D (wM a kc Ff G If J) r (ad a 21 s.heap.size)) args s 0 0 (ad a 21 s.heap.size)) (F0 m 103 ls [])) :
    ∀ (F : Nat → Int32) (I : Nat → Nat → Int32) (x2 : Int32) (x3 : Int32) (x4 : Int32) (x5 : Int32) (x7 : Int32) (x8 : Int32) (H : Heap) (locs : List Loc) (ls : Array Slot), p_X8_findEvening_b103x K12 K103 (F 2) (F 4) (F 13) (I 6) (I 8) (I 9) (I 15) x2 x3 x4 x5 x7 x8 = some (r, (Ff 13), (If 15)) → (∀ k, k ∉ ([13] : List Nat) → Ff k = F k) → (∀ k, k ∉ ([15] : List Nat) → If k = I k) → va_P D vwCl (wM a kc F G I J) H → va_S (ad a 21 s.heap.size) s.heap H locs → lv_has ls 9 [(0, .ref (a 0)), (2, .int x2), (3, .int x3), (4, .int x4), (5, .int x5), (7, .int x7), (8, .int x8)] → W p l e rm_X8_findEvening s m args below meth c H locs 0 0 (MQ below (Qi D (wM a kc Ff G If J) r (ad a 21 s.heap.size)) args s 0 0 (ad a 21 s.heap.size)) (F0 m 103 ls []) := by
  intro F I x2 x3 x4 x5 x7 x8 H locs ls hf hfF hfI hP hS hl
  unfold p_X8_findEvening_b103x at hf
  refine lv_iload X.1 X.2.1 dX8_findEvening_103 (lv_at hl 4 rfl) ?_
  refine lv_iload X.1 X.2.1 dX8_findEvening_105 (lv_at hl 6 rfl) ?_
  obtain ⟨r107, ho, hf⟩ := b1_s hf
  refine call_si (rest := []) X (c_X8_isIn x5 x8 ho) q_5_133 q_5_134 q_1_10 q_5_135 ok_X8_isIn rfl ⟨Nat.le_of_ble_eq_true rfl, Nat.le_of_ble_eq_true rfl⟩ rfl rfl hl.1 rfl (Nat.le_of_ble_eq_true rfl) dX8_findEvening_107 hP hS (fun H locs hP hS => ?_)
  refine lv_if_eq (tgt := 118) X.1 X.2.1 dX8_findEvening_110 (by decide) (fun c110 => ?_) (fun c110 => ?_)
  · have hf := it_s hf c110
    exact t_X8_findEvening_b118 X kh12 kh103 F I x2 x3 x4 x5 x7 x8 H locs ls hf hfF hfI hP hS (lv_sub hl [0, 1, 2, 3, 4, 5, 6] rfl)
  · have hf := ie_s hf c110
    refine lv_iload X.1 X.2.1 dX8_findEvening_113 (lv_at hl 5 rfl) ?_
    refine lv_if_le (tgt := 144) X.1 X.2.1 dX8_findEvening_115 (by decide) (fun c115 => ?_) (fun c115 => ?_)
    · have hf := it_s hf c115
      refine lv_aload_n X.1 X.2.1 dX8_findEvening_144 rfl (lv_at hl 0 rfl) ?_
      refine gM_0_35 X q_4_144 dX8_findEvening_145 hP ?_
      refine lv_iload X.1 X.2.1 dX8_findEvening_148 (lv_at hl 3 rfl) ?_
      refine lv_iload X.1 X.2.1 dX8_findEvening_150 (lv_at hl 6 rfl) ?_
      obtain ⟨h152, hf⟩ := gd_s hf
      obtain ⟨m_evening_152, em_evening_152, hf⟩ := nm_x hf
      refine sM_20 (I := I) X h152 em_evening_152 dX8_findEvening_152 hP hS (fun H locs hP hS => ?_)
      refine lv_iload_n X.1 X.2.1 dX8_findEvening_153 rfl (lv_at hl 1 rfl) ?_
      refine lv_iconst (v := 1) X.1 X.2.1 dX8_findEvening_154 (by decide) ?_
      refine lv_iload X.1 X.2.1 dX8_findEvening_155 (lv_at hl 6 rfl) ?_
      refine lv_ishl X.1 X.2.1 dX8_findEvening_157 ?_
      refine lv_ior X.1 X.2.1 dX8_findEvening_158 ?_
      refine nm_i hf (fun x159 hf => ?_)
      refine lv_istore_n (lv' := [(2, .int x159), (0, .ref (a 0)), (3, .int x3), (4, .int x4), (5, .int x5), (7, .int x7), (8, .int x8)]) X.1 X.2.1 dX8_findEvening_159 rfl hl (by decide) rfl (fun ls hl => ?_)
      refine lv_iload_n X.1 X.2.1 dX8_findEvening_160 rfl (lv_at hl 2 rfl) ?_
      refine lv_iload X.1 X.2.1 dX8_findEvening_161 (lv_at hl 6 rfl) ?_
      refine lv_aload_n X.1 X.2.1 dX8_findEvening_163 rfl (lv_at hl 1 rfl) ?_
      refine gM_0_13 X q_4_122 dX8_findEvening_164 hP ?_
      refine lv_iload X.1 X.2.1 dX8_findEvening_167 (lv_at hl 3 rfl) ?_
      obtain ⟨h169, hf⟩ := gd_s hf
      refine lM_9 (I := (va_up I 15 m_evening_152)) X (f := (I 8)) rfl h169 dX8_findEvening_169 hP ?_
      refine lv_icmp_ne (tgt := 177) X.1 X.2.1 dX8_findEvening_170 (by decide) (fun c170 => ?_) (fun c170 => ?_)
      · have hf := ie_s hf c170
        refine lv_iconst (v := 1) X.1 X.2.1 dX8_findEvening_177 (by decide) ?_
        exact t_X8_findEvening_b178 X kh12 F (va_up I 15 m_evening_152) x3 1 x159 x4 H locs ls hf hfF (frm_up hfI (by decide)) hP hS (lv_sub hl [1, 0, 3] rfl)
      · have hf := it_s hf c170
        refine lv_iconst (v := 0) X.1 X.2.1 dX8_findEvening_173 (by decide) ?_
        refine lv_goto (tgt := 178) X.1 X.2.1 dX8_findEvening_174 (by decide) ?_
        exact t_X8_findEvening_b178 X kh12 F (va_up I 15 m_evening_152) x3 0 x159 x4 H locs ls hf hfF (frm_up hfI (by decide)) hP hS (lv_sub hl [1, 0, 3] rfl)
    · have hf := ie_s hf c115
      exact t_X8_findEvening_b118 X kh12 kh103 F I x2 x3 x4 x5 x7 x8 H locs ls hf hfF hfI hP hS (lv_sub hl [0, 1, 2, 3, 4, 5, 6] rfl)
set_option maxRecDepth 100000 in
theorem t_X8_findEvening_b103 {p : Program} {l : Launch} {e : Env} {s : State} {m : MethodId} {args : Array Value} {below : List Frame} {meth : Method} {c : Code} {D : va_G} {a : Nat → Nat} {kc : Nat → ClassId} (X : cx 21 p s m args meth c D (tyM kc) a cX8_findEvening 9 RX8 (some .int)) {G : Nat → Int64} {J : Nat → Nat → Int64} {Ff : Nat → Int32} {If : Nat → Nat → Int32} {r : Int32} {K12 : Int32 → Int32 → Int32 → (Nat → Int32) → (Nat → Int32) → (Nat → Int32) → (Nat → Int32) → Int32 → Int32 → Int32 → Option (Int32 × Int32 × (Nat → Int32))} (kh12 : ∀ (F : Nat → Int32) (I : Nat → Nat → Int32) (x2 : Int32) (x3 : Int32) (x4 : Int32) (H : Heap) (locs : List Loc) (ls : Array Slot), K12 (F 2) (F 4) (F 13) (I 6) (I 8) (I 9) (I 15) x2 x3 x4 = some (r, (Ff 13), (If 15)) → (∀ k, k ∉ ([13] : List Nat) → Ff k = F k) → (∀ k, k ∉ ([15] : List Nat) → If k = I k) → va_P D vwCl (wM a kc F G I J) H → va_S (ad a 21 s.heap.size) s.heap H locs → lv_has ls 9 [(0, .ref (a 0)), (2, .int x2), (3, .int x3), (4, .int x4)] → W p l e rm_X8_findEvening s m args below meth c H locs 0 0 (MQ below (Qi D (wM a kc Ff G If J) r (ad a 21 s.heap.size)) args s 0 0 (ad a 21 s.heap.size)) (F0 m 12 ls [])) :
    ∀ (n : Nat) (F : Nat → Int32) (I : Nat → Nat → Int32) (x2 : Int32) (x3 : Int32) (x4 : Int32) (x5 : Int32) (x7 : Int32) (x8 : Int32) (H : Heap) (locs : List Loc) (ls : Array Slot), p_X8_findEvening_b103 K12 n (F 2) (F 4) (F 13) (I 6) (I 8) (I 9) (I 15) x2 x3 x4 x5 x7 x8 = some (r, (Ff 13), (If 15)) → (∀ k, k ∉ ([13] : List Nat) → Ff k = F k) → (∀ k, k ∉ ([15] : List Nat) → If k = I k) → va_P D vwCl (wM a kc F G I J) H → va_S (ad a 21 s.heap.size) s.heap H locs → lv_has ls 9 [(0, .ref (a 0)), (2, .int x2), (3, .int x3), (4, .int x4), (5, .int x5), (7, .int x7), (8, .int x8)] → W p l e rm_X8_findEvening s m args below meth c H locs 0 0 (MQ below (Qi D (wM a kc Ff G If J) r (ad a 21 s.heap.size)) args s 0 0 (ad a 21 s.heap.size)) (F0 m 103 ls []) := by
  intro n
  induction n with
  | zero => intro F I x2 x3 x4 x5 x7 x8 H locs ls hf hfF hfI hP hS hl; exact (nos hf).elim
  | succ n ih => exact t_X8_findEvening_b103x X kh12 ih
set_option maxHeartbeats 4000000 in
set_option maxRecDepth 100000 in
theorem t_X8_findEvening_b98 {p : Program} {l : Launch} {e : Env} {s : State} {m : MethodId} {args : Array Value} {below : List Frame} {meth : Method} {c : Code} {D : va_G} {a : Nat → Nat} {kc : Nat → ClassId} (X : cx 21 p s m args meth c D (tyM kc) a cX8_findEvening 9 RX8 (some .int)) {G : Nat → Int64} {J : Nat → Nat → Int64} {Ff : Nat → Int32} {If : Nat → Nat → Int32} {r : Int32} {K12 : Int32 → Int32 → Int32 → (Nat → Int32) → (Nat → Int32) → (Nat → Int32) → (Nat → Int32) → Int32 → Int32 → Int32 → Option (Int32 × Int32 × (Nat → Int32))} (kh12 : ∀ (F : Nat → Int32) (I : Nat → Nat → Int32) (x2 : Int32) (x3 : Int32) (x4 : Int32) (H : Heap) (locs : List Loc) (ls : Array Slot), K12 (F 2) (F 4) (F 13) (I 6) (I 8) (I 9) (I 15) x2 x3 x4 = some (r, (Ff 13), (If 15)) → (∀ k, k ∉ ([13] : List Nat) → Ff k = F k) → (∀ k, k ∉ ([15] : List Nat) → If k = I k) → va_P D vwCl (wM a kc F G I J) H → va_S (ad a 21 s.heap.size) s.heap H locs → lv_has ls 9 [(0, .ref (a 0)), (2, .int x2), (3, .int x3), (4, .int x4)] → W p l e rm_X8_findEvening s m args below meth c H locs 0 0 (MQ below (Qi D (wM a kc Ff G If J) r (ad a 21 s.heap.size)) args s 0 0 (ad a 21 s.heap.size)) (F0 m 12 ls [])) :
    ∀ (F : Nat → Int32) (I : Nat → Nat → Int32) (t0 : Int32) (x2 : Int32) (x3 : Int32) (x4 : Int32) (x5 : Int32) (H : Heap) (locs : List Loc) (ls : Array Slot), p_X8_findEvening_b98 K12 (F 2) (F 4) (F 13) (I 6) (I 8) (I 9) (I 15) t0 x2 x3 x4 x5 = some (r, (Ff 13), (If 15)) → (∀ k, k ∉ ([13] : List Nat) → Ff k = F k) → (∀ k, k ∉ ([15] : List Nat) → If k = I k) → va_P D vwCl (wM a kc F G I J) H → va_S (ad a 21 s.heap.size) s.heap H locs → lv_has ls 9 [(0, .ref (a 0)), (2, .int x2), (3, .int x3), (4, .int x4), (5, .int x5)] → W p l e rm_X8_findEvening s m args below meth c H locs 0 0 (MQ below (Qi D (wM a kc Ff G If J) r (ad a 21 s.heap.size)) args s 0 0 (ad a 21 s.heap.size)) (F0 m 98 ls [.int t0]) := by
  intro F I t0 x2 x3 x4 x5 H locs ls hf hfF hfI hP hS hl
  unfold p_X8_findEvening_b98 at hf
  refine lv_istore (lv' := [(7, .int t0), (0, .ref (a 0)), (2, .int x2), (3, .int x3), (4, .int x4), (5, .int x5)]) X.1 X.2.1 dX8_findEvening_98 hl (by decide) rfl (fun ls hl => ?_)
  refine lv_iconst (v := 0) X.1 X.2.1 dX8_findEvening_100 (by decide) ?_
  refine lv_istore (lv' := [(8, .int 0), (7, .int t0), (0, .ref (a 0)), (2, .int x2), (3, .int x3), (4, .int x4), (5, .int x5)]) X.1 X.2.1 dX8_findEvening_101 hl (by decide) rfl (fun ls hl => ?_)
  exact t_X8_findEvening_b103 X kh12 4096 F I x2 x3 x4 x5 t0 0 H locs ls hf hfF hfI hP hS (lv_sub hl [2, 3, 4, 5, 6, 1, 0] rfl)
set_option maxHeartbeats 4000000 in
set_option maxRecDepth 100000 in
theorem t_X8_findEvening_b78 {p : Program} {l : Launch} {e : Env} {s : State} {m : MethodId} {args : Array Value} {below : List Frame} {meth : Method} {c : Code} {D : va_G} {a : Nat → Nat} {kc : Nat → ClassId} (X : cx 21 p s m args meth c D (tyM kc) a cX8_findEvening 9 RX8 (some .int)) {G : Nat → Int64} {J : Nat → Nat → Int64} {Ff : Nat → Int32} {If : Nat → Nat → Int32} {r : Int32} {K12 : Int32 → Int32 → Int32 → (Nat → Int32) → (Nat → Int32) → (Nat → Int32) → (Nat → Int32) → Int32 → Int32 → Int32 → Option (Int32 × Int32 × (Nat → Int32))} (kh12 : ∀ (F : Nat → Int32) (I : Nat → Nat → Int32) (x2 : Int32) (x3 : Int32) (x4 : Int32) (H : Heap) (locs : List Loc) (ls : Array Slot), K12 (F 2) (F 4) (F 13) (I 6) (I 8) (I 9) (I 15) x2 x3 x4 = some (r, (Ff 13), (If 15)) → (∀ k, k ∉ ([13] : List Nat) → Ff k = F k) → (∀ k, k ∉ ([15] : List Nat) → If k = I k) → va_P D vwCl (wM a kc F G I J) H → va_S (ad a 21 s.heap.size) s.heap H locs → lv_has ls 9 [(0, .ref (a 0)), (2, .int x2), (3, .int x3), (4, .int x4)] → W p l e rm_X8_findEvening s m args below meth c H locs 0 0 (MQ below (Qi D (wM a kc Ff G If J) r (ad a 21 s.heap.size)) args s 0 0 (ad a 21 s.heap.size)) (F0 m 12 ls [])) :
    ∀ (F : Nat → Int32) (I : Nat → Nat → Int32) (t0 : Int32) (x2 : Int32) (x3 : Int32) (x4 : Int32) (x5 : Int32) (H : Heap) (locs : List Loc) (ls : Array Slot), p_X8_findEvening_b78 K12 (F 2) (F 4) (F 13) (I 6) (I 8) (I 9) (I 15) t0 x2 x3 x4 x5 = some (r, (Ff 13), (If 15)) → (∀ k, k ∉ ([13] : List Nat) → Ff k = F k) → (∀ k, k ∉ ([15] : List Nat) → If k = I k) → va_P D vwCl (wM a kc F G I J) H → va_S (ad a 21 s.heap.size) s.heap H locs → lv_has ls 9 [(0, .ref (a 0)), (2, .int x2), (3, .int x3), (4, .int x4), (5, .int x5)] → W p l e rm_X8_findEvening s m args below meth c H locs 0 0 (MQ below (Qi D (wM a kc Ff G If J) r (ad a 21 s.heap.size)) args s 0 0 (ad a 21 s.heap.size)) (F0 m 78 ls [.int t0]) := by
  intro F I t0 x2 x3 x4 x5 H locs ls hf hfF hfI hP hS hl
  unfold p_X8_findEvening_b78 at hf
  refine lv_istore (lv' := [(6, .int t0), (0, .ref (a 0)), (2, .int x2), (3, .int x3), (4, .int x4), (5, .int x5)]) X.1 X.2.1 dX8_findEvening_78 hl (by decide) rfl (fun ls hl => ?_)
  refine lv_iload X.1 X.2.1 dX8_findEvening_80 (lv_at hl 0 rfl) ?_
  refine lv_if_eq (tgt := 97) X.1 X.2.1 dX8_findEvening_82 (by decide) (fun c82 => ?_) (fun c82 => ?_)
  · have hf := it_s hf c82
    refine lv_iconst (v := 0) X.1 X.2.1 dX8_findEvening_97 (by decide) ?_
    exact t_X8_findEvening_b98 X kh12 F I 0 x2 x3 x4 x5 H locs ls hf hfF hfI hP hS (lv_sub hl [1, 2, 3, 4, 5] rfl)
  · have hf := ie_s hf c82
    refine lv_aload_n X.1 X.2.1 dX8_findEvening_85 rfl (lv_at hl 1 rfl) ?_
    refine lv_iload X.1 X.2.1 dX8_findEvening_86 (lv_at hl 5 rfl) ?_
    obtain ⟨r88, ho, hf⟩ := b1_s hf
    refine call_si (rest := [.ref (a 0)]) X (c_X8_ones x5 ho) q_5_144 q_5_145 q_1_10 q_5_146 ok_X8_ones rfl ⟨Nat.le_of_ble_eq_true rfl, Nat.le_of_ble_eq_true rfl⟩ rfl rfl hl.1 rfl (Nat.le_of_ble_eq_true rfl) dX8_findEvening_88 hP hS (fun H locs hP hS => ?_)
    obtain ⟨r91, m_seedNow_91, ho, hf⟩ := b2_s hf
    refine call_vi (rest := []) X (c_X8_lot F G I J X.2.2.2.2.2.2.2.1 r88 ho) q_6_102 q_6_104 qs_yX8_lot q_1_10 q_6_105 ok_X8_lot rfl 0 rfl rfl ⟨Nat.le_of_ble_eq_true rfl, Nat.le_of_ble_eq_true rfl⟩ rfl rfl hl.1 rfl (Nat.le_of_ble_eq_true rfl) dX8_findEvening_91 hP hS (fun H locs hP hS => ?_)
    refine lv_goto (tgt := 98) X.1 X.2.1 dX8_findEvening_94 (by decide) ?_
    exact t_X8_findEvening_b98 X kh12 (va_up F 13 m_seedNow_91) I r91 x2 x3 x4 x5 H locs ls hf (frm_up hfF (by decide)) hfI hP hS (lv_sub hl [1, 2, 3, 4, 5] rfl)
set_option maxHeartbeats 4000000 in
set_option maxRecDepth 100000 in
theorem t_X8_findEvening_b73 {p : Program} {l : Launch} {e : Env} {s : State} {m : MethodId} {args : Array Value} {below : List Frame} {meth : Method} {c : Code} {D : va_G} {a : Nat → Nat} {kc : Nat → ClassId} (X : cx 21 p s m args meth c D (tyM kc) a cX8_findEvening 9 RX8 (some .int)) {G : Nat → Int64} {J : Nat → Nat → Int64} {Ff : Nat → Int32} {If : Nat → Nat → Int32} {r : Int32} {K12 : Int32 → Int32 → Int32 → (Nat → Int32) → (Nat → Int32) → (Nat → Int32) → (Nat → Int32) → Int32 → Int32 → Int32 → Option (Int32 × Int32 × (Nat → Int32))} (kh12 : ∀ (F : Nat → Int32) (I : Nat → Nat → Int32) (x2 : Int32) (x3 : Int32) (x4 : Int32) (H : Heap) (locs : List Loc) (ls : Array Slot), K12 (F 2) (F 4) (F 13) (I 6) (I 8) (I 9) (I 15) x2 x3 x4 = some (r, (Ff 13), (If 15)) → (∀ k, k ∉ ([13] : List Nat) → Ff k = F k) → (∀ k, k ∉ ([15] : List Nat) → If k = I k) → va_P D vwCl (wM a kc F G I J) H → va_S (ad a 21 s.heap.size) s.heap H locs → lv_has ls 9 [(0, .ref (a 0)), (2, .int x2), (3, .int x3), (4, .int x4)] → W p l e rm_X8_findEvening s m args below meth c H locs 0 0 (MQ below (Qi D (wM a kc Ff G If J) r (ad a 21 s.heap.size)) args s 0 0 (ad a 21 s.heap.size)) (F0 m 12 ls [])) :
    ∀ (F : Nat → Int32) (I : Nat → Nat → Int32) (x2 : Int32) (x3 : Int32) (x4 : Int32) (x5 : Int32) (H : Heap) (locs : List Loc) (ls : Array Slot), p_X8_findEvening_b73 K12 (F 2) (F 4) (F 13) (I 6) (I 8) (I 9) (I 15) x2 x3 x4 x5 = some (r, (Ff 13), (If 15)) → (∀ k, k ∉ ([13] : List Nat) → Ff k = F k) → (∀ k, k ∉ ([15] : List Nat) → If k = I k) → va_P D vwCl (wM a kc F G I J) H → va_S (ad a 21 s.heap.size) s.heap H locs → lv_has ls 9 [(0, .ref (a 0)), (2, .int x2), (3, .int x3), (4, .int x4), (5, .int x5)] → W p l e rm_X8_findEvening s m args below meth c H locs 0 0 (MQ below (Qi D (wM a kc Ff G If J) r (ad a 21 s.heap.size)) args s 0 0 (ad a 21 s.heap.size)) (F0 m 73 ls []) := by
  intro F I x2 x3 x4 x5 H locs ls hf hfF hfI hP hS hl
  unfold p_X8_findEvening_b73 at hf
  refine lv_iconst (v := 1) X.1 X.2.1 dX8_findEvening_73 (by decide) ?_
  refine lv_goto (tgt := 78) X.1 X.2.1 dX8_findEvening_74 (by decide) ?_
  exact t_X8_findEvening_b78 X kh12 F I 1 x2 x3 x4 x5 H locs ls hf hfF hfI hP hS (lv_sub hl [0, 1, 2, 3, 4] rfl)
set_option maxHeartbeats 4000000 in
set_option maxRecDepth 100000 in
theorem t_X8_findEvening_b77 {p : Program} {l : Launch} {e : Env} {s : State} {m : MethodId} {args : Array Value} {below : List Frame} {meth : Method} {c : Code} {D : va_G} {a : Nat → Nat} {kc : Nat → ClassId} (X : cx 21 p s m args meth c D (tyM kc) a cX8_findEvening 9 RX8 (some .int)) {G : Nat → Int64} {J : Nat → Nat → Int64} {Ff : Nat → Int32} {If : Nat → Nat → Int32} {r : Int32} {K12 : Int32 → Int32 → Int32 → (Nat → Int32) → (Nat → Int32) → (Nat → Int32) → (Nat → Int32) → Int32 → Int32 → Int32 → Option (Int32 × Int32 × (Nat → Int32))} (kh12 : ∀ (F : Nat → Int32) (I : Nat → Nat → Int32) (x2 : Int32) (x3 : Int32) (x4 : Int32) (H : Heap) (locs : List Loc) (ls : Array Slot), K12 (F 2) (F 4) (F 13) (I 6) (I 8) (I 9) (I 15) x2 x3 x4 = some (r, (Ff 13), (If 15)) → (∀ k, k ∉ ([13] : List Nat) → Ff k = F k) → (∀ k, k ∉ ([15] : List Nat) → If k = I k) → va_P D vwCl (wM a kc F G I J) H → va_S (ad a 21 s.heap.size) s.heap H locs → lv_has ls 9 [(0, .ref (a 0)), (2, .int x2), (3, .int x3), (4, .int x4)] → W p l e rm_X8_findEvening s m args below meth c H locs 0 0 (MQ below (Qi D (wM a kc Ff G If J) r (ad a 21 s.heap.size)) args s 0 0 (ad a 21 s.heap.size)) (F0 m 12 ls [])) :
    ∀ (F : Nat → Int32) (I : Nat → Nat → Int32) (x2 : Int32) (x3 : Int32) (x4 : Int32) (x5 : Int32) (H : Heap) (locs : List Loc) (ls : Array Slot), p_X8_findEvening_b77 K12 (F 2) (F 4) (F 13) (I 6) (I 8) (I 9) (I 15) x2 x3 x4 x5 = some (r, (Ff 13), (If 15)) → (∀ k, k ∉ ([13] : List Nat) → Ff k = F k) → (∀ k, k ∉ ([15] : List Nat) → If k = I k) → va_P D vwCl (wM a kc F G I J) H → va_S (ad a 21 s.heap.size) s.heap H locs → lv_has ls 9 [(0, .ref (a 0)), (2, .int x2), (3, .int x3), (4, .int x4), (5, .int x5)] → W p l e rm_X8_findEvening s m args below meth c H locs 0 0 (MQ below (Qi D (wM a kc Ff G If J) r (ad a 21 s.heap.size)) args s 0 0 (ad a 21 s.heap.size)) (F0 m 77 ls []) := by
  intro F I x2 x3 x4 x5 H locs ls hf hfF hfI hP hS hl
  unfold p_X8_findEvening_b77 at hf
  refine lv_iconst (v := 0) X.1 X.2.1 dX8_findEvening_77 (by decide) ?_
  exact t_X8_findEvening_b78 X kh12 F I 0 x2 x3 x4 x5 H locs ls hf hfF hfI hP hS (lv_sub hl [0, 1, 2, 3, 4] rfl)
set_option maxHeartbeats 4000000 in
set_option maxRecDepth 100000 in
theorem t_X8_findEvening_b12x {p : Program} {l : Launch} {e : Env} {s : State} {m : MethodId} {args : Array Value} {below : List Frame} {meth : Method} {c : Code} {D : va_G} {a : Nat → Nat} {kc : Nat → ClassId} (X : cx 21 p s m args meth c D (tyM kc) a cX8_findEvening 9 RX8 (some .int)) {G : Nat → Int64} {J : Nat → Nat → Int64} {Ff : Nat → Int32} {If : Nat → Nat → Int32} {r : Int32} {K12 : Int32 → Int32 → Int32 → (Nat → Int32) → (Nat → Int32) → (Nat → Int32) → (Nat → Int32) → Int32 → Int32 → Int32 → Option (Int32 × Int32 × (Nat → Int32))} (kh12 : ∀ (F : Nat → Int32) (I : Nat → Nat → Int32) (x2 : Int32) (x3 : Int32) (x4 : Int32) (H : Heap) (locs : List Loc) (ls : Array Slot), K12 (F 2) (F 4) (F 13) (I 6) (I 8) (I 9) (I 15) x2 x3 x4 = some (r, (Ff 13), (If 15)) → (∀ k, k ∉ ([13] : List Nat) → Ff k = F k) → (∀ k, k ∉ ([15] : List Nat) → If k = I k) → va_P D vwCl (wM a kc F G I J) H → va_S (ad a 21 s.heap.size) s.heap H locs → lv_has ls 9 [(0, .ref (a 0)), (2, .int x2), (3, .int x3), (4, .int x4)] → W p l e rm_X8_findEvening s m args below meth c H locs 0 0 (MQ below (Qi D (wM a kc Ff G If J) r (ad a 21 s.heap.size)) args s 0 0 (ad a 21 s.heap.size)) (F0 m 12 ls [])) :
    ∀ (F : Nat → Int32) (I : Nat → Nat → Int32) (x2 : Int32) (x3 : Int32) (x4 : Int32) (H : Heap) (locs : List Loc) (ls : Array Slot), p_X8_findEvening_b12x K12 (F 2) (F 4) (F 13) (I 6) (I 8) (I 9) (I 15) x2 x3 x4 = some (r, (Ff 13), (If 15)) → (∀ k, k ∉ ([13] : List Nat) → Ff k = F k) → (∀ k, k ∉ ([15] : List Nat) → If k = I k) → va_P D vwCl (wM a kc F G I J) H → va_S (ad a 21 s.heap.size) s.heap H locs → lv_has ls 9 [(0, .ref (a 0)), (2, .int x2), (3, .int x3), (4, .int x4)] → W p l e rm_X8_findEvening s m args below meth c H locs 0 0 (MQ below (Qi D (wM a kc Ff G If J) r (ad a 21 s.heap.size)) args s 0 0 (ad a 21 s.heap.size)) (F0 m 12 ls []) := by
  intro F I x2 x3 x4 H locs ls hf hfF hfI hP hS hl
  unfold p_X8_findEvening_b12x at hf
  refine lv_iload X.1 X.2.1 dX8_findEvening_12 (lv_at hl 3 rfl) ?_
  refine lv_aload_n X.1 X.2.1 dX8_findEvening_14 rfl (lv_at hl 0 rfl) ?_
  refine gM_0_12 (F := F) X (v := (F 4)) rfl q_4_121 dX8_findEvening_15 hP ?_
  refine lv_icmp_ge (tgt := 186) X.1 X.2.1 dX8_findEvening_18 (by decide) (fun c18 => ?_) (fun c18 => ?_)
  · have hf := it_s hf c18
    refine lv_iload_n X.1 X.2.1 dX8_findEvening_186 rfl (lv_at hl 2 rfl) ?_
    obtain ⟨e0, hf⟩ := o2 hf
    obtain ⟨e1, hf⟩ := o2 hf
    have e2 := o1 hf
    have EF : Ff = F := frm_eq hfF (frm_c (e1).symm frm_n)
    have EI : If = I := frm_eq hfI (frm_c (e2).symm frm_n)
    exact ret_i X hS (by rw [EF, EI]; exact hP) e0 dX8_findEvening_187
  · have hf := ie_s hf c18
    refine lv_aload_n X.1 X.2.1 dX8_findEvening_21 rfl (lv_at hl 0 rfl) ?_
    refine lv_iload X.1 X.2.1 dX8_findEvening_22 (lv_at hl 3 rfl) ?_
    refine lv_aload_n X.1 X.2.1 dX8_findEvening_24 rfl (lv_at hl 0 rfl) ?_
    refine gM_0_14 X q_4_123 dX8_findEvening_25 hP ?_
    refine lv_iload X.1 X.2.1 dX8_findEvening_28 (lv_at hl 3 rfl) ?_
    obtain ⟨h30, hf⟩ := gd_s hf
    refine lM_10 (I := I) X (f := (I 9)) rfl h30 dX8_findEvening_30 hP ?_
    refine lv_iload_n X.1 X.2.1 dX8_findEvening_31 rfl (lv_at hl 1 rfl) ?_
    obtain ⟨r32, ho, hf⟩ := b1_s hf
    refine call_vi (rest := []) X (c_X8_choices F G I J X.2.2.2.2.2.2.2.1 x4 ((I 9) x4.toNatClampNeg) x2 ho) q_5_129 q_5_131 qs_yX8_choices q_1_10 q_5_132 ok_X8_choices rfl 0 rfl rfl ⟨Nat.le_of_ble_eq_true rfl, Nat.le_of_ble_eq_true rfl⟩ rfl rfl hl.1 rfl (Nat.le_of_ble_eq_true rfl) dX8_findEvening_32 hP hS (fun H locs hP hS => ?_)
    refine lv_istore (lv' := [(5, .int r32), (0, .ref (a 0)), (2, .int x2), (3, .int x3), (4, .int x4)]) X.1 X.2.1 dX8_findEvening_35 hl (by decide) rfl (fun ls hl => ?_)
    refine lv_aload_n X.1 X.2.1 dX8_findEvening_37 rfl (lv_at hl 1 rfl) ?_
    refine gM_0_14 X q_4_123 dX8_findEvening_38 hP ?_
    refine lv_iload X.1 X.2.1 dX8_findEvening_41 (lv_at hl 4 rfl) ?_
    obtain ⟨h43, hf⟩ := gd_s hf
    refine lM_10 (I := I) X (f := (I 9)) rfl h43 dX8_findEvening_43 hP ?_
    refine lv_iconst (v := 1) X.1 X.2.1 dX8_findEvening_44 (by decide) ?_
    refine lv_icmp_eq (tgt := 73) X.1 X.2.1 dX8_findEvening_45 (by decide) (fun c45 => ?_) (fun c45 => ?_)
    · have hf := it_s hf c45
      exact t_X8_findEvening_b73 X kh12 F I x2 x3 x4 r32 H locs ls hf hfF hfI hP hS (lv_sub hl [1, 2, 3, 4, 0] rfl)
    · have hf := ie_s hf c45
      refine lv_aload_n X.1 X.2.1 dX8_findEvening_48 rfl (lv_at hl 1 rfl) ?_
      refine gM_0_14 X q_4_123 dX8_findEvening_49 hP ?_
      refine lv_iload X.1 X.2.1 dX8_findEvening_52 (lv_at hl 4 rfl) ?_
      obtain ⟨h54, hf⟩ := gd_s hf
      refine lM_10 (I := I) X (f := (I 9)) rfl h54 dX8_findEvening_54 hP ?_
      refine lv_iconst (v := 2) X.1 X.2.1 dX8_findEvening_55 (by decide) ?_
      refine lv_icmp_eq (tgt := 77) X.1 X.2.1 dX8_findEvening_56 (by decide) (fun c56 => ?_) (fun c56 => ?_)
      · have hf := it_s hf c56
        exact t_X8_findEvening_b77 X kh12 F I x2 x3 x4 r32 H locs ls hf hfF hfI hP hS (lv_sub hl [1, 2, 3, 4, 0] rfl)
      · have hf := ie_s hf c56
        refine lv_iload_n X.1 X.2.1 dX8_findEvening_59 rfl (lv_at hl 2 rfl) ?_
        refine lv_aload_n X.1 X.2.1 dX8_findEvening_60 rfl (lv_at hl 1 rfl) ?_
        refine gM_0_13 X q_4_122 dX8_findEvening_61 hP ?_
        refine lv_iload X.1 X.2.1 dX8_findEvening_64 (lv_at hl 4 rfl) ?_
        obtain ⟨h66, hf⟩ := gd_s hf
        refine lM_9 (I := I) X (f := (I 8)) rfl h66 dX8_findEvening_66 hP ?_
        obtain ⟨r67, ho, hf⟩ := b1_s hf
        refine call_si (rest := []) X (c_X8_isIn x2 ((I 8) x4.toNatClampNeg) ho) q_5_133 q_5_134 q_1_10 q_5_135 ok_X8_isIn rfl ⟨Nat.le_of_ble_eq_true rfl, Nat.le_of_ble_eq_true rfl⟩ rfl rfl hl.1 rfl (Nat.le_of_ble_eq_true rfl) dX8_findEvening_67 hP hS (fun H locs hP hS => ?_)
        refine lv_if_eq (tgt := 77) X.1 X.2.1 dX8_findEvening_70 (by decide) (fun c70 => ?_) (fun c70 => ?_)
        · have hf := it_s hf c70
          exact t_X8_findEvening_b77 X kh12 F I x2 x3 x4 r32 H locs ls hf hfF hfI hP hS (lv_sub hl [1, 2, 3, 4, 0] rfl)
        · have hf := ie_s hf c70
          exact t_X8_findEvening_b73 X kh12 F I x2 x3 x4 r32 H locs ls hf hfF hfI hP hS (lv_sub hl [1, 2, 3, 4, 0] rfl)
set_option maxRecDepth 100000 in
theorem t_X8_findEvening_b12 {p : Program} {l : Launch} {e : Env} {s : State} {m : MethodId} {args : Array Value} {below : List Frame} {meth : Method} {c : Code} {D : va_G} {a : Nat → Nat} {kc : Nat → ClassId} (X : cx 21 p s m args meth c D (tyM kc) a cX8_findEvening 9 RX8 (some .int)) {G : Nat → Int64} {J : Nat → Nat → Int64} {Ff : Nat → Int32} {If : Nat → Nat → Int32} {r : Int32} :
    ∀ (n : Nat) (F : Nat → Int32) (I : Nat → Nat → Int32) (x2 : Int32) (x3 : Int32) (x4 : Int32) (H : Heap) (locs : List Loc) (ls : Array Slot), p_X8_findEvening_b12 n (F 2) (F 4) (F 13) (I 6) (I 8) (I 9) (I 15) x2 x3 x4 = some (r, (Ff 13), (If 15)) → (∀ k, k ∉ ([13] : List Nat) → Ff k = F k) → (∀ k, k ∉ ([15] : List Nat) → If k = I k) → va_P D vwCl (wM a kc F G I J) H → va_S (ad a 21 s.heap.size) s.heap H locs → lv_has ls 9 [(0, .ref (a 0)), (2, .int x2), (3, .int x3), (4, .int x4)] → W p l e rm_X8_findEvening s m args below meth c H locs 0 0 (MQ below (Qi D (wM a kc Ff G If J) r (ad a 21 s.heap.size)) args s 0 0 (ad a 21 s.heap.size)) (F0 m 12 ls []) := by
  intro n
  induction n with
  | zero => intro F I x2 x3 x4 H locs ls hf hfF hfI hP hS hl; exact (nos hf).elim
  | succ n ih => exact t_X8_findEvening_b12x X ih
set_option maxHeartbeats 4000000 in
set_option maxRecDepth 100000 in
theorem t_X8_findEvening_b0 {p : Program} {l : Launch} {e : Env} {s : State} {m : MethodId} {args : Array Value} {below : List Frame} {meth : Method} {c : Code} {D : va_G} {a : Nat → Nat} {kc : Nat → ClassId} (X : cx 21 p s m args meth c D (tyM kc) a cX8_findEvening 9 RX8 (some .int)) {G : Nat → Int64} {J : Nat → Nat → Int64} {Ff : Nat → Int32} {If : Nat → Nat → Int32} {r : Int32} :
    ∀ (F : Nat → Int32) (I : Nat → Nat → Int32) (x1 : Int32) (H : Heap) (locs : List Loc) (ls : Array Slot), p_X8_findEvening_b0 (F 2) (F 4) (F 13) (I 6) (I 8) (I 9) (I 15) x1 = some (r, (Ff 13), (If 15)) → (∀ k, k ∉ ([13] : List Nat) → Ff k = F k) → (∀ k, k ∉ ([15] : List Nat) → If k = I k) → va_P D vwCl (wM a kc F G I J) H → va_S (ad a 21 s.heap.size) s.heap H locs → lv_has ls 9 [(0, .ref (a 0)), (1, .int x1)] → W p l e rm_X8_findEvening s m args below meth c H locs 0 0 (MQ below (Qi D (wM a kc Ff G If J) r (ad a 21 s.heap.size)) args s 0 0 (ad a 21 s.heap.size)) (F0 m 0 ls []) := by
  intro F I x1 H locs ls hf hfF hfI hP hS hl
  unfold p_X8_findEvening_b0 at hf
  refine lv_aload_n X.1 X.2.1 dX8_findEvening_0 rfl (lv_at hl 0 rfl) ?_
  refine lv_iload_n X.1 X.2.1 dX8_findEvening_1 rfl (lv_at hl 1 rfl) ?_
  refine pM_0_34 X q_4_143 dX8_findEvening_2 hP hS (fun H locs hP hS => ?_)
  refine lv_iconst (v := 0) X.1 X.2.1 dX8_findEvening_5 (by decide) ?_
  refine lv_istore_n (lv' := [(2, .int 0), (0, .ref (a 0)), (1, .int x1)]) X.1 X.2.1 dX8_findEvening_6 rfl hl (by decide) rfl (fun ls hl => ?_)
  refine lv_iconst (v := 0) X.1 X.2.1 dX8_findEvening_7 (by decide) ?_
  refine lv_istore_n (lv' := [(3, .int 0), (2, .int 0), (0, .ref (a 0)), (1, .int x1)]) X.1 X.2.1 dX8_findEvening_8 rfl hl (by decide) rfl (fun ls hl => ?_)
  refine lv_iconst (v := 0) X.1 X.2.1 dX8_findEvening_9 (by decide) ?_
  refine lv_istore (lv' := [(4, .int 0), (3, .int 0), (2, .int 0), (0, .ref (a 0)), (1, .int x1)]) X.1 X.2.1 dX8_findEvening_10 hl (by decide) rfl (fun ls hl => ?_)
  exact t_X8_findEvening_b12 X 4096 (va_up F 13 x1) I 0 0 0 H locs ls hf (frm_up hfF (by decide)) hfI hP hS (lv_sub hl [3, 2, 1, 0] rfl)
set_option maxRecDepth 100000 in
theorem c_X8_findEvening {l : Launch} {D : va_G} {a : Nat → Nat} {kc : Nat → ClassId} (F : Nat → Int32) (G : Nat → Int64) (I : Nat → Nat → Int32) (J : Nat → Nat → Int64) (hAp : ∀ i j, i < 21 → j < 21 → a i = a j → i = j) (x1 : Int32) {o0 : Int32} {o1 : Int32} {o2 : Nat → Int32} (hf : p_X8_findEvening (F 2) (F 4) (F 13) (I 6) (I 8) (I 9) (I 15) x1 = some (o0, o1, o2)) : Ct 21 l yX8_findEvening cX8_findEvening 9 (some .int) rm_X8_findEvening D (tyM kc) a (wM a kc F G I J) [.ref (a 0), .int x1] (Qi D (wM a kc (va_up F 13 o1) G (va_up I 15 o2) J) o0) :=
  Ct.of (by decide +kernel) hAp (Nat.le_of_ble_eq_true rfl) (fun p e s m args below meth c ls X hP hl => t_X8_findEvening_b0 X F I x1 _ _ _ hf (frm_ul (fun k _ => rfl) (by decide)) (frm_ul (fun k _ => rfl) (by decide)) hP va_S.rf hl)
abbrev rm_X8_eveningOf : Room := { frames := 4, cells := 0, slots := 0, locals := 97 }
set_option maxHeartbeats 4000000 in
set_option maxRecDepth 100000 in
theorem t_X8_eveningOf_b21 {p : Program} {l : Launch} {e : Env} {s : State} {m : MethodId} {args : Array Value} {below : List Frame} {meth : Method} {c : Code} {D : va_G} {a : Nat → Nat} {kc : Nat → ClassId} (X : cx 21 p s m args meth c D (tyM kc) a cX8_eveningOf 4 RX8 (some .int)) {G : Nat → Int64} {J : Nat → Nat → Int64} {Ff : Nat → Int32} {If : Nat → Nat → Int32} {r : Int32} :
    ∀ (F : Nat → Int32) (I : Nat → Nat → Int32) (t0 : Int32) (H : Heap) (locs : List Loc) (ls : Array Slot), p_X8_eveningOf_b21 (F 2) (F 4) (F 13) (I 6) (I 8) (I 9) (I 15) t0 = some (r, (Ff 13), (If 15)) → (∀ k, k ∉ ([13] : List Nat) → Ff k = F k) → (∀ k, k ∉ ([15] : List Nat) → If k = I k) → va_P D vwCl (wM a kc F G I J) H → va_S (ad a 21 s.heap.size) s.heap H locs → lv_has ls 4 [(0, .ref (a 0))] → W p l e rm_X8_eveningOf s m args below meth c H locs 0 0 (MQ below (Qi D (wM a kc Ff G If J) r (ad a 21 s.heap.size)) args s 0 0 (ad a 21 s.heap.size)) (F0 m 21 ls [.int t0]) := by
  intro F I t0 H locs ls hf hfF hfI hP hS hl
  unfold p_X8_eveningOf_b21 at hf
  obtain ⟨e0, hf⟩ := o2 hf
  obtain ⟨e1, hf⟩ := o2 hf
  have e2 := o1 hf
  have EF : Ff = F := frm_eq hfF (frm_c (e1).symm frm_n)
  have EI : If = I := frm_eq hfI (frm_c (e2).symm frm_n)
  exact ret_i X hS (by rw [EF, EI]; exact hP) e0 dX8_eveningOf_21
set_option maxHeartbeats 4000000 in
set_option maxRecDepth 100000 in
theorem t_X8_eveningOf_b0 {p : Program} {l : Launch} {e : Env} {s : State} {m : MethodId} {args : Array Value} {below : List Frame} {meth : Method} {c : Code} {D : va_G} {a : Nat → Nat} {kc : Nat → ClassId} (X : cx 21 p s m args meth c D (tyM kc) a cX8_eveningOf 4 RX8 (some .int)) {G : Nat → Int64} {J : Nat → Nat → Int64} {Ff : Nat → Int32} {If : Nat → Nat → Int32} {r : Int32} :
    ∀ (F : Nat → Int32) (I : Nat → Nat → Int32) (x1 : Int32) (x2 : Int32) (H : Heap) (locs : List Loc) (ls : Array Slot), p_X8_eveningOf_b0 (F 2) (F 4) (F 13) (I 6) (I 8) (I 9) (I 15) x1 x2 = some (r, (Ff 13), (If 15)) → (∀ k, k ∉ ([13] : List Nat) → Ff k = F k) → (∀ k, k ∉ ([15] : List Nat) → If k = I k) → va_P D vwCl (wM a kc F G I J) H → va_S (ad a 21 s.heap.size) s.heap H locs → lv_has ls 4 [(0, .ref (a 0)), (1, .int x1), (2, .int x2)] → W p l e rm_X8_eveningOf s m args below meth c H locs 0 0 (MQ below (Qi D (wM a kc Ff G If J) r (ad a 21 s.heap.size)) args s 0 0 (ad a 21 s.heap.size)) (F0 m 0 ls []) := by
  intro F I x1 x2 H locs ls hf hfF hfI hP hS hl
  unfold p_X8_eveningOf_b0 at hf
  refine lv_aload_n X.1 X.2.1 dX8_eveningOf_0 rfl (lv_at hl 0 rfl) ?_
  refine lv_iload_n X.1 X.2.1 dX8_eveningOf_1 rfl (lv_at hl 1 rfl) ?_
  obtain ⟨r2, m_seedNow_2, m_evening_2, ho, hf⟩ := b3_s hf
  refine call_vi (rest := []) X (c_X8_findEvening F G I J X.2.2.2.2.2.2.2.1 x1 ho) q_6_98 q_6_100 qs_yX8_findEvening q_1_10 q_6_101 ok_X8_findEvening rfl 0 rfl rfl ⟨Nat.le_of_ble_eq_true rfl, Nat.le_of_ble_eq_true rfl⟩ rfl rfl hl.1 rfl (Nat.le_of_ble_eq_true rfl) dX8_eveningOf_2 hP hS (fun H locs hP hS => ?_)
  refine lv_istore_n (lv' := [(3, .int r2), (0, .ref (a 0)), (1, .int x1), (2, .int x2)]) X.1 X.2.1 dX8_eveningOf_5 rfl hl (by decide) rfl (fun ls hl => ?_)
  refine lv_iload_n X.1 X.2.1 dX8_eveningOf_6 rfl (lv_at hl 3 rfl) ?_
  refine lv_iconst (v := (-1)) X.1 X.2.1 dX8_eveningOf_7 (by decide) ?_
  refine lv_icmp_ne (tgt := 15) X.1 X.2.1 dX8_eveningOf_8 (by decide) (fun c8 => ?_) (fun c8 => ?_)
  · have hf := ie_s hf c8
    refine lv_aload_n X.1 X.2.1 dX8_eveningOf_15 rfl (lv_at hl 1 rfl) ?_
    refine gM_0_35 X q_4_144 dX8_eveningOf_16 hP ?_
    refine lv_iload_n X.1 X.2.1 dX8_eveningOf_19 rfl (lv_at hl 3 rfl) ?_
    obtain ⟨h20, hf⟩ := gd_s hf
    refine lM_20 (I := (va_up I 15 m_evening_2)) X (f := m_evening_2) rfl h20 dX8_eveningOf_20 hP ?_
    exact t_X8_eveningOf_b21 X (va_up F 13 m_seedNow_2) (va_up I 15 m_evening_2) (m_evening_2 x2.toNatClampNeg) H locs ls hf (frm_up hfF (by decide)) (frm_up hfI (by decide)) hP hS (lv_sub hl [1] rfl)
  · have hf := it_s hf c8
    refine lv_iload_n X.1 X.2.1 dX8_eveningOf_11 rfl (lv_at hl 0 rfl) ?_
    refine lv_goto (tgt := 21) X.1 X.2.1 dX8_eveningOf_12 (by decide) ?_
    exact t_X8_eveningOf_b21 X (va_up F 13 m_seedNow_2) (va_up I 15 m_evening_2) r2 H locs ls hf (frm_up hfF (by decide)) (frm_up hfI (by decide)) hP hS (lv_sub hl [1] rfl)
set_option maxRecDepth 100000 in
theorem c_X8_eveningOf {l : Launch} {D : va_G} {a : Nat → Nat} {kc : Nat → ClassId} (F : Nat → Int32) (G : Nat → Int64) (I : Nat → Nat → Int32) (J : Nat → Nat → Int64) (hAp : ∀ i j, i < 21 → j < 21 → a i = a j → i = j) (x1 : Int32) (x2 : Int32) {o0 : Int32} {o1 : Int32} {o2 : Nat → Int32} (hf : p_X8_eveningOf (F 2) (F 4) (F 13) (I 6) (I 8) (I 9) (I 15) x1 x2 = some (o0, o1, o2)) : Ct 21 l yX8_eveningOf cX8_eveningOf 4 (some .int) rm_X8_eveningOf D (tyM kc) a (wM a kc F G I J) [.ref (a 0), .int x1, .int x2] (Qi D (wM a kc (va_up F 13 o1) G (va_up I 15 o2) J) o0) :=
  Ct.of (by decide +kernel) hAp (Nat.le_of_ble_eq_true rfl) (fun p e s m args below meth c ls X hP hl => t_X8_eveningOf_b0 X F I x1 x2 _ _ _ hf (frm_ul (fun k _ => rfl) (by decide)) (frm_ul (fun k _ => rfl) (by decide)) hP va_S.rf hl)
abbrev rm_X8_evening : Room := { frames := 5, cells := 0, slots := 0, locals := 120 }
set_option maxHeartbeats 4000000 in
set_option maxRecDepth 100000 in
theorem t_X8_evening_b33 {p : Program} {l : Launch} {e : Env} {s : State} {m : MethodId} {args : Array Value} {below : List Frame} {meth : Method} {c : Code} {D : va_G} {a : Nat → Nat} {kc : Nat → ClassId} (X : cx 21 p s m args meth c D (tyM kc) a cX8_evening 3 RX8 (some .int)) {G : Nat → Int64} {J : Nat → Nat → Int64} {Ff : Nat → Int32} {If : Nat → Nat → Int32} {r : Int32} :
    ∀ (F : Nat → Int32) (I : Nat → Nat → Int32) (t0 : Int32) (H : Heap) (locs : List Loc) (ls : Array Slot), p_X8_evening_b33 (F 1) (F 2) (F 3) (F 4) (F 13) (I 4) (I 5) (I 6) (I 7) (I 8) (I 9) (I 15) t0 = some (r, (Ff 1), (Ff 2), (Ff 3), (Ff 4), (Ff 13), (If 6), (If 7), (If 8), (If 9), (If 15)) → (∀ k, k ∉ ([1, 2, 3, 4, 13] : List Nat) → Ff k = F k) → (∀ k, k ∉ ([6, 7, 8, 9, 15] : List Nat) → If k = I k) → va_P D vwCl (wM a kc F G I J) H → va_S (ad a 21 s.heap.size) s.heap H locs → lv_has ls 3 [(0, .ref (a 0))] → W p l e rm_X8_evening s m args below meth c H locs 0 0 (MQ below (Qi D (wM a kc Ff G If J) r (ad a 21 s.heap.size)) args s 0 0 (ad a 21 s.heap.size)) (F0 m 33 ls [.int t0]) := by
  intro F I t0 H locs ls hf hfF hfI hP hS hl
  unfold p_X8_evening_b33 at hf
  obtain ⟨e0, hf⟩ := o2 hf
  obtain ⟨e1, hf⟩ := o2 hf
  obtain ⟨e2, hf⟩ := o2 hf
  obtain ⟨e3, hf⟩ := o2 hf
  obtain ⟨e4, hf⟩ := o2 hf
  obtain ⟨e5, hf⟩ := o2 hf
  obtain ⟨e6, hf⟩ := o2 hf
  obtain ⟨e7, hf⟩ := o2 hf
  obtain ⟨e8, hf⟩ := o2 hf
  obtain ⟨e9, hf⟩ := o2 hf
  have e10 := o1 hf
  have EF : Ff = F := frm_eq hfF (frm_c (e1).symm (frm_c (e2).symm (frm_c (e3).symm (frm_c (e4).symm (frm_c (e5).symm frm_n)))))
  have EI : If = I := frm_eq hfI (frm_c (e6).symm (frm_c (e7).symm (frm_c (e8).symm (frm_c (e9).symm (frm_c (e10).symm frm_n)))))
  exact ret_i X hS (by rw [EF, EI]; exact hP) e0 dX8_evening_33
set_option maxHeartbeats 4000000 in
set_option maxRecDepth 100000 in
theorem t_X8_evening_b0 {p : Program} {l : Launch} {e : Env} {s : State} {m : MethodId} {args : Array Value} {below : List Frame} {meth : Method} {c : Code} {D : va_G} {a : Nat → Nat} {kc : Nat → ClassId} (X : cx 21 p s m args meth c D (tyM kc) a cX8_evening 3 RX8 (some .int)) {G : Nat → Int64} {J : Nat → Nat → Int64} {Ff : Nat → Int32} {If : Nat → Nat → Int32} {r : Int32} :
    ∀ (F : Nat → Int32) (I : Nat → Nat → Int32) (x1 : Int32) (x2 : Int32) (H : Heap) (locs : List Loc) (ls : Array Slot), p_X8_evening_b0 (F 1) (F 2) (F 3) (F 4) (F 13) (I 4) (I 5) (I 6) (I 7) (I 8) (I 9) (I 15) x1 x2 = some (r, (Ff 1), (Ff 2), (Ff 3), (Ff 4), (Ff 13), (If 6), (If 7), (If 8), (If 9), (If 15)) → (∀ k, k ∉ ([1, 2, 3, 4, 13] : List Nat) → Ff k = F k) → (∀ k, k ∉ ([6, 7, 8, 9, 15] : List Nat) → If k = I k) → va_P D vwCl (wM a kc F G I J) H → va_S (ad a 21 s.heap.size) s.heap H locs → lv_has ls 3 [(0, .ref (a 0)), (1, .int x1), (2, .int x2)] → W p l e rm_X8_evening s m args below meth c H locs 0 0 (MQ below (Qi D (wM a kc Ff G If J) r (ad a 21 s.heap.size)) args s 0 0 (ad a 21 s.heap.size)) (F0 m 0 ls []) := by
  intro F I x1 x2 H locs ls hf hfF hfI hP hS hl
  unfold p_X8_evening_b0 at hf
  refine lv_aload_n X.1 X.2.1 dX8_evening_0 rfl (lv_at hl 0 rfl) ?_
  obtain ⟨m_at_1, m_seats_1, m_rows_1, m_people_1, m_sorts_1, m_rowOf_1, m_own_1, m_kinds_1, ho, hf⟩ := b8_s hf
  refine call_vv (rest := []) X (c_X8_find F G I J X.2.2.2.2.2.2.2.1  ho) q_5_69 q_5_71 qs_yX8_find q_1_10 q_5_72 ok_X8_find rfl 0 rfl rfl ⟨Nat.le_of_ble_eq_true rfl, Nat.le_of_ble_eq_true rfl⟩ rfl rfl hl.1 rfl (Nat.le_of_ble_eq_true rfl) dX8_evening_1 hP hS (fun H locs hP hS => ?_)
  refine lv_iload_n X.1 X.2.1 dX8_evening_4 rfl (lv_at hl 2 rfl) ?_
  refine lv_i2l X.1 X.2.1 dX8_evening_5 rfl ?_
  refine lv_ldc2 (v := (-1)) X.1 X.2.1 X.2.2.2.2.1 (X.2.2.2.2.2.1 _ q_5_174) dX8_evening_6 ?_
  refine lv_aload_n X.1 X.2.1 dX8_evening_9 rfl (lv_at hl 0 rfl) ?_
  refine gM_0_12 (F := (va_up (va_up (va_up (va_up F 1 m_at_1) 2 m_seats_1) 3 m_rows_1) 4 m_people_1)) X (v := m_people_1) rfl q_4_121 dX8_evening_10 hP ?_
  refine lv_iconst (v := 1) X.1 X.2.1 dX8_evening_13 (by decide) ?_
  refine lv_isub X.1 X.2.1 dX8_evening_14 ?_
  refine lv_i2l X.1 X.2.1 dX8_evening_15 rfl ?_
  obtain ⟨r16, ho, hf⟩ := b1_s hf
  refine call_si (rest := []) X (c_X8_in x2.toInt64 (-1) ((m_people_1 - 1).toInt64) ho) q_4_226 q_4_227 q_1_10 q_4_228 ok_X8_in rfl ⟨Nat.le_of_ble_eq_true rfl, Nat.le_of_ble_eq_true rfl⟩ rfl rfl hl.1 rfl (Nat.le_of_ble_eq_true rfl) dX8_evening_16 hP hS (fun H locs hP hS => ?_)
  refine lv_if_eq (tgt := 31) X.1 X.2.1 dX8_evening_19 (by decide) (fun c19 => ?_) (fun c19 => ?_)
  · have hf := it_s hf c19
    refine lv_bipush (v := (-2)) X.1 X.2.1 dX8_evening_31 (by decide) ?_
    exact t_X8_evening_b33 X (va_up (va_up (va_up (va_up F 1 m_at_1) 2 m_seats_1) 3 m_rows_1) 4 m_people_1) (va_up (va_up (va_up (va_up I 6 m_sorts_1) 7 m_rowOf_1) 8 m_own_1) 9 m_kinds_1) (-2) H locs ls hf (frm_up (frm_up (frm_up (frm_up hfF (by decide)) (by decide)) (by decide)) (by decide)) (frm_up (frm_up (frm_up (frm_up hfI (by decide)) (by decide)) (by decide)) (by decide)) hP hS (lv_sub hl [0] rfl)
  · have hf := ie_s hf c19
    refine lv_aload_n X.1 X.2.1 dX8_evening_22 rfl (lv_at hl 0 rfl) ?_
    refine lv_iload_n X.1 X.2.1 dX8_evening_23 rfl (lv_at hl 1 rfl) ?_
    refine lv_iload_n X.1 X.2.1 dX8_evening_24 rfl (lv_at hl 2 rfl) ?_
    obtain ⟨r25, m_seedNow_25, m_evening_25, ho, hf⟩ := b3_s hf
    refine call_vi (rest := []) X (c_X8_eveningOf (va_up (va_up (va_up (va_up F 1 m_at_1) 2 m_seats_1) 3 m_rows_1) 4 m_people_1) G (va_up (va_up (va_up (va_up I 6 m_sorts_1) 7 m_rowOf_1) 8 m_own_1) 9 m_kinds_1) J X.2.2.2.2.2.2.2.1 x1 x2 ho) q_6_94 q_6_96 qs_yX8_eveningOf q_1_10 q_6_97 ok_X8_eveningOf rfl 0 rfl rfl ⟨Nat.le_of_ble_eq_true rfl, Nat.le_of_ble_eq_true rfl⟩ rfl rfl hl.1 rfl (Nat.le_of_ble_eq_true rfl) dX8_evening_25 hP hS (fun H locs hP hS => ?_)
    refine lv_goto (tgt := 33) X.1 X.2.1 dX8_evening_28 (by decide) ?_
    exact t_X8_evening_b33 X (va_up (va_up (va_up (va_up (va_up F 1 m_at_1) 2 m_seats_1) 3 m_rows_1) 4 m_people_1) 13 m_seedNow_25) (va_up (va_up (va_up (va_up (va_up I 6 m_sorts_1) 7 m_rowOf_1) 8 m_own_1) 9 m_kinds_1) 15 m_evening_25) r25 H locs ls hf (frm_up (frm_up (frm_up (frm_up (frm_up hfF (by decide)) (by decide)) (by decide)) (by decide)) (by decide)) (frm_up (frm_up (frm_up (frm_up (frm_up hfI (by decide)) (by decide)) (by decide)) (by decide)) (by decide)) hP hS (lv_sub hl [0] rfl)
set_option maxRecDepth 100000 in
theorem c_X8_evening {l : Launch} {D : va_G} {a : Nat → Nat} {kc : Nat → ClassId} (F : Nat → Int32) (G : Nat → Int64) (I : Nat → Nat → Int32) (J : Nat → Nat → Int64) (hAp : ∀ i j, i < 21 → j < 21 → a i = a j → i = j) (x1 : Int32) (x2 : Int32) {o0 : Int32} {o1 : Int32} {o2 : Int32} {o3 : Int32} {o4 : Int32} {o5 : Int32} {o6 : Nat → Int32} {o7 : Nat → Int32} {o8 : Nat → Int32} {o9 : Nat → Int32} {o10 : Nat → Int32} (hf : p_X8_evening (F 1) (F 2) (F 3) (F 4) (F 13) (I 4) (I 5) (I 6) (I 7) (I 8) (I 9) (I 15) x1 x2 = some (o0, o1, o2, o3, o4, o5, o6, o7, o8, o9, o10)) : Ct 21 l yX8_evening cX8_evening 3 (some .int) rm_X8_evening D (tyM kc) a (wM a kc F G I J) [.ref (a 0), .int x1, .int x2] (Qi D (wM a kc (va_up (va_up (va_up (va_up (va_up F 1 o1) 2 o2) 3 o3) 4 o4) 13 o5) G (va_up (va_up (va_up (va_up (va_up I 6 o6) 7 o7) 8 o8) 9 o9) 15 o10) J) o0) :=
  Ct.of (by decide +kernel) hAp (Nat.le_of_ble_eq_true rfl) (fun p e s m args below meth c ls X hP hl => t_X8_evening_b0 X F I x1 x2 _ _ _ hf (frm_ul (frm_ul (frm_ul (frm_ul (frm_ul (fun k _ => rfl) (by decide)) (by decide)) (by decide)) (by decide)) (by decide)) (frm_ul (frm_ul (frm_ul (frm_ul (frm_ul (fun k _ => rfl) (by decide)) (by decide)) (by decide)) (by decide)) (by decide)) hP va_S.rf hl)
abbrev rm_X8_write : Room := { frames := 4, cells := 0, slots := 0, locals := 97 }
set_option maxHeartbeats 4000000 in
set_option maxRecDepth 100000 in
theorem t_X8_write_b65x {p : Program} {l : Launch} {e : Env} {s : State} {m : MethodId} {args : Array Value} {below : List Frame} {meth : Method} {c : Code} {D : va_G} {a : Nat → Nat} {kc : Nat → ClassId} (X : cx 21 p s m args meth c D (tyM kc) a cX8_write 5 RX8 (some .int)) {G : Nat → Int64} {J : Nat → Nat → Int64} {Ff : Nat → Int32} {If : Nat → Nat → Int32} {r : Int32} {K65 : Int32 → Int32 → Int32 → Int32 → Int32 → Int32 → (Nat → Int32) → (Nat → Int32) → (Nat → Int32) → (Nat → Int32) → (Nat → Int32) → (Nat → Int32) → (Nat → Int32) → (Nat → Int32) → (Nat → Int32) → (Nat → Int32) → Int32 → Int32 → Int32 → Option (Int32 × Int32 × Int32 × Int32 × Int32 × Int32 × Int32 × (Nat → Int32) × (Nat → Int32) × (Nat → Int32) × (Nat → Int32) × (Nat → Int32) × (Nat → Int32))} (kh65 : ∀ (F : Nat → Int32) (I : Nat → Nat → Int32) (x2 : Int32) (x3 : Int32) (x4 : Int32) (H : Heap) (locs : List Loc) (ls : Array Slot), K65 (F 0) (F 1) (F 2) (F 3) (F 4) (F 13) (I 0) (I 1) (I 2) (I 4) (I 5) (I 6) (I 7) (I 8) (I 9) (I 15) x2 x3 x4 = some (r, (Ff 0), (Ff 1), (Ff 2), (Ff 3), (Ff 4), (Ff 13), (If 2), (If 6), (If 7), (If 8), (If 9), (If 15)) → (∀ k, k ∉ ([0, 1, 2, 3, 4, 13] : List Nat) → Ff k = F k) → (∀ k, k ∉ ([2, 6, 7, 8, 9, 15] : List Nat) → If k = I k) → va_P D vwCl (wM a kc F G I J) H → va_S (ad a 21 s.heap.size) s.heap H locs → lv_has ls 5 [(0, .ref (a 0)), (2, .int x2), (3, .int x3), (4, .int x4)] → W p l e rm_X8_write s m args below meth c H locs 0 0 (MQ below (Qi D (wM a kc Ff G If J) r (ad a 21 s.heap.size)) args s 0 0 (ad a 21 s.heap.size)) (F0 m 65 ls [])) :
    ∀ (F : Nat → Int32) (I : Nat → Nat → Int32) (x2 : Int32) (x3 : Int32) (x4 : Int32) (H : Heap) (locs : List Loc) (ls : Array Slot), p_X8_write_b65x K65 (F 0) (F 1) (F 2) (F 3) (F 4) (F 13) (I 0) (I 1) (I 2) (I 4) (I 5) (I 6) (I 7) (I 8) (I 9) (I 15) x2 x3 x4 = some (r, (Ff 0), (Ff 1), (Ff 2), (Ff 3), (Ff 4), (Ff 13), (If 2), (If 6), (If 7), (If 8), (If 9), (If 15)) → (∀ k, k ∉ ([0, 1, 2, 3, 4, 13] : List Nat) → Ff k = F k) → (∀ k, k ∉ ([2, 6, 7, 8, 9, 15] : List Nat) → If k = I k) → va_P D vwCl (wM a kc F G I J) H → va_S (ad a 21 s.heap.size) s.heap H locs → lv_has ls 5 [(0, .ref (a 0)), (2, .int x2), (3, .int x3), (4, .int x4)] → W p l e rm_X8_write s m args below meth c H locs 0 0 (MQ below (Qi D (wM a kc Ff G If J) r (ad a 21 s.heap.size)) args s 0 0 (ad a 21 s.heap.size)) (F0 m 65 ls []) := by
  intro F I x2 x3 x4 H locs ls hf hfF hfI hP hS hl
  unfold p_X8_write_b65x at hf
  refine lv_iload X.1 X.2.1 dX8_write_65 (lv_at hl 3 rfl) ?_
  refine lv_iload_n X.1 X.2.1 dX8_write_67 rfl (lv_at hl 2 rfl) ?_
  refine lv_icmp_ge (tgt := 105) X.1 X.2.1 dX8_write_68 (by decide) (fun c68 => ?_) (fun c68 => ?_)
  · have hf := it_s hf c68
    refine lv_iload_n X.1 X.2.1 dX8_write_105 rfl (lv_at hl 2 rfl) ?_
    obtain ⟨e0, hf⟩ := o2 hf
    obtain ⟨e1, hf⟩ := o2 hf
    obtain ⟨e2, hf⟩ := o2 hf
    obtain ⟨e3, hf⟩ := o2 hf
    obtain ⟨e4, hf⟩ := o2 hf
    obtain ⟨e5, hf⟩ := o2 hf
    obtain ⟨e6, hf⟩ := o2 hf
    obtain ⟨e7, hf⟩ := o2 hf
    obtain ⟨e8, hf⟩ := o2 hf
    obtain ⟨e9, hf⟩ := o2 hf
    obtain ⟨e10, hf⟩ := o2 hf
    obtain ⟨e11, hf⟩ := o2 hf
    have e12 := o1 hf
    have EF : Ff = F := frm_eq hfF (frm_c (e1).symm (frm_c (e2).symm (frm_c (e3).symm (frm_c (e4).symm (frm_c (e5).symm (frm_c (e6).symm frm_n))))))
    have EI : If = I := frm_eq hfI (frm_c (e7).symm (frm_c (e8).symm (frm_c (e9).symm (frm_c (e10).symm (frm_c (e11).symm (frm_c (e12).symm frm_n))))))
    exact ret_i X hS (by rw [EF, EI]; exact hP) e0 dX8_write_106
  · have hf := ie_s hf c68
    refine lv_aload_n X.1 X.2.1 dX8_write_71 rfl (lv_at hl 0 rfl) ?_
    refine gM_0_2 X q_4_111 dX8_write_72 hP ?_
    refine lv_bipush (v := 60) X.1 X.2.1 dX8_write_75 (by decide) ?_
    refine lv_iload_n X.1 X.2.1 dX8_write_77 rfl (lv_at hl 1 rfl) ?_
    refine lv_imul X.1 X.2.1 dX8_write_78 ?_
    refine lv_iload X.1 X.2.1 dX8_write_79 (lv_at hl 3 rfl) ?_
    refine lv_iadd X.1 X.2.1 dX8_write_81 ?_
    refine lv_aload_n X.1 X.2.1 dX8_write_82 rfl (lv_at hl 0 rfl) ?_
    refine gM_0_0 X q_4_109 dX8_write_83 hP ?_
    refine lv_iload_n X.1 X.2.1 dX8_write_86 rfl (lv_at hl 1 rfl) ?_
    obtain ⟨h87, hf⟩ := gd_s hf
    refine lM_1 (I := I) X (f := (I 0)) rfl h87 dX8_write_87 hP ?_
    refine lv_aload_n X.1 X.2.1 dX8_write_88 rfl (lv_at hl 0 rfl) ?_
    refine gM_0_35 X q_4_144 dX8_write_89 hP ?_
    refine lv_iload X.1 X.2.1 dX8_write_92 (lv_at hl 3 rfl) ?_
    obtain ⟨h94, hf⟩ := gd_s hf
    refine lM_20 (I := I) X (f := (I 15)) rfl h94 dX8_write_94 hP ?_
    obtain ⟨r95, ho, hf⟩ := b1_s hf
    refine call_si (rest := [.int ((60 * x2) + x4), .ref (a 3)]) X (c_X8_cut ((I 0) x2.toNatClampNeg) ((I 15) x4.toNatClampNeg) ho) q_5_6 q_5_7 q_1_10 q_5_8 ok_X8_cut rfl ⟨Nat.le_of_ble_eq_true rfl, Nat.le_of_ble_eq_true rfl⟩ rfl rfl hl.1 rfl (Nat.le_of_ble_eq_true rfl) dX8_write_95 hP hS (fun H locs hP hS => ?_)
    obtain ⟨h98, hf⟩ := gd_s hf
    obtain ⟨m_items_98, em_items_98, hf⟩ := nm_x hf
    refine sM_3 (I := I) X h98 em_items_98 dX8_write_98 hP hS (fun H locs hP hS => ?_)
    obtain ⟨x99, ex99, hf⟩ := nm_x hf
    refine lv_iinc (v := x99) (lv' := [(4, .int x99), (0, .ref (a 0)), (2, .int x2), (3, .int x3)]) X.1 X.2.1 dX8_write_99 hl (k := 3) rfl ex99 (by decide) rfl (fun ls hl => ?_)
    refine lv_goto (tgt := 65) X.1 X.2.1 dX8_write_102 (by decide) ?_
    exact kh65 F (va_up I 2 m_items_98) x2 x3 x99 H locs ls hf hfF (frm_up hfI (by decide)) hP hS (lv_sub hl [1, 2, 3, 0] rfl)
set_option maxRecDepth 100000 in
theorem t_X8_write_b65 {p : Program} {l : Launch} {e : Env} {s : State} {m : MethodId} {args : Array Value} {below : List Frame} {meth : Method} {c : Code} {D : va_G} {a : Nat → Nat} {kc : Nat → ClassId} (X : cx 21 p s m args meth c D (tyM kc) a cX8_write 5 RX8 (some .int)) {G : Nat → Int64} {J : Nat → Nat → Int64} {Ff : Nat → Int32} {If : Nat → Nat → Int32} {r : Int32} :
    ∀ (n : Nat) (F : Nat → Int32) (I : Nat → Nat → Int32) (x2 : Int32) (x3 : Int32) (x4 : Int32) (H : Heap) (locs : List Loc) (ls : Array Slot), p_X8_write_b65 n (F 0) (F 1) (F 2) (F 3) (F 4) (F 13) (I 0) (I 1) (I 2) (I 4) (I 5) (I 6) (I 7) (I 8) (I 9) (I 15) x2 x3 x4 = some (r, (Ff 0), (Ff 1), (Ff 2), (Ff 3), (Ff 4), (Ff 13), (If 2), (If 6), (If 7), (If 8), (If 9), (If 15)) → (∀ k, k ∉ ([0, 1, 2, 3, 4, 13] : List Nat) → Ff k = F k) → (∀ k, k ∉ ([2, 6, 7, 8, 9, 15] : List Nat) → If k = I k) → va_P D vwCl (wM a kc F G I J) H → va_S (ad a 21 s.heap.size) s.heap H locs → lv_has ls 5 [(0, .ref (a 0)), (2, .int x2), (3, .int x3), (4, .int x4)] → W p l e rm_X8_write s m args below meth c H locs 0 0 (MQ below (Qi D (wM a kc Ff G If J) r (ad a 21 s.heap.size)) args s 0 0 (ad a 21 s.heap.size)) (F0 m 65 ls []) := by
  intro n
  induction n with
  | zero => intro F I x2 x3 x4 H locs ls hf hfF hfI hP hS hl; exact (nos hf).elim
  | succ n ih => exact t_X8_write_b65x X ih
set_option maxHeartbeats 4000000 in
set_option maxRecDepth 100000 in
theorem t_X8_write_b61 {p : Program} {l : Launch} {e : Env} {s : State} {m : MethodId} {args : Array Value} {below : List Frame} {meth : Method} {c : Code} {D : va_G} {a : Nat → Nat} {kc : Nat → ClassId} (X : cx 21 p s m args meth c D (tyM kc) a cX8_write 5 RX8 (some .int)) {G : Nat → Int64} {J : Nat → Nat → Int64} {Ff : Nat → Int32} {If : Nat → Nat → Int32} {r : Int32} :
    ∀ (F : Nat → Int32) (I : Nat → Nat → Int32) (t0 : Int32) (x2 : Int32) (H : Heap) (locs : List Loc) (ls : Array Slot), p_X8_write_b61 (F 0) (F 1) (F 2) (F 3) (F 4) (F 13) (I 0) (I 1) (I 2) (I 4) (I 5) (I 6) (I 7) (I 8) (I 9) (I 15) t0 x2 = some (r, (Ff 0), (Ff 1), (Ff 2), (Ff 3), (Ff 4), (Ff 13), (If 2), (If 6), (If 7), (If 8), (If 9), (If 15)) → (∀ k, k ∉ ([0, 1, 2, 3, 4, 13] : List Nat) → Ff k = F k) → (∀ k, k ∉ ([2, 6, 7, 8, 9, 15] : List Nat) → If k = I k) → va_P D vwCl (wM a kc F G I J) H → va_S (ad a 21 s.heap.size) s.heap H locs → lv_has ls 5 [(0, .ref (a 0)), (2, .int x2)] → W p l e rm_X8_write s m args below meth c H locs 0 0 (MQ below (Qi D (wM a kc Ff G If J) r (ad a 21 s.heap.size)) args s 0 0 (ad a 21 s.heap.size)) (F0 m 61 ls [.int t0]) := by
  intro F I t0 x2 H locs ls hf hfF hfI hP hS hl
  unfold p_X8_write_b61 at hf
  refine lv_istore_n (lv' := [(3, .int t0), (0, .ref (a 0)), (2, .int x2)]) X.1 X.2.1 dX8_write_61 rfl hl (by decide) rfl (fun ls hl => ?_)
  refine lv_iconst (v := 0) X.1 X.2.1 dX8_write_62 (by decide) ?_
  refine lv_istore (lv' := [(4, .int 0), (3, .int t0), (0, .ref (a 0)), (2, .int x2)]) X.1 X.2.1 dX8_write_63 hl (by decide) rfl (fun ls hl => ?_)
  exact t_X8_write_b65 X 4096 F I x2 t0 0 H locs ls hf hfF hfI hP hS (lv_sub hl [2, 3, 1, 0] rfl)
set_option maxHeartbeats 4000000 in
set_option maxRecDepth 100000 in
theorem t_X8_write_b0 {p : Program} {l : Launch} {e : Env} {s : State} {m : MethodId} {args : Array Value} {below : List Frame} {meth : Method} {c : Code} {D : va_G} {a : Nat → Nat} {kc : Nat → ClassId} (X : cx 21 p s m args meth c D (tyM kc) a cX8_write 5 RX8 (some .int)) {G : Nat → Int64} {J : Nat → Nat → Int64} {Ff : Nat → Int32} {If : Nat → Nat → Int32} {r : Int32} :
    ∀ (F : Nat → Int32) (I : Nat → Nat → Int32) (x1 : Int32) (x2 : Int32) (H : Heap) (locs : List Loc) (ls : Array Slot), p_X8_write_b0 (F 0) (F 1) (F 2) (F 3) (F 4) (F 13) (I 0) (I 1) (I 2) (I 4) (I 5) (I 6) (I 7) (I 8) (I 9) (I 15) x1 x2 = some (r, (Ff 0), (Ff 1), (Ff 2), (Ff 3), (Ff 4), (Ff 13), (If 2), (If 6), (If 7), (If 8), (If 9), (If 15)) → (∀ k, k ∉ ([0, 1, 2, 3, 4, 13] : List Nat) → Ff k = F k) → (∀ k, k ∉ ([2, 6, 7, 8, 9, 15] : List Nat) → If k = I k) → va_P D vwCl (wM a kc F G I J) H → va_S (ad a 21 s.heap.size) s.heap H locs → lv_has ls 5 [(0, .ref (a 0)), (1, .int x1), (2, .int x2)] → W p l e rm_X8_write s m args below meth c H locs 0 0 (MQ below (Qi D (wM a kc Ff G If J) r (ad a 21 s.heap.size)) args s 0 0 (ad a 21 s.heap.size)) (F0 m 0 ls []) := by
  intro F I x1 x2 H locs ls hf hfF hfI hP hS hl
  unfold p_X8_write_b0 at hf
  refine lv_iload_n X.1 X.2.1 dX8_write_0 rfl (lv_at hl 2 rfl) ?_
  obtain ⟨r1, ho, hf⟩ := b1_s hf
  refine call_si (rest := []) X (c_X8_isSheet x2 ho) q_4_222 q_4_223 q_1_10 q_4_224 ok_X8_isSheet rfl ⟨Nat.le_of_ble_eq_true rfl, Nat.le_of_ble_eq_true rfl⟩ rfl rfl hl.1 rfl (Nat.le_of_ble_eq_true rfl) dX8_write_1 hP hS (fun H locs hP hS => ?_)
  refine lv_if_ne (tgt := 10) X.1 X.2.1 dX8_write_4 (by decide) (fun c4 => ?_) (fun c4 => ?_)
  · have hf := ie_s hf c4
    refine lv_aload_n X.1 X.2.1 dX8_write_10 rfl (lv_at hl 0 rfl) ?_
    refine gM_0_0 X q_4_109 dX8_write_11 hP ?_
    refine lv_iload_n X.1 X.2.1 dX8_write_14 rfl (lv_at hl 2 rfl) ?_
    obtain ⟨h15, hf⟩ := gd_s hf
    refine lM_1 (I := I) X (f := (I 0)) rfl h15 dX8_write_15 hP ?_
    refine lv_if_ge (tgt := 25) X.1 X.2.1 dX8_write_16 (by decide) (fun c16 => ?_) (fun c16 => ?_)
    · have hf := it_s hf c16
      refine lv_aload_n X.1 X.2.1 dX8_write_25 rfl (lv_at hl 0 rfl) ?_
      obtain ⟨m_at_26, m_seats_26, m_rows_26, m_people_26, m_sorts_26, m_rowOf_26, m_own_26, m_kinds_26, ho, hf⟩ := b8_s hf
      refine call_vv (rest := []) X (c_X8_find F G I J X.2.2.2.2.2.2.2.1  ho) q_5_69 q_5_71 qs_yX8_find q_1_10 q_5_72 ok_X8_find rfl 0 rfl rfl ⟨Nat.le_of_ble_eq_true rfl, Nat.le_of_ble_eq_true rfl⟩ rfl rfl hl.1 rfl (Nat.le_of_ble_eq_true rfl) dX8_write_26 hP hS (fun H locs hP hS => ?_)
      refine lv_aload_n X.1 X.2.1 dX8_write_29 rfl (lv_at hl 0 rfl) ?_
      refine lv_iload_n X.1 X.2.1 dX8_write_30 rfl (lv_at hl 1 rfl) ?_
      obtain ⟨r31, m_seedNow_31, m_evening_31, ho, hf⟩ := b3_s hf
      refine call_vi (rest := []) X (c_X8_findEvening (va_up (va_up (va_up (va_up F 1 m_at_26) 2 m_seats_26) 3 m_rows_26) 4 m_people_26) G (va_up (va_up (va_up (va_up I 6 m_sorts_26) 7 m_rowOf_26) 8 m_own_26) 9 m_kinds_26) J X.2.2.2.2.2.2.2.1 x1 ho) q_6_98 q_6_100 qs_yX8_findEvening q_1_10 q_6_101 ok_X8_findEvening rfl 0 rfl rfl ⟨Nat.le_of_ble_eq_true rfl, Nat.le_of_ble_eq_true rfl⟩ rfl rfl hl.1 rfl (Nat.le_of_ble_eq_true rfl) dX8_write_31 hP hS (fun H locs hP hS => ?_)
      refine lv_pop X.1 X.2.1 dX8_write_34 rfl ?_
      refine lv_aload_n X.1 X.2.1 dX8_write_35 rfl (lv_at hl 0 rfl) ?_
      refine gM_0_1 X q_4_110 dX8_write_36 hP ?_
      refine lv_iload_n X.1 X.2.1 dX8_write_39 rfl (lv_at hl 2 rfl) ?_
      obtain ⟨h40, hf⟩ := gd_s hf
      refine lM_2 (I := (va_up (va_up (va_up (va_up (va_up I 6 m_sorts_26) 7 m_rowOf_26) 8 m_own_26) 9 m_kinds_26) 15 m_evening_31)) X (f := (I 1)) rfl h40 dX8_write_40 hP ?_
      refine lv_aload_n X.1 X.2.1 dX8_write_41 rfl (lv_at hl 0 rfl) ?_
      refine gM_0_12 (F := (va_up (va_up (va_up (va_up (va_up F 1 m_at_26) 2 m_seats_26) 3 m_rows_26) 4 m_people_26) 13 m_seedNow_31)) X (v := m_people_26) rfl q_4_121 dX8_write_42 hP ?_
      refine lv_icmp_ge (tgt := 57) X.1 X.2.1 dX8_write_45 (by decide) (fun c45 => ?_) (fun c45 => ?_)
      · have hf := it_s hf c45
        refine lv_aload_n X.1 X.2.1 dX8_write_57 rfl (lv_at hl 0 rfl) ?_
        refine gM_0_12 (F := (va_up (va_up (va_up (va_up (va_up F 1 m_at_26) 2 m_seats_26) 3 m_rows_26) 4 m_people_26) 13 m_seedNow_31)) X (v := m_people_26) rfl q_4_121 dX8_write_58 hP ?_
        exact t_X8_write_b61 X (va_up (va_up (va_up (va_up (va_up F 1 m_at_26) 2 m_seats_26) 3 m_rows_26) 4 m_people_26) 13 m_seedNow_31) (va_up (va_up (va_up (va_up (va_up I 6 m_sorts_26) 7 m_rowOf_26) 8 m_own_26) 9 m_kinds_26) 15 m_evening_31) m_people_26 x2 H locs ls hf (frm_up (frm_up (frm_up (frm_up (frm_up hfF (by decide)) (by decide)) (by decide)) (by decide)) (by decide)) (frm_up (frm_up (frm_up (frm_up (frm_up hfI (by decide)) (by decide)) (by decide)) (by decide)) (by decide)) hP hS (lv_sub hl [0, 2] rfl)
      · have hf := ie_s hf c45
        refine lv_aload_n X.1 X.2.1 dX8_write_48 rfl (lv_at hl 0 rfl) ?_
        refine gM_0_1 X q_4_110 dX8_write_49 hP ?_
        refine lv_iload_n X.1 X.2.1 dX8_write_52 rfl (lv_at hl 2 rfl) ?_
        obtain ⟨h53, hf⟩ := gd_s hf
        refine lM_2 (I := (va_up (va_up (va_up (va_up (va_up I 6 m_sorts_26) 7 m_rowOf_26) 8 m_own_26) 9 m_kinds_26) 15 m_evening_31)) X (f := (I 1)) rfl h53 dX8_write_53 hP ?_
        refine lv_goto (tgt := 61) X.1 X.2.1 dX8_write_54 (by decide) ?_
        exact t_X8_write_b61 X (va_up (va_up (va_up (va_up (va_up F 1 m_at_26) 2 m_seats_26) 3 m_rows_26) 4 m_people_26) 13 m_seedNow_31) (va_up (va_up (va_up (va_up (va_up I 6 m_sorts_26) 7 m_rowOf_26) 8 m_own_26) 9 m_kinds_26) 15 m_evening_31) ((I 1) x2.toNatClampNeg) x2 H locs ls hf (frm_up (frm_up (frm_up (frm_up (frm_up hfF (by decide)) (by decide)) (by decide)) (by decide)) (by decide)) (frm_up (frm_up (frm_up (frm_up (frm_up hfI (by decide)) (by decide)) (by decide)) (by decide)) (by decide)) hP hS (lv_sub hl [0, 2] rfl)
    · have hf := ie_s hf c16
      refine lv_aload_n X.1 X.2.1 dX8_write_19 rfl (lv_at hl 0 rfl) ?_
      refine lv_iconst (v := 1) X.1 X.2.1 dX8_write_20 (by decide) ?_
      obtain ⟨r21, m_latest_21, ho, hf⟩ := b2_s hf
      refine call_vi (rest := []) X (c_X8_met F G I J X.2.2.2.2.2.2.2.1 1 ho) q_4_230 q_4_232 qs_yX8_met q_1_10 q_4_233 ok_X8_met rfl 0 rfl rfl ⟨Nat.le_of_ble_eq_true rfl, Nat.le_of_ble_eq_true rfl⟩ rfl rfl hl.1 rfl (Nat.le_of_ble_eq_true rfl) dX8_write_21 hP hS (fun H locs hP hS => ?_)
      obtain ⟨e0, hf⟩ := o2 hf
      obtain ⟨e1, hf⟩ := o2 hf
      obtain ⟨e2, hf⟩ := o2 hf
      obtain ⟨e3, hf⟩ := o2 hf
      obtain ⟨e4, hf⟩ := o2 hf
      obtain ⟨e5, hf⟩ := o2 hf
      obtain ⟨e6, hf⟩ := o2 hf
      obtain ⟨e7, hf⟩ := o2 hf
      obtain ⟨e8, hf⟩ := o2 hf
      obtain ⟨e9, hf⟩ := o2 hf
      obtain ⟨e10, hf⟩ := o2 hf
      obtain ⟨e11, hf⟩ := o2 hf
      have e12 := o1 hf
      have EF : Ff = (va_up F 0 m_latest_21) := frm_eq (frm_up hfF (by decide)) (frm_c (e1).symm (frm_c (e2).symm (frm_c (e3).symm (frm_c (e4).symm (frm_c (e5).symm (frm_c (e6).symm frm_n))))))
      have EI : If = I := frm_eq hfI (frm_c (e7).symm (frm_c (e8).symm (frm_c (e9).symm (frm_c (e10).symm (frm_c (e11).symm (frm_c (e12).symm frm_n))))))
      exact ret_i X hS (by rw [EF, EI]; exact hP) e0 dX8_write_24
  · have hf := it_s hf c4
    refine lv_bipush (v := (-2)) X.1 X.2.1 dX8_write_7 (by decide) ?_
    obtain ⟨e0, hf⟩ := o2 hf
    obtain ⟨e1, hf⟩ := o2 hf
    obtain ⟨e2, hf⟩ := o2 hf
    obtain ⟨e3, hf⟩ := o2 hf
    obtain ⟨e4, hf⟩ := o2 hf
    obtain ⟨e5, hf⟩ := o2 hf
    obtain ⟨e6, hf⟩ := o2 hf
    obtain ⟨e7, hf⟩ := o2 hf
    obtain ⟨e8, hf⟩ := o2 hf
    obtain ⟨e9, hf⟩ := o2 hf
    obtain ⟨e10, hf⟩ := o2 hf
    obtain ⟨e11, hf⟩ := o2 hf
    have e12 := o1 hf
    have EF : Ff = F := frm_eq hfF (frm_c (e1).symm (frm_c (e2).symm (frm_c (e3).symm (frm_c (e4).symm (frm_c (e5).symm (frm_c (e6).symm frm_n))))))
    have EI : If = I := frm_eq hfI (frm_c (e7).symm (frm_c (e8).symm (frm_c (e9).symm (frm_c (e10).symm (frm_c (e11).symm (frm_c (e12).symm frm_n))))))
    exact ret_i X hS (by rw [EF, EI]; exact hP) e0 dX8_write_9
set_option maxRecDepth 100000 in
theorem c_X8_write {l : Launch} {D : va_G} {a : Nat → Nat} {kc : Nat → ClassId} (F : Nat → Int32) (G : Nat → Int64) (I : Nat → Nat → Int32) (J : Nat → Nat → Int64) (hAp : ∀ i j, i < 21 → j < 21 → a i = a j → i = j) (x1 : Int32) (x2 : Int32) {o0 : Int32} {o1 : Int32} {o2 : Int32} {o3 : Int32} {o4 : Int32} {o5 : Int32} {o6 : Int32} {o7 : Nat → Int32} {o8 : Nat → Int32} {o9 : Nat → Int32} {o10 : Nat → Int32} {o11 : Nat → Int32} {o12 : Nat → Int32} (hf : p_X8_write (F 0) (F 1) (F 2) (F 3) (F 4) (F 13) (I 0) (I 1) (I 2) (I 4) (I 5) (I 6) (I 7) (I 8) (I 9) (I 15) x1 x2 = some (o0, o1, o2, o3, o4, o5, o6, o7, o8, o9, o10, o11, o12)) : Ct 21 l yX8_write cX8_write 5 (some .int) rm_X8_write D (tyM kc) a (wM a kc F G I J) [.ref (a 0), .int x1, .int x2] (Qi D (wM a kc (va_up (va_up (va_up (va_up (va_up (va_up F 0 o1) 1 o2) 2 o3) 3 o4) 4 o5) 13 o6) G (va_up (va_up (va_up (va_up (va_up (va_up I 2 o7) 6 o8) 7 o9) 8 o10) 9 o11) 15 o12) J) o0) :=
  Ct.of (by decide +kernel) hAp (Nat.le_of_ble_eq_true rfl) (fun p e s m args below meth c ls X hP hl => t_X8_write_b0 X F I x1 x2 _ _ _ hf (frm_ul (frm_ul (frm_ul (frm_ul (frm_ul (frm_ul (fun k _ => rfl) (by decide)) (by decide)) (by decide)) (by decide)) (by decide)) (by decide)) (frm_ul (frm_ul (frm_ul (frm_ul (frm_ul (frm_ul (fun k _ => rfl) (by decide)) (by decide)) (by decide)) (by decide)) (by decide)) (by decide)) hP va_S.rf hl)
abbrev rm_X8_count : Room := { frames := 3, cells := 0, slots := 0, locals := 67 }
set_option maxHeartbeats 4000000 in
set_option maxRecDepth 100000 in
theorem t_X8_count_b111 {p : Program} {l : Launch} {e : Env} {s : State} {m : MethodId} {args : Array Value} {below : List Frame} {meth : Method} {c : Code} {D : va_G} {a : Nat → Nat} {kc : Nat → ClassId} (X : cx 21 p s m args meth c D (tyM kc) a cX8_count 4 RX8 (some .int)) {G : Nat → Int64} {J : Nat → Nat → Int64} {Ff : Nat → Int32} {If : Nat → Nat → Int32} {r : Int32} {K87 : Int32 → Int32 → Int32 → Int32 → Int32 → Int32 → (Nat → Int32) → (Nat → Int32) → (Nat → Int32) → (Nat → Int32) → (Nat → Int32) → (Nat → Int32) → Int32 → Int32 → Option (Int32 × Int32 × Int32 × Int32 × Int32 × (Nat → Int32) × (Nat → Int32) × (Nat → Int32) × (Nat → Int32))} (kh87 : ∀ (F : Nat → Int32) (I : Nat → Nat → Int32) (x2 : Int32) (x3 : Int32) (H : Heap) (locs : List Loc) (ls : Array Slot), K87 (F 0) (F 1) (F 2) (F 3) (F 4) (F 12) (I 4) (I 5) (I 6) (I 7) (I 8) (I 9) x2 x3 = some (r, (Ff 1), (Ff 2), (Ff 3), (Ff 4), (If 6), (If 7), (If 8), (If 9)) → (∀ k, k ∉ ([1, 2, 3, 4] : List Nat) → Ff k = F k) → (∀ k, k ∉ ([6, 7, 8, 9] : List Nat) → If k = I k) → va_P D vwCl (wM a kc F G I J) H → va_S (ad a 21 s.heap.size) s.heap H locs → lv_has ls 4 [(0, .ref (a 0)), (2, .int x2), (3, .int x3)] → W p l e rm_X8_count s m args below meth c H locs 0 0 (MQ below (Qi D (wM a kc Ff G If J) r (ad a 21 s.heap.size)) args s 0 0 (ad a 21 s.heap.size)) (F0 m 87 ls [])) :
    ∀ (F : Nat → Int32) (I : Nat → Nat → Int32) (t0 : Int32) (t1 : Int32) (x3 : Int32) (H : Heap) (locs : List Loc) (ls : Array Slot), p_X8_count_b111 K87 (F 0) (F 1) (F 2) (F 3) (F 4) (F 12) (I 4) (I 5) (I 6) (I 7) (I 8) (I 9) t0 t1 x3 = some (r, (Ff 1), (Ff 2), (Ff 3), (Ff 4), (If 6), (If 7), (If 8), (If 9)) → (∀ k, k ∉ ([1, 2, 3, 4] : List Nat) → Ff k = F k) → (∀ k, k ∉ ([6, 7, 8, 9] : List Nat) → If k = I k) → va_P D vwCl (wM a kc F G I J) H → va_S (ad a 21 s.heap.size) s.heap H locs → lv_has ls 4 [(0, .ref (a 0)), (3, .int x3)] → W p l e rm_X8_count s m args below meth c H locs 0 0 (MQ below (Qi D (wM a kc Ff G If J) r (ad a 21 s.heap.size)) args s 0 0 (ad a 21 s.heap.size)) (F0 m 111 ls [.int t1, .int t0]) := by
  intro F I t0 t1 x3 H locs ls hf hfF hfI hP hS hl
  unfold p_X8_count_b111 at hf
  refine lv_iadd X.1 X.2.1 dX8_count_111 ?_
  refine nm_i hf (fun x112 hf => ?_)
  refine lv_istore_n (lv' := [(2, .int x112), (0, .ref (a 0)), (3, .int x3)]) X.1 X.2.1 dX8_count_112 rfl hl (by decide) rfl (fun ls hl => ?_)
  obtain ⟨x113, ex113, hf⟩ := nm_x hf
  refine lv_iinc (v := x113) (lv' := [(3, .int x113), (2, .int x112), (0, .ref (a 0))]) X.1 X.2.1 dX8_count_113 hl (k := 2) rfl ex113 (by decide) rfl (fun ls hl => ?_)
  refine lv_goto (tgt := 87) X.1 X.2.1 dX8_count_116 (by decide) ?_
  exact kh87 F I x112 x113 H locs ls hf hfF hfI hP hS (lv_sub hl [2, 1, 0] rfl)
set_option maxHeartbeats 4000000 in
set_option maxRecDepth 100000 in
theorem t_X8_count_b87x {p : Program} {l : Launch} {e : Env} {s : State} {m : MethodId} {args : Array Value} {below : List Frame} {meth : Method} {c : Code} {D : va_G} {a : Nat → Nat} {kc : Nat → ClassId} (X : cx 21 p s m args meth c D (tyM kc) a cX8_count 4 RX8 (some .int)) {G : Nat → Int64} {J : Nat → Nat → Int64} {Ff : Nat → Int32} {If : Nat → Nat → Int32} {r : Int32} {K87 : Int32 → Int32 → Int32 → Int32 → Int32 → Int32 → (Nat → Int32) → (Nat → Int32) → (Nat → Int32) → (Nat → Int32) → (Nat → Int32) → (Nat → Int32) → Int32 → Int32 → Option (Int32 × Int32 × Int32 × Int32 × Int32 × (Nat → Int32) × (Nat → Int32) × (Nat → Int32) × (Nat → Int32))} (kh87 : ∀ (F : Nat → Int32) (I : Nat → Nat → Int32) (x2 : Int32) (x3 : Int32) (H : Heap) (locs : List Loc) (ls : Array Slot), K87 (F 0) (F 1) (F 2) (F 3) (F 4) (F 12) (I 4) (I 5) (I 6) (I 7) (I 8) (I 9) x2 x3 = some (r, (Ff 1), (Ff 2), (Ff 3), (Ff 4), (If 6), (If 7), (If 8), (If 9)) → (∀ k, k ∉ ([1, 2, 3, 4] : List Nat) → Ff k = F k) → (∀ k, k ∉ ([6, 7, 8, 9] : List Nat) → If k = I k) → va_P D vwCl (wM a kc F G I J) H → va_S (ad a 21 s.heap.size) s.heap H locs → lv_has ls 4 [(0, .ref (a 0)), (2, .int x2), (3, .int x3)] → W p l e rm_X8_count s m args below meth c H locs 0 0 (MQ below (Qi D (wM a kc Ff G If J) r (ad a 21 s.heap.size)) args s 0 0 (ad a 21 s.heap.size)) (F0 m 87 ls [])) :
    ∀ (F : Nat → Int32) (I : Nat → Nat → Int32) (x2 : Int32) (x3 : Int32) (H : Heap) (locs : List Loc) (ls : Array Slot), p_X8_count_b87x K87 (F 0) (F 1) (F 2) (F 3) (F 4) (F 12) (I 4) (I 5) (I 6) (I 7) (I 8) (I 9) x2 x3 = some (r, (Ff 1), (Ff 2), (Ff 3), (Ff 4), (If 6), (If 7), (If 8), (If 9)) → (∀ k, k ∉ ([1, 2, 3, 4] : List Nat) → Ff k = F k) → (∀ k, k ∉ ([6, 7, 8, 9] : List Nat) → If k = I k) → va_P D vwCl (wM a kc F G I J) H → va_S (ad a 21 s.heap.size) s.heap H locs → lv_has ls 4 [(0, .ref (a 0)), (2, .int x2), (3, .int x3)] → W p l e rm_X8_count s m args below meth c H locs 0 0 (MQ below (Qi D (wM a kc Ff G If J) r (ad a 21 s.heap.size)) args s 0 0 (ad a 21 s.heap.size)) (F0 m 87 ls []) := by
  intro F I x2 x3 H locs ls hf hfF hfI hP hS hl
  unfold p_X8_count_b87x at hf
  refine lv_iload_n X.1 X.2.1 dX8_count_87 rfl (lv_at hl 2 rfl) ?_
  refine lv_aload_n X.1 X.2.1 dX8_count_88 rfl (lv_at hl 0 rfl) ?_
  refine gM_0_12 (F := F) X (v := (F 4)) rfl q_4_121 dX8_count_89 hP ?_
  refine lv_icmp_ge (tgt := 119) X.1 X.2.1 dX8_count_92 (by decide) (fun c92 => ?_) (fun c92 => ?_)
  · have hf := it_s hf c92
    refine lv_iload_n X.1 X.2.1 dX8_count_119 rfl (lv_at hl 1 rfl) ?_
    obtain ⟨e0, hf⟩ := o2 hf
    obtain ⟨e1, hf⟩ := o2 hf
    obtain ⟨e2, hf⟩ := o2 hf
    obtain ⟨e3, hf⟩ := o2 hf
    obtain ⟨e4, hf⟩ := o2 hf
    obtain ⟨e5, hf⟩ := o2 hf
    obtain ⟨e6, hf⟩ := o2 hf
    obtain ⟨e7, hf⟩ := o2 hf
    have e8 := o1 hf
    have EF : Ff = F := frm_eq hfF (frm_c (e1).symm (frm_c (e2).symm (frm_c (e3).symm (frm_c (e4).symm frm_n))))
    have EI : If = I := frm_eq hfI (frm_c (e5).symm (frm_c (e6).symm (frm_c (e7).symm (frm_c (e8).symm frm_n))))
    exact ret_i X hS (by rw [EF, EI]; exact hP) e0 dX8_count_120
  · have hf := ie_s hf c92
    refine lv_iload_n X.1 X.2.1 dX8_count_95 rfl (lv_at hl 1 rfl) ?_
    refine lv_aload_n X.1 X.2.1 dX8_count_96 rfl (lv_at hl 0 rfl) ?_
    refine gM_0_14 X q_4_123 dX8_count_97 hP ?_
    refine lv_iload_n X.1 X.2.1 dX8_count_100 rfl (lv_at hl 2 rfl) ?_
    obtain ⟨h101, hf⟩ := gd_s hf
    refine lM_10 (I := I) X (f := (I 9)) rfl h101 dX8_count_101 hP ?_
    refine lv_iconst (v := 1) X.1 X.2.1 dX8_count_102 (by decide) ?_
    refine lv_icmp_ne (tgt := 110) X.1 X.2.1 dX8_count_103 (by decide) (fun c103 => ?_) (fun c103 => ?_)
    · have hf := ie_s hf c103
      refine lv_iconst (v := 0) X.1 X.2.1 dX8_count_110 (by decide) ?_
      exact t_X8_count_b111 X kh87 F I x2 0 x3 H locs ls hf hfF hfI hP hS (lv_sub hl [0, 2] rfl)
    · have hf := it_s hf c103
      refine lv_iconst (v := 1) X.1 X.2.1 dX8_count_106 (by decide) ?_
      refine lv_goto (tgt := 111) X.1 X.2.1 dX8_count_107 (by decide) ?_
      exact t_X8_count_b111 X kh87 F I x2 1 x3 H locs ls hf hfF hfI hP hS (lv_sub hl [0, 2] rfl)
set_option maxRecDepth 100000 in
theorem t_X8_count_b87 {p : Program} {l : Launch} {e : Env} {s : State} {m : MethodId} {args : Array Value} {below : List Frame} {meth : Method} {c : Code} {D : va_G} {a : Nat → Nat} {kc : Nat → ClassId} (X : cx 21 p s m args meth c D (tyM kc) a cX8_count 4 RX8 (some .int)) {G : Nat → Int64} {J : Nat → Nat → Int64} {Ff : Nat → Int32} {If : Nat → Nat → Int32} {r : Int32} :
    ∀ (n : Nat) (F : Nat → Int32) (I : Nat → Nat → Int32) (x2 : Int32) (x3 : Int32) (H : Heap) (locs : List Loc) (ls : Array Slot), p_X8_count_b87 n (F 0) (F 1) (F 2) (F 3) (F 4) (F 12) (I 4) (I 5) (I 6) (I 7) (I 8) (I 9) x2 x3 = some (r, (Ff 1), (Ff 2), (Ff 3), (Ff 4), (If 6), (If 7), (If 8), (If 9)) → (∀ k, k ∉ ([1, 2, 3, 4] : List Nat) → Ff k = F k) → (∀ k, k ∉ ([6, 7, 8, 9] : List Nat) → If k = I k) → va_P D vwCl (wM a kc F G I J) H → va_S (ad a 21 s.heap.size) s.heap H locs → lv_has ls 4 [(0, .ref (a 0)), (2, .int x2), (3, .int x3)] → W p l e rm_X8_count s m args below meth c H locs 0 0 (MQ below (Qi D (wM a kc Ff G If J) r (ad a 21 s.heap.size)) args s 0 0 (ad a 21 s.heap.size)) (F0 m 87 ls []) := by
  intro n
  induction n with
  | zero => intro F I x2 x3 H locs ls hf hfF hfI hP hS hl; exact (nos hf).elim
  | succ n ih => exact t_X8_count_b87x X ih
set_option maxHeartbeats 4000000 in
set_option maxRecDepth 100000 in
theorem t_X8_count_b145 {p : Program} {l : Launch} {e : Env} {s : State} {m : MethodId} {args : Array Value} {below : List Frame} {meth : Method} {c : Code} {D : va_G} {a : Nat → Nat} {kc : Nat → ClassId} (X : cx 21 p s m args meth c D (tyM kc) a cX8_count 4 RX8 (some .int)) {G : Nat → Int64} {J : Nat → Nat → Int64} {Ff : Nat → Int32} {If : Nat → Nat → Int32} {r : Int32} {K123 : Int32 → Int32 → Int32 → Int32 → Int32 → Int32 → (Nat → Int32) → (Nat → Int32) → (Nat → Int32) → (Nat → Int32) → (Nat → Int32) → (Nat → Int32) → Int32 → Int32 → Option (Int32 × Int32 × Int32 × Int32 × Int32 × (Nat → Int32) × (Nat → Int32) × (Nat → Int32) × (Nat → Int32))} (kh123 : ∀ (F : Nat → Int32) (I : Nat → Nat → Int32) (x2 : Int32) (x3 : Int32) (H : Heap) (locs : List Loc) (ls : Array Slot), K123 (F 0) (F 1) (F 2) (F 3) (F 4) (F 12) (I 4) (I 5) (I 6) (I 7) (I 8) (I 9) x2 x3 = some (r, (Ff 1), (Ff 2), (Ff 3), (Ff 4), (If 6), (If 7), (If 8), (If 9)) → (∀ k, k ∉ ([1, 2, 3, 4] : List Nat) → Ff k = F k) → (∀ k, k ∉ ([6, 7, 8, 9] : List Nat) → If k = I k) → va_P D vwCl (wM a kc F G I J) H → va_S (ad a 21 s.heap.size) s.heap H locs → lv_has ls 4 [(0, .ref (a 0)), (2, .int x2), (3, .int x3)] → W p l e rm_X8_count s m args below meth c H locs 0 0 (MQ below (Qi D (wM a kc Ff G If J) r (ad a 21 s.heap.size)) args s 0 0 (ad a 21 s.heap.size)) (F0 m 123 ls [])) :
    ∀ (F : Nat → Int32) (I : Nat → Nat → Int32) (t0 : Int32) (t1 : Int32) (x3 : Int32) (H : Heap) (locs : List Loc) (ls : Array Slot), p_X8_count_b145 K123 (F 0) (F 1) (F 2) (F 3) (F 4) (F 12) (I 4) (I 5) (I 6) (I 7) (I 8) (I 9) t0 t1 x3 = some (r, (Ff 1), (Ff 2), (Ff 3), (Ff 4), (If 6), (If 7), (If 8), (If 9)) → (∀ k, k ∉ ([1, 2, 3, 4] : List Nat) → Ff k = F k) → (∀ k, k ∉ ([6, 7, 8, 9] : List Nat) → If k = I k) → va_P D vwCl (wM a kc F G I J) H → va_S (ad a 21 s.heap.size) s.heap H locs → lv_has ls 4 [(0, .ref (a 0)), (3, .int x3)] → W p l e rm_X8_count s m args below meth c H locs 0 0 (MQ below (Qi D (wM a kc Ff G If J) r (ad a 21 s.heap.size)) args s 0 0 (ad a 21 s.heap.size)) (F0 m 145 ls [.int t1, .int t0]) := by
  intro F I t0 t1 x3 H locs ls hf hfF hfI hP hS hl
  unfold p_X8_count_b145 at hf
  refine lv_iadd X.1 X.2.1 dX8_count_145 ?_
  refine nm_i hf (fun x146 hf => ?_)
  refine lv_istore_n (lv' := [(2, .int x146), (0, .ref (a 0)), (3, .int x3)]) X.1 X.2.1 dX8_count_146 rfl hl (by decide) rfl (fun ls hl => ?_)
  obtain ⟨x147, ex147, hf⟩ := nm_x hf
  refine lv_iinc (v := x147) (lv' := [(3, .int x147), (2, .int x146), (0, .ref (a 0))]) X.1 X.2.1 dX8_count_147 hl (k := 2) rfl ex147 (by decide) rfl (fun ls hl => ?_)
  refine lv_goto (tgt := 123) X.1 X.2.1 dX8_count_150 (by decide) ?_
  exact kh123 F I x146 x147 H locs ls hf hfF hfI hP hS (lv_sub hl [2, 1, 0] rfl)
set_option maxHeartbeats 4000000 in
set_option maxRecDepth 100000 in
theorem t_X8_count_b123x {p : Program} {l : Launch} {e : Env} {s : State} {m : MethodId} {args : Array Value} {below : List Frame} {meth : Method} {c : Code} {D : va_G} {a : Nat → Nat} {kc : Nat → ClassId} (X : cx 21 p s m args meth c D (tyM kc) a cX8_count 4 RX8 (some .int)) {G : Nat → Int64} {J : Nat → Nat → Int64} {Ff : Nat → Int32} {If : Nat → Nat → Int32} {r : Int32} {K123 : Int32 → Int32 → Int32 → Int32 → Int32 → Int32 → (Nat → Int32) → (Nat → Int32) → (Nat → Int32) → (Nat → Int32) → (Nat → Int32) → (Nat → Int32) → Int32 → Int32 → Option (Int32 × Int32 × Int32 × Int32 × Int32 × (Nat → Int32) × (Nat → Int32) × (Nat → Int32) × (Nat → Int32))} (kh123 : ∀ (F : Nat → Int32) (I : Nat → Nat → Int32) (x2 : Int32) (x3 : Int32) (H : Heap) (locs : List Loc) (ls : Array Slot), K123 (F 0) (F 1) (F 2) (F 3) (F 4) (F 12) (I 4) (I 5) (I 6) (I 7) (I 8) (I 9) x2 x3 = some (r, (Ff 1), (Ff 2), (Ff 3), (Ff 4), (If 6), (If 7), (If 8), (If 9)) → (∀ k, k ∉ ([1, 2, 3, 4] : List Nat) → Ff k = F k) → (∀ k, k ∉ ([6, 7, 8, 9] : List Nat) → If k = I k) → va_P D vwCl (wM a kc F G I J) H → va_S (ad a 21 s.heap.size) s.heap H locs → lv_has ls 4 [(0, .ref (a 0)), (2, .int x2), (3, .int x3)] → W p l e rm_X8_count s m args below meth c H locs 0 0 (MQ below (Qi D (wM a kc Ff G If J) r (ad a 21 s.heap.size)) args s 0 0 (ad a 21 s.heap.size)) (F0 m 123 ls [])) :
    ∀ (F : Nat → Int32) (I : Nat → Nat → Int32) (x2 : Int32) (x3 : Int32) (H : Heap) (locs : List Loc) (ls : Array Slot), p_X8_count_b123x K123 (F 0) (F 1) (F 2) (F 3) (F 4) (F 12) (I 4) (I 5) (I 6) (I 7) (I 8) (I 9) x2 x3 = some (r, (Ff 1), (Ff 2), (Ff 3), (Ff 4), (If 6), (If 7), (If 8), (If 9)) → (∀ k, k ∉ ([1, 2, 3, 4] : List Nat) → Ff k = F k) → (∀ k, k ∉ ([6, 7, 8, 9] : List Nat) → If k = I k) → va_P D vwCl (wM a kc F G I J) H → va_S (ad a 21 s.heap.size) s.heap H locs → lv_has ls 4 [(0, .ref (a 0)), (2, .int x2), (3, .int x3)] → W p l e rm_X8_count s m args below meth c H locs 0 0 (MQ below (Qi D (wM a kc Ff G If J) r (ad a 21 s.heap.size)) args s 0 0 (ad a 21 s.heap.size)) (F0 m 123 ls []) := by
  intro F I x2 x3 H locs ls hf hfF hfI hP hS hl
  unfold p_X8_count_b123x at hf
  refine lv_iload_n X.1 X.2.1 dX8_count_123 rfl (lv_at hl 2 rfl) ?_
  refine lv_aload_n X.1 X.2.1 dX8_count_124 rfl (lv_at hl 0 rfl) ?_
  refine gM_0_8 (F := F) X (v := (F 2)) rfl q_4_117 dX8_count_125 hP ?_
  refine lv_icmp_ge (tgt := 153) X.1 X.2.1 dX8_count_128 (by decide) (fun c128 => ?_) (fun c128 => ?_)
  · have hf := it_s hf c128
    refine lv_iload_n X.1 X.2.1 dX8_count_153 rfl (lv_at hl 1 rfl) ?_
    obtain ⟨e0, hf⟩ := o2 hf
    obtain ⟨e1, hf⟩ := o2 hf
    obtain ⟨e2, hf⟩ := o2 hf
    obtain ⟨e3, hf⟩ := o2 hf
    obtain ⟨e4, hf⟩ := o2 hf
    obtain ⟨e5, hf⟩ := o2 hf
    obtain ⟨e6, hf⟩ := o2 hf
    obtain ⟨e7, hf⟩ := o2 hf
    have e8 := o1 hf
    have EF : Ff = F := frm_eq hfF (frm_c (e1).symm (frm_c (e2).symm (frm_c (e3).symm (frm_c (e4).symm frm_n))))
    have EI : If = I := frm_eq hfI (frm_c (e5).symm (frm_c (e6).symm (frm_c (e7).symm (frm_c (e8).symm frm_n))))
    exact ret_i X hS (by rw [EF, EI]; exact hP) e0 dX8_count_154
  · have hf := ie_s hf c128
    refine lv_iload_n X.1 X.2.1 dX8_count_131 rfl (lv_at hl 1 rfl) ?_
    refine lv_aload_n X.1 X.2.1 dX8_count_132 rfl (lv_at hl 0 rfl) ?_
    refine lv_iload_n X.1 X.2.1 dX8_count_133 rfl (lv_at hl 2 rfl) ?_
    obtain ⟨r134, ho, hf⟩ := b1_s hf
    refine call_vi (rest := [.int x2]) X (c_X8_ownersOf F G I J X.2.2.2.2.2.2.2.1 x3 ho) q_5_77 q_5_79 qs_yX8_ownersOf q_1_10 q_5_80 ok_X8_ownersOf rfl 0 rfl rfl ⟨Nat.le_of_ble_eq_true rfl, Nat.le_of_ble_eq_true rfl⟩ rfl rfl hl.1 rfl (Nat.le_of_ble_eq_true rfl) dX8_count_134 hP hS (fun H locs hP hS => ?_)
    refine lv_if_ne (tgt := 144) X.1 X.2.1 dX8_count_137 (by decide) (fun c137 => ?_) (fun c137 => ?_)
    · have hf := ie_s hf c137
      refine lv_iconst (v := 0) X.1 X.2.1 dX8_count_144 (by decide) ?_
      exact t_X8_count_b145 X kh123 F I x2 0 x3 H locs ls hf hfF hfI hP hS (lv_sub hl [0, 2] rfl)
    · have hf := it_s hf c137
      refine lv_iconst (v := 1) X.1 X.2.1 dX8_count_140 (by decide) ?_
      refine lv_goto (tgt := 145) X.1 X.2.1 dX8_count_141 (by decide) ?_
      exact t_X8_count_b145 X kh123 F I x2 1 x3 H locs ls hf hfF hfI hP hS (lv_sub hl [0, 2] rfl)
set_option maxRecDepth 100000 in
theorem t_X8_count_b123 {p : Program} {l : Launch} {e : Env} {s : State} {m : MethodId} {args : Array Value} {below : List Frame} {meth : Method} {c : Code} {D : va_G} {a : Nat → Nat} {kc : Nat → ClassId} (X : cx 21 p s m args meth c D (tyM kc) a cX8_count 4 RX8 (some .int)) {G : Nat → Int64} {J : Nat → Nat → Int64} {Ff : Nat → Int32} {If : Nat → Nat → Int32} {r : Int32} :
    ∀ (n : Nat) (F : Nat → Int32) (I : Nat → Nat → Int32) (x2 : Int32) (x3 : Int32) (H : Heap) (locs : List Loc) (ls : Array Slot), p_X8_count_b123 n (F 0) (F 1) (F 2) (F 3) (F 4) (F 12) (I 4) (I 5) (I 6) (I 7) (I 8) (I 9) x2 x3 = some (r, (Ff 1), (Ff 2), (Ff 3), (Ff 4), (If 6), (If 7), (If 8), (If 9)) → (∀ k, k ∉ ([1, 2, 3, 4] : List Nat) → Ff k = F k) → (∀ k, k ∉ ([6, 7, 8, 9] : List Nat) → If k = I k) → va_P D vwCl (wM a kc F G I J) H → va_S (ad a 21 s.heap.size) s.heap H locs → lv_has ls 4 [(0, .ref (a 0)), (2, .int x2), (3, .int x3)] → W p l e rm_X8_count s m args below meth c H locs 0 0 (MQ below (Qi D (wM a kc Ff G If J) r (ad a 21 s.heap.size)) args s 0 0 (ad a 21 s.heap.size)) (F0 m 123 ls []) := by
  intro n
  induction n with
  | zero => intro F I x2 x3 H locs ls hf hfF hfI hP hS hl; exact (nos hf).elim
  | succ n ih => exact t_X8_count_b123x X ih
set_option maxHeartbeats 4000000 in
set_option maxRecDepth 100000 in
theorem t_X8_count_b0 {p : Program} {l : Launch} {e : Env} {s : State} {m : MethodId} {args : Array Value} {below : List Frame} {meth : Method} {c : Code} {D : va_G} {a : Nat → Nat} {kc : Nat → ClassId} (X : cx 21 p s m args meth c D (tyM kc) a cX8_count 4 RX8 (some .int)) {G : Nat → Int64} {J : Nat → Nat → Int64} {Ff : Nat → Int32} {If : Nat → Nat → Int32} {r : Int32} :
    ∀ (F : Nat → Int32) (I : Nat → Nat → Int32) (x1 : Int32) (H : Heap) (locs : List Loc) (ls : Array Slot), p_X8_count_b0 (F 0) (F 1) (F 2) (F 3) (F 4) (F 12) (I 4) (I 5) (I 6) (I 7) (I 8) (I 9) x1 = some (r, (Ff 1), (Ff 2), (Ff 3), (Ff 4), (If 6), (If 7), (If 8), (If 9)) → (∀ k, k ∉ ([1, 2, 3, 4] : List Nat) → Ff k = F k) → (∀ k, k ∉ ([6, 7, 8, 9] : List Nat) → If k = I k) → va_P D vwCl (wM a kc F G I J) H → va_S (ad a 21 s.heap.size) s.heap H locs → lv_has ls 4 [(0, .ref (a 0)), (1, .int x1)] → W p l e rm_X8_count s m args below meth c H locs 0 0 (MQ below (Qi D (wM a kc Ff G If J) r (ad a 21 s.heap.size)) args s 0 0 (ad a 21 s.heap.size)) (F0 m 0 ls []) := by
  intro F I x1 H locs ls hf hfF hfI hP hS hl
  unfold p_X8_count_b0 at hf
  refine lv_iconst (v := 0) X.1 X.2.1 dX8_count_0 (by decide) ?_
  refine lv_istore_n (lv' := [(2, .int 0), (0, .ref (a 0)), (1, .int x1)]) X.1 X.2.1 dX8_count_1 rfl hl (by decide) rfl (fun ls hl => ?_)
  refine lv_aload_n X.1 X.2.1 dX8_count_2 rfl (lv_at hl 1 rfl) ?_
  obtain ⟨m_at_3, m_seats_3, m_rows_3, m_people_3, m_sorts_3, m_rowOf_3, m_own_3, m_kinds_3, ho, hf⟩ := b8_s hf
  refine call_vv (rest := []) X (c_X8_find F G I J X.2.2.2.2.2.2.2.1  ho) q_5_69 q_5_71 qs_yX8_find q_1_10 q_5_72 ok_X8_find rfl 0 rfl rfl ⟨Nat.le_of_ble_eq_true rfl, Nat.le_of_ble_eq_true rfl⟩ rfl rfl hl.1 rfl (Nat.le_of_ble_eq_true rfl) dX8_count_3 hP hS (fun H locs hP hS => ?_)
  refine lv_iload_n X.1 X.2.1 dX8_count_6 rfl (lv_at hl 2 rfl) ?_
  by_cases c7_0 : x1.toInt = 0
  · refine lv_tableIn (off := 49) (tgt := 56) X.1 X.2.1 dX8_count_7 (by omega) (by omega) (by rw [c7_0]; rfl) (by decide) ?_
    have hf := it_s hf c7_0
    refine lv_aload_n X.1 X.2.1 dX8_count_56 rfl (lv_at hl 1 rfl) ?_
    refine gM_0_8 (F := (va_up (va_up (va_up (va_up F 1 m_at_3) 2 m_seats_3) 3 m_rows_3) 4 m_people_3)) X (v := m_seats_3) rfl q_4_117 dX8_count_57 hP ?_
    obtain ⟨e0, hf⟩ := o2 hf
    obtain ⟨e1, hf⟩ := o2 hf
    obtain ⟨e2, hf⟩ := o2 hf
    obtain ⟨e3, hf⟩ := o2 hf
    obtain ⟨e4, hf⟩ := o2 hf
    obtain ⟨e5, hf⟩ := o2 hf
    obtain ⟨e6, hf⟩ := o2 hf
    obtain ⟨e7, hf⟩ := o2 hf
    have e8 := o1 hf
    have EF : Ff = (va_up (va_up (va_up (va_up F 1 m_at_3) 2 m_seats_3) 3 m_rows_3) 4 m_people_3) := frm_eq (frm_up (frm_up (frm_up (frm_up hfF (by decide)) (by decide)) (by decide)) (by decide)) (frm_c (e1).symm (frm_c (e2).symm (frm_c (e3).symm (frm_c (e4).symm frm_n))))
    have EI : If = (va_up (va_up (va_up (va_up I 6 m_sorts_3) 7 m_rowOf_3) 8 m_own_3) 9 m_kinds_3) := frm_eq (frm_up (frm_up (frm_up (frm_up hfI (by decide)) (by decide)) (by decide)) (by decide)) (frm_c (e5).symm (frm_c (e6).symm (frm_c (e7).symm (frm_c (e8).symm frm_n))))
    exact ret_i X hS (by rw [EF, EI]; exact hP) e0 dX8_count_60
  · have hf := ie_s hf c7_0
    by_cases c7_1 : x1.toInt = 1
    · refine lv_tableIn (off := 54) (tgt := 61) X.1 X.2.1 dX8_count_7 (by omega) (by omega) (by rw [c7_1]; rfl) (by decide) ?_
      have hf := it_s hf c7_1
      refine lv_aload_n X.1 X.2.1 dX8_count_61 rfl (lv_at hl 1 rfl) ?_
      refine gM_0_9 (F := (va_up (va_up (va_up (va_up F 1 m_at_3) 2 m_seats_3) 3 m_rows_3) 4 m_people_3)) X (v := m_rows_3) rfl q_4_118 dX8_count_62 hP ?_
      obtain ⟨e0, hf⟩ := o2 hf
      obtain ⟨e1, hf⟩ := o2 hf
      obtain ⟨e2, hf⟩ := o2 hf
      obtain ⟨e3, hf⟩ := o2 hf
      obtain ⟨e4, hf⟩ := o2 hf
      obtain ⟨e5, hf⟩ := o2 hf
      obtain ⟨e6, hf⟩ := o2 hf
      obtain ⟨e7, hf⟩ := o2 hf
      have e8 := o1 hf
      have EF : Ff = (va_up (va_up (va_up (va_up F 1 m_at_3) 2 m_seats_3) 3 m_rows_3) 4 m_people_3) := frm_eq (frm_up (frm_up (frm_up (frm_up hfF (by decide)) (by decide)) (by decide)) (by decide)) (frm_c (e1).symm (frm_c (e2).symm (frm_c (e3).symm (frm_c (e4).symm frm_n))))
      have EI : If = (va_up (va_up (va_up (va_up I 6 m_sorts_3) 7 m_rowOf_3) 8 m_own_3) 9 m_kinds_3) := frm_eq (frm_up (frm_up (frm_up (frm_up hfI (by decide)) (by decide)) (by decide)) (by decide)) (frm_c (e5).symm (frm_c (e6).symm (frm_c (e7).symm (frm_c (e8).symm frm_n))))
      exact ret_i X hS (by rw [EF, EI]; exact hP) e0 dX8_count_65
    · have hf := ie_s hf c7_1
      by_cases c7_2 : x1.toInt = 2
      · refine lv_tableIn (off := 59) (tgt := 66) X.1 X.2.1 dX8_count_7 (by omega) (by omega) (by rw [c7_2]; rfl) (by decide) ?_
        have hf := it_s hf c7_2
        refine lv_aload_n X.1 X.2.1 dX8_count_66 rfl (lv_at hl 1 rfl) ?_
        refine gM_0_12 (F := (va_up (va_up (va_up (va_up F 1 m_at_3) 2 m_seats_3) 3 m_rows_3) 4 m_people_3)) X (v := m_people_3) rfl q_4_121 dX8_count_67 hP ?_
        obtain ⟨e0, hf⟩ := o2 hf
        obtain ⟨e1, hf⟩ := o2 hf
        obtain ⟨e2, hf⟩ := o2 hf
        obtain ⟨e3, hf⟩ := o2 hf
        obtain ⟨e4, hf⟩ := o2 hf
        obtain ⟨e5, hf⟩ := o2 hf
        obtain ⟨e6, hf⟩ := o2 hf
        obtain ⟨e7, hf⟩ := o2 hf
        have e8 := o1 hf
        have EF : Ff = (va_up (va_up (va_up (va_up F 1 m_at_3) 2 m_seats_3) 3 m_rows_3) 4 m_people_3) := frm_eq (frm_up (frm_up (frm_up (frm_up hfF (by decide)) (by decide)) (by decide)) (by decide)) (frm_c (e1).symm (frm_c (e2).symm (frm_c (e3).symm (frm_c (e4).symm frm_n))))
        have EI : If = (va_up (va_up (va_up (va_up I 6 m_sorts_3) 7 m_rowOf_3) 8 m_own_3) 9 m_kinds_3) := frm_eq (frm_up (frm_up (frm_up (frm_up hfI (by decide)) (by decide)) (by decide)) (by decide)) (frm_c (e5).symm (frm_c (e6).symm (frm_c (e7).symm (frm_c (e8).symm frm_n))))
        exact ret_i X hS (by rw [EF, EI]; exact hP) e0 dX8_count_70
      · have hf := ie_s hf c7_2
        by_cases c7_3 : x1.toInt = 3
        · refine lv_tableIn (off := 64) (tgt := 71) X.1 X.2.1 dX8_count_7 (by omega) (by omega) (by rw [c7_3]; rfl) (by decide) ?_
          have hf := it_s hf c7_3
          refine lv_aload_n X.1 X.2.1 dX8_count_71 rfl (lv_at hl 1 rfl) ?_
          refine gM_0_6 X q_4_115 dX8_count_72 hP ?_
          refine lv_iload_n X.1 X.2.1 dX8_count_75 rfl (lv_at hl 2 rfl) ?_
          refine lv_iconst (v := 3) X.1 X.2.1 dX8_count_76 (by decide) ?_
          refine lv_isub X.1 X.2.1 dX8_count_77 ?_
          obtain ⟨h78, hf⟩ := gd_s hf
          refine lM_6 (I := (va_up (va_up (va_up (va_up I 6 m_sorts_3) 7 m_rowOf_3) 8 m_own_3) 9 m_kinds_3)) X (f := (I 5)) rfl h78 dX8_count_78 hP ?_
          obtain ⟨e0, hf⟩ := o2 hf
          obtain ⟨e1, hf⟩ := o2 hf
          obtain ⟨e2, hf⟩ := o2 hf
          obtain ⟨e3, hf⟩ := o2 hf
          obtain ⟨e4, hf⟩ := o2 hf
          obtain ⟨e5, hf⟩ := o2 hf
          obtain ⟨e6, hf⟩ := o2 hf
          obtain ⟨e7, hf⟩ := o2 hf
          have e8 := o1 hf
          have EF : Ff = (va_up (va_up (va_up (va_up F 1 m_at_3) 2 m_seats_3) 3 m_rows_3) 4 m_people_3) := frm_eq (frm_up (frm_up (frm_up (frm_up hfF (by decide)) (by decide)) (by decide)) (by decide)) (frm_c (e1).symm (frm_c (e2).symm (frm_c (e3).symm (frm_c (e4).symm frm_n))))
          have EI : If = (va_up (va_up (va_up (va_up I 6 m_sorts_3) 7 m_rowOf_3) 8 m_own_3) 9 m_kinds_3) := frm_eq (frm_up (frm_up (frm_up (frm_up hfI (by decide)) (by decide)) (by decide)) (by decide)) (frm_c (e5).symm (frm_c (e6).symm (frm_c (e7).symm (frm_c (e8).symm frm_n))))
          exact ret_i X hS (by rw [EF, EI]; exact hP) e0 dX8_count_79
        · have hf := ie_s hf c7_3
          by_cases c7_4 : x1.toInt = 4
          · refine lv_tableIn (off := 64) (tgt := 71) X.1 X.2.1 dX8_count_7 (by omega) (by omega) (by rw [c7_4]; rfl) (by decide) ?_
            have hf := it_s hf c7_4
            refine lv_aload_n X.1 X.2.1 dX8_count_71 rfl (lv_at hl 1 rfl) ?_
            refine gM_0_6 X q_4_115 dX8_count_72 hP ?_
            refine lv_iload_n X.1 X.2.1 dX8_count_75 rfl (lv_at hl 2 rfl) ?_
            refine lv_iconst (v := 3) X.1 X.2.1 dX8_count_76 (by decide) ?_
            refine lv_isub X.1 X.2.1 dX8_count_77 ?_
            obtain ⟨h78, hf⟩ := gd_s hf
            refine lM_6 (I := (va_up (va_up (va_up (va_up I 6 m_sorts_3) 7 m_rowOf_3) 8 m_own_3) 9 m_kinds_3)) X (f := (I 5)) rfl h78 dX8_count_78 hP ?_
            obtain ⟨e0, hf⟩ := o2 hf
            obtain ⟨e1, hf⟩ := o2 hf
            obtain ⟨e2, hf⟩ := o2 hf
            obtain ⟨e3, hf⟩ := o2 hf
            obtain ⟨e4, hf⟩ := o2 hf
            obtain ⟨e5, hf⟩ := o2 hf
            obtain ⟨e6, hf⟩ := o2 hf
            obtain ⟨e7, hf⟩ := o2 hf
            have e8 := o1 hf
            have EF : Ff = (va_up (va_up (va_up (va_up F 1 m_at_3) 2 m_seats_3) 3 m_rows_3) 4 m_people_3) := frm_eq (frm_up (frm_up (frm_up (frm_up hfF (by decide)) (by decide)) (by decide)) (by decide)) (frm_c (e1).symm (frm_c (e2).symm (frm_c (e3).symm (frm_c (e4).symm frm_n))))
            have EI : If = (va_up (va_up (va_up (va_up I 6 m_sorts_3) 7 m_rowOf_3) 8 m_own_3) 9 m_kinds_3) := frm_eq (frm_up (frm_up (frm_up (frm_up hfI (by decide)) (by decide)) (by decide)) (by decide)) (frm_c (e5).symm (frm_c (e6).symm (frm_c (e7).symm (frm_c (e8).symm frm_n))))
            exact ret_i X hS (by rw [EF, EI]; exact hP) e0 dX8_count_79
          · have hf := ie_s hf c7_4
            by_cases c7_5 : x1.toInt = 5
            · refine lv_tableIn (off := 73) (tgt := 80) X.1 X.2.1 dX8_count_7 (by omega) (by omega) (by rw [c7_5]; rfl) (by decide) ?_
              have hf := it_s hf c7_5
              refine lv_aload_n X.1 X.2.1 dX8_count_80 rfl (lv_at hl 1 rfl) ?_
              refine gM_0_31 (F := (va_up (va_up (va_up (va_up F 1 m_at_3) 2 m_seats_3) 3 m_rows_3) 4 m_people_3)) X (v := (F 12)) rfl q_4_140 dX8_count_81 hP ?_
              obtain ⟨e0, hf⟩ := o2 hf
              obtain ⟨e1, hf⟩ := o2 hf
              obtain ⟨e2, hf⟩ := o2 hf
              obtain ⟨e3, hf⟩ := o2 hf
              obtain ⟨e4, hf⟩ := o2 hf
              obtain ⟨e5, hf⟩ := o2 hf
              obtain ⟨e6, hf⟩ := o2 hf
              obtain ⟨e7, hf⟩ := o2 hf
              have e8 := o1 hf
              have EF : Ff = (va_up (va_up (va_up (va_up F 1 m_at_3) 2 m_seats_3) 3 m_rows_3) 4 m_people_3) := frm_eq (frm_up (frm_up (frm_up (frm_up hfF (by decide)) (by decide)) (by decide)) (by decide)) (frm_c (e1).symm (frm_c (e2).symm (frm_c (e3).symm (frm_c (e4).symm frm_n))))
              have EI : If = (va_up (va_up (va_up (va_up I 6 m_sorts_3) 7 m_rowOf_3) 8 m_own_3) 9 m_kinds_3) := frm_eq (frm_up (frm_up (frm_up (frm_up hfI (by decide)) (by decide)) (by decide)) (by decide)) (frm_c (e5).symm (frm_c (e6).symm (frm_c (e7).symm (frm_c (e8).symm frm_n))))
              exact ret_i X hS (by rw [EF, EI]; exact hP) e0 dX8_count_84
            · have hf := ie_s hf c7_5
              by_cases c7_6 : x1.toInt = 6
              · refine lv_tableIn (off := 78) (tgt := 85) X.1 X.2.1 dX8_count_7 (by omega) (by omega) (by rw [c7_6]; rfl) (by decide) ?_
                have hf := it_s hf c7_6
                refine lv_iconst (v := 0) X.1 X.2.1 dX8_count_85 (by decide) ?_
                refine lv_istore_n (lv' := [(3, .int 0), (2, .int 0), (0, .ref (a 0)), (1, .int x1)]) X.1 X.2.1 dX8_count_86 rfl hl (by decide) rfl (fun ls hl => ?_)
                exact t_X8_count_b87 X 4096 (va_up (va_up (va_up (va_up F 1 m_at_3) 2 m_seats_3) 3 m_rows_3) 4 m_people_3) (va_up (va_up (va_up (va_up I 6 m_sorts_3) 7 m_rowOf_3) 8 m_own_3) 9 m_kinds_3) 0 0 H locs ls hf (frm_up (frm_up (frm_up (frm_up hfF (by decide)) (by decide)) (by decide)) (by decide)) (frm_up (frm_up (frm_up (frm_up hfI (by decide)) (by decide)) (by decide)) (by decide)) hP hS (lv_sub hl [2, 1, 0] rfl)
              · have hf := ie_s hf c7_6
                by_cases c7_7 : x1.toInt = 7
                · refine lv_tableIn (off := 114) (tgt := 121) X.1 X.2.1 dX8_count_7 (by omega) (by omega) (by rw [c7_7]; rfl) (by decide) ?_
                  have hf := it_s hf c7_7
                  refine lv_iconst (v := 0) X.1 X.2.1 dX8_count_121 (by decide) ?_
                  refine lv_istore_n (lv' := [(3, .int 0), (2, .int 0), (0, .ref (a 0)), (1, .int x1)]) X.1 X.2.1 dX8_count_122 rfl hl (by decide) rfl (fun ls hl => ?_)
                  exact t_X8_count_b123 X 4096 (va_up (va_up (va_up (va_up F 1 m_at_3) 2 m_seats_3) 3 m_rows_3) 4 m_people_3) (va_up (va_up (va_up (va_up I 6 m_sorts_3) 7 m_rowOf_3) 8 m_own_3) 9 m_kinds_3) 0 0 H locs ls hf (frm_up (frm_up (frm_up (frm_up hfF (by decide)) (by decide)) (by decide)) (by decide)) (frm_up (frm_up (frm_up (frm_up hfI (by decide)) (by decide)) (by decide)) (by decide)) hP hS (lv_sub hl [2, 1, 0] rfl)
                · have hf := ie_s hf c7_7
                  by_cases c7_8 : x1.toInt = 8
                  · refine lv_tableIn (off := 148) (tgt := 155) X.1 X.2.1 dX8_count_7 (by omega) (by omega) (by rw [c7_8]; rfl) (by decide) ?_
                    have hf := it_s hf c7_8
                    refine lv_aload_n X.1 X.2.1 dX8_count_155 rfl (lv_at hl 1 rfl) ?_
                    refine gM_0_4 (F := (va_up (va_up (va_up (va_up F 1 m_at_3) 2 m_seats_3) 3 m_rows_3) 4 m_people_3)) X (v := (F 0)) rfl q_4_113 dX8_count_156 hP ?_
                    obtain ⟨e0, hf⟩ := o2 hf
                    obtain ⟨e1, hf⟩ := o2 hf
                    obtain ⟨e2, hf⟩ := o2 hf
                    obtain ⟨e3, hf⟩ := o2 hf
                    obtain ⟨e4, hf⟩ := o2 hf
                    obtain ⟨e5, hf⟩ := o2 hf
                    obtain ⟨e6, hf⟩ := o2 hf
                    obtain ⟨e7, hf⟩ := o2 hf
                    have e8 := o1 hf
                    have EF : Ff = (va_up (va_up (va_up (va_up F 1 m_at_3) 2 m_seats_3) 3 m_rows_3) 4 m_people_3) := frm_eq (frm_up (frm_up (frm_up (frm_up hfF (by decide)) (by decide)) (by decide)) (by decide)) (frm_c (e1).symm (frm_c (e2).symm (frm_c (e3).symm (frm_c (e4).symm frm_n))))
                    have EI : If = (va_up (va_up (va_up (va_up I 6 m_sorts_3) 7 m_rowOf_3) 8 m_own_3) 9 m_kinds_3) := frm_eq (frm_up (frm_up (frm_up (frm_up hfI (by decide)) (by decide)) (by decide)) (by decide)) (frm_c (e5).symm (frm_c (e6).symm (frm_c (e7).symm (frm_c (e8).symm frm_n))))
                    exact ret_i X hS (by rw [EF, EI]; exact hP) e0 dX8_count_159
                  · have hf := ie_s hf c7_8
                    refine lv_tableOut (tgt := 160) X.1 X.2.1 dX8_count_7 (by omega) (by decide) ?_
                    refine lv_bipush (v := (-2)) X.1 X.2.1 dX8_count_160 (by decide) ?_
                    obtain ⟨e0, hf⟩ := o2 hf
                    obtain ⟨e1, hf⟩ := o2 hf
                    obtain ⟨e2, hf⟩ := o2 hf
                    obtain ⟨e3, hf⟩ := o2 hf
                    obtain ⟨e4, hf⟩ := o2 hf
                    obtain ⟨e5, hf⟩ := o2 hf
                    obtain ⟨e6, hf⟩ := o2 hf
                    obtain ⟨e7, hf⟩ := o2 hf
                    have e8 := o1 hf
                    have EF : Ff = (va_up (va_up (va_up (va_up F 1 m_at_3) 2 m_seats_3) 3 m_rows_3) 4 m_people_3) := frm_eq (frm_up (frm_up (frm_up (frm_up hfF (by decide)) (by decide)) (by decide)) (by decide)) (frm_c (e1).symm (frm_c (e2).symm (frm_c (e3).symm (frm_c (e4).symm frm_n))))
                    have EI : If = (va_up (va_up (va_up (va_up I 6 m_sorts_3) 7 m_rowOf_3) 8 m_own_3) 9 m_kinds_3) := frm_eq (frm_up (frm_up (frm_up (frm_up hfI (by decide)) (by decide)) (by decide)) (by decide)) (frm_c (e5).symm (frm_c (e6).symm (frm_c (e7).symm (frm_c (e8).symm frm_n))))
                    exact ret_i X hS (by rw [EF, EI]; exact hP) e0 dX8_count_162
set_option maxRecDepth 100000 in
theorem c_X8_count {l : Launch} {D : va_G} {a : Nat → Nat} {kc : Nat → ClassId} (F : Nat → Int32) (G : Nat → Int64) (I : Nat → Nat → Int32) (J : Nat → Nat → Int64) (hAp : ∀ i j, i < 21 → j < 21 → a i = a j → i = j) (x1 : Int32) {o0 : Int32} {o1 : Int32} {o2 : Int32} {o3 : Int32} {o4 : Int32} {o5 : Nat → Int32} {o6 : Nat → Int32} {o7 : Nat → Int32} {o8 : Nat → Int32} (hf : p_X8_count (F 0) (F 1) (F 2) (F 3) (F 4) (F 12) (I 4) (I 5) (I 6) (I 7) (I 8) (I 9) x1 = some (o0, o1, o2, o3, o4, o5, o6, o7, o8)) : Ct 21 l yX8_count cX8_count 4 (some .int) rm_X8_count D (tyM kc) a (wM a kc F G I J) [.ref (a 0), .int x1] (Qi D (wM a kc (va_up (va_up (va_up (va_up F 1 o1) 2 o2) 3 o3) 4 o4) G (va_up (va_up (va_up (va_up I 6 o5) 7 o6) 8 o7) 9 o8) J) o0) :=
  Ct.of (by decide +kernel) hAp (Nat.le_of_ble_eq_true rfl) (fun p e s m args below meth c ls X hP hl => t_X8_count_b0 X F I x1 _ _ _ hf (frm_ul (frm_ul (frm_ul (frm_ul (fun k _ => rfl) (by decide)) (by decide)) (by decide)) (by decide)) (frm_ul (frm_ul (frm_ul (frm_ul (fun k _ => rfl) (by decide)) (by decide)) (by decide)) (by decide)) hP va_S.rf hl)
