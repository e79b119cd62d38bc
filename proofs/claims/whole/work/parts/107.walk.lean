abbrev rm_X8_sits : Room := { frames := 3, cells := 0, slots := 0, locals := 69 }
set_option maxHeartbeats 4000000 in
set_option maxRecDepth 100000 in
theorem t_X8_sits_b156x {p : Program} {l : Launch} {e : Env} {s : State} {m : MethodId} {args : Array Value} {below : List Frame} {meth : Method} {c : Code} {D : va_G} {a : Nat → Nat} {kc : Nat → ClassId} (X : cx 21 p s m args meth c D (tyM kc) a cX8_sits 10 RX8 none) {F : Nat → Int32} {I : Nat → Nat → Int32} {Gf : Nat → Int64} {Jf : Nat → Nat → Int64}  {K156 : Int32 → Int32 → Int32 → Int32 → Int32 → Int64 → (Nat → Int32) → (Nat → Int32) → (Nat → Int32) → (Nat → Int32) → (Nat → Int64) → (Nat → Int64) → Int64 → Int32 → Option (Int64 × (Nat → Int64) × (Nat → Int64))} (kh156 : ∀ (G : Nat → Int64) (J : Nat → Nat → Int64) (x3 : Int64) (x5 : Int32) (H : Heap) (locs : List Loc) (ls : Array Slot), K156 (F 2) (F 5) (F 6) (F 7) (F 8) (G 0) (I 6) (I 8) (I 9) (I 10) (J 0) (J 1) x3 x5 = some ((Gf 0), (Jf 0), (Jf 1)) → (∀ k, k ∉ ([0] : List Nat) → Gf k = G k) → (∀ k, k ∉ ([0, 1] : List Nat) → Jf k = J k) → va_P D vwCl (wM a kc F G I J) H → va_S (ad a 21 s.heap.size) s.heap H locs → lv_has ls 10 [(0, .ref (a 0)), (3, .long x3), (5, .int x5)] → W p l e rm_X8_sits s m args below meth c H locs 0 0 (MQ below (Qv D (wM a kc F Gf I Jf) (ad a 21 s.heap.size)) args s 0 0 (ad a 21 s.heap.size)) (F0 m 156 ls [])) :
    ∀ (G : Nat → Int64) (J : Nat → Nat → Int64) (x3 : Int64) (x5 : Int32) (H : Heap) (locs : List Loc) (ls : Array Slot), p_X8_sits_b156x K156 (F 2) (F 5) (F 6) (F 7) (F 8) (G 0) (I 6) (I 8) (I 9) (I 10) (J 0) (J 1) x3 x5 = some ((Gf 0), (Jf 0), (Jf 1)) → (∀ k, k ∉ ([0] : List Nat) → Gf k = G k) → (∀ k, k ∉ ([0, 1] : List Nat) → Jf k = J k) → va_P D vwCl (wM a kc F G I J) H → va_S (ad a 21 s.heap.size) s.heap H locs → lv_has ls 10 [(0, .ref (a 0)), (3, .long x3), (5, .int x5)] → W p l e rm_X8_sits s m args below meth c H locs 0 0 (MQ below (Qv D (wM a kc F Gf I Jf) (ad a 21 s.heap.size)) args s 0 0 (ad a 21 s.heap.size)) (F0 m 156 ls []) := by
  intro G J x3 x5 H locs ls hf hfG hfJ hP hS hl
  unfold p_X8_sits_b156x at hf
  refine lv_iload X.1 X.2.1 dX8_sits_156 (lv_at hl 2 rfl) ?_
  refine lv_aload_n X.1 X.2.1 dX8_sits_158 rfl (lv_at hl 0 rfl) ?_
  obtain ⟨r159, ho, hf⟩ := b1_s hf
  refine call_vi (rest := [.int x5]) X (c_X8_whole F G I J X.2.2.2.2.2.2.2.1  ho) q_5_121 q_5_123 qs_yX8_whole q_1_10 q_5_124 ok_X8_whole rfl 0 rfl rfl ⟨Nat.le_of_ble_eq_true rfl, Nat.le_of_ble_eq_true rfl⟩ rfl rfl hl.1 rfl (Nat.le_of_ble_eq_true rfl) dX8_sits_159 hP hS (fun H locs hP hS => ?_)
  refine lv_icmp_gt (tgt := 185) X.1 X.2.1 dX8_sits_162 (by decide) (fun c162 => ?_) (fun c162 => ?_)
  · have hf := it_s hf c162
    refine lv_aload_n X.1 X.2.1 dX8_sits_185 rfl (lv_at hl 0 rfl) ?_
    refine lv_dup X.1 X.2.1 dX8_sits_186 rfl ?_
    refine gM_0_17 (G := G) X (v := (G 0)) rfl q_4_126 dX8_sits_187 hP ?_
    refine lv_lload_n X.1 X.2.1 dX8_sits_190 rfl (lv_at hl 1 rfl) ?_
    refine lv_lmul X.1 X.2.1 dX8_sits_191 ?_
    refine nm_l hf (fun m_all_192 hf => ?_)
    refine pM_0_17 X q_4_126 dX8_sits_192 hP hS (fun H locs hP hS => ?_)
    obtain ⟨e0, hf⟩ := o2 hf
    obtain ⟨e1, hf⟩ := o2 hf
    have e2 := o1 hf
    have EG : Gf = (va_up G 0 m_all_192) := frm_eq (frm_up hfG (by decide)) (frm_c (e0).symm frm_n)
    have EJ : Jf = J := frm_eq hfJ (frm_c (e1).symm (frm_c (e2).symm frm_n))
    exact ret_v X hS (by rw [EG, EJ]; exact hP) dX8_sits_195
  · have hf := ie_s hf c162
    refine lv_aload_n X.1 X.2.1 dX8_sits_165 rfl (lv_at hl 0 rfl) ?_
    refine gM_0_15 X q_4_124 dX8_sits_166 hP ?_
    refine lv_iload X.1 X.2.1 dX8_sits_169 (lv_at hl 2 rfl) ?_
    refine lv_aload_n X.1 X.2.1 dX8_sits_171 rfl (lv_at hl 0 rfl) ?_
    refine gM_0_16 X q_4_125 dX8_sits_172 hP ?_
    refine lv_iload X.1 X.2.1 dX8_sits_175 (lv_at hl 2 rfl) ?_
    obtain ⟨h177, hf⟩ := gd_s hf
    refine lM_12 (J := J) X (f := (J 1)) rfl h177 dX8_sits_177 hP ?_
    obtain ⟨h178, hf⟩ := gd_s hf
    obtain ⟨m_ways_178, em_ways_178, hf⟩ := nm_x hf
    refine sM_11 (J := J) X h178 em_ways_178 dX8_sits_178 hP hS (fun H locs hP hS => ?_)
    obtain ⟨x179, ex179, hf⟩ := nm_x hf
    refine lv_iinc (v := x179) (lv' := [(5, .int x179), (0, .ref (a 0)), (3, .long x3)]) X.1 X.2.1 dX8_sits_179 hl (k := 2) rfl ex179 (by decide) rfl (fun ls hl => ?_)
    refine lv_goto (tgt := 156) X.1 X.2.1 dX8_sits_182 (by decide) ?_
    exact kh156 G (va_up J 0 m_ways_178) x3 x179 H locs ls hf hfG (frm_up hfJ (by decide)) hP hS (lv_sub hl [1, 2, 0] rfl)
set_option maxRecDepth 100000 in
theorem t_X8_sits_b156 {p : Program} {l : Launch} {e : Env} {s : State} {m : MethodId} {args : Array Value} {below : List Frame} {meth : Method} {c : Code} {D : va_G} {a : Nat → Nat} {kc : Nat → ClassId} (X : cx 21 p s m args meth c D (tyM kc) a cX8_sits 10 RX8 none) {F : Nat → Int32} {I : Nat → Nat → Int32} {Gf : Nat → Int64} {Jf : Nat → Nat → Int64}  :
    ∀ (n : Nat) (G : Nat → Int64) (J : Nat → Nat → Int64) (x3 : Int64) (x5 : Int32) (H : Heap) (locs : List Loc) (ls : Array Slot), p_X8_sits_b156 n (F 2) (F 5) (F 6) (F 7) (F 8) (G 0) (I 6) (I 8) (I 9) (I 10) (J 0) (J 1) x3 x5 = some ((Gf 0), (Jf 0), (Jf 1)) → (∀ k, k ∉ ([0] : List Nat) → Gf k = G k) → (∀ k, k ∉ ([0, 1] : List Nat) → Jf k = J k) → va_P D vwCl (wM a kc F G I J) H → va_S (ad a 21 s.heap.size) s.heap H locs → lv_has ls 10 [(0, .ref (a 0)), (3, .long x3), (5, .int x5)] → W p l e rm_X8_sits s m args below meth c H locs 0 0 (MQ below (Qv D (wM a kc F Gf I Jf) (ad a 21 s.heap.size)) args s 0 0 (ad a 21 s.heap.size)) (F0 m 156 ls []) := by
  intro n
  induction n with
  | zero => intro G J x3 x5 H locs ls hf hfG hfJ hP hS hl; exact (nos hf).elim
  | succ n ih => exact t_X8_sits_b156x X ih
set_option maxHeartbeats 4000000 in
set_option maxRecDepth 100000 in
theorem t_X8_sits_b147 {p : Program} {l : Launch} {e : Env} {s : State} {m : MethodId} {args : Array Value} {below : List Frame} {meth : Method} {c : Code} {D : va_G} {a : Nat → Nat} {kc : Nat → ClassId} (X : cx 21 p s m args meth c D (tyM kc) a cX8_sits 10 RX8 none) {F : Nat → Int32} {I : Nat → Nat → Int32} {Gf : Nat → Int64} {Jf : Nat → Nat → Int64}  {K39 : Int32 → Int32 → Int32 → Int32 → Int32 → Int64 → (Nat → Int32) → (Nat → Int32) → (Nat → Int32) → (Nat → Int32) → (Nat → Int64) → (Nat → Int64) → Int32 → Int64 → Int32 → Option (Int64 × (Nat → Int64) × (Nat → Int64))} (kh39 : ∀ (G : Nat → Int64) (J : Nat → Nat → Int64) (x1 : Int32) (x3 : Int64) (x5 : Int32) (H : Heap) (locs : List Loc) (ls : Array Slot), K39 (F 2) (F 5) (F 6) (F 7) (F 8) (G 0) (I 6) (I 8) (I 9) (I 10) (J 0) (J 1) x1 x3 x5 = some ((Gf 0), (Jf 0), (Jf 1)) → (∀ k, k ∉ ([0] : List Nat) → Gf k = G k) → (∀ k, k ∉ ([0, 1] : List Nat) → Jf k = J k) → va_P D vwCl (wM a kc F G I J) H → va_S (ad a 21 s.heap.size) s.heap H locs → lv_has ls 10 [(0, .ref (a 0)), (1, .int x1), (3, .long x3), (5, .int x5)] → W p l e rm_X8_sits s m args below meth c H locs 0 0 (MQ below (Qv D (wM a kc F Gf I Jf) (ad a 21 s.heap.size)) args s 0 0 (ad a 21 s.heap.size)) (F0 m 39 ls [])) :
    ∀ (G : Nat → Int64) (J : Nat → Nat → Int64) (x1 : Int32) (x3 : Int64) (x5 : Int32) (H : Heap) (locs : List Loc) (ls : Array Slot), p_X8_sits_b147 K39 (F 2) (F 5) (F 6) (F 7) (F 8) (G 0) (I 6) (I 8) (I 9) (I 10) (J 0) (J 1) x1 x3 x5 = some ((Gf 0), (Jf 0), (Jf 1)) → (∀ k, k ∉ ([0] : List Nat) → Gf k = G k) → (∀ k, k ∉ ([0, 1] : List Nat) → Jf k = J k) → va_P D vwCl (wM a kc F G I J) H → va_S (ad a 21 s.heap.size) s.heap H locs → lv_has ls 10 [(0, .ref (a 0)), (1, .int x1), (3, .long x3), (5, .int x5)] → W p l e rm_X8_sits s m args below meth c H locs 0 0 (MQ below (Qv D (wM a kc F Gf I Jf) (ad a 21 s.heap.size)) args s 0 0 (ad a 21 s.heap.size)) (F0 m 147 ls []) := by
  intro G J x1 x3 x5 H locs ls hf hfG hfJ hP hS hl
  unfold p_X8_sits_b147 at hf
  obtain ⟨x147, ex147, hf⟩ := nm_x hf
  refine lv_iinc (v := x147) (lv' := [(5, .int x147), (0, .ref (a 0)), (1, .int x1), (3, .long x3)]) X.1 X.2.1 dX8_sits_147 hl (k := 3) rfl ex147 (by decide) rfl (fun ls hl => ?_)
  refine lv_goto (tgt := 39) X.1 X.2.1 dX8_sits_150 (by decide) ?_
  exact kh39 G J x1 x3 x147 H locs ls hf hfG hfJ hP hS (lv_sub hl [1, 2, 3, 0] rfl)
set_option maxHeartbeats 4000000 in
set_option maxRecDepth 100000 in
theorem t_X8_sits_b141 {p : Program} {l : Launch} {e : Env} {s : State} {m : MethodId} {args : Array Value} {below : List Frame} {meth : Method} {c : Code} {D : va_G} {a : Nat → Nat} {kc : Nat → ClassId} (X : cx 21 p s m args meth c D (tyM kc) a cX8_sits 10 RX8 none) {F : Nat → Int32} {I : Nat → Nat → Int32} {Gf : Nat → Int64} {Jf : Nat → Nat → Int64}  {K39 : Int32 → Int32 → Int32 → Int32 → Int32 → Int64 → (Nat → Int32) → (Nat → Int32) → (Nat → Int32) → (Nat → Int32) → (Nat → Int64) → (Nat → Int64) → Int32 → Int64 → Int32 → Option (Int64 × (Nat → Int64) × (Nat → Int64))} (kh39 : ∀ (G : Nat → Int64) (J : Nat → Nat → Int64) (x1 : Int32) (x3 : Int64) (x5 : Int32) (H : Heap) (locs : List Loc) (ls : Array Slot), K39 (F 2) (F 5) (F 6) (F 7) (F 8) (G 0) (I 6) (I 8) (I 9) (I 10) (J 0) (J 1) x1 x3 x5 = some ((Gf 0), (Jf 0), (Jf 1)) → (∀ k, k ∉ ([0] : List Nat) → Gf k = G k) → (∀ k, k ∉ ([0, 1] : List Nat) → Jf k = J k) → va_P D vwCl (wM a kc F G I J) H → va_S (ad a 21 s.heap.size) s.heap H locs → lv_has ls 10 [(0, .ref (a 0)), (1, .int x1), (3, .long x3), (5, .int x5)] → W p l e rm_X8_sits s m args below meth c H locs 0 0 (MQ below (Qv D (wM a kc F Gf I Jf) (ad a 21 s.heap.size)) args s 0 0 (ad a 21 s.heap.size)) (F0 m 39 ls [])) {K95 : Int32 → Int32 → Int32 → Int32 → Int32 → Int64 → (Nat → Int32) → (Nat → Int32) → (Nat → Int32) → (Nat → Int32) → (Nat → Int64) → (Nat → Int64) → Int32 → Int64 → Int32 → Int32 → Int64 → Int32 → Option (Int64 × (Nat → Int64) × (Nat → Int64))} (kh95 : ∀ (G : Nat → Int64) (J : Nat → Nat → Int64) (x1 : Int32) (x3 : Int64) (x5 : Int32) (x6 : Int32) (x7 : Int64) (x9 : Int32) (H : Heap) (locs : List Loc) (ls : Array Slot), K95 (F 2) (F 5) (F 6) (F 7) (F 8) (G 0) (I 6) (I 8) (I 9) (I 10) (J 0) (J 1) x1 x3 x5 x6 x7 x9 = some ((Gf 0), (Jf 0), (Jf 1)) → (∀ k, k ∉ ([0] : List Nat) → Gf k = G k) → (∀ k, k ∉ ([0, 1] : List Nat) → Jf k = J k) → va_P D vwCl (wM a kc F G I J) H → va_S (ad a 21 s.heap.size) s.heap H locs → lv_has ls 10 [(0, .ref (a 0)), (1, .int x1), (3, .long x3), (5, .int x5), (6, .int x6), (7, .long x7), (9, .int x9)] → W p l e rm_X8_sits s m args below meth c H locs 0 0 (MQ below (Qv D (wM a kc F Gf I Jf) (ad a 21 s.heap.size)) args s 0 0 (ad a 21 s.heap.size)) (F0 m 95 ls [])) :
    ∀ (G : Nat → Int64) (J : Nat → Nat → Int64) (x1 : Int32) (x3 : Int64) (x5 : Int32) (x6 : Int32) (x7 : Int64) (x9 : Int32) (H : Heap) (locs : List Loc) (ls : Array Slot), p_X8_sits_b141 K39 K95 (F 2) (F 5) (F 6) (F 7) (F 8) (G 0) (I 6) (I 8) (I 9) (I 10) (J 0) (J 1) x1 x3 x5 x6 x7 x9 = some ((Gf 0), (Jf 0), (Jf 1)) → (∀ k, k ∉ ([0] : List Nat) → Gf k = G k) → (∀ k, k ∉ ([0, 1] : List Nat) → Jf k = J k) → va_P D vwCl (wM a kc F G I J) H → va_S (ad a 21 s.heap.size) s.heap H locs → lv_has ls 10 [(0, .ref (a 0)), (1, .int x1), (3, .long x3), (5, .int x5), (6, .int x6), (7, .long x7), (9, .int x9)] → W p l e rm_X8_sits s m args below meth c H locs 0 0 (MQ below (Qv D (wM a kc F Gf I Jf) (ad a 21 s.heap.size)) args s 0 0 (ad a 21 s.heap.size)) (F0 m 141 ls []) := by
  intro G J x1 x3 x5 x6 x7 x9 H locs ls hf hfG hfJ hP hS hl
  unfold p_X8_sits_b141 at hf
  obtain ⟨x141, ex141, hf⟩ := nm_x hf
  refine lv_iinc (v := x141) (lv' := [(9, .int x141), (0, .ref (a 0)), (1, .int x1), (3, .long x3), (5, .int x5), (6, .int x6), (7, .long x7)]) X.1 X.2.1 dX8_sits_141 hl (k := 6) rfl ex141 (by decide) rfl (fun ls hl => ?_)
  refine lv_goto (tgt := 95) X.1 X.2.1 dX8_sits_144 (by decide) ?_
  exact kh95 G J x1 x3 x5 x6 x7 x141 H locs ls hf hfG hfJ hP hS (lv_sub hl [1, 2, 3, 4, 5, 6, 0] rfl)
set_option maxHeartbeats 4000000 in
set_option maxRecDepth 100000 in
theorem t_X8_sits_b95x {p : Program} {l : Launch} {e : Env} {s : State} {m : MethodId} {args : Array Value} {below : List Frame} {meth : Method} {c : Code} {D : va_G} {a : Nat → Nat} {kc : Nat → ClassId} (X : cx 21 p s m args meth c D (tyM kc) a cX8_sits 10 RX8 none) {F : Nat → Int32} {I : Nat → Nat → Int32} {Gf : Nat → Int64} {Jf : Nat → Nat → Int64}  {K39 : Int32 → Int32 → Int32 → Int32 → Int32 → Int64 → (Nat → Int32) → (Nat → Int32) → (Nat → Int32) → (Nat → Int32) → (Nat → Int64) → (Nat → Int64) → Int32 → Int64 → Int32 → Option (Int64 × (Nat → Int64) × (Nat → Int64))} (kh39 : ∀ (G : Nat → Int64) (J : Nat → Nat → Int64) (x1 : Int32) (x3 : Int64) (x5 : Int32) (H : Heap) (locs : List Loc) (ls : Array Slot), K39 (F 2) (F 5) (F 6) (F 7) (F 8) (G 0) (I 6) (I 8) (I 9) (I 10) (J 0) (J 1) x1 x3 x5 = some ((Gf 0), (Jf 0), (Jf 1)) → (∀ k, k ∉ ([0] : List Nat) → Gf k = G k) → (∀ k, k ∉ ([0, 1] : List Nat) → Jf k = J k) → va_P D vwCl (wM a kc F G I J) H → va_S (ad a 21 s.heap.size) s.heap H locs → lv_has ls 10 [(0, .ref (a 0)), (1, .int x1), (3, .long x3), (5, .int x5)] → W p l e rm_X8_sits s m args below meth c H locs 0 0 (MQ below (Qv D (wM a kc F Gf I Jf) (ad a 21 s.heap.size)) args s 0 0 (ad a 21 s.heap.size)) (F0 m 39 ls [])) {K95 : Int32 → Int32 → Int32 → Int32 → Int32 → Int64 → (Nat → Int32) → (Nat → Int32) → (Nat → Int32) → (Nat → Int32) → (Nat → Int64) → (Nat → Int64) → Int32 → Int64 → Int32 → Int32 → Int64 → Int32 → Option (Int64 × (Nat → Int64) × (Nat → Int64))} (kh95 : ∀ (G : Nat → Int64) (J : Nat → Nat → Int64) (x1 : Int32) (x3 : Int64) (x5 : Int32) (x6 : Int32) (x7 : Int64) (x9 : Int32) (H : Heap) (locs : List Loc) (ls : Array Slot), K95 (F 2) (F 5) (F 6) (F 7) (F 8) (G 0) (I 6) (I 8) (I 9) (I 10) (J 0) (J 1) x1 x3 x5 x6 x7 x9 = some ((Gf 0), (Jf 0), (Jf 1)) → (∀ k, k ∉ ([0] : List Nat) → Gf k = G k) → (∀ k, k ∉ ([0, 1] : List Nat) → Jf k = J k) → va_P D vwCl (wM a kc F G I J) H → va_S (ad a 21 s.heap.size) s.heap H locs → lv_has ls 10 [(0, .ref (a 0)), (1, .int x1), (3, .long x3), (5, .int x5), (6, .int x6), (7, .long x7), (9, .int x9)] → W p l e rm_X8_sits s m args below meth c H locs 0 0 (MQ below (Qv D (wM a kc F Gf I Jf) (ad a 21 s.heap.size)) args s 0 0 (ad a 21 s.heap.size)) (F0 m 95 ls [])) :
    ∀ (G : Nat → Int64) (J : Nat → Nat → Int64) (x1 : Int32) (x3 : Int64) (x5 : Int32) (x6 : Int32) (x7 : Int64) (x9 : Int32) (H : Heap) (locs : List Loc) (ls : Array Slot), p_X8_sits_b95x K39 K95 (F 2) (F 5) (F 6) (F 7) (F 8) (G 0) (I 6) (I 8) (I 9) (I 10) (J 0) (J 1) x1 x3 x5 x6 x7 x9 = some ((Gf 0), (Jf 0), (Jf 1)) → (∀ k, k ∉ ([0] : List Nat) → Gf k = G k) → (∀ k, k ∉ ([0, 1] : List Nat) → Jf k = J k) → va_P D vwCl (wM a kc F G I J) H → va_S (ad a 21 s.heap.size) s.heap H locs → lv_has ls 10 [(0, .ref (a 0)), (1, .int x1), (3, .long x3), (5, .int x5), (6, .int x6), (7, .long x7), (9, .int x9)] → W p l e rm_X8_sits s m args below meth c H locs 0 0 (MQ below (Qv D (wM a kc F Gf I Jf) (ad a 21 s.heap.size)) args s 0 0 (ad a 21 s.heap.size)) (F0 m 95 ls []) := by
  intro G J x1 x3 x5 x6 x7 x9 H locs ls hf hfG hfJ hP hS hl
  unfold p_X8_sits_b95x at hf
  refine lv_iload X.1 X.2.1 dX8_sits_95 (lv_at hl 6 rfl) ?_
  refine lv_aload_n X.1 X.2.1 dX8_sits_97 rfl (lv_at hl 0 rfl) ?_
  refine gM_0_8 (F := F) X (v := (F 2)) rfl q_4_117 dX8_sits_98 hP ?_
  refine lv_icmp_ge (tgt := 147) X.1 X.2.1 dX8_sits_101 (by decide) (fun c101 => ?_) (fun c101 => ?_)
  · have hf := it_s hf c101
    exact t_X8_sits_b147 X kh39 G J x1 x3 x5 H locs ls hf hfG hfJ hP hS (lv_sub hl [0, 1, 2, 3] rfl)
  · have hf := ie_s hf c101
    refine lv_iload X.1 X.2.1 dX8_sits_104 (lv_at hl 4 rfl) ?_
    refine lv_iload X.1 X.2.1 dX8_sits_106 (lv_at hl 6 rfl) ?_
    obtain ⟨r108, ho, hf⟩ := b1_s hf
    refine call_si (rest := []) X (c_X8_isIn x6 x9 ho) q_5_133 q_5_134 q_1_10 q_5_135 ok_X8_isIn rfl ⟨Nat.le_of_ble_eq_true rfl, Nat.le_of_ble_eq_true rfl⟩ rfl rfl hl.1 rfl (Nat.le_of_ble_eq_true rfl) dX8_sits_108 hP hS (fun H locs hP hS => ?_)
    refine lv_if_eq (tgt := 141) X.1 X.2.1 dX8_sits_111 (by decide) (fun c111 => ?_) (fun c111 => ?_)
    · have hf := it_s hf c111
      exact t_X8_sits_b141 X kh39 kh95 G J x1 x3 x5 x6 x7 x9 H locs ls hf hfG hfJ hP hS (lv_sub hl [0, 1, 2, 3, 4, 5, 6] rfl)
    · have hf := ie_s hf c111
      refine lv_aload_n X.1 X.2.1 dX8_sits_114 rfl (lv_at hl 0 rfl) ?_
      refine lv_iload_n X.1 X.2.1 dX8_sits_115 rfl (lv_at hl 1 rfl) ?_
      refine lv_iload X.1 X.2.1 dX8_sits_116 (lv_at hl 6 rfl) ?_
      obtain ⟨r118, ho, hf⟩ := b1_s hf
      refine call_vi (rest := []) X (c_X8_mayBe F G I J X.2.2.2.2.2.2.2.1 x1 x9 ho) q_5_147 q_5_149 qs_yX8_mayBe q_1_10 q_5_150 ok_X8_mayBe rfl 0 rfl rfl ⟨Nat.le_of_ble_eq_true rfl, Nat.le_of_ble_eq_true rfl⟩ rfl rfl hl.1 rfl (Nat.le_of_ble_eq_true rfl) dX8_sits_118 hP hS (fun H locs hP hS => ?_)
      refine lv_if_eq (tgt := 141) X.1 X.2.1 dX8_sits_121 (by decide) (fun c121 => ?_) (fun c121 => ?_)
      · have hf := it_s hf c121
        exact t_X8_sits_b141 X kh39 kh95 G J x1 x3 x5 x6 x7 x9 H locs ls hf hfG hfJ hP hS (lv_sub hl [0, 1, 2, 3, 4, 5, 6] rfl)
      · have hf := ie_s hf c121
        refine lv_aload_n X.1 X.2.1 dX8_sits_124 rfl (lv_at hl 0 rfl) ?_
        refine gM_0_16 X q_4_125 dX8_sits_125 hP ?_
        refine lv_iload X.1 X.2.1 dX8_sits_128 (lv_at hl 3 rfl) ?_
        refine lv_iconst (v := 1) X.1 X.2.1 dX8_sits_130 (by decide) ?_
        refine lv_iload X.1 X.2.1 dX8_sits_131 (lv_at hl 6 rfl) ?_
        refine lv_ishl X.1 X.2.1 dX8_sits_133 ?_
        refine lv_ior X.1 X.2.1 dX8_sits_134 ?_
        refine lv_dup2_11 X.1 X.2.1 dX8_sits_135 rfl rfl ?_
        obtain ⟨h136, hf⟩ := gd_s hf
        refine lM_12 (J := J) X (f := (J 1)) rfl h136 dX8_sits_136 hP ?_
        refine lv_lload X.1 X.2.1 dX8_sits_137 (lv_at hl 5 rfl) ?_
        refine lv_ladd X.1 X.2.1 dX8_sits_139 ?_
        obtain ⟨h140, hf⟩ := gd_s hf
        obtain ⟨m_next_140, em_next_140, hf⟩ := nm_x hf
        refine sM_12 (J := J) X h140 em_next_140 dX8_sits_140 hP hS (fun H locs hP hS => ?_)
        exact t_X8_sits_b141 X kh39 kh95 G (va_up J 1 m_next_140) x1 x3 x5 x6 x7 x9 H locs ls hf hfG (frm_up hfJ (by decide)) hP hS (lv_sub hl [0, 1, 2, 3, 4, 5, 6] rfl)
set_option maxRecDepth 100000 in
theorem t_X8_sits_b95 {p : Program} {l : Launch} {e : Env} {s : State} {m : MethodId} {args : Array Value} {below : List Frame} {meth : Method} {c : Code} {D : va_G} {a : Nat → Nat} {kc : Nat → ClassId} (X : cx 21 p s m args meth c D (tyM kc) a cX8_sits 10 RX8 none) {F : Nat → Int32} {I : Nat → Nat → Int32} {Gf : Nat → Int64} {Jf : Nat → Nat → Int64}  {K39 : Int32 → Int32 → Int32 → Int32 → Int32 → Int64 → (Nat → Int32) → (Nat → Int32) → (Nat → Int32) → (Nat → Int32) → (Nat → Int64) → (Nat → Int64) → Int32 → Int64 → Int32 → Option (Int64 × (Nat → Int64) × (Nat → Int64))} (kh39 : ∀ (G : Nat → Int64) (J : Nat → Nat → Int64) (x1 : Int32) (x3 : Int64) (x5 : Int32) (H : Heap) (locs : List Loc) (ls : Array Slot), K39 (F 2) (F 5) (F 6) (F 7) (F 8) (G 0) (I 6) (I 8) (I 9) (I 10) (J 0) (J 1) x1 x3 x5 = some ((Gf 0), (Jf 0), (Jf 1)) → (∀ k, k ∉ ([0] : List Nat) → Gf k = G k) → (∀ k, k ∉ ([0, 1] : List Nat) → Jf k = J k) → va_P D vwCl (wM a kc F G I J) H → va_S (ad a 21 s.heap.size) s.heap H locs → lv_has ls 10 [(0, .ref (a 0)), (1, .int x1), (3, .long x3), (5, .int x5)] → W p l e rm_X8_sits s m args below meth c H locs 0 0 (MQ below (Qv D (wM a kc F Gf I Jf) (ad a 21 s.heap.size)) args s 0 0 (ad a 21 s.heap.size)) (F0 m 39 ls [])) :
    ∀ (n : Nat) (G : Nat → Int64) (J : Nat → Nat → Int64) (x1 : Int32) (x3 : Int64) (x5 : Int32) (x6 : Int32) (x7 : Int64) (x9 : Int32) (H : Heap) (locs : List Loc) (ls : Array Slot), p_X8_sits_b95 K39 n (F 2) (F 5) (F 6) (F 7) (F 8) (G 0) (I 6) (I 8) (I 9) (I 10) (J 0) (J 1) x1 x3 x5 x6 x7 x9 = some ((Gf 0), (Jf 0), (Jf 1)) → (∀ k, k ∉ ([0] : List Nat) → Gf k = G k) → (∀ k, k ∉ ([0, 1] : List Nat) → Jf k = J k) → va_P D vwCl (wM a kc F G I J) H → va_S (ad a 21 s.heap.size) s.heap H locs → lv_has ls 10 [(0, .ref (a 0)), (1, .int x1), (3, .long x3), (5, .int x5), (6, .int x6), (7, .long x7), (9, .int x9)] → W p l e rm_X8_sits s m args below meth c H locs 0 0 (MQ below (Qv D (wM a kc F Gf I Jf) (ad a 21 s.heap.size)) args s 0 0 (ad a 21 s.heap.size)) (F0 m 95 ls []) := by
  intro n
  induction n with
  | zero => intro G J x1 x3 x5 x6 x7 x9 H locs ls hf hfG hfJ hP hS hl; exact (nos hf).elim
  | succ n ih => exact t_X8_sits_b95x X kh39 ih
set_option maxHeartbeats 4000000 in
set_option maxRecDepth 100000 in
theorem t_X8_sits_b39x {p : Program} {l : Launch} {e : Env} {s : State} {m : MethodId} {args : Array Value} {below : List Frame} {meth : Method} {c : Code} {D : va_G} {a : Nat → Nat} {kc : Nat → ClassId} (X : cx 21 p s m args meth c D (tyM kc) a cX8_sits 10 RX8 none) {F : Nat → Int32} {I : Nat → Nat → Int32} {Gf : Nat → Int64} {Jf : Nat → Nat → Int64}  {K39 : Int32 → Int32 → Int32 → Int32 → Int32 → Int64 → (Nat → Int32) → (Nat → Int32) → (Nat → Int32) → (Nat → Int32) → (Nat → Int64) → (Nat → Int64) → Int32 → Int64 → Int32 → Option (Int64 × (Nat → Int64) × (Nat → Int64))} (kh39 : ∀ (G : Nat → Int64) (J : Nat → Nat → Int64) (x1 : Int32) (x3 : Int64) (x5 : Int32) (H : Heap) (locs : List Loc) (ls : Array Slot), K39 (F 2) (F 5) (F 6) (F 7) (F 8) (G 0) (I 6) (I 8) (I 9) (I 10) (J 0) (J 1) x1 x3 x5 = some ((Gf 0), (Jf 0), (Jf 1)) → (∀ k, k ∉ ([0] : List Nat) → Gf k = G k) → (∀ k, k ∉ ([0, 1] : List Nat) → Jf k = J k) → va_P D vwCl (wM a kc F G I J) H → va_S (ad a 21 s.heap.size) s.heap H locs → lv_has ls 10 [(0, .ref (a 0)), (1, .int x1), (3, .long x3), (5, .int x5)] → W p l e rm_X8_sits s m args below meth c H locs 0 0 (MQ below (Qv D (wM a kc F Gf I Jf) (ad a 21 s.heap.size)) args s 0 0 (ad a 21 s.heap.size)) (F0 m 39 ls [])) :
    ∀ (G : Nat → Int64) (J : Nat → Nat → Int64) (x1 : Int32) (x3 : Int64) (x5 : Int32) (H : Heap) (locs : List Loc) (ls : Array Slot), p_X8_sits_b39x K39 (F 2) (F 5) (F 6) (F 7) (F 8) (G 0) (I 6) (I 8) (I 9) (I 10) (J 0) (J 1) x1 x3 x5 = some ((Gf 0), (Jf 0), (Jf 1)) → (∀ k, k ∉ ([0] : List Nat) → Gf k = G k) → (∀ k, k ∉ ([0, 1] : List Nat) → Jf k = J k) → va_P D vwCl (wM a kc F G I J) H → va_S (ad a 21 s.heap.size) s.heap H locs → lv_has ls 10 [(0, .ref (a 0)), (1, .int x1), (3, .long x3), (5, .int x5)] → W p l e rm_X8_sits s m args below meth c H locs 0 0 (MQ below (Qv D (wM a kc F Gf I Jf) (ad a 21 s.heap.size)) args s 0 0 (ad a 21 s.heap.size)) (F0 m 39 ls []) := by
  intro G J x1 x3 x5 H locs ls hf hfG hfJ hP hS hl
  unfold p_X8_sits_b39x at hf
  refine lv_iload X.1 X.2.1 dX8_sits_39 (lv_at hl 3 rfl) ?_
  refine lv_aload_n X.1 X.2.1 dX8_sits_41 rfl (lv_at hl 0 rfl) ?_
  obtain ⟨r42, ho, hf⟩ := b1_s hf
  refine call_vi (rest := [.int x5]) X (c_X8_whole F G I J X.2.2.2.2.2.2.2.1  ho) q_5_121 q_5_123 qs_yX8_whole q_1_10 q_5_124 ok_X8_whole rfl 0 rfl rfl ⟨Nat.le_of_ble_eq_true rfl, Nat.le_of_ble_eq_true rfl⟩ rfl rfl hl.1 rfl (Nat.le_of_ble_eq_true rfl) dX8_sits_42 hP hS (fun H locs hP hS => ?_)
  refine lv_icmp_gt (tgt := 153) X.1 X.2.1 dX8_sits_45 (by decide) (fun c45 => ?_) (fun c45 => ?_)
  · have hf := it_s hf c45
    refine lv_iconst (v := 0) X.1 X.2.1 dX8_sits_153 (by decide) ?_
    refine lv_istore (lv' := [(5, .int 0), (0, .ref (a 0)), (1, .int x1), (3, .long x3)]) X.1 X.2.1 dX8_sits_154 hl (by decide) rfl (fun ls hl => ?_)
    exact t_X8_sits_b156 X 4096 G J x3 0 H locs ls hf hfG hfJ hP hS (lv_sub hl [1, 3, 0] rfl)
  · have hf := ie_s hf c45
    refine lv_aload_n X.1 X.2.1 dX8_sits_48 rfl (lv_at hl 0 rfl) ?_
    refine gM_0_15 X q_4_124 dX8_sits_49 hP ?_
    refine lv_iload X.1 X.2.1 dX8_sits_52 (lv_at hl 3 rfl) ?_
    obtain ⟨h54, hf⟩ := gd_s hf
    refine lM_11 (J := J) X (f := (J 0)) rfl h54 dX8_sits_54 hP ?_
    refine lv_lconst (v := 0) X.1 X.2.1 dX8_sits_55 (by decide) ?_
    refine W.lcmp X.1 X.2.1 dX8_sits_56 ?_
    refine lv_if_le (tgt := 147) X.1 X.2.1 dX8_sits_57 (by decide) (fun c57 => ?_) (fun c57 => ?_)
    · have hf := it_s hf c57
      exact t_X8_sits_b147 X kh39 G J x1 x3 x5 H locs ls hf hfG hfJ hP hS (lv_sub hl [0, 1, 2, 3] rfl)
    · have hf := ie_s hf c57
      refine lv_aload_n X.1 X.2.1 dX8_sits_60 rfl (lv_at hl 0 rfl) ?_
      refine lv_iload_n X.1 X.2.1 dX8_sits_61 rfl (lv_at hl 1 rfl) ?_
      refine lv_aload_n X.1 X.2.1 dX8_sits_62 rfl (lv_at hl 0 rfl) ?_
      refine lv_iload_n X.1 X.2.1 dX8_sits_63 rfl (lv_at hl 1 rfl) ?_
      obtain ⟨r64, ho, hf⟩ := b1_s hf
      refine call_vi (rest := [.int x1, .ref (a 0)]) X (c_X8_kindNow F G I J X.2.2.2.2.2.2.2.1 x1 ho) q_5_125 q_5_127 qs_yX8_kindNow q_1_10 q_5_128 ok_X8_kindNow rfl 0 rfl rfl ⟨Nat.le_of_ble_eq_true rfl, Nat.le_of_ble_eq_true rfl⟩ rfl rfl hl.1 rfl (Nat.le_of_ble_eq_true rfl) dX8_sits_64 hP hS (fun H locs hP hS => ?_)
      refine lv_iload X.1 X.2.1 dX8_sits_67 (lv_at hl 3 rfl) ?_
      obtain ⟨r69, ho, hf⟩ := b1_s hf
      refine call_vi (rest := []) X (c_X8_choices F G I J X.2.2.2.2.2.2.2.1 x1 r64 x5 ho) q_5_129 q_5_131 qs_yX8_choices q_1_10 q_5_132 ok_X8_choices rfl 0 rfl rfl ⟨Nat.le_of_ble_eq_true rfl, Nat.le_of_ble_eq_true rfl⟩ rfl rfl hl.1 rfl (Nat.le_of_ble_eq_true rfl) dX8_sits_69 hP hS (fun H locs hP hS => ?_)
      refine lv_istore (lv' := [(6, .int r69), (0, .ref (a 0)), (1, .int x1), (3, .long x3), (5, .int x5)]) X.1 X.2.1 dX8_sits_72 hl (by decide) rfl (fun ls hl => ?_)
      refine lv_aload_n X.1 X.2.1 dX8_sits_74 rfl (lv_at hl 1 rfl) ?_
      refine gM_0_15 X q_4_124 dX8_sits_75 hP ?_
      refine lv_iload X.1 X.2.1 dX8_sits_78 (lv_at hl 4 rfl) ?_
      obtain ⟨h80, hf⟩ := gd_s hf
      refine lM_11 (J := J) X (f := (J 0)) rfl h80 dX8_sits_80 hP ?_
      refine lv_lload_n X.1 X.2.1 dX8_sits_81 rfl (lv_at hl 3 rfl) ?_
      refine lv_iload X.1 X.2.1 dX8_sits_82 (lv_at hl 0 rfl) ?_
      obtain ⟨r84, ho, hf⟩ := b1_s hf
      refine call_si (rest := [.long x3, .long ((J 0) x5.toNatClampNeg)]) X (c_X8_ones r69 ho) q_5_144 q_5_145 q_1_10 q_5_146 ok_X8_ones rfl ⟨Nat.le_of_ble_eq_true rfl, Nat.le_of_ble_eq_true rfl⟩ rfl rfl hl.1 rfl (Nat.le_of_ble_eq_true rfl) dX8_sits_84 hP hS (fun H locs hP hS => ?_)
      refine lv_i2l X.1 X.2.1 dX8_sits_87 rfl ?_
      obtain ⟨h88, hf⟩ := gd_s hf
      refine lv_ldiv X.1 X.2.1 dX8_sits_88 (of_decide_eq_true h88) ?_
      refine lv_lmul X.1 X.2.1 dX8_sits_89 ?_
      refine nm_l hf (fun x90 hf => ?_)
      refine lv_lstore (lv' := [(7, .long x90), (6, .int r69), (0, .ref (a 0)), (1, .int x1), (3, .long x3), (5, .int x5)]) X.1 X.2.1 dX8_sits_90 hl (by decide) rfl (fun ls hl => ?_)
      refine lv_iconst (v := 0) X.1 X.2.1 dX8_sits_92 (by decide) ?_
      refine lv_istore (lv' := [(9, .int 0), (7, .long x90), (6, .int r69), (0, .ref (a 0)), (1, .int x1), (3, .long x3), (5, .int x5)]) X.1 X.2.1 dX8_sits_93 hl (by decide) rfl (fun ls hl => ?_)
      exact t_X8_sits_b95 X kh39 4096 G J x1 x3 x5 r69 x90 0 H locs ls hf hfG hfJ hP hS (lv_sub hl [3, 4, 5, 6, 2, 1, 0] rfl)
set_option maxRecDepth 100000 in
theorem t_X8_sits_b39 {p : Program} {l : Launch} {e : Env} {s : State} {m : MethodId} {args : Array Value} {below : List Frame} {meth : Method} {c : Code} {D : va_G} {a : Nat → Nat} {kc : Nat → ClassId} (X : cx 21 p s m args meth c D (tyM kc) a cX8_sits 10 RX8 none) {F : Nat → Int32} {I : Nat → Nat → Int32} {Gf : Nat → Int64} {Jf : Nat → Nat → Int64}  :
    ∀ (n : Nat) (G : Nat → Int64) (J : Nat → Nat → Int64) (x1 : Int32) (x3 : Int64) (x5 : Int32) (H : Heap) (locs : List Loc) (ls : Array Slot), p_X8_sits_b39 n (F 2) (F 5) (F 6) (F 7) (F 8) (G 0) (I 6) (I 8) (I 9) (I 10) (J 0) (J 1) x1 x3 x5 = some ((Gf 0), (Jf 0), (Jf 1)) → (∀ k, k ∉ ([0] : List Nat) → Gf k = G k) → (∀ k, k ∉ ([0, 1] : List Nat) → Jf k = J k) → va_P D vwCl (wM a kc F G I J) H → va_S (ad a 21 s.heap.size) s.heap H locs → lv_has ls 10 [(0, .ref (a 0)), (1, .int x1), (3, .long x3), (5, .int x5)] → W p l e rm_X8_sits s m args below meth c H locs 0 0 (MQ below (Qv D (wM a kc F Gf I Jf) (ad a 21 s.heap.size)) args s 0 0 (ad a 21 s.heap.size)) (F0 m 39 ls []) := by
  intro n
  induction n with
  | zero => intro G J x1 x3 x5 H locs ls hf hfG hfJ hP hS hl; exact (nos hf).elim
  | succ n ih => exact t_X8_sits_b39x X ih
set_option maxHeartbeats 4000000 in
set_option maxRecDepth 100000 in
theorem t_X8_sits_b13x {p : Program} {l : Launch} {e : Env} {s : State} {m : MethodId} {args : Array Value} {below : List Frame} {meth : Method} {c : Code} {D : va_G} {a : Nat → Nat} {kc : Nat → ClassId} (X : cx 21 p s m args meth c D (tyM kc) a cX8_sits 10 RX8 none) {F : Nat → Int32} {I : Nat → Nat → Int32} {Gf : Nat → Int64} {Jf : Nat → Nat → Int64}  {K13 : Int32 → Int32 → Int32 → Int32 → Int32 → Int64 → (Nat → Int32) → (Nat → Int32) → (Nat → Int32) → (Nat → Int32) → (Nat → Int64) → (Nat → Int64) → Int32 → Int64 → Int32 → Option (Int64 × (Nat → Int64) × (Nat → Int64))} (kh13 : ∀ (G : Nat → Int64) (J : Nat → Nat → Int64) (x1 : Int32) (x3 : Int64) (x5 : Int32) (H : Heap) (locs : List Loc) (ls : Array Slot), K13 (F 2) (F 5) (F 6) (F 7) (F 8) (G 0) (I 6) (I 8) (I 9) (I 10) (J 0) (J 1) x1 x3 x5 = some ((Gf 0), (Jf 0), (Jf 1)) → (∀ k, k ∉ ([0] : List Nat) → Gf k = G k) → (∀ k, k ∉ ([0, 1] : List Nat) → Jf k = J k) → va_P D vwCl (wM a kc F G I J) H → va_S (ad a 21 s.heap.size) s.heap H locs → lv_has ls 10 [(0, .ref (a 0)), (1, .int x1), (3, .long x3), (5, .int x5)] → W p l e rm_X8_sits s m args below meth c H locs 0 0 (MQ below (Qv D (wM a kc F Gf I Jf) (ad a 21 s.heap.size)) args s 0 0 (ad a 21 s.heap.size)) (F0 m 13 ls [])) :
    ∀ (G : Nat → Int64) (J : Nat → Nat → Int64) (x1 : Int32) (x3 : Int64) (x5 : Int32) (H : Heap) (locs : List Loc) (ls : Array Slot), p_X8_sits_b13x K13 (F 2) (F 5) (F 6) (F 7) (F 8) (G 0) (I 6) (I 8) (I 9) (I 10) (J 0) (J 1) x1 x3 x5 = some ((Gf 0), (Jf 0), (Jf 1)) → (∀ k, k ∉ ([0] : List Nat) → Gf k = G k) → (∀ k, k ∉ ([0, 1] : List Nat) → Jf k = J k) → va_P D vwCl (wM a kc F G I J) H → va_S (ad a 21 s.heap.size) s.heap H locs → lv_has ls 10 [(0, .ref (a 0)), (1, .int x1), (3, .long x3), (5, .int x5)] → W p l e rm_X8_sits s m args below meth c H locs 0 0 (MQ below (Qv D (wM a kc F Gf I Jf) (ad a 21 s.heap.size)) args s 0 0 (ad a 21 s.heap.size)) (F0 m 13 ls []) := by
  intro G J x1 x3 x5 H locs ls hf hfG hfJ hP hS hl
  unfold p_X8_sits_b13x at hf
  refine lv_iload X.1 X.2.1 dX8_sits_13 (lv_at hl 3 rfl) ?_
  refine lv_aload_n X.1 X.2.1 dX8_sits_15 rfl (lv_at hl 0 rfl) ?_
  obtain ⟨r16, ho, hf⟩ := b1_s hf
  refine call_vi (rest := [.int x5]) X (c_X8_whole F G I J X.2.2.2.2.2.2.2.1  ho) q_5_121 q_5_123 qs_yX8_whole q_1_10 q_5_124 ok_X8_whole rfl 0 rfl rfl ⟨Nat.le_of_ble_eq_true rfl, Nat.le_of_ble_eq_true rfl⟩ rfl rfl hl.1 rfl (Nat.le_of_ble_eq_true rfl) dX8_sits_16 hP hS (fun H locs hP hS => ?_)
  refine lv_icmp_gt (tgt := 36) X.1 X.2.1 dX8_sits_19 (by decide) (fun c19 => ?_) (fun c19 => ?_)
  · have hf := it_s hf c19
    refine lv_iconst (v := 0) X.1 X.2.1 dX8_sits_36 (by decide) ?_
    refine lv_istore (lv' := [(5, .int 0), (0, .ref (a 0)), (1, .int x1), (3, .long x3)]) X.1 X.2.1 dX8_sits_37 hl (by decide) rfl (fun ls hl => ?_)
    exact t_X8_sits_b39 X 4096 G J x1 x3 0 H locs ls hf hfG hfJ hP hS (lv_sub hl [1, 2, 3, 0] rfl)
  · have hf := ie_s hf c19
    refine lv_aload_n X.1 X.2.1 dX8_sits_22 rfl (lv_at hl 0 rfl) ?_
    refine gM_0_16 X q_4_125 dX8_sits_23 hP ?_
    refine lv_iload X.1 X.2.1 dX8_sits_26 (lv_at hl 3 rfl) ?_
    refine lv_lconst (v := 0) X.1 X.2.1 dX8_sits_28 (by decide) ?_
    obtain ⟨h29, hf⟩ := gd_s hf
    obtain ⟨m_next_29, em_next_29, hf⟩ := nm_x hf
    refine sM_12 (J := J) X h29 em_next_29 dX8_sits_29 hP hS (fun H locs hP hS => ?_)
    obtain ⟨x30, ex30, hf⟩ := nm_x hf
    refine lv_iinc (v := x30) (lv' := [(5, .int x30), (0, .ref (a 0)), (1, .int x1), (3, .long x3)]) X.1 X.2.1 dX8_sits_30 hl (k := 3) rfl ex30 (by decide) rfl (fun ls hl => ?_)
    refine lv_goto (tgt := 13) X.1 X.2.1 dX8_sits_33 (by decide) ?_
    exact kh13 G (va_up J 1 m_next_29) x1 x3 x30 H locs ls hf hfG (frm_up hfJ (by decide)) hP hS (lv_sub hl [1, 2, 3, 0] rfl)
set_option maxRecDepth 100000 in
theorem t_X8_sits_b13 {p : Program} {l : Launch} {e : Env} {s : State} {m : MethodId} {args : Array Value} {below : List Frame} {meth : Method} {c : Code} {D : va_G} {a : Nat → Nat} {kc : Nat → ClassId} (X : cx 21 p s m args meth c D (tyM kc) a cX8_sits 10 RX8 none) {F : Nat → Int32} {I : Nat → Nat → Int32} {Gf : Nat → Int64} {Jf : Nat → Nat → Int64}  :
    ∀ (n : Nat) (G : Nat → Int64) (J : Nat → Nat → Int64) (x1 : Int32) (x3 : Int64) (x5 : Int32) (H : Heap) (locs : List Loc) (ls : Array Slot), p_X8_sits_b13 n (F 2) (F 5) (F 6) (F 7) (F 8) (G 0) (I 6) (I 8) (I 9) (I 10) (J 0) (J 1) x1 x3 x5 = some ((Gf 0), (Jf 0), (Jf 1)) → (∀ k, k ∉ ([0] : List Nat) → Gf k = G k) → (∀ k, k ∉ ([0, 1] : List Nat) → Jf k = J k) → va_P D vwCl (wM a kc F G I J) H → va_S (ad a 21 s.heap.size) s.heap H locs → lv_has ls 10 [(0, .ref (a 0)), (1, .int x1), (3, .long x3), (5, .int x5)] → W p l e rm_X8_sits s m args below meth c H locs 0 0 (MQ below (Qv D (wM a kc F Gf I Jf) (ad a 21 s.heap.size)) args s 0 0 (ad a 21 s.heap.size)) (F0 m 13 ls []) := by
  intro n
  induction n with
  | zero => intro G J x1 x3 x5 H locs ls hf hfG hfJ hP hS hl; exact (nos hf).elim
  | succ n ih => exact t_X8_sits_b13x X ih
set_option maxHeartbeats 4000000 in
set_option maxRecDepth 100000 in
theorem t_X8_sits_b0 {p : Program} {l : Launch} {e : Env} {s : State} {m : MethodId} {args : Array Value} {below : List Frame} {meth : Method} {c : Code} {D : va_G} {a : Nat → Nat} {kc : Nat → ClassId} (X : cx 21 p s m args meth c D (tyM kc) a cX8_sits 10 RX8 none) {F : Nat → Int32} {I : Nat → Nat → Int32} {Gf : Nat → Int64} {Jf : Nat → Nat → Int64}  :
    ∀ (G : Nat → Int64) (J : Nat → Nat → Int64) (x1 : Int32) (x2 : Int32) (H : Heap) (locs : List Loc) (ls : Array Slot), p_X8_sits_b0 (F 2) (F 5) (F 6) (F 7) (F 8) (G 0) (I 6) (I 8) (I 9) (I 10) (J 0) (J 1) x1 x2 = some ((Gf 0), (Jf 0), (Jf 1)) → (∀ k, k ∉ ([0] : List Nat) → Gf k = G k) → (∀ k, k ∉ ([0, 1] : List Nat) → Jf k = J k) → va_P D vwCl (wM a kc F G I J) H → va_S (ad a 21 s.heap.size) s.heap H locs → lv_has ls 10 [(0, .ref (a 0)), (1, .int x1), (2, .int x2)] → W p l e rm_X8_sits s m args below meth c H locs 0 0 (MQ below (Qv D (wM a kc F Gf I Jf) (ad a 21 s.heap.size)) args s 0 0 (ad a 21 s.heap.size)) (F0 m 0 ls []) := by
  intro G J x1 x2 H locs ls hf hfG hfJ hP hS hl
  unfold p_X8_sits_b0 at hf
  refine lv_aload_n X.1 X.2.1 dX8_sits_0 rfl (lv_at hl 0 rfl) ?_
  refine gM_0_8 (F := F) X (v := (F 2)) rfl q_4_117 dX8_sits_1 hP ?_
  refine lv_iload_n X.1 X.2.1 dX8_sits_4 rfl (lv_at hl 2 rfl) ?_
  refine lv_isub X.1 X.2.1 dX8_sits_5 ?_
  obtain ⟨r6, ho, hf⟩ := b1_s hf
  refine call_sl (rest := []) X (c_X8_partsOf ((F 2) - x2) ho) q_5_113 q_5_114 q_1_10 q_5_115 ok_X8_partsOf rfl ⟨Nat.le_of_ble_eq_true rfl, Nat.le_of_ble_eq_true rfl⟩ rfl rfl hl.1 rfl (Nat.le_of_ble_eq_true rfl) dX8_sits_6 hP hS (fun H locs hP hS => ?_)
  refine lv_lstore_n (lv' := [(3, .long r6), (0, .ref (a 0)), (1, .int x1), (2, .int x2)]) X.1 X.2.1 dX8_sits_9 rfl hl (by decide) rfl (fun ls hl => ?_)
  refine lv_iconst (v := 0) X.1 X.2.1 dX8_sits_10 (by decide) ?_
  refine lv_istore (lv' := [(5, .int 0), (3, .long r6), (0, .ref (a 0)), (1, .int x1), (2, .int x2)]) X.1 X.2.1 dX8_sits_11 hl (by decide) rfl (fun ls hl => ?_)
  exact t_X8_sits_b13 X 4096 G J x1 r6 0 H locs ls hf hfG hfJ hP hS (lv_sub hl [2, 3, 1, 0] rfl)
set_option maxRecDepth 100000 in
theorem c_X8_sits {l : Launch} {D : va_G} {a : Nat → Nat} {kc : Nat → ClassId} (F : Nat → Int32) (G : Nat → Int64) (I : Nat → Nat → Int32) (J : Nat → Nat → Int64) (hAp : ∀ i j, i < 21 → j < 21 → a i = a j → i = j) (x1 : Int32) (x2 : Int32) {o0 : Int64} {o1 : Nat → Int64} {o2 : Nat → Int64} (hf : p_X8_sits (F 2) (F 5) (F 6) (F 7) (F 8) (G 0) (I 6) (I 8) (I 9) (I 10) (J 0) (J 1) x1 x2 = some (o0, o1, o2)) : Ct 21 l yX8_sits cX8_sits 10 none rm_X8_sits D (tyM kc) a (wM a kc F G I J) [.ref (a 0), .int x1, .int x2] (Qv D (wM a kc F (va_up G 0 o0) I (va_up (va_up J 0 o1) 1 o2))) :=
  Ct.of (by decide +kernel) hAp (Nat.le_of_ble_eq_true rfl) (fun p e s m args below meth c ls X hP hl => t_X8_sits_b0 X G J x1 x2 _ _ _ hf (frm_ul (fun k _ => rfl) (by decide)) (frm_ul (frm_ul (fun k _ => rfl) (by decide)) (by decide)) hP va_S.rf hl)
abbrev rm_X8_firstSit : Room := { frames := 4, cells := 0, slots := 0, locals := 98 }
set_option maxHeartbeats 4000000 in
set_option maxRecDepth 100000 in
theorem t_X8_firstSit_b10x {p : Program} {l : Launch} {e : Env} {s : State} {m : MethodId} {args : Array Value} {below : List Frame} {meth : Method} {c : Code} {D : va_G} {a : Nat → Nat} {kc : Nat → ClassId} (X : cx 21 p s m args meth c D (tyM kc) a cX8_firstSit 3 RX8 none)  {Ff : Nat → Int32} {Gf : Nat → Int64} {If : Nat → Nat → Int32} {Jf : Nat → Nat → Int64}  {K10 : Int32 → Int32 → Int32 → Int32 → Int32 → Int64 → (Nat → Int32) → (Nat → Int32) → (Nat → Int32) → (Nat → Int32) → (Nat → Int64) → (Nat → Int64) → Int32 → Int32 → Option (Int32 × Int32 × Int32 × Int64 × (Nat → Int32) × (Nat → Int64) × (Nat → Int64))} (kh10 : ∀ (F : Nat → Int32) (G : Nat → Int64) (I : Nat → Nat → Int32) (J : Nat → Nat → Int64) (x1 : Int32) (x2 : Int32) (H : Heap) (locs : List Loc) (ls : Array Slot), K10 (F 2) (F 5) (F 6) (F 7) (F 8) (G 0) (I 6) (I 8) (I 9) (I 10) (J 0) (J 1) x1 x2 = some ((Ff 5), (Ff 6), (Ff 8), (Gf 0), (If 10), (Jf 0), (Jf 1)) → (∀ k, k ∉ ([5, 6, 8] : List Nat) → Ff k = F k) → (∀ k, k ∉ ([0] : List Nat) → Gf k = G k) → (∀ k, k ∉ ([10] : List Nat) → If k = I k) → (∀ k, k ∉ ([0, 1] : List Nat) → Jf k = J k) → va_P D vwCl (wM a kc F G I J) H → va_S (ad a 21 s.heap.size) s.heap H locs → lv_has ls 3 [(0, .ref (a 0)), (1, .int x1), (2, .int x2)] → W p l e rm_X8_firstSit s m args below meth c H locs 0 0 (MQ below (Qv D (wM a kc Ff Gf If Jf) (ad a 21 s.heap.size)) args s 0 0 (ad a 21 s.heap.size)) (F0 m 10 ls [])) :
    ∀ (F : Nat → Int32) (G : Nat → Int64) (I : Nat → Nat → Int32) (J : Nat → Nat → Int64) (x1 : Int32) (x2 : Int32) (H : Heap) (locs : List Loc) (ls : Array Slot), p_X8_firstSit_b10x K10 (F 2) (F 5) (F 6) (F 7) (F 8) (G 0) (I 6) (I 8) (I 9) (I 10) (J 0) (J 1) x1 x2 = some ((Ff 5), (Ff 6), (Ff 8), (Gf 0), (If 10), (Jf 0), (Jf 1)) → (∀ k, k ∉ ([5, 6, 8] : List Nat) → Ff k = F k) → (∀ k, k ∉ ([0] : List Nat) → Gf k = G k) → (∀ k, k ∉ ([10] : List Nat) → If k = I k) → (∀ k, k ∉ ([0, 1] : List Nat) → Jf k = J k) → va_P D vwCl (wM a kc F G I J) H → va_S (ad a 21 s.heap.size) s.heap H locs → lv_has ls 3 [(0, .ref (a 0)), (1, .int x1), (2, .int x2)] → W p l e rm_X8_firstSit s m args below meth c H locs 0 0 (MQ below (Qv D (wM a kc Ff Gf If Jf) (ad a 21 s.heap.size)) args s 0 0 (ad a 21 s.heap.size)) (F0 m 10 ls []) := by
  intro F G I J x1 x2 H locs ls hf hfF hfG hfI hfJ hP hS hl
  unfold p_X8_firstSit_b10x at hf
  refine lv_iload_n X.1 X.2.1 dX8_firstSit_10 rfl (lv_at hl 2 rfl) ?_
  refine lv_iload_n X.1 X.2.1 dX8_firstSit_11 rfl (lv_at hl 1 rfl) ?_
  refine lv_icmp_ge (tgt := 27) X.1 X.2.1 dX8_firstSit_12 (by decide) (fun c12 => ?_) (fun c12 => ?_)
  · have hf := it_s hf c12
    obtain ⟨e0, hf⟩ := o2 hf
    obtain ⟨e1, hf⟩ := o2 hf
    obtain ⟨e2, hf⟩ := o2 hf
    obtain ⟨e3, hf⟩ := o2 hf
    obtain ⟨e4, hf⟩ := o2 hf
    obtain ⟨e5, hf⟩ := o2 hf
    have e6 := o1 hf
    have EF : Ff = F := frm_eq hfF (frm_c (e0).symm (frm_c (e1).symm (frm_c (e2).symm frm_n)))
    have EG : Gf = G := frm_eq hfG (frm_c (e3).symm frm_n)
    have EI : If = I := frm_eq hfI (frm_c (e4).symm frm_n)
    have EJ : Jf = J := frm_eq hfJ (frm_c (e5).symm (frm_c (e6).symm frm_n))
    exact ret_v X hS (by rw [EF, EG, EI, EJ]; exact hP) dX8_firstSit_27
  · have hf := ie_s hf c12
    refine lv_aload_n X.1 X.2.1 dX8_firstSit_15 rfl (lv_at hl 0 rfl) ?_
    refine lv_iload_n X.1 X.2.1 dX8_firstSit_16 rfl (lv_at hl 2 rfl) ?_
    refine lv_iload_n X.1 X.2.1 dX8_firstSit_17 rfl (lv_at hl 2 rfl) ?_
    obtain ⟨m_all_18, m_ways_18, m_next_18, ho, hf⟩ := b3_s hf
    refine call_vv (rest := []) X (c_X8_sits F G I J X.2.2.2.2.2.2.2.1 x2 x2 ho) q_5_109 q_5_111 qs_yX8_sits q_1_10 q_5_112 ok_X8_sits rfl 0 rfl rfl ⟨Nat.le_of_ble_eq_true rfl, Nat.le_of_ble_eq_true rfl⟩ rfl rfl hl.1 rfl (Nat.le_of_ble_eq_true rfl) dX8_firstSit_18 hP hS (fun H locs hP hS => ?_)
    obtain ⟨x21, ex21, hf⟩ := nm_x hf
    refine lv_iinc (v := x21) (lv' := [(2, .int x21), (0, .ref (a 0)), (1, .int x1)]) X.1 X.2.1 dX8_firstSit_21 hl (k := 2) rfl ex21 (by decide) rfl (fun ls hl => ?_)
    refine lv_goto (tgt := 10) X.1 X.2.1 dX8_firstSit_24 (by decide) ?_
    exact kh10 F (va_up G 0 m_all_18) I (va_up (va_up J 0 m_ways_18) 1 m_next_18) x1 x21 H locs ls hf hfF (frm_up hfG (by decide)) hfI (frm_up (frm_up hfJ (by decide)) (by decide)) hP hS (lv_sub hl [1, 2, 0] rfl)
set_option maxRecDepth 100000 in
theorem t_X8_firstSit_b10 {p : Program} {l : Launch} {e : Env} {s : State} {m : MethodId} {args : Array Value} {below : List Frame} {meth : Method} {c : Code} {D : va_G} {a : Nat → Nat} {kc : Nat → ClassId} (X : cx 21 p s m args meth c D (tyM kc) a cX8_firstSit 3 RX8 none)  {Ff : Nat → Int32} {Gf : Nat → Int64} {If : Nat → Nat → Int32} {Jf : Nat → Nat → Int64}  :
    ∀ (n : Nat) (F : Nat → Int32) (G : Nat → Int64) (I : Nat → Nat → Int32) (J : Nat → Nat → Int64) (x1 : Int32) (x2 : Int32) (H : Heap) (locs : List Loc) (ls : Array Slot), p_X8_firstSit_b10 n (F 2) (F 5) (F 6) (F 7) (F 8) (G 0) (I 6) (I 8) (I 9) (I 10) (J 0) (J 1) x1 x2 = some ((Ff 5), (Ff 6), (Ff 8), (Gf 0), (If 10), (Jf 0), (Jf 1)) → (∀ k, k ∉ ([5, 6, 8] : List Nat) → Ff k = F k) → (∀ k, k ∉ ([0] : List Nat) → Gf k = G k) → (∀ k, k ∉ ([10] : List Nat) → If k = I k) → (∀ k, k ∉ ([0, 1] : List Nat) → Jf k = J k) → va_P D vwCl (wM a kc F G I J) H → va_S (ad a 21 s.heap.size) s.heap H locs → lv_has ls 3 [(0, .ref (a 0)), (1, .int x1), (2, .int x2)] → W p l e rm_X8_firstSit s m args below meth c H locs 0 0 (MQ below (Qv D (wM a kc Ff Gf If Jf) (ad a 21 s.heap.size)) args s 0 0 (ad a 21 s.heap.size)) (F0 m 10 ls []) := by
  intro n
  induction n with
  | zero => intro F G I J x1 x2 H locs ls hf hfF hfG hfI hfJ hP hS hl; exact (nos hf).elim
  | succ n ih => exact t_X8_firstSit_b10x X ih
set_option maxHeartbeats 4000000 in
set_option maxRecDepth 100000 in
theorem t_X8_firstSit_b0 {p : Program} {l : Launch} {e : Env} {s : State} {m : MethodId} {args : Array Value} {below : List Frame} {meth : Method} {c : Code} {D : va_G} {a : Nat → Nat} {kc : Nat → ClassId} (X : cx 21 p s m args meth c D (tyM kc) a cX8_firstSit 3 RX8 none)  {Ff : Nat → Int32} {Gf : Nat → Int64} {If : Nat → Nat → Int32} {Jf : Nat → Nat → Int64}  :
    ∀ (F : Nat → Int32) (G : Nat → Int64) (I : Nat → Nat → Int32) (J : Nat → Nat → Int64) (x1 : Int32) (H : Heap) (locs : List Loc) (ls : Array Slot), p_X8_firstSit_b0 (F 2) (F 5) (F 6) (F 7) (F 8) (G 0) (I 6) (I 8) (I 9) (I 10) (J 0) (J 1) x1 = some ((Ff 5), (Ff 6), (Ff 8), (Gf 0), (If 10), (Jf 0), (Jf 1)) → (∀ k, k ∉ ([5, 6, 8] : List Nat) → Ff k = F k) → (∀ k, k ∉ ([0] : List Nat) → Gf k = G k) → (∀ k, k ∉ ([10] : List Nat) → If k = I k) → (∀ k, k ∉ ([0, 1] : List Nat) → Jf k = J k) → va_P D vwCl (wM a kc F G I J) H → va_S (ad a 21 s.heap.size) s.heap H locs → lv_has ls 3 [(0, .ref (a 0)), (1, .int x1)] → W p l e rm_X8_firstSit s m args below meth c H locs 0 0 (MQ below (Qv D (wM a kc Ff Gf If Jf) (ad a 21 s.heap.size)) args s 0 0 (ad a 21 s.heap.size)) (F0 m 0 ls []) := by
  intro F G I J x1 H locs ls hf hfF hfG hfI hfJ hP hS hl
  unfold p_X8_firstSit_b0 at hf
  refine lv_aload_n X.1 X.2.1 dX8_firstSit_0 rfl (lv_at hl 0 rfl) ?_
  obtain ⟨m_loser_1, m_onlyWho_1, m_keptFree_1, m_keptSeat_1, ho, hf⟩ := b4_s hf
  refine call_vv (rest := []) X (c_X8_noBounds F G I J X.2.2.2.2.2.2.2.1  ho) q_5_101 q_5_103 qs_yX8_noBounds q_1_10 q_5_104 ok_X8_noBounds rfl 0 rfl rfl ⟨Nat.le_of_ble_eq_true rfl, Nat.le_of_ble_eq_true rfl⟩ rfl rfl hl.1 rfl (Nat.le_of_ble_eq_true rfl) dX8_firstSit_1 hP hS (fun H locs hP hS => ?_)
  refine lv_aload_n X.1 X.2.1 dX8_firstSit_4 rfl (lv_at hl 0 rfl) ?_
  obtain ⟨m_all_5, m_ways_5, ho, hf⟩ := b2_s hf
  refine call_vv (rest := []) X (c_X8_begins (va_up (va_up (va_up F 5 m_loser_1) 6 m_onlyWho_1) 8 m_keptFree_1) G (va_up I 10 m_keptSeat_1) J X.2.2.2.2.2.2.2.1  ho) q_5_105 q_5_107 qs_yX8_begins q_1_10 q_5_108 ok_X8_begins rfl 0 rfl rfl ⟨Nat.le_of_ble_eq_true rfl, Nat.le_of_ble_eq_true rfl⟩ rfl rfl hl.1 rfl (Nat.le_of_ble_eq_true rfl) dX8_firstSit_5 hP hS (fun H locs hP hS => ?_)
  refine lv_iconst (v := 0) X.1 X.2.1 dX8_firstSit_8 (by decide) ?_
  refine lv_istore_n (lv' := [(2, .int 0), (0, .ref (a 0)), (1, .int x1)]) X.1 X.2.1 dX8_firstSit_9 rfl hl (by decide) rfl (fun ls hl => ?_)
  exact t_X8_firstSit_b10 X 4096 (va_up (va_up (va_up F 5 m_loser_1) 6 m_onlyWho_1) 8 m_keptFree_1) (va_up G 0 m_all_5) (va_up I 10 m_keptSeat_1) (va_up J 0 m_ways_5) x1 0 H locs ls hf (frm_up (frm_up (frm_up hfF (by decide)) (by decide)) (by decide)) (frm_up hfG (by decide)) (frm_up hfI (by decide)) (frm_up hfJ (by decide)) hP hS (lv_sub hl [1, 2, 0] rfl)
set_option maxRecDepth 100000 in
theorem c_X8_firstSit {l : Launch} {D : va_G} {a : Nat → Nat} {kc : Nat → ClassId} (F : Nat → Int32) (G : Nat → Int64) (I : Nat → Nat → Int32) (J : Nat → Nat → Int64) (hAp : ∀ i j, i < 21 → j < 21 → a i = a j → i = j) (x1 : Int32) {o0 : Int32} {o1 : Int32} {o2 : Int32} {o3 : Int64} {o4 : Nat → Int32} {o5 : Nat → Int64} {o6 : Nat → Int64} (hf : p_X8_firstSit (F 2) (F 5) (F 6) (F 7) (F 8) (G 0) (I 6) (I 8) (I 9) (I 10) (J 0) (J 1) x1 = some (o0, o1, o2, o3, o4, o5, o6)) : Ct 21 l yX8_firstSit cX8_firstSit 3 none rm_X8_firstSit D (tyM kc) a (wM a kc F G I J) [.ref (a 0), .int x1] (Qv D (wM a kc (va_up (va_up (va_up F 5 o0) 6 o1) 8 o2) (va_up G 0 o3) (va_up I 10 o4) (va_up (va_up J 0 o5) 1 o6))) :=
  Ct.of (by decide +kernel) hAp (Nat.le_of_ble_eq_true rfl) (fun p e s m args below meth c ls X hP hl => t_X8_firstSit_b0 X F G I J x1 _ _ _ hf (frm_ul (frm_ul (frm_ul (fun k _ => rfl) (by decide)) (by decide)) (by decide)) (frm_ul (fun k _ => rfl) (by decide)) (frm_ul (fun k _ => rfl) (by decide)) (frm_ul (frm_ul (fun k _ => rfl) (by decide)) (by decide)) hP va_S.rf hl)
abbrev rm_X8_nextOn : Room := { frames := 3, cells := 0, slots := 0, locals := 69 }
set_option maxHeartbeats 4000000 in
set_option maxRecDepth 100000 in
theorem t_X8_nextOn_b87 {p : Program} {l : Launch} {e : Env} {s : State} {m : MethodId} {args : Array Value} {below : List Frame} {meth : Method} {c : Code} {D : va_G} {a : Nat → Nat} {kc : Nat → ClassId} (X : cx 21 p s m args meth c D (tyM kc) a cX8_nextOn 10 RX8 (some .long)) {F : Nat → Int32} {G : Nat → Int64} {I : Nat → Nat → Int32} {J : Nat → Nat → Int64}  {r : Int64} {K17 : Int32 → Int32 → (Nat → Int32) → (Nat → Int32) → (Nat → Int32) → (Nat → Int64) → Int32 → Int32 → Int64 → Int64 → Int32 → Option (Int64)} (kh17 : ∀  (x1 : Int32) (x2 : Int32) (x4 : Int64) (x6 : Int64) (x8 : Int32) (H : Heap) (locs : List Loc) (ls : Array Slot), K17 (F 2) (F 5) (I 6) (I 8) (I 9) (J 0) x1 x2 x4 x6 x8 = some r → va_P D vwCl (wM a kc F G I J) H → va_S (ad a 21 s.heap.size) s.heap H locs → lv_has ls 10 [(0, .ref (a 0)), (1, .int x1), (2, .int x2), (4, .long x4), (6, .long x6), (8, .int x8)] → W p l e rm_X8_nextOn s m args below meth c H locs 0 0 (MQ below (Ql D (wM a kc F G I J) r (ad a 21 s.heap.size)) args s 0 0 (ad a 21 s.heap.size)) (F0 m 17 ls [])) :
    ∀  (x1 : Int32) (x2 : Int32) (x4 : Int64) (x6 : Int64) (x8 : Int32) (H : Heap) (locs : List Loc) (ls : Array Slot), p_X8_nextOn_b87 K17 (F 2) (F 5) (I 6) (I 8) (I 9) (J 0) x1 x2 x4 x6 x8 = some r → va_P D vwCl (wM a kc F G I J) H → va_S (ad a 21 s.heap.size) s.heap H locs → lv_has ls 10 [(0, .ref (a 0)), (1, .int x1), (2, .int x2), (4, .long x4), (6, .long x6), (8, .int x8)] → W p l e rm_X8_nextOn s m args below meth c H locs 0 0 (MQ below (Ql D (wM a kc F G I J) r (ad a 21 s.heap.size)) args s 0 0 (ad a 21 s.heap.size)) (F0 m 87 ls []) := by
  intro  x1 x2 x4 x6 x8 H locs ls hf  hP hS hl
  unfold p_X8_nextOn_b87 at hf
  obtain ⟨x87, ex87, hf⟩ := nm_x hf
  refine lv_iinc (v := x87) (lv' := [(8, .int x87), (0, .ref (a 0)), (1, .int x1), (2, .int x2), (4, .long x4), (6, .long x6)]) X.1 X.2.1 dX8_nextOn_87 hl (k := 5) rfl ex87 (by decide) rfl (fun ls hl => ?_)
  refine lv_goto (tgt := 17) X.1 X.2.1 dX8_nextOn_90 (by decide) ?_
  exact kh17  x1 x2 x4 x6 x87 H locs ls hf  hP hS (lv_sub hl [1, 2, 3, 4, 5, 0] rfl)
set_option maxHeartbeats 4000000 in
set_option maxRecDepth 100000 in
theorem t_X8_nextOn_b84 {p : Program} {l : Launch} {e : Env} {s : State} {m : MethodId} {args : Array Value} {below : List Frame} {meth : Method} {c : Code} {D : va_G} {a : Nat → Nat} {kc : Nat → ClassId} (X : cx 21 p s m args meth c D (tyM kc) a cX8_nextOn 10 RX8 (some .long)) {F : Nat → Int32} {G : Nat → Int64} {I : Nat → Nat → Int32} {J : Nat → Nat → Int64}  {r : Int64} {K17 : Int32 → Int32 → (Nat → Int32) → (Nat → Int32) → (Nat → Int32) → (Nat → Int64) → Int32 → Int32 → Int64 → Int64 → Int32 → Option (Int64)} (kh17 : ∀  (x1 : Int32) (x2 : Int32) (x4 : Int64) (x6 : Int64) (x8 : Int32) (H : Heap) (locs : List Loc) (ls : Array Slot), K17 (F 2) (F 5) (I 6) (I 8) (I 9) (J 0) x1 x2 x4 x6 x8 = some r → va_P D vwCl (wM a kc F G I J) H → va_S (ad a 21 s.heap.size) s.heap H locs → lv_has ls 10 [(0, .ref (a 0)), (1, .int x1), (2, .int x2), (4, .long x4), (6, .long x6), (8, .int x8)] → W p l e rm_X8_nextOn s m args below meth c H locs 0 0 (MQ below (Ql D (wM a kc F G I J) r (ad a 21 s.heap.size)) args s 0 0 (ad a 21 s.heap.size)) (F0 m 17 ls [])) :
    ∀  (t0 : Int64) (t1 : Int64) (x1 : Int32) (x2 : Int32) (x4 : Int64) (x8 : Int32) (H : Heap) (locs : List Loc) (ls : Array Slot), p_X8_nextOn_b84 K17 (F 2) (F 5) (I 6) (I 8) (I 9) (J 0) t0 t1 x1 x2 x4 x8 = some r → va_P D vwCl (wM a kc F G I J) H → va_S (ad a 21 s.heap.size) s.heap H locs → lv_has ls 10 [(0, .ref (a 0)), (1, .int x1), (2, .int x2), (4, .long x4), (8, .int x8)] → W p l e rm_X8_nextOn s m args below meth c H locs 0 0 (MQ below (Ql D (wM a kc F G I J) r (ad a 21 s.heap.size)) args s 0 0 (ad a 21 s.heap.size)) (F0 m 84 ls [.long t1, .long t0]) := by
  intro  t0 t1 x1 x2 x4 x8 H locs ls hf  hP hS hl
  unfold p_X8_nextOn_b84 at hf
  refine lv_ladd X.1 X.2.1 dX8_nextOn_84 ?_
  refine nm_l hf (fun x85 hf => ?_)
  refine lv_lstore (lv' := [(6, .long x85), (0, .ref (a 0)), (1, .int x1), (2, .int x2), (4, .long x4), (8, .int x8)]) X.1 X.2.1 dX8_nextOn_85 hl (by decide) rfl (fun ls hl => ?_)
  exact t_X8_nextOn_b87 X kh17  x1 x2 x4 x85 x8 H locs ls hf  hP hS (lv_sub hl [1, 2, 3, 4, 0, 5] rfl)
set_option maxHeartbeats 4000000 in
set_option maxRecDepth 100000 in
theorem t_X8_nextOn_b17x {p : Program} {l : Launch} {e : Env} {s : State} {m : MethodId} {args : Array Value} {below : List Frame} {meth : Method} {c : Code} {D : va_G} {a : Nat → Nat} {kc : Nat → ClassId} (X : cx 21 p s m args meth c D (tyM kc) a cX8_nextOn 10 RX8 (some .long)) {F : Nat → Int32} {G : Nat → Int64} {I : Nat → Nat → Int32} {J : Nat → Nat → Int64}  {r : Int64} {K17 : Int32 → Int32 → (Nat → Int32) → (Nat → Int32) → (Nat → Int32) → (Nat → Int64) → Int32 → Int32 → Int64 → Int64 → Int32 → Option (Int64)} (kh17 : ∀  (x1 : Int32) (x2 : Int32) (x4 : Int64) (x6 : Int64) (x8 : Int32) (H : Heap) (locs : List Loc) (ls : Array Slot), K17 (F 2) (F 5) (I 6) (I 8) (I 9) (J 0) x1 x2 x4 x6 x8 = some r → va_P D vwCl (wM a kc F G I J) H → va_S (ad a 21 s.heap.size) s.heap H locs → lv_has ls 10 [(0, .ref (a 0)), (1, .int x1), (2, .int x2), (4, .long x4), (6, .long x6), (8, .int x8)] → W p l e rm_X8_nextOn s m args below meth c H locs 0 0 (MQ below (Ql D (wM a kc F G I J) r (ad a 21 s.heap.size)) args s 0 0 (ad a 21 s.heap.size)) (F0 m 17 ls [])) :
    ∀  (x1 : Int32) (x2 : Int32) (x4 : Int64) (x6 : Int64) (x8 : Int32) (H : Heap) (locs : List Loc) (ls : Array Slot), p_X8_nextOn_b17x K17 (F 2) (F 5) (I 6) (I 8) (I 9) (J 0) x1 x2 x4 x6 x8 = some r → va_P D vwCl (wM a kc F G I J) H → va_S (ad a 21 s.heap.size) s.heap H locs → lv_has ls 10 [(0, .ref (a 0)), (1, .int x1), (2, .int x2), (4, .long x4), (6, .long x6), (8, .int x8)] → W p l e rm_X8_nextOn s m args below meth c H locs 0 0 (MQ below (Ql D (wM a kc F G I J) r (ad a 21 s.heap.size)) args s 0 0 (ad a 21 s.heap.size)) (F0 m 17 ls []) := by
  intro  x1 x2 x4 x6 x8 H locs ls hf  hP hS hl
  unfold p_X8_nextOn_b17x at hf
  refine lv_iload X.1 X.2.1 dX8_nextOn_17 (lv_at hl 5 rfl) ?_
  refine lv_aload_n X.1 X.2.1 dX8_nextOn_19 rfl (lv_at hl 0 rfl) ?_
  obtain ⟨r20, ho, hf⟩ := b1_s hf
  refine call_vi (rest := [.int x8]) X (c_X8_whole F G I J X.2.2.2.2.2.2.2.1  ho) q_5_121 q_5_123 qs_yX8_whole q_1_10 q_5_124 ok_X8_whole rfl 0 rfl rfl ⟨Nat.le_of_ble_eq_true rfl, Nat.le_of_ble_eq_true rfl⟩ rfl rfl hl.1 rfl (Nat.le_of_ble_eq_true rfl) dX8_nextOn_20 hP hS (fun H locs hP hS => ?_)
  refine lv_icmp_gt (tgt := 93) X.1 X.2.1 dX8_nextOn_23 (by decide) (fun c23 => ?_) (fun c23 => ?_)
  · have hf := it_s hf c23
    refine lv_lload X.1 X.2.1 dX8_nextOn_93 (lv_at hl 4 rfl) ?_
    have e0 := o1 hf
    exact ret_l X hS hP e0 dX8_nextOn_95
  · have hf := ie_s hf c23
    refine lv_aload_n X.1 X.2.1 dX8_nextOn_26 rfl (lv_at hl 0 rfl) ?_
    refine gM_0_15 X q_4_124 dX8_nextOn_27 hP ?_
    refine lv_iload X.1 X.2.1 dX8_nextOn_30 (lv_at hl 5 rfl) ?_
    obtain ⟨h32, hf⟩ := gd_s hf
    refine lM_11 (J := J) X (f := (J 0)) rfl h32 dX8_nextOn_32 hP ?_
    refine lv_lconst (v := 0) X.1 X.2.1 dX8_nextOn_33 (by decide) ?_
    refine W.lcmp X.1 X.2.1 dX8_nextOn_34 ?_
    refine lv_if_le (tgt := 87) X.1 X.2.1 dX8_nextOn_35 (by decide) (fun c35 => ?_) (fun c35 => ?_)
    · have hf := it_s hf c35
      exact t_X8_nextOn_b87 X kh17  x1 x2 x4 x6 x8 H locs ls hf  hP hS (lv_sub hl [0, 1, 2, 3, 4, 5] rfl)
    · have hf := ie_s hf c35
      refine lv_aload_n X.1 X.2.1 dX8_nextOn_38 rfl (lv_at hl 0 rfl) ?_
      refine lv_iload_n X.1 X.2.1 dX8_nextOn_39 rfl (lv_at hl 1 rfl) ?_
      refine lv_aload_n X.1 X.2.1 dX8_nextOn_40 rfl (lv_at hl 0 rfl) ?_
      refine lv_iload_n X.1 X.2.1 dX8_nextOn_41 rfl (lv_at hl 1 rfl) ?_
      obtain ⟨r42, ho, hf⟩ := b1_s hf
      refine call_vi (rest := [.int x1, .ref (a 0)]) X (c_X8_kindNow F G I J X.2.2.2.2.2.2.2.1 x1 ho) q_5_125 q_5_127 qs_yX8_kindNow q_1_10 q_5_128 ok_X8_kindNow rfl 0 rfl rfl ⟨Nat.le_of_ble_eq_true rfl, Nat.le_of_ble_eq_true rfl⟩ rfl rfl hl.1 rfl (Nat.le_of_ble_eq_true rfl) dX8_nextOn_42 hP hS (fun H locs hP hS => ?_)
      refine lv_iload X.1 X.2.1 dX8_nextOn_45 (lv_at hl 5 rfl) ?_
      obtain ⟨r47, ho, hf⟩ := b1_s hf
      refine call_vi (rest := []) X (c_X8_choices F G I J X.2.2.2.2.2.2.2.1 x1 r42 x8 ho) q_5_129 q_5_131 qs_yX8_choices q_1_10 q_5_132 ok_X8_choices rfl 0 rfl rfl ⟨Nat.le_of_ble_eq_true rfl, Nat.le_of_ble_eq_true rfl⟩ rfl rfl hl.1 rfl (Nat.le_of_ble_eq_true rfl) dX8_nextOn_47 hP hS (fun H locs hP hS => ?_)
      refine lv_istore (lv' := [(9, .int r47), (0, .ref (a 0)), (1, .int x1), (2, .int x2), (4, .long x4), (6, .long x6), (8, .int x8)]) X.1 X.2.1 dX8_nextOn_50 hl (by decide) rfl (fun ls hl => ?_)
      refine lv_lload X.1 X.2.1 dX8_nextOn_52 (lv_at hl 5 rfl) ?_
      refine lv_iload X.1 X.2.1 dX8_nextOn_54 (lv_at hl 0 rfl) ?_
      refine lv_iload_n X.1 X.2.1 dX8_nextOn_56 rfl (lv_at hl 3 rfl) ?_
      obtain ⟨r57, ho, hf⟩ := b1_s hf
      refine call_si (rest := [.long x6]) X (c_X8_isIn r47 x2 ho) q_5_133 q_5_134 q_1_10 q_5_135 ok_X8_isIn rfl ⟨Nat.le_of_ble_eq_true rfl, Nat.le_of_ble_eq_true rfl⟩ rfl rfl hl.1 rfl (Nat.le_of_ble_eq_true rfl) dX8_nextOn_57 hP hS (fun H locs hP hS => ?_)
      refine lv_if_eq (tgt := 83) X.1 X.2.1 dX8_nextOn_60 (by decide) (fun c60 => ?_) (fun c60 => ?_)
      · have hf := it_s hf c60
        refine lv_lconst (v := 0) X.1 X.2.1 dX8_nextOn_83 (by decide) ?_
        exact t_X8_nextOn_b84 X kh17  x6 0 x1 x2 x4 x8 H locs ls hf  hP hS (lv_sub hl [1, 2, 3, 4, 6] rfl)
      · have hf := ie_s hf c60
        refine lv_aload_n X.1 X.2.1 dX8_nextOn_63 rfl (lv_at hl 1 rfl) ?_
        refine gM_0_15 X q_4_124 dX8_nextOn_64 hP ?_
        refine lv_iload X.1 X.2.1 dX8_nextOn_67 (lv_at hl 6 rfl) ?_
        obtain ⟨h69, hf⟩ := gd_s hf
        refine lM_11 (J := J) X (f := (J 0)) rfl h69 dX8_nextOn_69 hP ?_
        refine lv_lload X.1 X.2.1 dX8_nextOn_70 (lv_at hl 4 rfl) ?_
        refine lv_iload X.1 X.2.1 dX8_nextOn_72 (lv_at hl 0 rfl) ?_
        obtain ⟨r74, ho, hf⟩ := b1_s hf
        refine call_si (rest := [.long x4, .long ((J 0) x8.toNatClampNeg), .long x6]) X (c_X8_ones r47 ho) q_5_144 q_5_145 q_1_10 q_5_146 ok_X8_ones rfl ⟨Nat.le_of_ble_eq_true rfl, Nat.le_of_ble_eq_true rfl⟩ rfl rfl hl.1 rfl (Nat.le_of_ble_eq_true rfl) dX8_nextOn_74 hP hS (fun H locs hP hS => ?_)
        refine lv_i2l X.1 X.2.1 dX8_nextOn_77 rfl ?_
        obtain ⟨h78, hf⟩ := gd_s hf
        refine lv_ldiv X.1 X.2.1 dX8_nextOn_78 (of_decide_eq_true h78) ?_
        refine lv_lmul X.1 X.2.1 dX8_nextOn_79 ?_
        refine lv_goto (tgt := 84) X.1 X.2.1 dX8_nextOn_80 (by decide) ?_
        exact t_X8_nextOn_b84 X kh17  x6 (((J 0) x8.toNatClampNeg) * (x4 / r74.toInt64)) x1 x2 x4 x8 H locs ls hf  hP hS (lv_sub hl [1, 2, 3, 4, 6] rfl)
set_option maxRecDepth 100000 in
theorem t_X8_nextOn_b17 {p : Program} {l : Launch} {e : Env} {s : State} {m : MethodId} {args : Array Value} {below : List Frame} {meth : Method} {c : Code} {D : va_G} {a : Nat → Nat} {kc : Nat → ClassId} (X : cx 21 p s m args meth c D (tyM kc) a cX8_nextOn 10 RX8 (some .long)) {F : Nat → Int32} {G : Nat → Int64} {I : Nat → Nat → Int32} {J : Nat → Nat → Int64}  {r : Int64} :
    ∀ (n : Nat)  (x1 : Int32) (x2 : Int32) (x4 : Int64) (x6 : Int64) (x8 : Int32) (H : Heap) (locs : List Loc) (ls : Array Slot), p_X8_nextOn_b17 n (F 2) (F 5) (I 6) (I 8) (I 9) (J 0) x1 x2 x4 x6 x8 = some r → va_P D vwCl (wM a kc F G I J) H → va_S (ad a 21 s.heap.size) s.heap H locs → lv_has ls 10 [(0, .ref (a 0)), (1, .int x1), (2, .int x2), (4, .long x4), (6, .long x6), (8, .int x8)] → W p l e rm_X8_nextOn s m args below meth c H locs 0 0 (MQ below (Ql D (wM a kc F G I J) r (ad a 21 s.heap.size)) args s 0 0 (ad a 21 s.heap.size)) (F0 m 17 ls []) := by
  intro n
  induction n with
  | zero => intro  x1 x2 x4 x6 x8 H locs ls hf  hP hS hl; exact (nos hf).elim
  | succ n ih => exact t_X8_nextOn_b17x X ih
set_option maxHeartbeats 4000000 in
set_option maxRecDepth 100000 in
theorem t_X8_nextOn_b0 {p : Program} {l : Launch} {e : Env} {s : State} {m : MethodId} {args : Array Value} {below : List Frame} {meth : Method} {c : Code} {D : va_G} {a : Nat → Nat} {kc : Nat → ClassId} (X : cx 21 p s m args meth c D (tyM kc) a cX8_nextOn 10 RX8 (some .long)) {F : Nat → Int32} {G : Nat → Int64} {I : Nat → Nat → Int32} {J : Nat → Nat → Int64}  {r : Int64} :
    ∀  (x1 : Int32) (x2 : Int32) (x3 : Int32) (H : Heap) (locs : List Loc) (ls : Array Slot), p_X8_nextOn_b0 (F 2) (F 5) (I 6) (I 8) (I 9) (J 0) x1 x2 x3 = some r → va_P D vwCl (wM a kc F G I J) H → va_S (ad a 21 s.heap.size) s.heap H locs → lv_has ls 10 [(0, .ref (a 0)), (1, .int x1), (2, .int x2), (3, .int x3)] → W p l e rm_X8_nextOn s m args below meth c H locs 0 0 (MQ below (Ql D (wM a kc F G I J) r (ad a 21 s.heap.size)) args s 0 0 (ad a 21 s.heap.size)) (F0 m 0 ls []) := by
  intro  x1 x2 x3 H locs ls hf  hP hS hl
  unfold p_X8_nextOn_b0 at hf
  refine lv_aload_n X.1 X.2.1 dX8_nextOn_0 rfl (lv_at hl 0 rfl) ?_
  refine gM_0_8 (F := F) X (v := (F 2)) rfl q_4_117 dX8_nextOn_1 hP ?_
  refine lv_iload_n X.1 X.2.1 dX8_nextOn_4 rfl (lv_at hl 3 rfl) ?_
  refine lv_isub X.1 X.2.1 dX8_nextOn_5 ?_
  obtain ⟨r6, ho, hf⟩ := b1_s hf
  refine call_sl (rest := []) X (c_X8_partsOf ((F 2) - x3) ho) q_5_113 q_5_114 q_1_10 q_5_115 ok_X8_partsOf rfl ⟨Nat.le_of_ble_eq_true rfl, Nat.le_of_ble_eq_true rfl⟩ rfl rfl hl.1 rfl (Nat.le_of_ble_eq_true rfl) dX8_nextOn_6 hP hS (fun H locs hP hS => ?_)
  refine lv_lstore (lv' := [(4, .long r6), (0, .ref (a 0)), (1, .int x1), (2, .int x2), (3, .int x3)]) X.1 X.2.1 dX8_nextOn_9 hl (by decide) rfl (fun ls hl => ?_)
  refine lv_lconst (v := 0) X.1 X.2.1 dX8_nextOn_11 (by decide) ?_
  refine lv_lstore (lv' := [(6, .long 0), (4, .long r6), (0, .ref (a 0)), (1, .int x1), (2, .int x2), (3, .int x3)]) X.1 X.2.1 dX8_nextOn_12 hl (by decide) rfl (fun ls hl => ?_)
  refine lv_iconst (v := 0) X.1 X.2.1 dX8_nextOn_14 (by decide) ?_
  refine lv_istore (lv' := [(8, .int 0), (6, .long 0), (4, .long r6), (0, .ref (a 0)), (1, .int x1), (2, .int x2), (3, .int x3)]) X.1 X.2.1 dX8_nextOn_15 hl (by decide) rfl (fun ls hl => ?_)
  exact t_X8_nextOn_b17 X 4096  x1 x2 r6 0 0 H locs ls hf  hP hS (lv_sub hl [3, 4, 5, 2, 1, 0] rfl)
set_option maxRecDepth 100000 in
theorem c_X8_nextOn {l : Launch} {D : va_G} {a : Nat → Nat} {kc : Nat → ClassId} (F : Nat → Int32) (G : Nat → Int64) (I : Nat → Nat → Int32) (J : Nat → Nat → Int64) (hAp : ∀ i j, i < 21 → j < 21 → a i = a j → i = j) (x1 : Int32) (x2 : Int32) (x3 : Int32) {o0 : Int64} (hf : p_X8_nextOn (F 2) (F 5) (I 6) (I 8) (I 9) (J 0) x1 x2 x3 = some o0) : Ct 21 l yX8_nextOn cX8_nextOn 10 (some .long) rm_X8_nextOn D (tyM kc) a (wM a kc F G I J) [.ref (a 0), .int x1, .int x2, .int x3] (Ql D (wM a kc F G I J) o0) :=
  Ct.of (by decide +kernel) hAp (Nat.le_of_ble_eq_true rfl) (fun p e s m args below meth c ls X hP hl => t_X8_nextOn_b0 X  x1 x2 x3 _ _ _ hf  hP va_S.rf hl)
abbrev rm_X8_likelyOf : Room := { frames := 5, cells := 0, slots := 0, locals := 120 }
set_option maxHeartbeats 4000000 in
set_option maxRecDepth 100000 in
theorem t_X8_likelyOf_b0 {p : Program} {l : Launch} {e : Env} {s : State} {m : MethodId} {args : Array Value} {below : List Frame} {meth : Method} {c : Code} {D : va_G} {a : Nat → Nat} {kc : Nat → ClassId} (X : cx 21 p s m args meth c D (tyM kc) a cX8_likelyOf 4 RX8 (some .long))  {Ff : Nat → Int32} {Gf : Nat → Int64} {If : Nat → Nat → Int32} {Jf : Nat → Nat → Int64} {r : Int64} :
    ∀ (F : Nat → Int32) (G : Nat → Int64) (I : Nat → Nat → Int32) (J : Nat → Nat → Int64) (x1 : Int32) (x2 : Int32) (x3 : Int32) (H : Heap) (locs : List Loc) (ls : Array Slot), p_X8_likelyOf_b0 (F 2) (F 5) (F 6) (F 7) (F 8) (G 0) (I 6) (I 8) (I 9) (I 10) (J 0) (J 1) x1 x2 x3 = some (r, (Ff 5), (Ff 6), (Ff 8), (Gf 0), (If 10), (Jf 0), (Jf 1)) → (∀ k, k ∉ ([5, 6, 8] : List Nat) → Ff k = F k) → (∀ k, k ∉ ([0] : List Nat) → Gf k = G k) → (∀ k, k ∉ ([10] : List Nat) → If k = I k) → (∀ k, k ∉ ([0, 1] : List Nat) → Jf k = J k) → va_P D vwCl (wM a kc F G I J) H → va_S (ad a 21 s.heap.size) s.heap H locs → lv_has ls 4 [(0, .ref (a 0)), (1, .int x1), (2, .int x2), (3, .int x3)] → W p l e rm_X8_likelyOf s m args below meth c H locs 0 0 (MQ below (Ql D (wM a kc Ff Gf If Jf) r (ad a 21 s.heap.size)) args s 0 0 (ad a 21 s.heap.size)) (F0 m 0 ls []) := by
  intro F G I J x1 x2 x3 H locs ls hf hfF hfG hfI hfJ hP hS hl
  unfold p_X8_likelyOf_b0 at hf
  refine lv_aload_n X.1 X.2.1 dX8_likelyOf_0 rfl (lv_at hl 0 rfl) ?_
  refine lv_iload_n X.1 X.2.1 dX8_likelyOf_1 rfl (lv_at hl 1 rfl) ?_
  obtain ⟨m_loser_2, m_onlyWho_2, m_keptFree_2, m_all_2, m_keptSeat_2, m_ways_2, m_next_2, ho, hf⟩ := b7_s hf
  refine call_vv (rest := []) X (c_X8_firstSit F G I J X.2.2.2.2.2.2.2.1 x1 ho) q_5_97 q_5_99 qs_yX8_firstSit q_1_10 q_5_100 ok_X8_firstSit rfl 0 rfl rfl ⟨Nat.le_of_ble_eq_true rfl, Nat.le_of_ble_eq_true rfl⟩ rfl rfl hl.1 rfl (Nat.le_of_ble_eq_true rfl) dX8_likelyOf_2 hP hS (fun H locs hP hS => ?_)
  refine lv_aload_n X.1 X.2.1 dX8_likelyOf_5 rfl (lv_at hl 0 rfl) ?_
  refine lv_iload_n X.1 X.2.1 dX8_likelyOf_6 rfl (lv_at hl 1 rfl) ?_
  refine lv_iload_n X.1 X.2.1 dX8_likelyOf_7 rfl (lv_at hl 2 rfl) ?_
  refine lv_iload_n X.1 X.2.1 dX8_likelyOf_8 rfl (lv_at hl 1 rfl) ?_
  obtain ⟨r9, ho, hf⟩ := b1_s hf
  refine call_vl (rest := []) X (c_X8_nextOn (va_up (va_up (va_up F 5 m_loser_2) 6 m_onlyWho_2) 8 m_keptFree_2) (va_up G 0 m_all_2) (va_up I 10 m_keptSeat_2) (va_up (va_up J 0 m_ways_2) 1 m_next_2) X.2.2.2.2.2.2.2.1 x1 x2 x1 ho) q_5_151 q_5_153 qs_yX8_nextOn q_1_10 q_5_154 ok_X8_nextOn rfl 0 rfl rfl ⟨Nat.le_of_ble_eq_true rfl, Nat.le_of_ble_eq_true rfl⟩ rfl rfl hl.1 rfl (Nat.le_of_ble_eq_true rfl) dX8_likelyOf_9 hP hS (fun H locs hP hS => ?_)
  refine lv_aload_n X.1 X.2.1 dX8_likelyOf_12 rfl (lv_at hl 0 rfl) ?_
  refine gM_0_17 (G := (va_up G 0 m_all_2)) X (v := m_all_2) rfl q_4_126 dX8_likelyOf_13 hP ?_
  refine lv_aload_n X.1 X.2.1 dX8_likelyOf_16 rfl (lv_at hl 0 rfl) ?_
  refine gM_0_8 (F := (va_up (va_up (va_up F 5 m_loser_2) 6 m_onlyWho_2) 8 m_keptFree_2)) X (v := (F 2)) rfl q_4_117 dX8_likelyOf_17 hP ?_
  refine lv_iload_n X.1 X.2.1 dX8_likelyOf_20 rfl (lv_at hl 1 rfl) ?_
  refine lv_isub X.1 X.2.1 dX8_likelyOf_21 ?_
  obtain ⟨r22, ho, hf⟩ := b1_s hf
  refine call_sl (rest := [.long m_all_2, .long r9]) X (c_X8_partsOf ((F 2) - x1) ho) q_5_113 q_5_114 q_1_10 q_5_115 ok_X8_partsOf rfl ⟨Nat.le_of_ble_eq_true rfl, Nat.le_of_ble_eq_true rfl⟩ rfl rfl hl.1 rfl (Nat.le_of_ble_eq_true rfl) dX8_likelyOf_22 hP hS (fun H locs hP hS => ?_)
  refine lv_lmul X.1 X.2.1 dX8_likelyOf_25 ?_
  refine lv_iload_n X.1 X.2.1 dX8_likelyOf_26 rfl (lv_at hl 3 rfl) ?_
  obtain ⟨r27, ho, hf⟩ := b1_s hf
  refine call_sl (rest := []) X (c_X8_part r9 (m_all_2 * r22) x3 ho) q_5_155 q_5_156 q_1_10 q_5_157 ok_X8_part rfl ⟨Nat.le_of_ble_eq_true rfl, Nat.le_of_ble_eq_true rfl⟩ rfl rfl hl.1 rfl (Nat.le_of_ble_eq_true rfl) dX8_likelyOf_27 hP hS (fun H locs hP hS => ?_)
  obtain ⟨e0, hf⟩ := o2 hf
  obtain ⟨e1, hf⟩ := o2 hf
  obtain ⟨e2, hf⟩ := o2 hf
  obtain ⟨e3, hf⟩ := o2 hf
  obtain ⟨e4, hf⟩ := o2 hf
  obtain ⟨e5, hf⟩ := o2 hf
  obtain ⟨e6, hf⟩ := o2 hf
  have e7 := o1 hf
  have EF : Ff = (va_up (va_up (va_up F 5 m_loser_2) 6 m_onlyWho_2) 8 m_keptFree_2) := frm_eq (frm_up (frm_up (frm_up hfF (by decide)) (by decide)) (by decide)) (frm_c (e1).symm (frm_c (e2).symm (frm_c (e3).symm frm_n)))
  have EG : Gf = (va_up G 0 m_all_2) := frm_eq (frm_up hfG (by decide)) (frm_c (e4).symm frm_n)
  have EI : If = (va_up I 10 m_keptSeat_2) := frm_eq (frm_up hfI (by decide)) (frm_c (e5).symm frm_n)
  have EJ : Jf = (va_up (va_up J 0 m_ways_2) 1 m_next_2) := frm_eq (frm_up (frm_up hfJ (by decide)) (by decide)) (frm_c (e6).symm (frm_c (e7).symm frm_n))
  exact ret_l X hS (by rw [EF, EG, EI, EJ]; exact hP) e0 dX8_likelyOf_30
set_option maxRecDepth 100000 in
theorem c_X8_likelyOf {l : Launch} {D : va_G} {a : Nat → Nat} {kc : Nat → ClassId} (F : Nat → Int32) (G : Nat → Int64) (I : Nat → Nat → Int32) (J : Nat → Nat → Int64) (hAp : ∀ i j, i < 21 → j < 21 → a i = a j → i = j) (x1 : Int32) (x2 : Int32) (x3 : Int32) {o0 : Int64} {o1 : Int32} {o2 : Int32} {o3 : Int32} {o4 : Int64} {o5 : Nat → Int32} {o6 : Nat → Int64} {o7 : Nat → Int64} (hf : p_X8_likelyOf (F 2) (F 5) (F 6) (F 7) (F 8) (G 0) (I 6) (I 8) (I 9) (I 10) (J 0) (J 1) x1 x2 x3 = some (o0, o1, o2, o3, o4, o5, o6, o7)) : Ct 21 l yX8_likelyOf cX8_likelyOf 4 (some .long) rm_X8_likelyOf D (tyM kc) a (wM a kc F G I J) [.ref (a 0), .int x1, .int x2, .int x3] (Ql D (wM a kc (va_up (va_up (va_up F 5 o1) 6 o2) 8 o3) (va_up G 0 o4) (va_up I 10 o5) (va_up (va_up J 0 o6) 1 o7)) o0) :=
  Ct.of (by decide +kernel) hAp (Nat.le_of_ble_eq_true rfl) (fun p e s m args below meth c ls X hP hl => t_X8_likelyOf_b0 X F G I J x1 x2 x3 _ _ _ hf (frm_ul (frm_ul (frm_ul (fun k _ => rfl) (by decide)) (by decide)) (by decide)) (frm_ul (fun k _ => rfl) (by decide)) (frm_ul (fun k _ => rfl) (by decide)) (frm_ul (frm_ul (fun k _ => rfl) (by decide)) (by decide)) hP va_S.rf hl)
abbrev rm_X8_likely : Room := { frames := 6, cells := 0, slots := 0, locals := 143 }
set_option maxHeartbeats 4000000 in
set_option maxRecDepth 100000 in
theorem t_X8_likely_b38 {p : Program} {l : Launch} {e : Env} {s : State} {m : MethodId} {args : Array Value} {below : List Frame} {meth : Method} {c : Code} {D : va_G} {a : Nat → Nat} {kc : Nat → ClassId} (X : cx 21 p s m args meth c D (tyM kc) a cX8_likely 4 RX8 (some .long))  {Ff : Nat → Int32} {Gf : Nat → Int64} {If : Nat → Nat → Int32} {Jf : Nat → Nat → Int64} {r : Int64} :
    ∀ (F : Nat → Int32) (G : Nat → Int64) (I : Nat → Nat → Int32) (J : Nat → Nat → Int64) (t0 : Int64) (H : Heap) (locs : List Loc) (ls : Array Slot), p_X8_likely_b38 (F 1) (F 2) (F 3) (F 4) (F 5) (F 6) (F 7) (F 8) (G 0) (I 4) (I 5) (I 6) (I 7) (I 8) (I 9) (I 10) (J 0) (J 1) t0 = some (r, (Ff 1), (Ff 2), (Ff 3), (Ff 4), (Ff 5), (Ff 6), (Ff 8), (Gf 0), (If 6), (If 7), (If 8), (If 9), (If 10), (Jf 0), (Jf 1)) → (∀ k, k ∉ ([1, 2, 3, 4, 5, 6, 8] : List Nat) → Ff k = F k) → (∀ k, k ∉ ([0] : List Nat) → Gf k = G k) → (∀ k, k ∉ ([6, 7, 8, 9, 10] : List Nat) → If k = I k) → (∀ k, k ∉ ([0, 1] : List Nat) → Jf k = J k) → va_P D vwCl (wM a kc F G I J) H → va_S (ad a 21 s.heap.size) s.heap H locs → lv_has ls 4 [(0, .ref (a 0))] → W p l e rm_X8_likely s m args below meth c H locs 0 0 (MQ below (Ql D (wM a kc Ff Gf If Jf) r (ad a 21 s.heap.size)) args s 0 0 (ad a 21 s.heap.size)) (F0 m 38 ls [.long t0]) := by
  intro F G I J t0 H locs ls hf hfF hfG hfI hfJ hP hS hl
  unfold p_X8_likely_b38 at hf
  obtain ⟨e0, hf⟩ := o2 hf
  obtain ⟨e1, hf⟩ := o2 hf
  obtain ⟨e2, hf⟩ := o2 hf
  obtain ⟨e3, hf⟩ := o2 hf
  obtain ⟨e4, hf⟩ := o2 hf
  obtain ⟨e5, hf⟩ := o2 hf
  obtain ⟨e6, hf⟩ := o2 hf
  obtain ⟨e7, hf⟩ := o2 hf
  obtain ⟨e8, hf⟩ := o2 hf
  obtain ⟨e9, hf⟩ := o2 hf
  obtain ⟨e10, hf⟩ := o2 hf
  obtain ⟨e11, hf⟩ := o2 hf
  obtain ⟨e12, hf⟩ := o2 hf
  obtain ⟨e13, hf⟩ := o2 hf
  obtain ⟨e14, hf⟩ := o2 hf
  have e15 := o1 hf
  have EF : Ff = F := frm_eq hfF (frm_c (e1).symm (frm_c (e2).symm (frm_c (e3).symm (frm_c (e4).symm (frm_c (e5).symm (frm_c (e6).symm (frm_c (e7).symm frm_n)))))))
  have EG : Gf = G := frm_eq hfG (frm_c (e8).symm frm_n)
  have EI : If = I := frm_eq hfI (frm_c (e9).symm (frm_c (e10).symm (frm_c (e11).symm (frm_c (e12).symm (frm_c (e13).symm frm_n)))))
  have EJ : Jf = J := frm_eq hfJ (frm_c (e14).symm (frm_c (e15).symm frm_n))
  exact ret_l X hS (by rw [EF, EG, EI, EJ]; exact hP) e0 dX8_likely_38
set_option maxHeartbeats 4000000 in
set_option maxRecDepth 100000 in
theorem t_X8_likely_b33 {p : Program} {l : Launch} {e : Env} {s : State} {m : MethodId} {args : Array Value} {below : List Frame} {meth : Method} {c : Code} {D : va_G} {a : Nat → Nat} {kc : Nat → ClassId} (X : cx 21 p s m args meth c D (tyM kc) a cX8_likely 4 RX8 (some .long))  {Ff : Nat → Int32} {Gf : Nat → Int64} {If : Nat → Nat → Int32} {Jf : Nat → Nat → Int64} {r : Int64} :
    ∀ (F : Nat → Int32) (G : Nat → Int64) (I : Nat → Nat → Int32) (J : Nat → Nat → Int64)  (H : Heap) (locs : List Loc) (ls : Array Slot), p_X8_likely_b33 (F 1) (F 2) (F 3) (F 4) (F 5) (F 6) (F 7) (F 8) (G 0) (I 4) (I 5) (I 6) (I 7) (I 8) (I 9) (I 10) (J 0) (J 1)  = some (r, (Ff 1), (Ff 2), (Ff 3), (Ff 4), (Ff 5), (Ff 6), (Ff 8), (Gf 0), (If 6), (If 7), (If 8), (If 9), (If 10), (Jf 0), (Jf 1)) → (∀ k, k ∉ ([1, 2, 3, 4, 5, 6, 8] : List Nat) → Ff k = F k) → (∀ k, k ∉ ([0] : List Nat) → Gf k = G k) → (∀ k, k ∉ ([6, 7, 8, 9, 10] : List Nat) → If k = I k) → (∀ k, k ∉ ([0, 1] : List Nat) → Jf k = J k) → va_P D vwCl (wM a kc F G I J) H → va_S (ad a 21 s.heap.size) s.heap H locs → lv_has ls 4 [(0, .ref (a 0))] → W p l e rm_X8_likely s m args below meth c H locs 0 0 (MQ below (Ql D (wM a kc Ff Gf If Jf) r (ad a 21 s.heap.size)) args s 0 0 (ad a 21 s.heap.size)) (F0 m 33 ls []) := by
  intro F G I J  H locs ls hf hfF hfG hfI hfJ hP hS hl
  unfold p_X8_likely_b33 at hf
  refine lv_bipush (v := (-2)) X.1 X.2.1 dX8_likely_33 (by decide) ?_
  obtain ⟨r35, ho, hf⟩ := b1_s hf
  refine call_sl (rest := []) X (c_X8_no (-2) ho) q_5_158 q_5_159 q_1_10 q_5_160 ok_X8_no rfl ⟨Nat.le_of_ble_eq_true rfl, Nat.le_of_ble_eq_true rfl⟩ rfl rfl hl.1 rfl (Nat.le_of_ble_eq_true rfl) dX8_likely_35 hP hS (fun H locs hP hS => ?_)
  exact t_X8_likely_b38 X F G I J r35 H locs ls hf hfF hfG hfI hfJ hP hS (lv_sub hl [0] rfl)
set_option maxHeartbeats 4000000 in
set_option maxRecDepth 100000 in
theorem t_X8_likely_b0 {p : Program} {l : Launch} {e : Env} {s : State} {m : MethodId} {args : Array Value} {below : List Frame} {meth : Method} {c : Code} {D : va_G} {a : Nat → Nat} {kc : Nat → ClassId} (X : cx 21 p s m args meth c D (tyM kc) a cX8_likely 4 RX8 (some .long))  {Ff : Nat → Int32} {Gf : Nat → Int64} {If : Nat → Nat → Int32} {Jf : Nat → Nat → Int64} {r : Int64} :
    ∀ (F : Nat → Int32) (G : Nat → Int64) (I : Nat → Nat → Int32) (J : Nat → Nat → Int64) (x1 : Int32) (x2 : Int32) (x3 : Int32) (H : Heap) (locs : List Loc) (ls : Array Slot), p_X8_likely_b0 (F 1) (F 2) (F 3) (F 4) (F 5) (F 6) (F 7) (F 8) (G 0) (I 4) (I 5) (I 6) (I 7) (I 8) (I 9) (I 10) (J 0) (J 1) x1 x2 x3 = some (r, (Ff 1), (Ff 2), (Ff 3), (Ff 4), (Ff 5), (Ff 6), (Ff 8), (Gf 0), (If 6), (If 7), (If 8), (If 9), (If 10), (Jf 0), (Jf 1)) → (∀ k, k ∉ ([1, 2, 3, 4, 5, 6, 8] : List Nat) → Ff k = F k) → (∀ k, k ∉ ([0] : List Nat) → Gf k = G k) → (∀ k, k ∉ ([6, 7, 8, 9, 10] : List Nat) → If k = I k) → (∀ k, k ∉ ([0, 1] : List Nat) → Jf k = J k) → va_P D vwCl (wM a kc F G I J) H → va_S (ad a 21 s.heap.size) s.heap H locs → lv_has ls 4 [(0, .ref (a 0)), (1, .int x1), (2, .int x2), (3, .int x3)] → W p l e rm_X8_likely s m args below meth c H locs 0 0 (MQ below (Ql D (wM a kc Ff Gf If Jf) r (ad a 21 s.heap.size)) args s 0 0 (ad a 21 s.heap.size)) (F0 m 0 ls []) := by
  intro F G I J x1 x2 x3 H locs ls hf hfF hfG hfI hfJ hP hS hl
  unfold p_X8_likely_b0 at hf
  refine lv_aload_n X.1 X.2.1 dX8_likely_0 rfl (lv_at hl 0 rfl) ?_
  refine lv_iload_n X.1 X.2.1 dX8_likely_1 rfl (lv_at hl 1 rfl) ?_
  obtain ⟨r2, m_at_2, m_seats_2, m_rows_2, m_people_2, m_sorts_2, m_rowOf_2, m_own_2, m_kinds_2, ho, hf⟩ := b9_s hf
  refine call_vi (rest := []) X (c_X8_isPerson F G I J X.2.2.2.2.2.2.2.1 x1 ho) q_5_85 q_5_87 qs_yX8_isPerson q_1_10 q_5_88 ok_X8_isPerson rfl 0 rfl rfl ⟨Nat.le_of_ble_eq_true rfl, Nat.le_of_ble_eq_true rfl⟩ rfl rfl hl.1 rfl (Nat.le_of_ble_eq_true rfl) dX8_likely_2 hP hS (fun H locs hP hS => ?_)
  refine lv_if_eq (tgt := 33) X.1 X.2.1 dX8_likely_5 (by decide) (fun c5 => ?_) (fun c5 => ?_)
  · have hf := it_s hf c5
    exact t_X8_likely_b33 X (va_up (va_up (va_up (va_up F 1 m_at_2) 2 m_seats_2) 3 m_rows_2) 4 m_people_2) G (va_up (va_up (va_up (va_up I 6 m_sorts_2) 7 m_rowOf_2) 8 m_own_2) 9 m_kinds_2) J  H locs ls hf (frm_up (frm_up (frm_up (frm_up hfF (by decide)) (by decide)) (by decide)) (by decide)) hfG (frm_up (frm_up (frm_up (frm_up hfI (by decide)) (by decide)) (by decide)) (by decide)) hfJ hP hS (lv_sub hl [0] rfl)
  · have hf := ie_s hf c5
    refine lv_aload_n X.1 X.2.1 dX8_likely_8 rfl (lv_at hl 0 rfl) ?_
    refine lv_iload_n X.1 X.2.1 dX8_likely_9 rfl (lv_at hl 2 rfl) ?_
    obtain ⟨r10, m_at_10, m_seats_10, m_rows_10, m_people_10, m_sorts_10, m_rowOf_10, m_own_10, m_kinds_10, ho, hf⟩ := b9_s hf
    refine call_vi (rest := []) X (c_X8_isSeat (va_up (va_up (va_up (va_up F 1 m_at_2) 2 m_seats_2) 3 m_rows_2) 4 m_people_2) G (va_up (va_up (va_up (va_up I 6 m_sorts_2) 7 m_rowOf_2) 8 m_own_2) 9 m_kinds_2) J X.2.2.2.2.2.2.2.1 x2 ho) q_5_65 q_5_67 qs_yX8_isSeat q_1_10 q_5_68 ok_X8_isSeat rfl 0 rfl rfl ⟨Nat.le_of_ble_eq_true rfl, Nat.le_of_ble_eq_true rfl⟩ rfl rfl hl.1 rfl (Nat.le_of_ble_eq_true rfl) dX8_likely_10 hP hS (fun H locs hP hS => ?_)
    refine lv_if_eq (tgt := 33) X.1 X.2.1 dX8_likely_13 (by decide) (fun c13 => ?_) (fun c13 => ?_)
    · have hf := it_s hf c13
      exact t_X8_likely_b33 X (va_up (va_up (va_up (va_up (va_up (va_up (va_up (va_up F 1 m_at_2) 2 m_seats_2) 3 m_rows_2) 4 m_people_2) 1 m_at_10) 2 m_seats_10) 3 m_rows_10) 4 m_people_10) G (va_up (va_up (va_up (va_up (va_up (va_up (va_up (va_up I 6 m_sorts_2) 7 m_rowOf_2) 8 m_own_2) 9 m_kinds_2) 6 m_sorts_10) 7 m_rowOf_10) 8 m_own_10) 9 m_kinds_10) J  H locs ls hf (frm_up (frm_up (frm_up (frm_up (frm_up (frm_up (frm_up (frm_up hfF (by decide)) (by decide)) (by decide)) (by decide)) (by decide)) (by decide)) (by decide)) (by decide)) hfG (frm_up (frm_up (frm_up (frm_up (frm_up (frm_up (frm_up (frm_up hfI (by decide)) (by decide)) (by decide)) (by decide)) (by decide)) (by decide)) (by decide)) (by decide)) hfJ hP hS (lv_sub hl [0] rfl)
    · have hf := ie_s hf c13
      refine lv_iload_n X.1 X.2.1 dX8_likely_16 rfl (lv_at hl 3 rfl) ?_
      obtain ⟨r17, ho, hf⟩ := b1_s hf
      refine call_si (rest := []) X (c_X8_isTwo x3 ho) q_5_22 q_5_23 q_1_10 q_5_24 ok_X8_isTwo rfl ⟨Nat.le_of_ble_eq_true rfl, Nat.le_of_ble_eq_true rfl⟩ rfl rfl hl.1 rfl (Nat.le_of_ble_eq_true rfl) dX8_likely_17 hP hS (fun H locs hP hS => ?_)
      refine lv_if_eq (tgt := 33) X.1 X.2.1 dX8_likely_20 (by decide) (fun c20 => ?_) (fun c20 => ?_)
      · have hf := it_s hf c20
        exact t_X8_likely_b33 X (va_up (va_up (va_up (va_up (va_up (va_up (va_up (va_up F 1 m_at_2) 2 m_seats_2) 3 m_rows_2) 4 m_people_2) 1 m_at_10) 2 m_seats_10) 3 m_rows_10) 4 m_people_10) G (va_up (va_up (va_up (va_up (va_up (va_up (va_up (va_up I 6 m_sorts_2) 7 m_rowOf_2) 8 m_own_2) 9 m_kinds_2) 6 m_sorts_10) 7 m_rowOf_10) 8 m_own_10) 9 m_kinds_10) J  H locs ls hf (frm_up (frm_up (frm_up (frm_up (frm_up (frm_up (frm_up (frm_up hfF (by decide)) (by decide)) (by decide)) (by decide)) (by decide)) (by decide)) (by decide)) (by decide)) hfG (frm_up (frm_up (frm_up (frm_up (frm_up (frm_up (frm_up (frm_up hfI (by decide)) (by decide)) (by decide)) (by decide)) (by decide)) (by decide)) (by decide)) (by decide)) hfJ hP hS (lv_sub hl [0] rfl)
      · have hf := ie_s hf c20
        refine lv_aload_n X.1 X.2.1 dX8_likely_23 rfl (lv_at hl 0 rfl) ?_
        refine lv_iload_n X.1 X.2.1 dX8_likely_24 rfl (lv_at hl 1 rfl) ?_
        refine lv_iload_n X.1 X.2.1 dX8_likely_25 rfl (lv_at hl 2 rfl) ?_
        refine lv_iload_n X.1 X.2.1 dX8_likely_26 rfl (lv_at hl 3 rfl) ?_
        obtain ⟨r27, m_loser_27, m_onlyWho_27, m_keptFree_27, m_all_27, m_keptSeat_27, m_ways_27, m_next_27, ho, hf⟩ := b8_s hf
        refine call_vl (rest := []) X (c_X8_likelyOf (va_up (va_up (va_up (va_up (va_up (va_up (va_up (va_up F 1 m_at_2) 2 m_seats_2) 3 m_rows_2) 4 m_people_2) 1 m_at_10) 2 m_seats_10) 3 m_rows_10) 4 m_people_10) G (va_up (va_up (va_up (va_up (va_up (va_up (va_up (va_up I 6 m_sorts_2) 7 m_rowOf_2) 8 m_own_2) 9 m_kinds_2) 6 m_sorts_10) 7 m_rowOf_10) 8 m_own_10) 9 m_kinds_10) J X.2.2.2.2.2.2.2.1 x1 x2 x3 ho) q_5_93 q_5_95 qs_yX8_likelyOf q_1_10 q_5_96 ok_X8_likelyOf rfl 0 rfl rfl ⟨Nat.le_of_ble_eq_true rfl, Nat.le_of_ble_eq_true rfl⟩ rfl rfl hl.1 rfl (Nat.le_of_ble_eq_true rfl) dX8_likely_27 hP hS (fun H locs hP hS => ?_)
        refine lv_goto (tgt := 38) X.1 X.2.1 dX8_likely_30 (by decide) ?_
        exact t_X8_likely_b38 X (va_up (va_up (va_up (va_up (va_up (va_up (va_up (va_up (va_up (va_up (va_up F 1 m_at_2) 2 m_seats_2) 3 m_rows_2) 4 m_people_2) 1 m_at_10) 2 m_seats_10) 3 m_rows_10) 4 m_people_10) 5 m_loser_27) 6 m_onlyWho_27) 8 m_keptFree_27) (va_up G 0 m_all_27) (va_up (va_up (va_up (va_up (va_up (va_up (va_up (va_up (va_up I 6 m_sorts_2) 7 m_rowOf_2) 8 m_own_2) 9 m_kinds_2) 6 m_sorts_10) 7 m_rowOf_10) 8 m_own_10) 9 m_kinds_10) 10 m_keptSeat_27) (va_up (va_up J 0 m_ways_27) 1 m_next_27) r27 H locs ls hf (frm_up (frm_up (frm_up (frm_up (frm_up (frm_up (frm_up (frm_up (frm_up (frm_up (frm_up hfF (by decide)) (by decide)) (by decide)) (by decide)) (by decide)) (by decide)) (by decide)) (by decide)) (by decide)) (by decide)) (by decide)) (frm_up hfG (by decide)) (frm_up (frm_up (frm_up (frm_up (frm_up (frm_up (frm_up (frm_up (frm_up hfI (by decide)) (by decide)) (by decide)) (by decide)) (by decide)) (by decide)) (by decide)) (by decide)) (by decide)) (frm_up (frm_up hfJ (by decide)) (by decide)) hP hS (lv_sub hl [0] rfl)
set_option maxRecDepth 100000 in
theorem c_X8_likely {l : Launch} {D : va_G} {a : Nat → Nat} {kc : Nat → ClassId} (F : Nat → Int32) (G : Nat → Int64) (I : Nat → Nat → Int32) (J : Nat → Nat → Int64) (hAp : ∀ i j, i < 21 → j < 21 → a i = a j → i = j) (x1 : Int32) (x2 : Int32) (x3 : Int32) {o0 : Int64} {o1 : Int32} {o2 : Int32} {o3 : Int32} {o4 : Int32} {o5 : Int32} {o6 : Int32} {o7 : Int32} {o8 : Int64} {o9 : Nat → Int32} {o10 : Nat → Int32} {o11 : Nat → Int32} {o12 : Nat → Int32} {o13 : Nat → Int32} {o14 : Nat → Int64} {o15 : Nat → Int64} (hf : p_X8_likely (F 1) (F 2) (F 3) (F 4) (F 5) (F 6) (F 7) (F 8) (G 0) (I 4) (I 5) (I 6) (I 7) (I 8) (I 9) (I 10) (J 0) (J 1) x1 x2 x3 = some (o0, o1, o2, o3, o4, o5, o6, o7, o8, o9, o10, o11, o12, o13, o14, o15)) : Ct 21 l yX8_likely cX8_likely 4 (some .long) rm_X8_likely D (tyM kc) a (wM a kc F G I J) [.ref (a 0), .int x1, .int x2, .int x3] (Ql D (wM a kc (va_up (va_up (va_up (va_up (va_up (va_up (va_up F 1 o1) 2 o2) 3 o3) 4 o4) 5 o5) 6 o6) 8 o7) (va_up G 0 o8) (va_up (va_up (va_up (va_up (va_up I 6 o9) 7 o10) 8 o11) 9 o12) 10 o13) (va_up (va_up J 0 o14) 1 o15)) o0) :=
  Ct.of (by decide +kernel) hAp (Nat.le_of_ble_eq_true rfl) (fun p e s m args below meth c ls X hP hl => t_X8_likely_b0 X F G I J x1 x2 x3 _ _ _ hf (frm_ul (frm_ul (frm_ul (frm_ul (frm_ul (frm_ul (frm_ul (fun k _ => rfl) (by decide)) (by decide)) (by decide)) (by decide)) (by decide)) (by decide)) (by decide)) (frm_ul (fun k _ => rfl) (by decide)) (frm_ul (frm_ul (frm_ul (frm_ul (frm_ul (fun k _ => rfl) (by decide)) (by decide)) (by decide)) (by decide)) (by decide)) (frm_ul (frm_ul (fun k _ => rfl) (by decide)) (by decide)) hP va_S.rf hl)
abbrev rm_X8_takenOf : Room := { frames := 5, cells := 0, slots := 0, locals := 120 }
set_option maxHeartbeats 4000000 in
set_option maxRecDepth 100000 in
theorem t_X8_takenOf_b0 {p : Program} {l : Launch} {e : Env} {s : State} {m : MethodId} {args : Array Value} {below : List Frame} {meth : Method} {c : Code} {D : va_G} {a : Nat → Nat} {kc : Nat → ClassId} (X : cx 21 p s m args meth c D (tyM kc) a cX8_takenOf 4 RX8 (some .long))  {Ff : Nat → Int32} {Gf : Nat → Int64} {If : Nat → Nat → Int32} {Jf : Nat → Nat → Int64} {r : Int64} :
    ∀ (F : Nat → Int32) (G : Nat → Int64) (I : Nat → Nat → Int32) (J : Nat → Nat → Int64) (x1 : Int32) (x2 : Int32) (x3 : Int32) (H : Heap) (locs : List Loc) (ls : Array Slot), p_X8_takenOf_b0 (F 2) (F 5) (F 6) (F 7) (F 8) (G 0) (I 6) (I 8) (I 9) (I 10) (J 0) (J 1) x1 x2 x3 = some (r, (Ff 5), (Ff 6), (Ff 8), (Gf 0), (If 10), (Jf 0), (Jf 1)) → (∀ k, k ∉ ([5, 6, 8] : List Nat) → Ff k = F k) → (∀ k, k ∉ ([0] : List Nat) → Gf k = G k) → (∀ k, k ∉ ([10] : List Nat) → If k = I k) → (∀ k, k ∉ ([0, 1] : List Nat) → Jf k = J k) → va_P D vwCl (wM a kc F G I J) H → va_S (ad a 21 s.heap.size) s.heap H locs → lv_has ls 4 [(0, .ref (a 0)), (1, .int x1), (2, .int x2), (3, .int x3)] → W p l e rm_X8_takenOf s m args below meth c H locs 0 0 (MQ below (Ql D (wM a kc Ff Gf If Jf) r (ad a 21 s.heap.size)) args s 0 0 (ad a 21 s.heap.size)) (F0 m 0 ls []) := by
  intro F G I J x1 x2 x3 H locs ls hf hfF hfG hfI hfJ hP hS hl
  unfold p_X8_takenOf_b0 at hf
  refine lv_aload_n X.1 X.2.1 dX8_takenOf_0 rfl (lv_at hl 0 rfl) ?_
  refine lv_iload_n X.1 X.2.1 dX8_takenOf_1 rfl (lv_at hl 1 rfl) ?_
  obtain ⟨m_loser_2, m_onlyWho_2, m_keptFree_2, m_all_2, m_keptSeat_2, m_ways_2, m_next_2, ho, hf⟩ := b7_s hf
  refine call_vv (rest := []) X (c_X8_firstSit F G I J X.2.2.2.2.2.2.2.1 x1 ho) q_5_97 q_5_99 qs_yX8_firstSit q_1_10 q_5_100 ok_X8_firstSit rfl 0 rfl rfl ⟨Nat.le_of_ble_eq_true rfl, Nat.le_of_ble_eq_true rfl⟩ rfl rfl hl.1 rfl (Nat.le_of_ble_eq_true rfl) dX8_takenOf_2 hP hS (fun H locs hP hS => ?_)
  refine lv_aload_n X.1 X.2.1 dX8_takenOf_5 rfl (lv_at hl 0 rfl) ?_
  refine gM_0_15 X q_4_124 dX8_takenOf_6 hP ?_
  refine lv_iload_n X.1 X.2.1 dX8_takenOf_9 rfl (lv_at hl 2 rfl) ?_
  obtain ⟨h10, hf⟩ := gd_s hf
  refine lM_11 (J := (va_up (va_up J 0 m_ways_2) 1 m_next_2)) X (f := m_ways_2) rfl h10 dX8_takenOf_10 hP ?_
  refine lv_aload_n X.1 X.2.1 dX8_takenOf_11 rfl (lv_at hl 0 rfl) ?_
  refine gM_0_17 (G := (va_up G 0 m_all_2)) X (v := m_all_2) rfl q_4_126 dX8_takenOf_12 hP ?_
  refine lv_iload_n X.1 X.2.1 dX8_takenOf_15 rfl (lv_at hl 3 rfl) ?_
  obtain ⟨r16, ho, hf⟩ := b1_s hf
  refine call_sl (rest := []) X (c_X8_part (m_ways_2 x2.toNatClampNeg) m_all_2 x3 ho) q_5_155 q_5_156 q_1_10 q_5_157 ok_X8_part rfl ⟨Nat.le_of_ble_eq_true rfl, Nat.le_of_ble_eq_true rfl⟩ rfl rfl hl.1 rfl (Nat.le_of_ble_eq_true rfl) dX8_takenOf_16 hP hS (fun H locs hP hS => ?_)
  obtain ⟨e0, hf⟩ := o2 hf
  obtain ⟨e1, hf⟩ := o2 hf
  obtain ⟨e2, hf⟩ := o2 hf
  obtain ⟨e3, hf⟩ := o2 hf
  obtain ⟨e4, hf⟩ := o2 hf
  obtain ⟨e5, hf⟩ := o2 hf
  obtain ⟨e6, hf⟩ := o2 hf
  have e7 := o1 hf
  have EF : Ff = (va_up (va_up (va_up F 5 m_loser_2) 6 m_onlyWho_2) 8 m_keptFree_2) := frm_eq (frm_up (frm_up (frm_up hfF (by decide)) (by decide)) (by decide)) (frm_c (e1).symm (frm_c (e2).symm (frm_c (e3).symm frm_n)))
  have EG : Gf = (va_up G 0 m_all_2) := frm_eq (frm_up hfG (by decide)) (frm_c (e4).symm frm_n)
  have EI : If = (va_up I 10 m_keptSeat_2) := frm_eq (frm_up hfI (by decide)) (frm_c (e5).symm frm_n)
  have EJ : Jf = (va_up (va_up J 0 m_ways_2) 1 m_next_2) := frm_eq (frm_up (frm_up hfJ (by decide)) (by decide)) (frm_c (e6).symm (frm_c (e7).symm frm_n))
  exact ret_l X hS (by rw [EF, EG, EI, EJ]; exact hP) e0 dX8_takenOf_19
set_option maxRecDepth 100000 in
theorem c_X8_takenOf {l : Launch} {D : va_G} {a : Nat → Nat} {kc : Nat → ClassId} (F : Nat → Int32) (G : Nat → Int64) (I : Nat → Nat → Int32) (J : Nat → Nat → Int64) (hAp : ∀ i j, i < 21 → j < 21 → a i = a j → i = j) (x1 : Int32) (x2 : Int32) (x3 : Int32) {o0 : Int64} {o1 : Int32} {o2 : Int32} {o3 : Int32} {o4 : Int64} {o5 : Nat → Int32} {o6 : Nat → Int64} {o7 : Nat → Int64} (hf : p_X8_takenOf (F 2) (F 5) (F 6) (F 7) (F 8) (G 0) (I 6) (I 8) (I 9) (I 10) (J 0) (J 1) x1 x2 x3 = some (o0, o1, o2, o3, o4, o5, o6, o7)) : Ct 21 l yX8_takenOf cX8_takenOf 4 (some .long) rm_X8_takenOf D (tyM kc) a (wM a kc F G I J) [.ref (a 0), .int x1, .int x2, .int x3] (Ql D (wM a kc (va_up (va_up (va_up F 5 o1) 6 o2) 8 o3) (va_up G 0 o4) (va_up I 10 o5) (va_up (va_up J 0 o6) 1 o7)) o0) :=
  Ct.of (by decide +kernel) hAp (Nat.le_of_ble_eq_true rfl) (fun p e s m args below meth c ls X hP hl => t_X8_takenOf_b0 X F G I J x1 x2 x3 _ _ _ hf (frm_ul (frm_ul (frm_ul (fun k _ => rfl) (by decide)) (by decide)) (by decide)) (frm_ul (fun k _ => rfl) (by decide)) (frm_ul (fun k _ => rfl) (by decide)) (frm_ul (frm_ul (fun k _ => rfl) (by decide)) (by decide)) hP va_S.rf hl)
abbrev rm_X8_taken : Room := { frames := 6, cells := 0, slots := 0, locals := 143 }
set_option maxHeartbeats 4000000 in
set_option maxRecDepth 100000 in
theorem t_X8_taken_b54 {p : Program} {l : Launch} {e : Env} {s : State} {m : MethodId} {args : Array Value} {below : List Frame} {meth : Method} {c : Code} {D : va_G} {a : Nat → Nat} {kc : Nat → ClassId} (X : cx 21 p s m args meth c D (tyM kc) a cX8_taken 4 RX8 (some .long))  {Ff : Nat → Int32} {Gf : Nat → Int64} {If : Nat → Nat → Int32} {Jf : Nat → Nat → Int64} {r : Int64} :
    ∀ (F : Nat → Int32) (G : Nat → Int64) (I : Nat → Nat → Int32) (J : Nat → Nat → Int64) (t0 : Int64) (H : Heap) (locs : List Loc) (ls : Array Slot), p_X8_taken_b54 (F 1) (F 2) (F 3) (F 4) (F 5) (F 6) (F 7) (F 8) (G 0) (I 4) (I 5) (I 6) (I 7) (I 8) (I 9) (I 10) (J 0) (J 1) t0 = some (r, (Ff 1), (Ff 2), (Ff 3), (Ff 4), (Ff 5), (Ff 6), (Ff 8), (Gf 0), (If 6), (If 7), (If 8), (If 9), (If 10), (Jf 0), (Jf 1)) → (∀ k, k ∉ ([1, 2, 3, 4, 5, 6, 8] : List Nat) → Ff k = F k) → (∀ k, k ∉ ([0] : List Nat) → Gf k = G k) → (∀ k, k ∉ ([6, 7, 8, 9, 10] : List Nat) → If k = I k) → (∀ k, k ∉ ([0, 1] : List Nat) → Jf k = J k) → va_P D vwCl (wM a kc F G I J) H → va_S (ad a 21 s.heap.size) s.heap H locs → lv_has ls 4 [(0, .ref (a 0))] → W p l e rm_X8_taken s m args below meth c H locs 0 0 (MQ below (Ql D (wM a kc Ff Gf If Jf) r (ad a 21 s.heap.size)) args s 0 0 (ad a 21 s.heap.size)) (F0 m 54 ls [.long t0]) := by
  intro F G I J t0 H locs ls hf hfF hfG hfI hfJ hP hS hl
  unfold p_X8_taken_b54 at hf
  obtain ⟨e0, hf⟩ := o2 hf
  obtain ⟨e1, hf⟩ := o2 hf
  obtain ⟨e2, hf⟩ := o2 hf
  obtain ⟨e3, hf⟩ := o2 hf
  obtain ⟨e4, hf⟩ := o2 hf
  obtain ⟨e5, hf⟩ := o2 hf
  obtain ⟨e6, hf⟩ := o2 hf
  obtain ⟨e7, hf⟩ := o2 hf
  obtain ⟨e8, hf⟩ := o2 hf
  obtain ⟨e9, hf⟩ := o2 hf
  obtain ⟨e10, hf⟩ := o2 hf
  obtain ⟨e11, hf⟩ := o2 hf
  obtain ⟨e12, hf⟩ := o2 hf
  obtain ⟨e13, hf⟩ := o2 hf
  obtain ⟨e14, hf⟩ := o2 hf
  have e15 := o1 hf
  have EF : Ff = F := frm_eq hfF (frm_c (e1).symm (frm_c (e2).symm (frm_c (e3).symm (frm_c (e4).symm (frm_c (e5).symm (frm_c (e6).symm (frm_c (e7).symm frm_n)))))))
  have EG : Gf = G := frm_eq hfG (frm_c (e8).symm frm_n)
  have EI : If = I := frm_eq hfI (frm_c (e9).symm (frm_c (e10).symm (frm_c (e11).symm (frm_c (e12).symm (frm_c (e13).symm frm_n)))))
  have EJ : Jf = J := frm_eq hfJ (frm_c (e14).symm (frm_c (e15).symm frm_n))
  exact ret_l X hS (by rw [EF, EG, EI, EJ]; exact hP) e0 dX8_taken_54
set_option maxHeartbeats 4000000 in
set_option maxRecDepth 100000 in
theorem t_X8_taken_b49 {p : Program} {l : Launch} {e : Env} {s : State} {m : MethodId} {args : Array Value} {below : List Frame} {meth : Method} {c : Code} {D : va_G} {a : Nat → Nat} {kc : Nat → ClassId} (X : cx 21 p s m args meth c D (tyM kc) a cX8_taken 4 RX8 (some .long))  {Ff : Nat → Int32} {Gf : Nat → Int64} {If : Nat → Nat → Int32} {Jf : Nat → Nat → Int64} {r : Int64} :
    ∀ (F : Nat → Int32) (G : Nat → Int64) (I : Nat → Nat → Int32) (J : Nat → Nat → Int64)  (H : Heap) (locs : List Loc) (ls : Array Slot), p_X8_taken_b49 (F 1) (F 2) (F 3) (F 4) (F 5) (F 6) (F 7) (F 8) (G 0) (I 4) (I 5) (I 6) (I 7) (I 8) (I 9) (I 10) (J 0) (J 1)  = some (r, (Ff 1), (Ff 2), (Ff 3), (Ff 4), (Ff 5), (Ff 6), (Ff 8), (Gf 0), (If 6), (If 7), (If 8), (If 9), (If 10), (Jf 0), (Jf 1)) → (∀ k, k ∉ ([1, 2, 3, 4, 5, 6, 8] : List Nat) → Ff k = F k) → (∀ k, k ∉ ([0] : List Nat) → Gf k = G k) → (∀ k, k ∉ ([6, 7, 8, 9, 10] : List Nat) → If k = I k) → (∀ k, k ∉ ([0, 1] : List Nat) → Jf k = J k) → va_P D vwCl (wM a kc F G I J) H → va_S (ad a 21 s.heap.size) s.heap H locs → lv_has ls 4 [(0, .ref (a 0))] → W p l e rm_X8_taken s m args below meth c H locs 0 0 (MQ below (Ql D (wM a kc Ff Gf If Jf) r (ad a 21 s.heap.size)) args s 0 0 (ad a 21 s.heap.size)) (F0 m 49 ls []) := by
  intro F G I J  H locs ls hf hfF hfG hfI hfJ hP hS hl
  unfold p_X8_taken_b49 at hf
  refine lv_bipush (v := (-2)) X.1 X.2.1 dX8_taken_49 (by decide) ?_
  obtain ⟨r51, ho, hf⟩ := b1_s hf
  refine call_sl (rest := []) X (c_X8_no (-2) ho) q_5_158 q_5_159 q_1_10 q_5_160 ok_X8_no rfl ⟨Nat.le_of_ble_eq_true rfl, Nat.le_of_ble_eq_true rfl⟩ rfl rfl hl.1 rfl (Nat.le_of_ble_eq_true rfl) dX8_taken_51 hP hS (fun H locs hP hS => ?_)
  exact t_X8_taken_b54 X F G I J r51 H locs ls hf hfF hfG hfI hfJ hP hS (lv_sub hl [0] rfl)
set_option maxHeartbeats 4000000 in
set_option maxRecDepth 100000 in
theorem t_X8_taken_b0 {p : Program} {l : Launch} {e : Env} {s : State} {m : MethodId} {args : Array Value} {below : List Frame} {meth : Method} {c : Code} {D : va_G} {a : Nat → Nat} {kc : Nat → ClassId} (X : cx 21 p s m args meth c D (tyM kc) a cX8_taken 4 RX8 (some .long))  {Ff : Nat → Int32} {Gf : Nat → Int64} {If : Nat → Nat → Int32} {Jf : Nat → Nat → Int64} {r : Int64} :
    ∀ (F : Nat → Int32) (G : Nat → Int64) (I : Nat → Nat → Int32) (J : Nat → Nat → Int64) (x1 : Int32) (x2 : Int32) (x3 : Int32) (H : Heap) (locs : List Loc) (ls : Array Slot), p_X8_taken_b0 (F 1) (F 2) (F 3) (F 4) (F 5) (F 6) (F 7) (F 8) (G 0) (I 4) (I 5) (I 6) (I 7) (I 8) (I 9) (I 10) (J 0) (J 1) x1 x2 x3 = some (r, (Ff 1), (Ff 2), (Ff 3), (Ff 4), (Ff 5), (Ff 6), (Ff 8), (Gf 0), (If 6), (If 7), (If 8), (If 9), (If 10), (Jf 0), (Jf 1)) → (∀ k, k ∉ ([1, 2, 3, 4, 5, 6, 8] : List Nat) → Ff k = F k) → (∀ k, k ∉ ([0] : List Nat) → Gf k = G k) → (∀ k, k ∉ ([6, 7, 8, 9, 10] : List Nat) → If k = I k) → (∀ k, k ∉ ([0, 1] : List Nat) → Jf k = J k) → va_P D vwCl (wM a kc F G I J) H → va_S (ad a 21 s.heap.size) s.heap H locs → lv_has ls 4 [(0, .ref (a 0)), (1, .int x1), (2, .int x2), (3, .int x3)] → W p l e rm_X8_taken s m args below meth c H locs 0 0 (MQ below (Ql D (wM a kc Ff Gf If Jf) r (ad a 21 s.heap.size)) args s 0 0 (ad a 21 s.heap.size)) (F0 m 0 ls []) := by
  intro F G I J x1 x2 x3 H locs ls hf hfF hfG hfI hfJ hP hS hl
  unfold p_X8_taken_b0 at hf
  refine lv_aload_n X.1 X.2.1 dX8_taken_0 rfl (lv_at hl 0 rfl) ?_
  obtain ⟨m_at_1, m_seats_1, m_rows_1, m_people_1, m_sorts_1, m_rowOf_1, m_own_1, m_kinds_1, ho, hf⟩ := b8_s hf
  refine call_vv (rest := []) X (c_X8_find F G I J X.2.2.2.2.2.2.2.1  ho) q_5_69 q_5_71 qs_yX8_find q_1_10 q_5_72 ok_X8_find rfl 0 rfl rfl ⟨Nat.le_of_ble_eq_true rfl, Nat.le_of_ble_eq_true rfl⟩ rfl rfl hl.1 rfl (Nat.le_of_ble_eq_true rfl) dX8_taken_1 hP hS (fun H locs hP hS => ?_)
  refine lv_iload_n X.1 X.2.1 dX8_taken_4 rfl (lv_at hl 1 rfl) ?_
  refine lv_i2l X.1 X.2.1 dX8_taken_5 rfl ?_
  refine lv_lconst (v := 0) X.1 X.2.1 dX8_taken_6 (by decide) ?_
  refine lv_aload_n X.1 X.2.1 dX8_taken_7 rfl (lv_at hl 0 rfl) ?_
  refine gM_0_12 (F := (va_up (va_up (va_up (va_up F 1 m_at_1) 2 m_seats_1) 3 m_rows_1) 4 m_people_1)) X (v := m_people_1) rfl q_4_121 dX8_taken_8 hP ?_
  refine lv_i2l X.1 X.2.1 dX8_taken_11 rfl ?_
  obtain ⟨r12, ho, hf⟩ := b1_s hf
  refine call_si (rest := []) X (c_X8_in x1.toInt64 0 m_people_1.toInt64 ho) q_4_226 q_4_227 q_1_10 q_4_228 ok_X8_in rfl ⟨Nat.le_of_ble_eq_true rfl, Nat.le_of_ble_eq_true rfl⟩ rfl rfl hl.1 rfl (Nat.le_of_ble_eq_true rfl) dX8_taken_12 hP hS (fun H locs hP hS => ?_)
  refine lv_if_eq (tgt := 49) X.1 X.2.1 dX8_taken_15 (by decide) (fun c15 => ?_) (fun c15 => ?_)
  · have hf := it_s hf c15
    exact t_X8_taken_b49 X (va_up (va_up (va_up (va_up F 1 m_at_1) 2 m_seats_1) 3 m_rows_1) 4 m_people_1) G (va_up (va_up (va_up (va_up I 6 m_sorts_1) 7 m_rowOf_1) 8 m_own_1) 9 m_kinds_1) J  H locs ls hf (frm_up (frm_up (frm_up (frm_up hfF (by decide)) (by decide)) (by decide)) (by decide)) hfG (frm_up (frm_up (frm_up (frm_up hfI (by decide)) (by decide)) (by decide)) (by decide)) hfJ hP hS (lv_sub hl [0] rfl)
  · have hf := ie_s hf c15
    refine lv_iload_n X.1 X.2.1 dX8_taken_18 rfl (lv_at hl 2 rfl) ?_
    refine lv_i2l X.1 X.2.1 dX8_taken_19 rfl ?_
    refine lv_lconst (v := 0) X.1 X.2.1 dX8_taken_20 (by decide) ?_
    refine lv_aload_n X.1 X.2.1 dX8_taken_21 rfl (lv_at hl 0 rfl) ?_
    obtain ⟨r22, ho, hf⟩ := b1_s hf
    refine call_vi (rest := [.long 0, .long x2.toInt64]) X (c_X8_whole (va_up (va_up (va_up (va_up F 1 m_at_1) 2 m_seats_1) 3 m_rows_1) 4 m_people_1) G (va_up (va_up (va_up (va_up I 6 m_sorts_1) 7 m_rowOf_1) 8 m_own_1) 9 m_kinds_1) J X.2.2.2.2.2.2.2.1  ho) q_5_121 q_5_123 qs_yX8_whole q_1_10 q_5_124 ok_X8_whole rfl 0 rfl rfl ⟨Nat.le_of_ble_eq_true rfl, Nat.le_of_ble_eq_true rfl⟩ rfl rfl hl.1 rfl (Nat.le_of_ble_eq_true rfl) dX8_taken_22 hP hS (fun H locs hP hS => ?_)
    refine lv_i2l X.1 X.2.1 dX8_taken_25 rfl ?_
    obtain ⟨r26, ho, hf⟩ := b1_s hf
    refine call_si (rest := []) X (c_X8_in x2.toInt64 0 r22.toInt64 ho) q_4_226 q_4_227 q_1_10 q_4_228 ok_X8_in rfl ⟨Nat.le_of_ble_eq_true rfl, Nat.le_of_ble_eq_true rfl⟩ rfl rfl hl.1 rfl (Nat.le_of_ble_eq_true rfl) dX8_taken_26 hP hS (fun H locs hP hS => ?_)
    refine lv_if_eq (tgt := 49) X.1 X.2.1 dX8_taken_29 (by decide) (fun c29 => ?_) (fun c29 => ?_)
    · have hf := it_s hf c29
      exact t_X8_taken_b49 X (va_up (va_up (va_up (va_up F 1 m_at_1) 2 m_seats_1) 3 m_rows_1) 4 m_people_1) G (va_up (va_up (va_up (va_up I 6 m_sorts_1) 7 m_rowOf_1) 8 m_own_1) 9 m_kinds_1) J  H locs ls hf (frm_up (frm_up (frm_up (frm_up hfF (by decide)) (by decide)) (by decide)) (by decide)) hfG (frm_up (frm_up (frm_up (frm_up hfI (by decide)) (by decide)) (by decide)) (by decide)) hfJ hP hS (lv_sub hl [0] rfl)
    · have hf := ie_s hf c29
      refine lv_iload_n X.1 X.2.1 dX8_taken_32 rfl (lv_at hl 3 rfl) ?_
      obtain ⟨r33, ho, hf⟩ := b1_s hf
      refine call_si (rest := []) X (c_X8_isTwo x3 ho) q_5_22 q_5_23 q_1_10 q_5_24 ok_X8_isTwo rfl ⟨Nat.le_of_ble_eq_true rfl, Nat.le_of_ble_eq_true rfl⟩ rfl rfl hl.1 rfl (Nat.le_of_ble_eq_true rfl) dX8_taken_33 hP hS (fun H locs hP hS => ?_)
      refine lv_if_eq (tgt := 49) X.1 X.2.1 dX8_taken_36 (by decide) (fun c36 => ?_) (fun c36 => ?_)
      · have hf := it_s hf c36
        exact t_X8_taken_b49 X (va_up (va_up (va_up (va_up F 1 m_at_1) 2 m_seats_1) 3 m_rows_1) 4 m_people_1) G (va_up (va_up (va_up (va_up I 6 m_sorts_1) 7 m_rowOf_1) 8 m_own_1) 9 m_kinds_1) J  H locs ls hf (frm_up (frm_up (frm_up (frm_up hfF (by decide)) (by decide)) (by decide)) (by decide)) hfG (frm_up (frm_up (frm_up (frm_up hfI (by decide)) (by decide)) (by decide)) (by decide)) hfJ hP hS (lv_sub hl [0] rfl)
      · have hf := ie_s hf c36
        refine lv_aload_n X.1 X.2.1 dX8_taken_39 rfl (lv_at hl 0 rfl) ?_
        refine lv_iload_n X.1 X.2.1 dX8_taken_40 rfl (lv_at hl 1 rfl) ?_
        refine lv_iload_n X.1 X.2.1 dX8_taken_41 rfl (lv_at hl 2 rfl) ?_
        refine lv_iload_n X.1 X.2.1 dX8_taken_42 rfl (lv_at hl 3 rfl) ?_
        obtain ⟨r43, m_loser_43, m_onlyWho_43, m_keptFree_43, m_all_43, m_keptSeat_43, m_ways_43, m_next_43, ho, hf⟩ := b8_s hf
        refine call_vl (rest := []) X (c_X8_takenOf (va_up (va_up (va_up (va_up F 1 m_at_1) 2 m_seats_1) 3 m_rows_1) 4 m_people_1) G (va_up (va_up (va_up (va_up I 6 m_sorts_1) 7 m_rowOf_1) 8 m_own_1) 9 m_kinds_1) J X.2.2.2.2.2.2.2.1 x1 x2 x3 ho) q_5_166 q_5_168 qs_yX8_takenOf q_1_10 q_5_169 ok_X8_takenOf rfl 0 rfl rfl ⟨Nat.le_of_ble_eq_true rfl, Nat.le_of_ble_eq_true rfl⟩ rfl rfl hl.1 rfl (Nat.le_of_ble_eq_true rfl) dX8_taken_43 hP hS (fun H locs hP hS => ?_)
        refine lv_goto (tgt := 54) X.1 X.2.1 dX8_taken_46 (by decide) ?_
        exact t_X8_taken_b54 X (va_up (va_up (va_up (va_up (va_up (va_up (va_up F 1 m_at_1) 2 m_seats_1) 3 m_rows_1) 4 m_people_1) 5 m_loser_43) 6 m_onlyWho_43) 8 m_keptFree_43) (va_up G 0 m_all_43) (va_up (va_up (va_up (va_up (va_up I 6 m_sorts_1) 7 m_rowOf_1) 8 m_own_1) 9 m_kinds_1) 10 m_keptSeat_43) (va_up (va_up J 0 m_ways_43) 1 m_next_43) r43 H locs ls hf (frm_up (frm_up (frm_up (frm_up (frm_up (frm_up (frm_up hfF (by decide)) (by decide)) (by decide)) (by decide)) (by decide)) (by decide)) (by decide)) (frm_up hfG (by decide)) (frm_up (frm_up (frm_up (frm_up (frm_up hfI (by decide)) (by decide)) (by decide)) (by decide)) (by decide)) (frm_up (frm_up hfJ (by decide)) (by decide)) hP hS (lv_sub hl [0] rfl)
set_option maxRecDepth 100000 in
theorem c_X8_taken {l : Launch} {D : va_G} {a : Nat → Nat} {kc : Nat → ClassId} (F : Nat → Int32) (G : Nat → Int64) (I : Nat → Nat → Int32) (J : Nat → Nat → Int64) (hAp : ∀ i j, i < 21 → j < 21 → a i = a j → i = j) (x1 : Int32) (x2 : Int32) (x3 : Int32) {o0 : Int64} {o1 : Int32} {o2 : Int32} {o3 : Int32} {o4 : Int32} {o5 : Int32} {o6 : Int32} {o7 : Int32} {o8 : Int64} {o9 : Nat → Int32} {o10 : Nat → Int32} {o11 : Nat → Int32} {o12 : Nat → Int32} {o13 : Nat → Int32} {o14 : Nat → Int64} {o15 : Nat → Int64} (hf : p_X8_taken (F 1) (F 2) (F 3) (F 4) (F 5) (F 6) (F 7) (F 8) (G 0) (I 4) (I 5) (I 6) (I 7) (I 8) (I 9) (I 10) (J 0) (J 1) x1 x2 x3 = some (o0, o1, o2, o3, o4, o5, o6, o7, o8, o9, o10, o11, o12, o13, o14, o15)) : Ct 21 l yX8_taken cX8_taken 4 (some .long) rm_X8_taken D (tyM kc) a (wM a kc F G I J) [.ref (a 0), .int x1, .int x2, .int x3] (Ql D (wM a kc (va_up (va_up (va_up (va_up (va_up (va_up (va_up F 1 o1) 2 o2) 3 o3) 4 o4) 5 o5) 6 o6) 8 o7) (va_up G 0 o8) (va_up (va_up (va_up (va_up (va_up I 6 o9) 7 o10) 8 o11) 9 o12) 10 o13) (va_up (va_up J 0 o14) 1 o15)) o0) :=
  Ct.of (by decide +kernel) hAp (Nat.le_of_ble_eq_true rfl) (fun p e s m args below meth c ls X hP hl => t_X8_taken_b0 X F G I J x1 x2 x3 _ _ _ hf (frm_ul (frm_ul (frm_ul (frm_ul (frm_ul (frm_ul (frm_ul (fun k _ => rfl) (by decide)) (by decide)) (by decide)) (by decide)) (by decide)) (by decide)) (by decide)) (frm_ul (fun k _ => rfl) (by decide)) (frm_ul (frm_ul (frm_ul (frm_ul (frm_ul (fun k _ => rfl) (by decide)) (by decide)) (by decide)) (by decide)) (by decide)) (frm_ul (frm_ul (fun k _ => rfl) (by decide)) (by decide)) hP va_S.rf hl)
abbrev rm_X8_rightByOrder : Room := { frames := 4, cells := 0, slots := 0, locals := 98 }
set_option maxHeartbeats 4000000 in
set_option maxRecDepth 100000 in
theorem t_X8_rightByOrder_b13x {p : Program} {l : Launch} {e : Env} {s : State} {m : MethodId} {args : Array Value} {below : List Frame} {meth : Method} {c : Code} {D : va_G} {a : Nat → Nat} {kc : Nat → ClassId} (X : cx 21 p s m args meth c D (tyM kc) a cX8_rightByOrder 8 RX8 (some .long))  {Ff : Nat → Int32} {Gf : Nat → Int64} {If : Nat → Nat → Int32} {Jf : Nat → Nat → Int64} {r : Int64} {K13 : Int32 → Int32 → Int32 → Int32 → Int32 → Int64 → (Nat → Int32) → (Nat → Int32) → (Nat → Int32) → (Nat → Int32) → (Nat → Int32) → (Nat → Int64) → (Nat → Int64) → Int32 → Int64 → Int32 → Option (Int64 × Int32 × Int32 × Int32 × Int64 × (Nat → Int32) × (Nat → Int64) × (Nat → Int64))} (kh13 : ∀ (F : Nat → Int32) (G : Nat → Int64) (I : Nat → Nat → Int32) (J : Nat → Nat → Int64) (x1 : Int32) (x2 : Int64) (x4 : Int32) (H : Heap) (locs : List Loc) (ls : Array Slot), K13 (F 2) (F 5) (F 6) (F 7) (F 8) (G 0) (I 6) (I 8) (I 9) (I 10) (I 11) (J 0) (J 1) x1 x2 x4 = some (r, (Ff 5), (Ff 6), (Ff 8), (Gf 0), (If 10), (Jf 0), (Jf 1)) → (∀ k, k ∉ ([5, 6, 8] : List Nat) → Ff k = F k) → (∀ k, k ∉ ([0] : List Nat) → Gf k = G k) → (∀ k, k ∉ ([10] : List Nat) → If k = I k) → (∀ k, k ∉ ([0, 1] : List Nat) → Jf k = J k) → va_P D vwCl (wM a kc F G I J) H → va_S (ad a 21 s.heap.size) s.heap H locs → lv_has ls 8 [(0, .ref (a 0)), (1, .int x1), (2, .long x2), (4, .int x4)] → W p l e rm_X8_rightByOrder s m args below meth c H locs 0 0 (MQ below (Ql D (wM a kc Ff Gf If Jf) r (ad a 21 s.heap.size)) args s 0 0 (ad a 21 s.heap.size)) (F0 m 13 ls [])) :
    ∀ (F : Nat → Int32) (G : Nat → Int64) (I : Nat → Nat → Int32) (J : Nat → Nat → Int64) (x1 : Int32) (x2 : Int64) (x4 : Int32) (H : Heap) (locs : List Loc) (ls : Array Slot), p_X8_rightByOrder_b13x K13 (F 2) (F 5) (F 6) (F 7) (F 8) (G 0) (I 6) (I 8) (I 9) (I 10) (I 11) (J 0) (J 1) x1 x2 x4 = some (r, (Ff 5), (Ff 6), (Ff 8), (Gf 0), (If 10), (Jf 0), (Jf 1)) → (∀ k, k ∉ ([5, 6, 8] : List Nat) → Ff k = F k) → (∀ k, k ∉ ([0] : List Nat) → Gf k = G k) → (∀ k, k ∉ ([10] : List Nat) → If k = I k) → (∀ k, k ∉ ([0, 1] : List Nat) → Jf k = J k) → va_P D vwCl (wM a kc F G I J) H → va_S (ad a 21 s.heap.size) s.heap H locs → lv_has ls 8 [(0, .ref (a 0)), (1, .int x1), (2, .long x2), (4, .int x4)] → W p l e rm_X8_rightByOrder s m args below meth c H locs 0 0 (MQ below (Ql D (wM a kc Ff Gf If Jf) r (ad a 21 s.heap.size)) args s 0 0 (ad a 21 s.heap.size)) (F0 m 13 ls []) := by
  intro F G I J x1 x2 x4 H locs ls hf hfF hfG hfI hfJ hP hS hl
  unfold p_X8_rightByOrder_b13x at hf
  refine lv_iload X.1 X.2.1 dX8_rightByOrder_13 (lv_at hl 3 rfl) ?_
  refine lv_iload_n X.1 X.2.1 dX8_rightByOrder_15 rfl (lv_at hl 1 rfl) ?_
  refine lv_icmp_ge (tgt := 75) X.1 X.2.1 dX8_rightByOrder_16 (by decide) (fun c16 => ?_) (fun c16 => ?_)
  · have hf := it_s hf c16
    refine lv_lload_n X.1 X.2.1 dX8_rightByOrder_75 rfl (lv_at hl 2 rfl) ?_
    obtain ⟨e0, hf⟩ := o2 hf
    obtain ⟨e1, hf⟩ := o2 hf
    obtain ⟨e2, hf⟩ := o2 hf
    obtain ⟨e3, hf⟩ := o2 hf
    obtain ⟨e4, hf⟩ := o2 hf
    obtain ⟨e5, hf⟩ := o2 hf
    obtain ⟨e6, hf⟩ := o2 hf
    have e7 := o1 hf
    have EF : Ff = F := frm_eq hfF (frm_c (e1).symm (frm_c (e2).symm (frm_c (e3).symm frm_n)))
    have EG : Gf = G := frm_eq hfG (frm_c (e4).symm frm_n)
    have EI : If = I := frm_eq hfI (frm_c (e5).symm frm_n)
    have EJ : Jf = J := frm_eq hfJ (frm_c (e6).symm (frm_c (e7).symm frm_n))
    exact ret_l X hS (by rw [EF, EG, EI, EJ]; exact hP) e0 dX8_rightByOrder_76
  · have hf := ie_s hf c16
    refine lv_aload_n X.1 X.2.1 dX8_rightByOrder_19 rfl (lv_at hl 0 rfl) ?_
    refine gM_0_23 X q_4_132 dX8_rightByOrder_20 hP ?_
    refine lv_iload X.1 X.2.1 dX8_rightByOrder_23 (lv_at hl 3 rfl) ?_
    obtain ⟨h25, hf⟩ := gd_s hf
    refine lM_14 (I := I) X (f := (I 11)) rfl h25 dX8_rightByOrder_25 hP ?_
    refine nm_i hf (fun x26 hf => ?_)
    refine lv_istore (lv' := [(5, .int x26), (0, .ref (a 0)), (1, .int x1), (2, .long x2), (4, .int x4)]) X.1 X.2.1 dX8_rightByOrder_26 hl (by decide) rfl (fun ls hl => ?_)
    refine lv_aload_n X.1 X.2.1 dX8_rightByOrder_28 rfl (lv_at hl 1 rfl) ?_
    refine gM_0_8 (F := F) X (v := (F 2)) rfl q_4_117 dX8_rightByOrder_29 hP ?_
    refine lv_iload X.1 X.2.1 dX8_rightByOrder_32 (lv_at hl 4 rfl) ?_
    refine lv_isub X.1 X.2.1 dX8_rightByOrder_34 ?_
    obtain ⟨r35, ho, hf⟩ := b1_s hf
    refine call_sl (rest := []) X (c_X8_partsOf ((F 2) - x4) ho) q_5_113 q_5_114 q_1_10 q_5_115 ok_X8_partsOf rfl ⟨Nat.le_of_ble_eq_true rfl, Nat.le_of_ble_eq_true rfl⟩ rfl rfl hl.1 rfl (Nat.le_of_ble_eq_true rfl) dX8_rightByOrder_35 hP hS (fun H locs hP hS => ?_)
    refine lv_lstore (lv' := [(6, .long r35), (5, .int x26), (0, .ref (a 0)), (1, .int x1), (2, .long x2), (4, .int x4)]) X.1 X.2.1 dX8_rightByOrder_38 hl (by decide) rfl (fun ls hl => ?_)
    refine lv_lload_n X.1 X.2.1 dX8_rightByOrder_40 rfl (lv_at hl 4 rfl) ?_
    refine lv_lload X.1 X.2.1 dX8_rightByOrder_41 (lv_at hl 0 rfl) ?_
    refine lv_lmul X.1 X.2.1 dX8_rightByOrder_43 ?_
    refine lv_aload_n X.1 X.2.1 dX8_rightByOrder_44 rfl (lv_at hl 2 rfl) ?_
    refine lv_iload X.1 X.2.1 dX8_rightByOrder_45 (lv_at hl 1 rfl) ?_
    refine lv_aload_n X.1 X.2.1 dX8_rightByOrder_47 rfl (lv_at hl 2 rfl) ?_
    refine gM_0_13 X q_4_122 dX8_rightByOrder_48 hP ?_
    refine lv_iload X.1 X.2.1 dX8_rightByOrder_51 (lv_at hl 1 rfl) ?_
    obtain ⟨h53, hf⟩ := gd_s hf
    refine lM_9 (I := I) X (f := (I 8)) rfl h53 dX8_rightByOrder_53 hP ?_
    refine lv_iload X.1 X.2.1 dX8_rightByOrder_54 (lv_at hl 5 rfl) ?_
    obtain ⟨r56, ho, hf⟩ := b1_s hf
    refine call_vl (rest := [.long (x2 * r35)]) X (c_X8_nextOn F G I J X.2.2.2.2.2.2.2.1 x26 ((I 8) x26.toNatClampNeg) x4 ho) q_5_151 q_5_153 qs_yX8_nextOn q_1_10 q_5_154 ok_X8_nextOn rfl 0 rfl rfl ⟨Nat.le_of_ble_eq_true rfl, Nat.le_of_ble_eq_true rfl⟩ rfl rfl hl.1 rfl (Nat.le_of_ble_eq_true rfl) dX8_rightByOrder_56 hP hS (fun H locs hP hS => ?_)
    refine lv_ladd X.1 X.2.1 dX8_rightByOrder_59 ?_
    refine nm_l hf (fun x60 hf => ?_)
    refine lv_lstore_n (lv' := [(2, .long x60), (6, .long r35), (5, .int x26), (0, .ref (a 0)), (1, .int x1), (4, .int x4)]) X.1 X.2.1 dX8_rightByOrder_60 rfl hl (by decide) rfl (fun ls hl => ?_)
    refine lv_aload_n X.1 X.2.1 dX8_rightByOrder_61 rfl (lv_at hl 3 rfl) ?_
    refine lv_iload X.1 X.2.1 dX8_rightByOrder_62 (lv_at hl 2 rfl) ?_
    refine lv_iload X.1 X.2.1 dX8_rightByOrder_64 (lv_at hl 5 rfl) ?_
    obtain ⟨m_all_66, m_ways_66, m_next_66, ho, hf⟩ := b3_s hf
    refine call_vv (rest := []) X (c_X8_sits F G I J X.2.2.2.2.2.2.2.1 x26 x4 ho) q_5_109 q_5_111 qs_yX8_sits q_1_10 q_5_112 ok_X8_sits rfl 0 rfl rfl ⟨Nat.le_of_ble_eq_true rfl, Nat.le_of_ble_eq_true rfl⟩ rfl rfl hl.1 rfl (Nat.le_of_ble_eq_true rfl) dX8_rightByOrder_66 hP hS (fun H locs hP hS => ?_)
    obtain ⟨x69, ex69, hf⟩ := nm_x hf
    refine lv_iinc (v := x69) (lv' := [(4, .int x69), (2, .long x60), (6, .long r35), (5, .int x26), (0, .ref (a 0)), (1, .int x1)]) X.1 X.2.1 dX8_rightByOrder_69 hl (k := 5) rfl ex69 (by decide) rfl (fun ls hl => ?_)
    refine lv_goto (tgt := 13) X.1 X.2.1 dX8_rightByOrder_72 (by decide) ?_
    exact kh13 F (va_up G 0 m_all_66) I (va_up (va_up J 0 m_ways_66) 1 m_next_66) x1 x60 x69 H locs ls hf hfF (frm_up hfG (by decide)) hfI (frm_up (frm_up hfJ (by decide)) (by decide)) hP hS (lv_sub hl [4, 5, 1, 0] rfl)
set_option maxRecDepth 100000 in
theorem t_X8_rightByOrder_b13 {p : Program} {l : Launch} {e : Env} {s : State} {m : MethodId} {args : Array Value} {below : List Frame} {meth : Method} {c : Code} {D : va_G} {a : Nat → Nat} {kc : Nat → ClassId} (X : cx 21 p s m args meth c D (tyM kc) a cX8_rightByOrder 8 RX8 (some .long))  {Ff : Nat → Int32} {Gf : Nat → Int64} {If : Nat → Nat → Int32} {Jf : Nat → Nat → Int64} {r : Int64} :
    ∀ (n : Nat) (F : Nat → Int32) (G : Nat → Int64) (I : Nat → Nat → Int32) (J : Nat → Nat → Int64) (x1 : Int32) (x2 : Int64) (x4 : Int32) (H : Heap) (locs : List Loc) (ls : Array Slot), p_X8_rightByOrder_b13 n (F 2) (F 5) (F 6) (F 7) (F 8) (G 0) (I 6) (I 8) (I 9) (I 10) (I 11) (J 0) (J 1) x1 x2 x4 = some (r, (Ff 5), (Ff 6), (Ff 8), (Gf 0), (If 10), (Jf 0), (Jf 1)) → (∀ k, k ∉ ([5, 6, 8] : List Nat) → Ff k = F k) → (∀ k, k ∉ ([0] : List Nat) → Gf k = G k) → (∀ k, k ∉ ([10] : List Nat) → If k = I k) → (∀ k, k ∉ ([0, 1] : List Nat) → Jf k = J k) → va_P D vwCl (wM a kc F G I J) H → va_S (ad a 21 s.heap.size) s.heap H locs → lv_has ls 8 [(0, .ref (a 0)), (1, .int x1), (2, .long x2), (4, .int x4)] → W p l e rm_X8_rightByOrder s m args below meth c H locs 0 0 (MQ below (Ql D (wM a kc Ff Gf If Jf) r (ad a 21 s.heap.size)) args s 0 0 (ad a 21 s.heap.size)) (F0 m 13 ls []) := by
  intro n
  induction n with
  | zero => intro F G I J x1 x2 x4 H locs ls hf hfF hfG hfI hfJ hP hS hl; exact (nos hf).elim
  | succ n ih => exact t_X8_rightByOrder_b13x X ih
set_option maxHeartbeats 4000000 in
set_option maxRecDepth 100000 in
theorem t_X8_rightByOrder_b0 {p : Program} {l : Launch} {e : Env} {s : State} {m : MethodId} {args : Array Value} {below : List Frame} {meth : Method} {c : Code} {D : va_G} {a : Nat → Nat} {kc : Nat → ClassId} (X : cx 21 p s m args meth c D (tyM kc) a cX8_rightByOrder 8 RX8 (some .long))  {Ff : Nat → Int32} {Gf : Nat → Int64} {If : Nat → Nat → Int32} {Jf : Nat → Nat → Int64} {r : Int64} :
    ∀ (F : Nat → Int32) (G : Nat → Int64) (I : Nat → Nat → Int32) (J : Nat → Nat → Int64) (x1 : Int32) (H : Heap) (locs : List Loc) (ls : Array Slot), p_X8_rightByOrder_b0 (F 2) (F 5) (F 6) (F 7) (F 8) (G 0) (I 6) (I 8) (I 9) (I 10) (I 11) (J 0) (J 1) x1 = some (r, (Ff 5), (Ff 6), (Ff 8), (Gf 0), (If 10), (Jf 0), (Jf 1)) → (∀ k, k ∉ ([5, 6, 8] : List Nat) → Ff k = F k) → (∀ k, k ∉ ([0] : List Nat) → Gf k = G k) → (∀ k, k ∉ ([10] : List Nat) → If k = I k) → (∀ k, k ∉ ([0, 1] : List Nat) → Jf k = J k) → va_P D vwCl (wM a kc F G I J) H → va_S (ad a 21 s.heap.size) s.heap H locs → lv_has ls 8 [(0, .ref (a 0)), (1, .int x1)] → W p l e rm_X8_rightByOrder s m args below meth c H locs 0 0 (MQ below (Ql D (wM a kc Ff Gf If Jf) r (ad a 21 s.heap.size)) args s 0 0 (ad a 21 s.heap.size)) (F0 m 0 ls []) := by
  intro F G I J x1 H locs ls hf hfF hfG hfI hfJ hP hS hl
  unfold p_X8_rightByOrder_b0 at hf
  refine lv_aload_n X.1 X.2.1 dX8_rightByOrder_0 rfl (lv_at hl 0 rfl) ?_
  obtain ⟨m_loser_1, m_onlyWho_1, m_keptFree_1, m_keptSeat_1, ho, hf⟩ := b4_s hf
  refine call_vv (rest := []) X (c_X8_noBounds F G I J X.2.2.2.2.2.2.2.1  ho) q_5_101 q_5_103 qs_yX8_noBounds q_1_10 q_5_104 ok_X8_noBounds rfl 0 rfl rfl ⟨Nat.le_of_ble_eq_true rfl, Nat.le_of_ble_eq_true rfl⟩ rfl rfl hl.1 rfl (Nat.le_of_ble_eq_true rfl) dX8_rightByOrder_1 hP hS (fun H locs hP hS => ?_)
  refine lv_aload_n X.1 X.2.1 dX8_rightByOrder_4 rfl (lv_at hl 0 rfl) ?_
  obtain ⟨m_all_5, m_ways_5, ho, hf⟩ := b2_s hf
  refine call_vv (rest := []) X (c_X8_begins (va_up (va_up (va_up F 5 m_loser_1) 6 m_onlyWho_1) 8 m_keptFree_1) G (va_up I 10 m_keptSeat_1) J X.2.2.2.2.2.2.2.1  ho) q_5_105 q_5_107 qs_yX8_begins q_1_10 q_5_108 ok_X8_begins rfl 0 rfl rfl ⟨Nat.le_of_ble_eq_true rfl, Nat.le_of_ble_eq_true rfl⟩ rfl rfl hl.1 rfl (Nat.le_of_ble_eq_true rfl) dX8_rightByOrder_5 hP hS (fun H locs hP hS => ?_)
  refine lv_lconst (v := 0) X.1 X.2.1 dX8_rightByOrder_8 (by decide) ?_
  refine lv_lstore_n (lv' := [(2, .long 0), (0, .ref (a 0)), (1, .int x1)]) X.1 X.2.1 dX8_rightByOrder_9 rfl hl (by decide) rfl (fun ls hl => ?_)
  refine lv_iconst (v := 0) X.1 X.2.1 dX8_rightByOrder_10 (by decide) ?_
  refine lv_istore (lv' := [(4, .int 0), (2, .long 0), (0, .ref (a 0)), (1, .int x1)]) X.1 X.2.1 dX8_rightByOrder_11 hl (by decide) rfl (fun ls hl => ?_)
  exact t_X8_rightByOrder_b13 X 4096 (va_up (va_up (va_up F 5 m_loser_1) 6 m_onlyWho_1) 8 m_keptFree_1) (va_up G 0 m_all_5) (va_up I 10 m_keptSeat_1) (va_up J 0 m_ways_5) x1 0 0 H locs ls hf (frm_up (frm_up (frm_up hfF (by decide)) (by decide)) (by decide)) (frm_up hfG (by decide)) (frm_up hfI (by decide)) (frm_up hfJ (by decide)) hP hS (lv_sub hl [2, 3, 1, 0] rfl)
set_option maxRecDepth 100000 in
theorem c_X8_rightByOrder {l : Launch} {D : va_G} {a : Nat → Nat} {kc : Nat → ClassId} (F : Nat → Int32) (G : Nat → Int64) (I : Nat → Nat → Int32) (J : Nat → Nat → Int64) (hAp : ∀ i j, i < 21 → j < 21 → a i = a j → i = j) (x1 : Int32) {o0 : Int64} {o1 : Int32} {o2 : Int32} {o3 : Int32} {o4 : Int64} {o5 : Nat → Int32} {o6 : Nat → Int64} {o7 : Nat → Int64} (hf : p_X8_rightByOrder (F 2) (F 5) (F 6) (F 7) (F 8) (G 0) (I 6) (I 8) (I 9) (I 10) (I 11) (J 0) (J 1) x1 = some (o0, o1, o2, o3, o4, o5, o6, o7)) : Ct 21 l yX8_rightByOrder cX8_rightByOrder 8 (some .long) rm_X8_rightByOrder D (tyM kc) a (wM a kc F G I J) [.ref (a 0), .int x1] (Ql D (wM a kc (va_up (va_up (va_up F 5 o1) 6 o2) 8 o3) (va_up G 0 o4) (va_up I 10 o5) (va_up (va_up J 0 o6) 1 o7)) o0) :=
  Ct.of (by decide +kernel) hAp (Nat.le_of_ble_eq_true rfl) (fun p e s m args below meth c ls X hP hl => t_X8_rightByOrder_b0 X F G I J x1 _ _ _ hf (frm_ul (frm_ul (frm_ul (fun k _ => rfl) (by decide)) (by decide)) (by decide)) (frm_ul (fun k _ => rfl) (by decide)) (frm_ul (fun k _ => rfl) (by decide)) (frm_ul (frm_ul (fun k _ => rfl) (by decide)) (by decide)) hP va_S.rf hl)
abbrev rm_X8_asTheyCome : Room := { frames := 0, cells := 0, slots := 0, locals := 0 }
set_option maxHeartbeats 4000000 in
set_option maxRecDepth 100000 in
theorem t_X8_asTheyCome_b2x {p : Program} {l : Launch} {e : Env} {s : State} {m : MethodId} {args : Array Value} {below : List Frame} {meth : Method} {c : Code} {D : va_G} {a : Nat → Nat} {kc : Nat → ClassId} (X : cx 21 p s m args meth c D (tyM kc) a cX8_asTheyCome 2 RX8 none) {F : Nat → Int32} {G : Nat → Int64} {J : Nat → Nat → Int64} {If : Nat → Nat → Int32}  {K2 : Int32 → (Nat → Int32) → Int32 → Option ((Nat → Int32))} (kh2 : ∀ (I : Nat → Nat → Int32) (x1 : Int32) (H : Heap) (locs : List Loc) (ls : Array Slot), K2 (F 4) (I 11) x1 = some (If 11) → (∀ k, k ∉ ([11] : List Nat) → If k = I k) → va_P D vwCl (wM a kc F G I J) H → va_S (ad a 21 s.heap.size) s.heap H locs → lv_has ls 2 [(0, .ref (a 0)), (1, .int x1)] → W p l e rm_X8_asTheyCome s m args below meth c H locs 0 0 (MQ below (Qv D (wM a kc F G If J) (ad a 21 s.heap.size)) args s 0 0 (ad a 21 s.heap.size)) (F0 m 2 ls [])) :
    ∀ (I : Nat → Nat → Int32) (x1 : Int32) (H : Heap) (locs : List Loc) (ls : Array Slot), p_X8_asTheyCome_b2x K2 (F 4) (I 11) x1 = some (If 11) → (∀ k, k ∉ ([11] : List Nat) → If k = I k) → va_P D vwCl (wM a kc F G I J) H → va_S (ad a 21 s.heap.size) s.heap H locs → lv_has ls 2 [(0, .ref (a 0)), (1, .int x1)] → W p l e rm_X8_asTheyCome s m args below meth c H locs 0 0 (MQ below (Qv D (wM a kc F G If J) (ad a 21 s.heap.size)) args s 0 0 (ad a 21 s.heap.size)) (F0 m 2 ls []) := by
  intro I x1 H locs ls hf hfI hP hS hl
  unfold p_X8_asTheyCome_b2x at hf
  refine lv_iload_n X.1 X.2.1 dX8_asTheyCome_2 rfl (lv_at hl 1 rfl) ?_
  refine lv_aload_n X.1 X.2.1 dX8_asTheyCome_3 rfl (lv_at hl 0 rfl) ?_
  refine gM_0_12 (F := F) X (v := (F 4)) rfl q_4_121 dX8_asTheyCome_4 hP ?_
  refine lv_icmp_ge (tgt := 23) X.1 X.2.1 dX8_asTheyCome_7 (by decide) (fun c7 => ?_) (fun c7 => ?_)
  · have hf := it_s hf c7
    have e0 := o1 hf
    have EI : If = I := frm_eq hfI (frm_c (e0).symm frm_n)
    exact ret_v X hS (by rw [EI]; exact hP) dX8_asTheyCome_23
  · have hf := ie_s hf c7
    refine lv_aload_n X.1 X.2.1 dX8_asTheyCome_10 rfl (lv_at hl 0 rfl) ?_
    refine gM_0_23 X q_4_132 dX8_asTheyCome_11 hP ?_
    refine lv_iload_n X.1 X.2.1 dX8_asTheyCome_14 rfl (lv_at hl 1 rfl) ?_
    refine lv_iload_n X.1 X.2.1 dX8_asTheyCome_15 rfl (lv_at hl 1 rfl) ?_
    obtain ⟨h16, hf⟩ := gd_s hf
    obtain ⟨m_order_16, em_order_16, hf⟩ := nm_x hf
    refine sM_14 (I := I) X h16 em_order_16 dX8_asTheyCome_16 hP hS (fun H locs hP hS => ?_)
    obtain ⟨x17, ex17, hf⟩ := nm_x hf
    refine lv_iinc (v := x17) (lv' := [(1, .int x17), (0, .ref (a 0))]) X.1 X.2.1 dX8_asTheyCome_17 hl (k := 1) rfl ex17 (by decide) rfl (fun ls hl => ?_)
    refine lv_goto (tgt := 2) X.1 X.2.1 dX8_asTheyCome_20 (by decide) ?_
    exact kh2 (va_up I 11 m_order_16) x17 H locs ls hf (frm_up hfI (by decide)) hP hS (lv_sub hl [1, 0] rfl)
set_option maxRecDepth 100000 in
theorem t_X8_asTheyCome_b2 {p : Program} {l : Launch} {e : Env} {s : State} {m : MethodId} {args : Array Value} {below : List Frame} {meth : Method} {c : Code} {D : va_G} {a : Nat → Nat} {kc : Nat → ClassId} (X : cx 21 p s m args meth c D (tyM kc) a cX8_asTheyCome 2 RX8 none) {F : Nat → Int32} {G : Nat → Int64} {J : Nat → Nat → Int64} {If : Nat → Nat → Int32}  :
    ∀ (n : Nat) (I : Nat → Nat → Int32) (x1 : Int32) (H : Heap) (locs : List Loc) (ls : Array Slot), p_X8_asTheyCome_b2 n (F 4) (I 11) x1 = some (If 11) → (∀ k, k ∉ ([11] : List Nat) → If k = I k) → va_P D vwCl (wM a kc F G I J) H → va_S (ad a 21 s.heap.size) s.heap H locs → lv_has ls 2 [(0, .ref (a 0)), (1, .int x1)] → W p l e rm_X8_asTheyCome s m args below meth c H locs 0 0 (MQ below (Qv D (wM a kc F G If J) (ad a 21 s.heap.size)) args s 0 0 (ad a 21 s.heap.size)) (F0 m 2 ls []) := by
  intro n
  induction n with
  | zero => intro I x1 H locs ls hf hfI hP hS hl; exact (nos hf).elim
  | succ n ih => exact t_X8_asTheyCome_b2x X ih
set_option maxHeartbeats 4000000 in
set_option maxRecDepth 100000 in
theorem t_X8_asTheyCome_b0 {p : Program} {l : Launch} {e : Env} {s : State} {m : MethodId} {args : Array Value} {below : List Frame} {meth : Method} {c : Code} {D : va_G} {a : Nat → Nat} {kc : Nat → ClassId} (X : cx 21 p s m args meth c D (tyM kc) a cX8_asTheyCome 2 RX8 none) {F : Nat → Int32} {G : Nat → Int64} {J : Nat → Nat → Int64} {If : Nat → Nat → Int32}  :
    ∀ (I : Nat → Nat → Int32)  (H : Heap) (locs : List Loc) (ls : Array Slot), p_X8_asTheyCome_b0 (F 4) (I 11)  = some (If 11) → (∀ k, k ∉ ([11] : List Nat) → If k = I k) → va_P D vwCl (wM a kc F G I J) H → va_S (ad a 21 s.heap.size) s.heap H locs → lv_has ls 2 [(0, .ref (a 0))] → W p l e rm_X8_asTheyCome s m args below meth c H locs 0 0 (MQ below (Qv D (wM a kc F G If J) (ad a 21 s.heap.size)) args s 0 0 (ad a 21 s.heap.size)) (F0 m 0 ls []) := by
  intro I  H locs ls hf hfI hP hS hl
  unfold p_X8_asTheyCome_b0 at hf
  refine lv_iconst (v := 0) X.1 X.2.1 dX8_asTheyCome_0 (by decide) ?_
  refine lv_istore_n (lv' := [(1, .int 0), (0, .ref (a 0))]) X.1 X.2.1 dX8_asTheyCome_1 rfl hl (by decide) rfl (fun ls hl => ?_)
  exact t_X8_asTheyCome_b2 X 4096 I 0 H locs ls hf hfI hP hS (lv_sub hl [1, 0] rfl)
set_option maxRecDepth 100000 in
theorem c_X8_asTheyCome {l : Launch} {D : va_G} {a : Nat → Nat} {kc : Nat → ClassId} (F : Nat → Int32) (G : Nat → Int64) (I : Nat → Nat → Int32) (J : Nat → Nat → Int64) (hAp : ∀ i j, i < 21 → j < 21 → a i = a j → i = j)  {o0 : Nat → Int32} (hf : p_X8_asTheyCome (F 4) (I 11)  = some o0) : Ct 21 l yX8_asTheyCome cX8_asTheyCome 2 none rm_X8_asTheyCome D (tyM kc) a (wM a kc F G I J) [.ref (a 0)] (Qv D (wM a kc F G (va_up I 11 o0) J)) :=
  Ct.of (by decide +kernel) hAp (Nat.le_of_ble_eq_true rfl) (fun p e s m args below meth c ls X hP hl => t_X8_asTheyCome_b0 X I  _ _ _ hf (frm_ul (fun k _ => rfl) (by decide)) hP va_S.rf hl)
abbrev rm_X8_meanOf : Room := { frames := 5, cells := 0, slots := 0, locals := 125 }
set_option maxHeartbeats 4000000 in
set_option maxRecDepth 100000 in
theorem t_X8_meanOf_b0 {p : Program} {l : Launch} {e : Env} {s : State} {m : MethodId} {args : Array Value} {below : List Frame} {meth : Method} {c : Code} {D : va_G} {a : Nat → Nat} {kc : Nat → ClassId} (X : cx 21 p s m args meth c D (tyM kc) a cX8_meanOf 4 RX8 (some .long))  {Ff : Nat → Int32} {Gf : Nat → Int64} {If : Nat → Nat → Int32} {Jf : Nat → Nat → Int64} {r : Int64} :
    ∀ (F : Nat → Int32) (G : Nat → Int64) (I : Nat → Nat → Int32) (J : Nat → Nat → Int64) (x1 : Int32) (H : Heap) (locs : List Loc) (ls : Array Slot), p_X8_meanOf_b0 (F 2) (F 4) (F 5) (F 6) (F 7) (F 8) (G 0) (I 6) (I 8) (I 9) (I 10) (I 11) (J 0) (J 1) x1 = some (r, (Ff 5), (Ff 6), (Ff 8), (Gf 0), (If 10), (If 11), (Jf 0), (Jf 1)) → (∀ k, k ∉ ([5, 6, 8] : List Nat) → Ff k = F k) → (∀ k, k ∉ ([0] : List Nat) → Gf k = G k) → (∀ k, k ∉ ([10, 11] : List Nat) → If k = I k) → (∀ k, k ∉ ([0, 1] : List Nat) → Jf k = J k) → va_P D vwCl (wM a kc F G I J) H → va_S (ad a 21 s.heap.size) s.heap H locs → lv_has ls 4 [(0, .ref (a 0)), (1, .int x1)] → W p l e rm_X8_meanOf s m args below meth c H locs 0 0 (MQ below (Ql D (wM a kc Ff Gf If Jf) r (ad a 21 s.heap.size)) args s 0 0 (ad a 21 s.heap.size)) (F0 m 0 ls []) := by
  intro F G I J x1 H locs ls hf hfF hfG hfI hfJ hP hS hl
  unfold p_X8_meanOf_b0 at hf
  refine lv_aload_n X.1 X.2.1 dX8_meanOf_0 rfl (lv_at hl 0 rfl) ?_
  obtain ⟨m_order_1, ho, hf⟩ := b1_s hf
  refine call_vv (rest := []) X (c_X8_asTheyCome F G I J X.2.2.2.2.2.2.2.1  ho) q_5_179 q_5_181 qs_yX8_asTheyCome q_1_10 q_5_182 ok_X8_asTheyCome rfl 0 rfl rfl ⟨Nat.le_of_ble_eq_true rfl, Nat.le_of_ble_eq_true rfl⟩ rfl rfl hl.1 rfl (Nat.le_of_ble_eq_true rfl) dX8_meanOf_1 hP hS (fun H locs hP hS => ?_)
  refine lv_aload_n X.1 X.2.1 dX8_meanOf_4 rfl (lv_at hl 0 rfl) ?_
  refine lv_aload_n X.1 X.2.1 dX8_meanOf_5 rfl (lv_at hl 0 rfl) ?_
  refine gM_0_12 (F := F) X (v := (F 4)) rfl q_4_121 dX8_meanOf_6 hP ?_
  obtain ⟨r9, m_loser_9, m_onlyWho_9, m_keptFree_9, m_all_9, m_keptSeat_9, m_ways_9, m_next_9, ho, hf⟩ := b8_s hf
  refine call_vl (rest := []) X (c_X8_rightByOrder F G (va_up I 11 m_order_1) J X.2.2.2.2.2.2.2.1 (F 4) ho) q_5_183 q_5_185 qs_yX8_rightByOrder q_1_10 q_5_186 ok_X8_rightByOrder rfl 0 rfl rfl ⟨Nat.le_of_ble_eq_true rfl, Nat.le_of_ble_eq_true rfl⟩ rfl rfl hl.1 rfl (Nat.le_of_ble_eq_true rfl) dX8_meanOf_9 hP hS (fun H locs hP hS => ?_)
  refine lv_lstore_n (lv' := [(2, .long r9), (0, .ref (a 0)), (1, .int x1)]) X.1 X.2.1 dX8_meanOf_12 rfl hl (by decide) rfl (fun ls hl => ?_)
  refine lv_aload_n X.1 X.2.1 dX8_meanOf_13 rfl (lv_at hl 1 rfl) ?_
  refine gM_0_12 (F := (va_up (va_up (va_up F 5 m_loser_9) 6 m_onlyWho_9) 8 m_keptFree_9)) X (v := (F 4)) rfl q_4_121 dX8_meanOf_14 hP ?_
  refine lv_i2l X.1 X.2.1 dX8_meanOf_17 rfl ?_
  refine lv_aload_n X.1 X.2.1 dX8_meanOf_18 rfl (lv_at hl 1 rfl) ?_
  refine gM_0_17 (G := (va_up G 0 m_all_9)) X (v := m_all_9) rfl q_4_126 dX8_meanOf_19 hP ?_
  refine lv_lmul X.1 X.2.1 dX8_meanOf_22 ?_
  refine lv_lload_n X.1 X.2.1 dX8_meanOf_23 rfl (lv_at hl 0 rfl) ?_
  refine lv_lsub X.1 X.2.1 dX8_meanOf_24 ?_
  refine lv_aload_n X.1 X.2.1 dX8_meanOf_25 rfl (lv_at hl 1 rfl) ?_
  refine gM_0_17 (G := (va_up G 0 m_all_9)) X (v := m_all_9) rfl q_4_126 dX8_meanOf_26 hP ?_
  refine lv_iload_n X.1 X.2.1 dX8_meanOf_29 rfl (lv_at hl 2 rfl) ?_
  obtain ⟨r30, ho, hf⟩ := b1_s hf
  refine call_sl (rest := []) X (c_X8_part (((F 4).toInt64 * m_all_9) - r9) m_all_9 x1 ho) q_5_155 q_5_156 q_1_10 q_5_157 ok_X8_part rfl ⟨Nat.le_of_ble_eq_true rfl, Nat.le_of_ble_eq_true rfl⟩ rfl rfl hl.1 rfl (Nat.le_of_ble_eq_true rfl) dX8_meanOf_30 hP hS (fun H locs hP hS => ?_)
  obtain ⟨e0, hf⟩ := o2 hf
  obtain ⟨e1, hf⟩ := o2 hf
  obtain ⟨e2, hf⟩ := o2 hf
  obtain ⟨e3, hf⟩ := o2 hf
  obtain ⟨e4, hf⟩ := o2 hf
  obtain ⟨e5, hf⟩ := o2 hf
  obtain ⟨e6, hf⟩ := o2 hf
  obtain ⟨e7, hf⟩ := o2 hf
  have e8 := o1 hf
  have EF : Ff = (va_up (va_up (va_up F 5 m_loser_9) 6 m_onlyWho_9) 8 m_keptFree_9) := frm_eq (frm_up (frm_up (frm_up hfF (by decide)) (by decide)) (by decide)) (frm_c (e1).symm (frm_c (e2).symm (frm_c (e3).symm frm_n)))
  have EG : Gf = (va_up G 0 m_all_9) := frm_eq (frm_up hfG (by decide)) (frm_c (e4).symm frm_n)
  have EI : If = (va_up (va_up I 11 m_order_1) 10 m_keptSeat_9) := frm_eq (frm_up (frm_up hfI (by decide)) (by decide)) (frm_c (e5).symm (frm_c (e6).symm frm_n))
  have EJ : Jf = (va_up (va_up J 0 m_ways_9) 1 m_next_9) := frm_eq (frm_up (frm_up hfJ (by decide)) (by decide)) (frm_c (e7).symm (frm_c (e8).symm frm_n))
  exact ret_l X hS (by rw [EF, EG, EI, EJ]; exact hP) e0 dX8_meanOf_33
set_option maxRecDepth 100000 in
theorem c_X8_meanOf {l : Launch} {D : va_G} {a : Nat → Nat} {kc : Nat → ClassId} (F : Nat → Int32) (G : Nat → Int64) (I : Nat → Nat → Int32) (J : Nat → Nat → Int64) (hAp : ∀ i j, i < 21 → j < 21 → a i = a j → i = j) (x1 : Int32) {o0 : Int64} {o1 : Int32} {o2 : Int32} {o3 : Int32} {o4 : Int64} {o5 : Nat → Int32} {o6 : Nat → Int32} {o7 : Nat → Int64} {o8 : Nat → Int64} (hf : p_X8_meanOf (F 2) (F 4) (F 5) (F 6) (F 7) (F 8) (G 0) (I 6) (I 8) (I 9) (I 10) (I 11) (J 0) (J 1) x1 = some (o0, o1, o2, o3, o4, o5, o6, o7, o8)) : Ct 21 l yX8_meanOf cX8_meanOf 4 (some .long) rm_X8_meanOf D (tyM kc) a (wM a kc F G I J) [.ref (a 0), .int x1] (Ql D (wM a kc (va_up (va_up (va_up F 5 o1) 6 o2) 8 o3) (va_up G 0 o4) (va_up (va_up I 10 o5) 11 o6) (va_up (va_up J 0 o7) 1 o8)) o0) :=
  Ct.of (by decide +kernel) hAp (Nat.le_of_ble_eq_true rfl) (fun p e s m args below meth c ls X hP hl => t_X8_meanOf_b0 X F G I J x1 _ _ _ hf (frm_ul (frm_ul (frm_ul (fun k _ => rfl) (by decide)) (by decide)) (by decide)) (frm_ul (fun k _ => rfl) (by decide)) (frm_ul (frm_ul (fun k _ => rfl) (by decide)) (by decide)) (frm_ul (frm_ul (fun k _ => rfl) (by decide)) (by decide)) hP va_S.rf hl)
abbrev rm_X8_justOf : Room := { frames := 3, cells := 0, slots := 0, locals := 69 }
set_option maxHeartbeats 4000000 in
set_option maxRecDepth 100000 in
theorem t_X8_justOf_b303 {p : Program} {l : Launch} {e : Env} {s : State} {m : MethodId} {args : Array Value} {below : List Frame} {meth : Method} {c : Code} {D : va_G} {a : Nat → Nat} {kc : Nat → ClassId} (X : cx 21 p s m args meth c D (tyM kc) a cX8_justOf 12 RX8 (some .long)) {G : Nat → Int64} {Ff : Nat → Int32} {If : Nat → Nat → Int32} {Jf : Nat → Nat → Int64} {r : Int64} {K273 : Int32 → Int32 → Int32 → Int32 → Int32 → (Nat → Int32) → (Nat → Int32) → (Nat → Int32) → (Nat → Int32) → (Nat → Int64) → (Nat → Int64) → Int32 → Int32 → Int64 → Int64 → Int32 → Option (Int64 × Int32 × Int32 × Int32 × (Nat → Int32) × (Nat → Int64) × (Nat → Int64))} (kh273 : ∀ (F : Nat → Int32) (I : Nat → Nat → Int32) (J : Nat → Nat → Int64) (x1 : Int32) (x2 : Int32) (x3 : Int64) (x5 : Int64) (x7 : Int32) (H : Heap) (locs : List Loc) (ls : Array Slot), K273 (F 2) (F 4) (F 5) (F 6) (F 8) (I 6) (I 8) (I 9) (I 10) (J 2) (J 3) x1 x2 x3 x5 x7 = some (r, (Ff 5), (Ff 6), (Ff 8), (If 10), (Jf 2), (Jf 3)) → (∀ k, k ∉ ([5, 6, 8] : List Nat) → Ff k = F k) → (∀ k, k ∉ ([10] : List Nat) → If k = I k) → (∀ k, k ∉ ([2, 3] : List Nat) → Jf k = J k) → va_P D vwCl (wM a kc F G I J) H → va_S (ad a 21 s.heap.size) s.heap H locs → lv_has ls 12 [(0, .ref (a 0)), (1, .int x1), (2, .int x2), (3, .long x3), (5, .long x5), (7, .int x7)] → W p l e rm_X8_justOf s m args below meth c H locs 0 0 (MQ below (Ql D (wM a kc Ff G If Jf) r (ad a 21 s.heap.size)) args s 0 0 (ad a 21 s.heap.size)) (F0 m 273 ls [])) :
    ∀ (F : Nat → Int32) (I : Nat → Nat → Int32) (J : Nat → Nat → Int64) (t0 : Int64) (t1 : Int64) (x1 : Int32) (x2 : Int32) (x3 : Int64) (x7 : Int32) (H : Heap) (locs : List Loc) (ls : Array Slot), p_X8_justOf_b303 K273 (F 2) (F 4) (F 5) (F 6) (F 8) (I 6) (I 8) (I 9) (I 10) (J 2) (J 3) t0 t1 x1 x2 x3 x7 = some (r, (Ff 5), (Ff 6), (Ff 8), (If 10), (Jf 2), (Jf 3)) → (∀ k, k ∉ ([5, 6, 8] : List Nat) → Ff k = F k) → (∀ k, k ∉ ([10] : List Nat) → If k = I k) → (∀ k, k ∉ ([2, 3] : List Nat) → Jf k = J k) → va_P D vwCl (wM a kc F G I J) H → va_S (ad a 21 s.heap.size) s.heap H locs → lv_has ls 12 [(0, .ref (a 0)), (1, .int x1), (2, .int x2), (3, .long x3), (7, .int x7)] → W p l e rm_X8_justOf s m args below meth c H locs 0 0 (MQ below (Ql D (wM a kc Ff G If Jf) r (ad a 21 s.heap.size)) args s 0 0 (ad a 21 s.heap.size)) (F0 m 303 ls [.long t1, .long t0]) := by
  intro F I J t0 t1 x1 x2 x3 x7 H locs ls hf hfF hfI hfJ hP hS hl
  unfold p_X8_justOf_b303 at hf
  refine lv_ladd X.1 X.2.1 dX8_justOf_303 ?_
  refine nm_l hf (fun x304 hf => ?_)
  refine lv_lstore (lv' := [(5, .long x304), (0, .ref (a 0)), (1, .int x1), (2, .int x2), (3, .long x3), (7, .int x7)]) X.1 X.2.1 dX8_justOf_304 hl (by decide) rfl (fun ls hl => ?_)
  obtain ⟨x306, ex306, hf⟩ := nm_x hf
  refine lv_iinc (v := x306) (lv' := [(7, .int x306), (5, .long x304), (0, .ref (a 0)), (1, .int x1), (2, .int x2), (3, .long x3)]) X.1 X.2.1 dX8_justOf_306 hl (k := 5) rfl ex306 (by decide) rfl (fun ls hl => ?_)
  refine lv_goto (tgt := 273) X.1 X.2.1 dX8_justOf_309 (by decide) ?_
  exact kh273 F I J x1 x2 x3 x304 x306 H locs ls hf hfF hfI hfJ hP hS (lv_sub hl [2, 3, 4, 5, 1, 0] rfl)
set_option maxHeartbeats 4000000 in
set_option maxRecDepth 100000 in
theorem t_X8_justOf_b273x {p : Program} {l : Launch} {e : Env} {s : State} {m : MethodId} {args : Array Value} {below : List Frame} {meth : Method} {c : Code} {D : va_G} {a : Nat → Nat} {kc : Nat → ClassId} (X : cx 21 p s m args meth c D (tyM kc) a cX8_justOf 12 RX8 (some .long)) {G : Nat → Int64} {Ff : Nat → Int32} {If : Nat → Nat → Int32} {Jf : Nat → Nat → Int64} {r : Int64} {K273 : Int32 → Int32 → Int32 → Int32 → Int32 → (Nat → Int32) → (Nat → Int32) → (Nat → Int32) → (Nat → Int32) → (Nat → Int64) → (Nat → Int64) → Int32 → Int32 → Int64 → Int64 → Int32 → Option (Int64 × Int32 × Int32 × Int32 × (Nat → Int32) × (Nat → Int64) × (Nat → Int64))} (kh273 : ∀ (F : Nat → Int32) (I : Nat → Nat → Int32) (J : Nat → Nat → Int64) (x1 : Int32) (x2 : Int32) (x3 : Int64) (x5 : Int64) (x7 : Int32) (H : Heap) (locs : List Loc) (ls : Array Slot), K273 (F 2) (F 4) (F 5) (F 6) (F 8) (I 6) (I 8) (I 9) (I 10) (J 2) (J 3) x1 x2 x3 x5 x7 = some (r, (Ff 5), (Ff 6), (Ff 8), (If 10), (Jf 2), (Jf 3)) → (∀ k, k ∉ ([5, 6, 8] : List Nat) → Ff k = F k) → (∀ k, k ∉ ([10] : List Nat) → If k = I k) → (∀ k, k ∉ ([2, 3] : List Nat) → Jf k = J k) → va_P D vwCl (wM a kc F G I J) H → va_S (ad a 21 s.heap.size) s.heap H locs → lv_has ls 12 [(0, .ref (a 0)), (1, .int x1), (2, .int x2), (3, .long x3), (5, .long x5), (7, .int x7)] → W p l e rm_X8_justOf s m args below meth c H locs 0 0 (MQ below (Ql D (wM a kc Ff G If Jf) r (ad a 21 s.heap.size)) args s 0 0 (ad a 21 s.heap.size)) (F0 m 273 ls [])) :
    ∀ (F : Nat → Int32) (I : Nat → Nat → Int32) (J : Nat → Nat → Int64) (x1 : Int32) (x2 : Int32) (x3 : Int64) (x5 : Int64) (x7 : Int32) (H : Heap) (locs : List Loc) (ls : Array Slot), p_X8_justOf_b273x K273 (F 2) (F 4) (F 5) (F 6) (F 8) (I 6) (I 8) (I 9) (I 10) (J 2) (J 3) x1 x2 x3 x5 x7 = some (r, (Ff 5), (Ff 6), (Ff 8), (If 10), (Jf 2), (Jf 3)) → (∀ k, k ∉ ([5, 6, 8] : List Nat) → Ff k = F k) → (∀ k, k ∉ ([10] : List Nat) → If k = I k) → (∀ k, k ∉ ([2, 3] : List Nat) → Jf k = J k) → va_P D vwCl (wM a kc F G I J) H → va_S (ad a 21 s.heap.size) s.heap H locs → lv_has ls 12 [(0, .ref (a 0)), (1, .int x1), (2, .int x2), (3, .long x3), (5, .long x5), (7, .int x7)] → W p l e rm_X8_justOf s m args below meth c H locs 0 0 (MQ below (Ql D (wM a kc Ff G If Jf) r (ad a 21 s.heap.size)) args s 0 0 (ad a 21 s.heap.size)) (F0 m 273 ls []) := by
  intro F I J x1 x2 x3 x5 x7 H locs ls hf hfF hfI hfJ hP hS hl
  unfold p_X8_justOf_b273x at hf
  refine lv_iload X.1 X.2.1 dX8_justOf_273 (lv_at hl 5 rfl) ?_
  refine lv_sipush (v := 2304) X.1 X.2.1 dX8_justOf_275 (by decide) ?_
  refine lv_icmp_ge (tgt := 312) X.1 X.2.1 dX8_justOf_278 (by decide) (fun c278 => ?_) (fun c278 => ?_)
  · have hf := it_s hf c278
    refine lv_lload X.1 X.2.1 dX8_justOf_312 (lv_at hl 4 rfl) ?_
    refine lv_lload_n X.1 X.2.1 dX8_justOf_314 rfl (lv_at hl 3 rfl) ?_
    refine lv_iload_n X.1 X.2.1 dX8_justOf_315 rfl (lv_at hl 2 rfl) ?_
    obtain ⟨r316, ho, hf⟩ := b1_s hf
    refine call_sl (rest := []) X (c_X8_part x5 x3 x2 ho) q_5_155 q_5_156 q_1_10 q_5_157 ok_X8_part rfl ⟨Nat.le_of_ble_eq_true rfl, Nat.le_of_ble_eq_true rfl⟩ rfl rfl hl.1 rfl (Nat.le_of_ble_eq_true rfl) dX8_justOf_316 hP hS (fun H locs hP hS => ?_)
    obtain ⟨e0, hf⟩ := o2 hf
    obtain ⟨e1, hf⟩ := o2 hf
    obtain ⟨e2, hf⟩ := o2 hf
    obtain ⟨e3, hf⟩ := o2 hf
    obtain ⟨e4, hf⟩ := o2 hf
    obtain ⟨e5, hf⟩ := o2 hf
    have e6 := o1 hf
    have EF : Ff = F := frm_eq hfF (frm_c (e1).symm (frm_c (e2).symm (frm_c (e3).symm frm_n)))
    have EI : If = I := frm_eq hfI (frm_c (e4).symm frm_n)
    have EJ : Jf = J := frm_eq hfJ (frm_c (e5).symm (frm_c (e6).symm frm_n))
    exact ret_l X hS (by rw [EF, EI, EJ]; exact hP) e0 dX8_justOf_319
  · have hf := ie_s hf c278
    refine lv_lload X.1 X.2.1 dX8_justOf_281 (lv_at hl 4 rfl) ?_
    refine lv_iload X.1 X.2.1 dX8_justOf_283 (lv_at hl 5 rfl) ?_
    refine lv_bipush (v := 9) X.1 X.2.1 dX8_justOf_285 (by decide) ?_
    obtain ⟨h287, hf⟩ := gd_s hf
    refine lv_irem X.1 X.2.1 dX8_justOf_287 (of_decide_eq_true h287) ?_
    refine lv_iload_n X.1 X.2.1 dX8_justOf_288 rfl (lv_at hl 1 rfl) ?_
    refine lv_icmp_ne (tgt := 302) X.1 X.2.1 dX8_justOf_289 (by decide) (fun c289 => ?_) (fun c289 => ?_)
    · have hf := ie_s hf c289
      refine lv_lconst (v := 0) X.1 X.2.1 dX8_justOf_302 (by decide) ?_
      exact t_X8_justOf_b303 X kh273 F I J x5 0 x1 x2 x3 x7 H locs ls hf hfF hfI hfJ hP hS (lv_sub hl [0, 1, 2, 3, 5] rfl)
    · have hf := it_s hf c289
      refine lv_aload_n X.1 X.2.1 dX8_justOf_292 rfl (lv_at hl 0 rfl) ?_
      refine gM_0_25 X q_4_134 dX8_justOf_293 hP ?_
      refine lv_iload X.1 X.2.1 dX8_justOf_296 (lv_at hl 5 rfl) ?_
      obtain ⟨h298, hf⟩ := gd_s hf
      refine lM_16 (J := J) X (f := (J 2)) rfl h298 dX8_justOf_298 hP ?_
      refine lv_goto (tgt := 303) X.1 X.2.1 dX8_justOf_299 (by decide) ?_
      exact t_X8_justOf_b303 X kh273 F I J x5 ((J 2) x7.toNatClampNeg) x1 x2 x3 x7 H locs ls hf hfF hfI hfJ hP hS (lv_sub hl [0, 1, 2, 3, 5] rfl)
set_option maxRecDepth 100000 in
theorem t_X8_justOf_b273 {p : Program} {l : Launch} {e : Env} {s : State} {m : MethodId} {args : Array Value} {below : List Frame} {meth : Method} {c : Code} {D : va_G} {a : Nat → Nat} {kc : Nat → ClassId} (X : cx 21 p s m args meth c D (tyM kc) a cX8_justOf 12 RX8 (some .long)) {G : Nat → Int64} {Ff : Nat → Int32} {If : Nat → Nat → Int32} {Jf : Nat → Nat → Int64} {r : Int64} :
    ∀ (n : Nat) (F : Nat → Int32) (I : Nat → Nat → Int32) (J : Nat → Nat → Int64) (x1 : Int32) (x2 : Int32) (x3 : Int64) (x5 : Int64) (x7 : Int32) (H : Heap) (locs : List Loc) (ls : Array Slot), p_X8_justOf_b273 n (F 2) (F 4) (F 5) (F 6) (F 8) (I 6) (I 8) (I 9) (I 10) (J 2) (J 3) x1 x2 x3 x5 x7 = some (r, (Ff 5), (Ff 6), (Ff 8), (If 10), (Jf 2), (Jf 3)) → (∀ k, k ∉ ([5, 6, 8] : List Nat) → Ff k = F k) → (∀ k, k ∉ ([10] : List Nat) → If k = I k) → (∀ k, k ∉ ([2, 3] : List Nat) → Jf k = J k) → va_P D vwCl (wM a kc F G I J) H → va_S (ad a 21 s.heap.size) s.heap H locs → lv_has ls 12 [(0, .ref (a 0)), (1, .int x1), (2, .int x2), (3, .long x3), (5, .long x5), (7, .int x7)] → W p l e rm_X8_justOf s m args below meth c H locs 0 0 (MQ below (Ql D (wM a kc Ff G If Jf) r (ad a 21 s.heap.size)) args s 0 0 (ad a 21 s.heap.size)) (F0 m 273 ls []) := by
  intro n
  induction n with
  | zero => intro F I J x1 x2 x3 x5 x7 H locs ls hf hfF hfI hfJ hP hS hl; exact (nos hf).elim
  | succ n ih => exact t_X8_justOf_b273x X ih
set_option maxHeartbeats 4000000 in
set_option maxRecDepth 100000 in
theorem t_X8_justOf_b233x {p : Program} {l : Launch} {e : Env} {s : State} {m : MethodId} {args : Array Value} {below : List Frame} {meth : Method} {c : Code} {D : va_G} {a : Nat → Nat} {kc : Nat → ClassId} (X : cx 21 p s m args meth c D (tyM kc) a cX8_justOf 12 RX8 (some .long)) {G : Nat → Int64} {Ff : Nat → Int32} {If : Nat → Nat → Int32} {Jf : Nat → Nat → Int64} {r : Int64} {K39 : Int32 → Int32 → Int32 → Int32 → Int32 → (Nat → Int32) → (Nat → Int32) → (Nat → Int32) → (Nat → Int32) → (Nat → Int64) → (Nat → Int64) → Int32 → Int32 → Int64 → Int32 → Option (Int64 × Int32 × Int32 × Int32 × (Nat → Int32) × (Nat → Int64) × (Nat → Int64))} (kh39 : ∀ (F : Nat → Int32) (I : Nat → Nat → Int32) (J : Nat → Nat → Int64) (x1 : Int32) (x2 : Int32) (x3 : Int64) (x5 : Int32) (H : Heap) (locs : List Loc) (ls : Array Slot), K39 (F 2) (F 4) (F 5) (F 6) (F 8) (I 6) (I 8) (I 9) (I 10) (J 2) (J 3) x1 x2 x3 x5 = some (r, (Ff 5), (Ff 6), (Ff 8), (If 10), (Jf 2), (Jf 3)) → (∀ k, k ∉ ([5, 6, 8] : List Nat) → Ff k = F k) → (∀ k, k ∉ ([10] : List Nat) → If k = I k) → (∀ k, k ∉ ([2, 3] : List Nat) → Jf k = J k) → va_P D vwCl (wM a kc F G I J) H → va_S (ad a 21 s.heap.size) s.heap H locs → lv_has ls 12 [(0, .ref (a 0)), (1, .int x1), (2, .int x2), (3, .long x3), (5, .int x5)] → W p l e rm_X8_justOf s m args below meth c H locs 0 0 (MQ below (Ql D (wM a kc Ff G If Jf) r (ad a 21 s.heap.size)) args s 0 0 (ad a 21 s.heap.size)) (F0 m 39 ls [])) {K233 : Int32 → Int32 → Int32 → Int32 → Int32 → (Nat → Int32) → (Nat → Int32) → (Nat → Int32) → (Nat → Int32) → (Nat → Int64) → (Nat → Int64) → Int32 → Int32 → Int64 → Int32 → Int32 → Option (Int64 × Int32 × Int32 × Int32 × (Nat → Int32) × (Nat → Int64) × (Nat → Int64))} (kh233 : ∀ (F : Nat → Int32) (I : Nat → Nat → Int32) (J : Nat → Nat → Int64) (x1 : Int32) (x2 : Int32) (x3 : Int64) (x5 : Int32) (x8 : Int32) (H : Heap) (locs : List Loc) (ls : Array Slot), K233 (F 2) (F 4) (F 5) (F 6) (F 8) (I 6) (I 8) (I 9) (I 10) (J 2) (J 3) x1 x2 x3 x5 x8 = some (r, (Ff 5), (Ff 6), (Ff 8), (If 10), (Jf 2), (Jf 3)) → (∀ k, k ∉ ([5, 6, 8] : List Nat) → Ff k = F k) → (∀ k, k ∉ ([10] : List Nat) → If k = I k) → (∀ k, k ∉ ([2, 3] : List Nat) → Jf k = J k) → va_P D vwCl (wM a kc F G I J) H → va_S (ad a 21 s.heap.size) s.heap H locs → lv_has ls 12 [(0, .ref (a 0)), (1, .int x1), (2, .int x2), (3, .long x3), (5, .int x5), (8, .int x8)] → W p l e rm_X8_justOf s m args below meth c H locs 0 0 (MQ below (Ql D (wM a kc Ff G If Jf) r (ad a 21 s.heap.size)) args s 0 0 (ad a 21 s.heap.size)) (F0 m 233 ls [])) :
    ∀ (F : Nat → Int32) (I : Nat → Nat → Int32) (J : Nat → Nat → Int64) (x1 : Int32) (x2 : Int32) (x3 : Int64) (x5 : Int32) (x8 : Int32) (H : Heap) (locs : List Loc) (ls : Array Slot), p_X8_justOf_b233x K39 K233 (F 2) (F 4) (F 5) (F 6) (F 8) (I 6) (I 8) (I 9) (I 10) (J 2) (J 3) x1 x2 x3 x5 x8 = some (r, (Ff 5), (Ff 6), (Ff 8), (If 10), (Jf 2), (Jf 3)) → (∀ k, k ∉ ([5, 6, 8] : List Nat) → Ff k = F k) → (∀ k, k ∉ ([10] : List Nat) → If k = I k) → (∀ k, k ∉ ([2, 3] : List Nat) → Jf k = J k) → va_P D vwCl (wM a kc F G I J) H → va_S (ad a 21 s.heap.size) s.heap H locs → lv_has ls 12 [(0, .ref (a 0)), (1, .int x1), (2, .int x2), (3, .long x3), (5, .int x5), (8, .int x8)] → W p l e rm_X8_justOf s m args below meth c H locs 0 0 (MQ below (Ql D (wM a kc Ff G If Jf) r (ad a 21 s.heap.size)) args s 0 0 (ad a 21 s.heap.size)) (F0 m 233 ls []) := by
  intro F I J x1 x2 x3 x5 x8 H locs ls hf hfF hfI hfJ hP hS hl
  unfold p_X8_justOf_b233x at hf
  refine lv_iload X.1 X.2.1 dX8_justOf_233 (lv_at hl 5 rfl) ?_
  refine lv_sipush (v := 2304) X.1 X.2.1 dX8_justOf_235 (by decide) ?_
  refine lv_icmp_ge (tgt := 261) X.1 X.2.1 dX8_justOf_238 (by decide) (fun c238 => ?_) (fun c238 => ?_)
  · have hf := it_s hf c238
    obtain ⟨x261, ex261, hf⟩ := nm_x hf
    refine lv_iinc (v := x261) (lv' := [(5, .int x261), (0, .ref (a 0)), (1, .int x1), (2, .int x2), (3, .long x3), (8, .int x8)]) X.1 X.2.1 dX8_justOf_261 hl (k := 4) rfl ex261 (by decide) rfl (fun ls hl => ?_)
    refine lv_goto (tgt := 39) X.1 X.2.1 dX8_justOf_264 (by decide) ?_
    exact kh39 F I J x1 x2 x3 x261 H locs ls hf hfF hfI hfJ hP hS (lv_sub hl [1, 2, 3, 4, 0] rfl)
  · have hf := ie_s hf c238
    refine lv_aload_n X.1 X.2.1 dX8_justOf_241 rfl (lv_at hl 0 rfl) ?_
    refine gM_0_25 X q_4_134 dX8_justOf_242 hP ?_
    refine lv_iload X.1 X.2.1 dX8_justOf_245 (lv_at hl 5 rfl) ?_
    refine lv_aload_n X.1 X.2.1 dX8_justOf_247 rfl (lv_at hl 0 rfl) ?_
    refine gM_0_26 X q_4_135 dX8_justOf_248 hP ?_
    refine lv_iload X.1 X.2.1 dX8_justOf_251 (lv_at hl 5 rfl) ?_
    obtain ⟨h253, hf⟩ := gd_s hf
    refine lM_17 (J := J) X (f := (J 3)) rfl h253 dX8_justOf_253 hP ?_
    obtain ⟨h254, hf⟩ := gd_s hf
    obtain ⟨m_both_254, em_both_254, hf⟩ := nm_x hf
    refine sM_16 (J := J) X h254 em_both_254 dX8_justOf_254 hP hS (fun H locs hP hS => ?_)
    obtain ⟨x255, ex255, hf⟩ := nm_x hf
    refine lv_iinc (v := x255) (lv' := [(8, .int x255), (0, .ref (a 0)), (1, .int x1), (2, .int x2), (3, .long x3), (5, .int x5)]) X.1 X.2.1 dX8_justOf_255 hl (k := 5) rfl ex255 (by decide) rfl (fun ls hl => ?_)
    refine lv_goto (tgt := 233) X.1 X.2.1 dX8_justOf_258 (by decide) ?_
    exact kh233 F I (va_up J 2 m_both_254) x1 x2 x3 x5 x255 H locs ls hf hfF hfI (frm_up hfJ (by decide)) hP hS (lv_sub hl [1, 2, 3, 4, 5, 0] rfl)
set_option maxRecDepth 100000 in
theorem t_X8_justOf_b233 {p : Program} {l : Launch} {e : Env} {s : State} {m : MethodId} {args : Array Value} {below : List Frame} {meth : Method} {c : Code} {D : va_G} {a : Nat → Nat} {kc : Nat → ClassId} (X : cx 21 p s m args meth c D (tyM kc) a cX8_justOf 12 RX8 (some .long)) {G : Nat → Int64} {Ff : Nat → Int32} {If : Nat → Nat → Int32} {Jf : Nat → Nat → Int64} {r : Int64} {K39 : Int32 → Int32 → Int32 → Int32 → Int32 → (Nat → Int32) → (Nat → Int32) → (Nat → Int32) → (Nat → Int32) → (Nat → Int64) → (Nat → Int64) → Int32 → Int32 → Int64 → Int32 → Option (Int64 × Int32 × Int32 × Int32 × (Nat → Int32) × (Nat → Int64) × (Nat → Int64))} (kh39 : ∀ (F : Nat → Int32) (I : Nat → Nat → Int32) (J : Nat → Nat → Int64) (x1 : Int32) (x2 : Int32) (x3 : Int64) (x5 : Int32) (H : Heap) (locs : List Loc) (ls : Array Slot), K39 (F 2) (F 4) (F 5) (F 6) (F 8) (I 6) (I 8) (I 9) (I 10) (J 2) (J 3) x1 x2 x3 x5 = some (r, (Ff 5), (Ff 6), (Ff 8), (If 10), (Jf 2), (Jf 3)) → (∀ k, k ∉ ([5, 6, 8] : List Nat) → Ff k = F k) → (∀ k, k ∉ ([10] : List Nat) → If k = I k) → (∀ k, k ∉ ([2, 3] : List Nat) → Jf k = J k) → va_P D vwCl (wM a kc F G I J) H → va_S (ad a 21 s.heap.size) s.heap H locs → lv_has ls 12 [(0, .ref (a 0)), (1, .int x1), (2, .int x2), (3, .long x3), (5, .int x5)] → W p l e rm_X8_justOf s m args below meth c H locs 0 0 (MQ below (Ql D (wM a kc Ff G If Jf) r (ad a 21 s.heap.size)) args s 0 0 (ad a 21 s.heap.size)) (F0 m 39 ls [])) :
    ∀ (n : Nat) (F : Nat → Int32) (I : Nat → Nat → Int32) (J : Nat → Nat → Int64) (x1 : Int32) (x2 : Int32) (x3 : Int64) (x5 : Int32) (x8 : Int32) (H : Heap) (locs : List Loc) (ls : Array Slot), p_X8_justOf_b233 K39 n (F 2) (F 4) (F 5) (F 6) (F 8) (I 6) (I 8) (I 9) (I 10) (J 2) (J 3) x1 x2 x3 x5 x8 = some (r, (Ff 5), (Ff 6), (Ff 8), (If 10), (Jf 2), (Jf 3)) → (∀ k, k ∉ ([5, 6, 8] : List Nat) → Ff k = F k) → (∀ k, k ∉ ([10] : List Nat) → If k = I k) → (∀ k, k ∉ ([2, 3] : List Nat) → Jf k = J k) → va_P D vwCl (wM a kc F G I J) H → va_S (ad a 21 s.heap.size) s.heap H locs → lv_has ls 12 [(0, .ref (a 0)), (1, .int x1), (2, .int x2), (3, .long x3), (5, .int x5), (8, .int x8)] → W p l e rm_X8_justOf s m args below meth c H locs 0 0 (MQ below (Ql D (wM a kc Ff G If Jf) r (ad a 21 s.heap.size)) args s 0 0 (ad a 21 s.heap.size)) (F0 m 233 ls []) := by
  intro n
  induction n with
  | zero => intro F I J x1 x2 x3 x5 x8 H locs ls hf hfF hfI hfJ hP hS hl; exact (nos hf).elim
  | succ n ih => exact t_X8_justOf_b233x X kh39 ih
set_option maxHeartbeats 4000000 in
set_option maxRecDepth 100000 in
theorem t_X8_justOf_b224 {p : Program} {l : Launch} {e : Env} {s : State} {m : MethodId} {args : Array Value} {below : List Frame} {meth : Method} {c : Code} {D : va_G} {a : Nat → Nat} {kc : Nat → ClassId} (X : cx 21 p s m args meth c D (tyM kc) a cX8_justOf 12 RX8 (some .long)) {G : Nat → Int64} {Ff : Nat → Int32} {If : Nat → Nat → Int32} {Jf : Nat → Nat → Int64} {r : Int64} {K39 : Int32 → Int32 → Int32 → Int32 → Int32 → (Nat → Int32) → (Nat → Int32) → (Nat → Int32) → (Nat → Int32) → (Nat → Int64) → (Nat → Int64) → Int32 → Int32 → Int64 → Int32 → Option (Int64 × Int32 × Int32 × Int32 × (Nat → Int32) × (Nat → Int64) × (Nat → Int64))} (kh39 : ∀ (F : Nat → Int32) (I : Nat → Nat → Int32) (J : Nat → Nat → Int64) (x1 : Int32) (x2 : Int32) (x3 : Int64) (x5 : Int32) (H : Heap) (locs : List Loc) (ls : Array Slot), K39 (F 2) (F 4) (F 5) (F 6) (F 8) (I 6) (I 8) (I 9) (I 10) (J 2) (J 3) x1 x2 x3 x5 = some (r, (Ff 5), (Ff 6), (Ff 8), (If 10), (Jf 2), (Jf 3)) → (∀ k, k ∉ ([5, 6, 8] : List Nat) → Ff k = F k) → (∀ k, k ∉ ([10] : List Nat) → If k = I k) → (∀ k, k ∉ ([2, 3] : List Nat) → Jf k = J k) → va_P D vwCl (wM a kc F G I J) H → va_S (ad a 21 s.heap.size) s.heap H locs → lv_has ls 12 [(0, .ref (a 0)), (1, .int x1), (2, .int x2), (3, .long x3), (5, .int x5)] → W p l e rm_X8_justOf s m args below meth c H locs 0 0 (MQ below (Ql D (wM a kc Ff G If Jf) r (ad a 21 s.heap.size)) args s 0 0 (ad a 21 s.heap.size)) (F0 m 39 ls [])) {K93 : Int32 → Int32 → Int32 → Int32 → Int32 → (Nat → Int32) → (Nat → Int32) → (Nat → Int32) → (Nat → Int32) → (Nat → Int64) → (Nat → Int64) → Int32 → Int32 → Int64 → Int32 → Int64 → Int32 → Option (Int64 × Int32 × Int32 × Int32 × (Nat → Int32) × (Nat → Int64) × (Nat → Int64))} (kh93 : ∀ (F : Nat → Int32) (I : Nat → Nat → Int32) (J : Nat → Nat → Int64) (x1 : Int32) (x2 : Int32) (x3 : Int64) (x5 : Int32) (x6 : Int64) (x8 : Int32) (H : Heap) (locs : List Loc) (ls : Array Slot), K93 (F 2) (F 4) (F 5) (F 6) (F 8) (I 6) (I 8) (I 9) (I 10) (J 2) (J 3) x1 x2 x3 x5 x6 x8 = some (r, (Ff 5), (Ff 6), (Ff 8), (If 10), (Jf 2), (Jf 3)) → (∀ k, k ∉ ([5, 6, 8] : List Nat) → Ff k = F k) → (∀ k, k ∉ ([10] : List Nat) → If k = I k) → (∀ k, k ∉ ([2, 3] : List Nat) → Jf k = J k) → va_P D vwCl (wM a kc F G I J) H → va_S (ad a 21 s.heap.size) s.heap H locs → lv_has ls 12 [(0, .ref (a 0)), (1, .int x1), (2, .int x2), (3, .long x3), (5, .int x5), (6, .long x6), (8, .int x8)] → W p l e rm_X8_justOf s m args below meth c H locs 0 0 (MQ below (Ql D (wM a kc Ff G If Jf) r (ad a 21 s.heap.size)) args s 0 0 (ad a 21 s.heap.size)) (F0 m 93 ls [])) :
    ∀ (F : Nat → Int32) (I : Nat → Nat → Int32) (J : Nat → Nat → Int64) (x1 : Int32) (x2 : Int32) (x3 : Int64) (x5 : Int32) (x6 : Int64) (x8 : Int32) (H : Heap) (locs : List Loc) (ls : Array Slot), p_X8_justOf_b224 K39 K93 (F 2) (F 4) (F 5) (F 6) (F 8) (I 6) (I 8) (I 9) (I 10) (J 2) (J 3) x1 x2 x3 x5 x6 x8 = some (r, (Ff 5), (Ff 6), (Ff 8), (If 10), (Jf 2), (Jf 3)) → (∀ k, k ∉ ([5, 6, 8] : List Nat) → Ff k = F k) → (∀ k, k ∉ ([10] : List Nat) → If k = I k) → (∀ k, k ∉ ([2, 3] : List Nat) → Jf k = J k) → va_P D vwCl (wM a kc F G I J) H → va_S (ad a 21 s.heap.size) s.heap H locs → lv_has ls 12 [(0, .ref (a 0)), (1, .int x1), (2, .int x2), (3, .long x3), (5, .int x5), (6, .long x6), (8, .int x8)] → W p l e rm_X8_justOf s m args below meth c H locs 0 0 (MQ below (Ql D (wM a kc Ff G If Jf) r (ad a 21 s.heap.size)) args s 0 0 (ad a 21 s.heap.size)) (F0 m 224 ls []) := by
  intro F I J x1 x2 x3 x5 x6 x8 H locs ls hf hfF hfI hfJ hP hS hl
  unfold p_X8_justOf_b224 at hf
  obtain ⟨x224, ex224, hf⟩ := nm_x hf
  refine lv_iinc (v := x224) (lv' := [(8, .int x224), (0, .ref (a 0)), (1, .int x1), (2, .int x2), (3, .long x3), (5, .int x5), (6, .long x6)]) X.1 X.2.1 dX8_justOf_224 hl (k := 6) rfl ex224 (by decide) rfl (fun ls hl => ?_)
  refine lv_goto (tgt := 93) X.1 X.2.1 dX8_justOf_227 (by decide) ?_
  exact kh93 F I J x1 x2 x3 x5 x6 x224 H locs ls hf hfF hfI hfJ hP hS (lv_sub hl [1, 2, 3, 4, 5, 6, 0] rfl)
set_option maxHeartbeats 4000000 in
set_option maxRecDepth 100000 in
theorem t_X8_justOf_b218 {p : Program} {l : Launch} {e : Env} {s : State} {m : MethodId} {args : Array Value} {below : List Frame} {meth : Method} {c : Code} {D : va_G} {a : Nat → Nat} {kc : Nat → ClassId} (X : cx 21 p s m args meth c D (tyM kc) a cX8_justOf 12 RX8 (some .long)) {G : Nat → Int64} {Ff : Nat → Int32} {If : Nat → Nat → Int32} {Jf : Nat → Nat → Int64} {r : Int64} {K39 : Int32 → Int32 → Int32 → Int32 → Int32 → (Nat → Int32) → (Nat → Int32) → (Nat → Int32) → (Nat → Int32) → (Nat → Int64) → (Nat → Int64) → Int32 → Int32 → Int64 → Int32 → Option (Int64 × Int32 × Int32 × Int32 × (Nat → Int32) × (Nat → Int64) × (Nat → Int64))} (kh39 : ∀ (F : Nat → Int32) (I : Nat → Nat → Int32) (J : Nat → Nat → Int64) (x1 : Int32) (x2 : Int32) (x3 : Int64) (x5 : Int32) (H : Heap) (locs : List Loc) (ls : Array Slot), K39 (F 2) (F 4) (F 5) (F 6) (F 8) (I 6) (I 8) (I 9) (I 10) (J 2) (J 3) x1 x2 x3 x5 = some (r, (Ff 5), (Ff 6), (Ff 8), (If 10), (Jf 2), (Jf 3)) → (∀ k, k ∉ ([5, 6, 8] : List Nat) → Ff k = F k) → (∀ k, k ∉ ([10] : List Nat) → If k = I k) → (∀ k, k ∉ ([2, 3] : List Nat) → Jf k = J k) → va_P D vwCl (wM a kc F G I J) H → va_S (ad a 21 s.heap.size) s.heap H locs → lv_has ls 12 [(0, .ref (a 0)), (1, .int x1), (2, .int x2), (3, .long x3), (5, .int x5)] → W p l e rm_X8_justOf s m args below meth c H locs 0 0 (MQ below (Ql D (wM a kc Ff G If Jf) r (ad a 21 s.heap.size)) args s 0 0 (ad a 21 s.heap.size)) (F0 m 39 ls [])) {K93 : Int32 → Int32 → Int32 → Int32 → Int32 → (Nat → Int32) → (Nat → Int32) → (Nat → Int32) → (Nat → Int32) → (Nat → Int64) → (Nat → Int64) → Int32 → Int32 → Int64 → Int32 → Int64 → Int32 → Option (Int64 × Int32 × Int32 × Int32 × (Nat → Int32) × (Nat → Int64) × (Nat → Int64))} (kh93 : ∀ (F : Nat → Int32) (I : Nat → Nat → Int32) (J : Nat → Nat → Int64) (x1 : Int32) (x2 : Int32) (x3 : Int64) (x5 : Int32) (x6 : Int64) (x8 : Int32) (H : Heap) (locs : List Loc) (ls : Array Slot), K93 (F 2) (F 4) (F 5) (F 6) (F 8) (I 6) (I 8) (I 9) (I 10) (J 2) (J 3) x1 x2 x3 x5 x6 x8 = some (r, (Ff 5), (Ff 6), (Ff 8), (If 10), (Jf 2), (Jf 3)) → (∀ k, k ∉ ([5, 6, 8] : List Nat) → Ff k = F k) → (∀ k, k ∉ ([10] : List Nat) → If k = I k) → (∀ k, k ∉ ([2, 3] : List Nat) → Jf k = J k) → va_P D vwCl (wM a kc F G I J) H → va_S (ad a 21 s.heap.size) s.heap H locs → lv_has ls 12 [(0, .ref (a 0)), (1, .int x1), (2, .int x2), (3, .long x3), (5, .int x5), (6, .long x6), (8, .int x8)] → W p l e rm_X8_justOf s m args below meth c H locs 0 0 (MQ below (Ql D (wM a kc Ff G If Jf) r (ad a 21 s.heap.size)) args s 0 0 (ad a 21 s.heap.size)) (F0 m 93 ls [])) {K140 : Int32 → Int32 → Int32 → Int32 → Int32 → (Nat → Int32) → (Nat → Int32) → (Nat → Int32) → (Nat → Int32) → (Nat → Int64) → (Nat → Int64) → Int32 → Int32 → Int64 → Int32 → Int64 → Int32 → Int32 → Int32 → Int32 → Option (Int64 × Int32 × Int32 × Int32 × (Nat → Int32) × (Nat → Int64) × (Nat → Int64))} (kh140 : ∀ (F : Nat → Int32) (I : Nat → Nat → Int32) (J : Nat → Nat → Int64) (x1 : Int32) (x2 : Int32) (x3 : Int64) (x5 : Int32) (x6 : Int64) (x8 : Int32) (x9 : Int32) (x10 : Int32) (x11 : Int32) (H : Heap) (locs : List Loc) (ls : Array Slot), K140 (F 2) (F 4) (F 5) (F 6) (F 8) (I 6) (I 8) (I 9) (I 10) (J 2) (J 3) x1 x2 x3 x5 x6 x8 x9 x10 x11 = some (r, (Ff 5), (Ff 6), (Ff 8), (If 10), (Jf 2), (Jf 3)) → (∀ k, k ∉ ([5, 6, 8] : List Nat) → Ff k = F k) → (∀ k, k ∉ ([10] : List Nat) → If k = I k) → (∀ k, k ∉ ([2, 3] : List Nat) → Jf k = J k) → va_P D vwCl (wM a kc F G I J) H → va_S (ad a 21 s.heap.size) s.heap H locs → lv_has ls 12 [(0, .ref (a 0)), (1, .int x1), (2, .int x2), (3, .long x3), (5, .int x5), (6, .long x6), (8, .int x8), (9, .int x9), (10, .int x10), (11, .int x11)] → W p l e rm_X8_justOf s m args below meth c H locs 0 0 (MQ below (Ql D (wM a kc Ff G If Jf) r (ad a 21 s.heap.size)) args s 0 0 (ad a 21 s.heap.size)) (F0 m 140 ls [])) :
    ∀ (F : Nat → Int32) (I : Nat → Nat → Int32) (J : Nat → Nat → Int64) (x1 : Int32) (x2 : Int32) (x3 : Int64) (x5 : Int32) (x6 : Int64) (x8 : Int32) (x9 : Int32) (x10 : Int32) (x11 : Int32) (H : Heap) (locs : List Loc) (ls : Array Slot), p_X8_justOf_b218 K39 K93 K140 (F 2) (F 4) (F 5) (F 6) (F 8) (I 6) (I 8) (I 9) (I 10) (J 2) (J 3) x1 x2 x3 x5 x6 x8 x9 x10 x11 = some (r, (Ff 5), (Ff 6), (Ff 8), (If 10), (Jf 2), (Jf 3)) → (∀ k, k ∉ ([5, 6, 8] : List Nat) → Ff k = F k) → (∀ k, k ∉ ([10] : List Nat) → If k = I k) → (∀ k, k ∉ ([2, 3] : List Nat) → Jf k = J k) → va_P D vwCl (wM a kc F G I J) H → va_S (ad a 21 s.heap.size) s.heap H locs → lv_has ls 12 [(0, .ref (a 0)), (1, .int x1), (2, .int x2), (3, .long x3), (5, .int x5), (6, .long x6), (8, .int x8), (9, .int x9), (10, .int x10), (11, .int x11)] → W p l e rm_X8_justOf s m args below meth c H locs 0 0 (MQ below (Ql D (wM a kc Ff G If Jf) r (ad a 21 s.heap.size)) args s 0 0 (ad a 21 s.heap.size)) (F0 m 218 ls []) := by
  intro F I J x1 x2 x3 x5 x6 x8 x9 x10 x11 H locs ls hf hfF hfI hfJ hP hS hl
  unfold p_X8_justOf_b218 at hf
  obtain ⟨x218, ex218, hf⟩ := nm_x hf
  refine lv_iinc (v := x218) (lv' := [(11, .int x218), (0, .ref (a 0)), (1, .int x1), (2, .int x2), (3, .long x3), (5, .int x5), (6, .long x6), (8, .int x8), (9, .int x9), (10, .int x10)]) X.1 X.2.1 dX8_justOf_218 hl (k := 9) rfl ex218 (by decide) rfl (fun ls hl => ?_)
  refine lv_goto (tgt := 140) X.1 X.2.1 dX8_justOf_221 (by decide) ?_
  exact kh140 F I J x1 x2 x3 x5 x6 x8 x9 x10 x218 H locs ls hf hfF hfI hfJ hP hS (lv_sub hl [1, 2, 3, 4, 5, 6, 7, 8, 9, 0] rfl)
set_option maxHeartbeats 4000000 in
set_option maxRecDepth 100000 in
theorem t_X8_justOf_b196 {p : Program} {l : Launch} {e : Env} {s : State} {m : MethodId} {args : Array Value} {below : List Frame} {meth : Method} {c : Code} {D : va_G} {a : Nat → Nat} {kc : Nat → ClassId} (X : cx 21 p s m args meth c D (tyM kc) a cX8_justOf 12 RX8 (some .long)) {G : Nat → Int64} {Ff : Nat → Int32} {If : Nat → Nat → Int32} {Jf : Nat → Nat → Int64} {r : Int64} {K39 : Int32 → Int32 → Int32 → Int32 → Int32 → (Nat → Int32) → (Nat → Int32) → (Nat → Int32) → (Nat → Int32) → (Nat → Int64) → (Nat → Int64) → Int32 → Int32 → Int64 → Int32 → Option (Int64 × Int32 × Int32 × Int32 × (Nat → Int32) × (Nat → Int64) × (Nat → Int64))} (kh39 : ∀ (F : Nat → Int32) (I : Nat → Nat → Int32) (J : Nat → Nat → Int64) (x1 : Int32) (x2 : Int32) (x3 : Int64) (x5 : Int32) (H : Heap) (locs : List Loc) (ls : Array Slot), K39 (F 2) (F 4) (F 5) (F 6) (F 8) (I 6) (I 8) (I 9) (I 10) (J 2) (J 3) x1 x2 x3 x5 = some (r, (Ff 5), (Ff 6), (Ff 8), (If 10), (Jf 2), (Jf 3)) → (∀ k, k ∉ ([5, 6, 8] : List Nat) → Ff k = F k) → (∀ k, k ∉ ([10] : List Nat) → If k = I k) → (∀ k, k ∉ ([2, 3] : List Nat) → Jf k = J k) → va_P D vwCl (wM a kc F G I J) H → va_S (ad a 21 s.heap.size) s.heap H locs → lv_has ls 12 [(0, .ref (a 0)), (1, .int x1), (2, .int x2), (3, .long x3), (5, .int x5)] → W p l e rm_X8_justOf s m args below meth c H locs 0 0 (MQ below (Ql D (wM a kc Ff G If Jf) r (ad a 21 s.heap.size)) args s 0 0 (ad a 21 s.heap.size)) (F0 m 39 ls [])) {K93 : Int32 → Int32 → Int32 → Int32 → Int32 → (Nat → Int32) → (Nat → Int32) → (Nat → Int32) → (Nat → Int32) → (Nat → Int64) → (Nat → Int64) → Int32 → Int32 → Int64 → Int32 → Int64 → Int32 → Option (Int64 × Int32 × Int32 × Int32 × (Nat → Int32) × (Nat → Int64) × (Nat → Int64))} (kh93 : ∀ (F : Nat → Int32) (I : Nat → Nat → Int32) (J : Nat → Nat → Int64) (x1 : Int32) (x2 : Int32) (x3 : Int64) (x5 : Int32) (x6 : Int64) (x8 : Int32) (H : Heap) (locs : List Loc) (ls : Array Slot), K93 (F 2) (F 4) (F 5) (F 6) (F 8) (I 6) (I 8) (I 9) (I 10) (J 2) (J 3) x1 x2 x3 x5 x6 x8 = some (r, (Ff 5), (Ff 6), (Ff 8), (If 10), (Jf 2), (Jf 3)) → (∀ k, k ∉ ([5, 6, 8] : List Nat) → Ff k = F k) → (∀ k, k ∉ ([10] : List Nat) → If k = I k) → (∀ k, k ∉ ([2, 3] : List Nat) → Jf k = J k) → va_P D vwCl (wM a kc F G I J) H → va_S (ad a 21 s.heap.size) s.heap H locs → lv_has ls 12 [(0, .ref (a 0)), (1, .int x1), (2, .int x2), (3, .long x3), (5, .int x5), (6, .long x6), (8, .int x8)] → W p l e rm_X8_justOf s m args below meth c H locs 0 0 (MQ below (Ql D (wM a kc Ff G If Jf) r (ad a 21 s.heap.size)) args s 0 0 (ad a 21 s.heap.size)) (F0 m 93 ls [])) {K140 : Int32 → Int32 → Int32 → Int32 → Int32 → (Nat → Int32) → (Nat → Int32) → (Nat → Int32) → (Nat → Int32) → (Nat → Int64) → (Nat → Int64) → Int32 → Int32 → Int64 → Int32 → Int64 → Int32 → Int32 → Int32 → Int32 → Option (Int64 × Int32 × Int32 × Int32 × (Nat → Int32) × (Nat → Int64) × (Nat → Int64))} (kh140 : ∀ (F : Nat → Int32) (I : Nat → Nat → Int32) (J : Nat → Nat → Int64) (x1 : Int32) (x2 : Int32) (x3 : Int64) (x5 : Int32) (x6 : Int64) (x8 : Int32) (x9 : Int32) (x10 : Int32) (x11 : Int32) (H : Heap) (locs : List Loc) (ls : Array Slot), K140 (F 2) (F 4) (F 5) (F 6) (F 8) (I 6) (I 8) (I 9) (I 10) (J 2) (J 3) x1 x2 x3 x5 x6 x8 x9 x10 x11 = some (r, (Ff 5), (Ff 6), (Ff 8), (If 10), (Jf 2), (Jf 3)) → (∀ k, k ∉ ([5, 6, 8] : List Nat) → Ff k = F k) → (∀ k, k ∉ ([10] : List Nat) → If k = I k) → (∀ k, k ∉ ([2, 3] : List Nat) → Jf k = J k) → va_P D vwCl (wM a kc F G I J) H → va_S (ad a 21 s.heap.size) s.heap H locs → lv_has ls 12 [(0, .ref (a 0)), (1, .int x1), (2, .int x2), (3, .long x3), (5, .int x5), (6, .long x6), (8, .int x8), (9, .int x9), (10, .int x10), (11, .int x11)] → W p l e rm_X8_justOf s m args below meth c H locs 0 0 (MQ below (Ql D (wM a kc Ff G If Jf) r (ad a 21 s.heap.size)) args s 0 0 (ad a 21 s.heap.size)) (F0 m 140 ls [])) :
    ∀ (F : Nat → Int32) (I : Nat → Nat → Int32) (J : Nat → Nat → Int64) (t1 : Int32) (t2 : Int32) (x1 : Int32) (x2 : Int32) (x3 : Int64) (x5 : Int32) (x6 : Int64) (x8 : Int32) (x9 : Int32) (x10 : Int32) (x11 : Int32) (H : Heap) (locs : List Loc) (ls : Array Slot), p_X8_justOf_b196 K39 K93 K140 (F 2) (F 4) (F 5) (F 6) (F 8) (I 6) (I 8) (I 9) (I 10) (J 2) (J 3) t1 t2 x1 x2 x3 x5 x6 x8 x9 x10 x11 = some (r, (Ff 5), (Ff 6), (Ff 8), (If 10), (Jf 2), (Jf 3)) → (∀ k, k ∉ ([5, 6, 8] : List Nat) → Ff k = F k) → (∀ k, k ∉ ([10] : List Nat) → If k = I k) → (∀ k, k ∉ ([2, 3] : List Nat) → Jf k = J k) → va_P D vwCl (wM a kc F G I J) H → va_S (ad a 21 s.heap.size) s.heap H locs → lv_has ls 12 [(0, .ref (a 0)), (1, .int x1), (2, .int x2), (3, .long x3), (5, .int x5), (6, .long x6), (8, .int x8), (9, .int x9), (10, .int x10), (11, .int x11)] → W p l e rm_X8_justOf s m args below meth c H locs 0 0 (MQ below (Ql D (wM a kc Ff G If Jf) r (ad a 21 s.heap.size)) args s 0 0 (ad a 21 s.heap.size)) (F0 m 196 ls [.int t2, .int t1, .ref (a 17)]) := by
  intro F I J t1 t2 x1 x2 x3 x5 x6 x8 x9 x10 x11 H locs ls hf hfF hfI hfJ hP hS hl
  unfold p_X8_justOf_b196 at hf
  refine lv_iadd X.1 X.2.1 dX8_justOf_196 ?_
  refine lv_dup2_11 X.1 X.2.1 dX8_justOf_197 rfl rfl ?_
  obtain ⟨h198, hf⟩ := gd_s hf
  refine lM_17 (J := J) X (f := (J 3)) rfl h198 dX8_justOf_198 hP ?_
  refine lv_aload_n X.1 X.2.1 dX8_justOf_199 rfl (lv_at hl 0 rfl) ?_
  refine gM_0_25 X q_4_134 dX8_justOf_200 hP ?_
  refine lv_iload X.1 X.2.1 dX8_justOf_203 (lv_at hl 6 rfl) ?_
  obtain ⟨h205, hf⟩ := gd_s hf
  refine lM_16 (J := J) X (f := (J 2)) rfl h205 dX8_justOf_205 hP ?_
  refine lv_lload X.1 X.2.1 dX8_justOf_206 (lv_at hl 5 rfl) ?_
  refine lv_iload X.1 X.2.1 dX8_justOf_208 (lv_at hl 8 rfl) ?_
  obtain ⟨r210, ho, hf⟩ := b1_s hf
  refine call_si (rest := [.long x6, .long ((J 2) x8.toNatClampNeg), .long ((J 3) (t1 + t2).toNatClampNeg), .int (t1 + t2), .ref (a 17)]) X (c_X8_ones x10 ho) q_5_144 q_5_145 q_1_10 q_5_146 ok_X8_ones rfl ⟨Nat.le_of_ble_eq_true rfl, Nat.le_of_ble_eq_true rfl⟩ rfl rfl hl.1 rfl (Nat.le_of_ble_eq_true rfl) dX8_justOf_210 hP hS (fun H locs hP hS => ?_)
  refine lv_i2l X.1 X.2.1 dX8_justOf_213 rfl ?_
  obtain ⟨h214, hf⟩ := gd_s hf
  refine lv_ldiv X.1 X.2.1 dX8_justOf_214 (of_decide_eq_true h214) ?_
  refine lv_lmul X.1 X.2.1 dX8_justOf_215 ?_
  refine lv_ladd X.1 X.2.1 dX8_justOf_216 ?_
  obtain ⟨h217, hf⟩ := gd_s hf
  obtain ⟨m_bothNext_217, em_bothNext_217, hf⟩ := nm_x hf
  refine sM_17 (J := J) X h217 em_bothNext_217 dX8_justOf_217 hP hS (fun H locs hP hS => ?_)
  exact t_X8_justOf_b218 X kh39 kh93 kh140 F I (va_up J 3 m_bothNext_217) x1 x2 x3 x5 x6 x8 x9 x10 x11 H locs ls hf hfF hfI (frm_up hfJ (by decide)) hP hS (lv_sub hl [0, 1, 2, 3, 4, 5, 6, 7, 8, 9] rfl)
set_option maxHeartbeats 4000000 in
set_option maxRecDepth 100000 in
theorem t_X8_justOf_b140x {p : Program} {l : Launch} {e : Env} {s : State} {m : MethodId} {args : Array Value} {below : List Frame} {meth : Method} {c : Code} {D : va_G} {a : Nat → Nat} {kc : Nat → ClassId} (X : cx 21 p s m args meth c D (tyM kc) a cX8_justOf 12 RX8 (some .long)) {G : Nat → Int64} {Ff : Nat → Int32} {If : Nat → Nat → Int32} {Jf : Nat → Nat → Int64} {r : Int64} {K39 : Int32 → Int32 → Int32 → Int32 → Int32 → (Nat → Int32) → (Nat → Int32) → (Nat → Int32) → (Nat → Int32) → (Nat → Int64) → (Nat → Int64) → Int32 → Int32 → Int64 → Int32 → Option (Int64 × Int32 × Int32 × Int32 × (Nat → Int32) × (Nat → Int64) × (Nat → Int64))} (kh39 : ∀ (F : Nat → Int32) (I : Nat → Nat → Int32) (J : Nat → Nat → Int64) (x1 : Int32) (x2 : Int32) (x3 : Int64) (x5 : Int32) (H : Heap) (locs : List Loc) (ls : Array Slot), K39 (F 2) (F 4) (F 5) (F 6) (F 8) (I 6) (I 8) (I 9) (I 10) (J 2) (J 3) x1 x2 x3 x5 = some (r, (Ff 5), (Ff 6), (Ff 8), (If 10), (Jf 2), (Jf 3)) → (∀ k, k ∉ ([5, 6, 8] : List Nat) → Ff k = F k) → (∀ k, k ∉ ([10] : List Nat) → If k = I k) → (∀ k, k ∉ ([2, 3] : List Nat) → Jf k = J k) → va_P D vwCl (wM a kc F G I J) H → va_S (ad a 21 s.heap.size) s.heap H locs → lv_has ls 12 [(0, .ref (a 0)), (1, .int x1), (2, .int x2), (3, .long x3), (5, .int x5)] → W p l e rm_X8_justOf s m args below meth c H locs 0 0 (MQ below (Ql D (wM a kc Ff G If Jf) r (ad a 21 s.heap.size)) args s 0 0 (ad a 21 s.heap.size)) (F0 m 39 ls [])) {K93 : Int32 → Int32 → Int32 → Int32 → Int32 → (Nat → Int32) → (Nat → Int32) → (Nat → Int32) → (Nat → Int32) → (Nat → Int64) → (Nat → Int64) → Int32 → Int32 → Int64 → Int32 → Int64 → Int32 → Option (Int64 × Int32 × Int32 × Int32 × (Nat → Int32) × (Nat → Int64) × (Nat → Int64))} (kh93 : ∀ (F : Nat → Int32) (I : Nat → Nat → Int32) (J : Nat → Nat → Int64) (x1 : Int32) (x2 : Int32) (x3 : Int64) (x5 : Int32) (x6 : Int64) (x8 : Int32) (H : Heap) (locs : List Loc) (ls : Array Slot), K93 (F 2) (F 4) (F 5) (F 6) (F 8) (I 6) (I 8) (I 9) (I 10) (J 2) (J 3) x1 x2 x3 x5 x6 x8 = some (r, (Ff 5), (Ff 6), (Ff 8), (If 10), (Jf 2), (Jf 3)) → (∀ k, k ∉ ([5, 6, 8] : List Nat) → Ff k = F k) → (∀ k, k ∉ ([10] : List Nat) → If k = I k) → (∀ k, k ∉ ([2, 3] : List Nat) → Jf k = J k) → va_P D vwCl (wM a kc F G I J) H → va_S (ad a 21 s.heap.size) s.heap H locs → lv_has ls 12 [(0, .ref (a 0)), (1, .int x1), (2, .int x2), (3, .long x3), (5, .int x5), (6, .long x6), (8, .int x8)] → W p l e rm_X8_justOf s m args below meth c H locs 0 0 (MQ below (Ql D (wM a kc Ff G If Jf) r (ad a 21 s.heap.size)) args s 0 0 (ad a 21 s.heap.size)) (F0 m 93 ls [])) {K140 : Int32 → Int32 → Int32 → Int32 → Int32 → (Nat → Int32) → (Nat → Int32) → (Nat → Int32) → (Nat → Int32) → (Nat → Int64) → (Nat → Int64) → Int32 → Int32 → Int64 → Int32 → Int64 → Int32 → Int32 → Int32 → Int32 → Option (Int64 × Int32 × Int32 × Int32 × (Nat → Int32) × (Nat → Int64) × (Nat → Int64))} (kh140 : ∀ (F : Nat → Int32) (I : Nat → Nat → Int32) (J : Nat → Nat → Int64) (x1 : Int32) (x2 : Int32) (x3 : Int64) (x5 : Int32) (x6 : Int64) (x8 : Int32) (x9 : Int32) (x10 : Int32) (x11 : Int32) (H : Heap) (locs : List Loc) (ls : Array Slot), K140 (F 2) (F 4) (F 5) (F 6) (F 8) (I 6) (I 8) (I 9) (I 10) (J 2) (J 3) x1 x2 x3 x5 x6 x8 x9 x10 x11 = some (r, (Ff 5), (Ff 6), (Ff 8), (If 10), (Jf 2), (Jf 3)) → (∀ k, k ∉ ([5, 6, 8] : List Nat) → Ff k = F k) → (∀ k, k ∉ ([10] : List Nat) → If k = I k) → (∀ k, k ∉ ([2, 3] : List Nat) → Jf k = J k) → va_P D vwCl (wM a kc F G I J) H → va_S (ad a 21 s.heap.size) s.heap H locs → lv_has ls 12 [(0, .ref (a 0)), (1, .int x1), (2, .int x2), (3, .long x3), (5, .int x5), (6, .long x6), (8, .int x8), (9, .int x9), (10, .int x10), (11, .int x11)] → W p l e rm_X8_justOf s m args below meth c H locs 0 0 (MQ below (Ql D (wM a kc Ff G If Jf) r (ad a 21 s.heap.size)) args s 0 0 (ad a 21 s.heap.size)) (F0 m 140 ls [])) :
    ∀ (F : Nat → Int32) (I : Nat → Nat → Int32) (J : Nat → Nat → Int64) (x1 : Int32) (x2 : Int32) (x3 : Int64) (x5 : Int32) (x6 : Int64) (x8 : Int32) (x9 : Int32) (x10 : Int32) (x11 : Int32) (H : Heap) (locs : List Loc) (ls : Array Slot), p_X8_justOf_b140x K39 K93 K140 (F 2) (F 4) (F 5) (F 6) (F 8) (I 6) (I 8) (I 9) (I 10) (J 2) (J 3) x1 x2 x3 x5 x6 x8 x9 x10 x11 = some (r, (Ff 5), (Ff 6), (Ff 8), (If 10), (Jf 2), (Jf 3)) → (∀ k, k ∉ ([5, 6, 8] : List Nat) → Ff k = F k) → (∀ k, k ∉ ([10] : List Nat) → If k = I k) → (∀ k, k ∉ ([2, 3] : List Nat) → Jf k = J k) → va_P D vwCl (wM a kc F G I J) H → va_S (ad a 21 s.heap.size) s.heap H locs → lv_has ls 12 [(0, .ref (a 0)), (1, .int x1), (2, .int x2), (3, .long x3), (5, .int x5), (6, .long x6), (8, .int x8), (9, .int x9), (10, .int x10), (11, .int x11)] → W p l e rm_X8_justOf s m args below meth c H locs 0 0 (MQ below (Ql D (wM a kc Ff G If Jf) r (ad a 21 s.heap.size)) args s 0 0 (ad a 21 s.heap.size)) (F0 m 140 ls []) := by
  intro F I J x1 x2 x3 x5 x6 x8 x9 x10 x11 H locs ls hf hfF hfI hfJ hP hS hl
  unfold p_X8_justOf_b140x at hf
  refine lv_iload X.1 X.2.1 dX8_justOf_140 (lv_at hl 9 rfl) ?_
  refine lv_aload_n X.1 X.2.1 dX8_justOf_142 rfl (lv_at hl 0 rfl) ?_
  refine gM_0_8 (F := F) X (v := (F 2)) rfl q_4_117 dX8_justOf_143 hP ?_
  refine lv_icmp_ge (tgt := 224) X.1 X.2.1 dX8_justOf_146 (by decide) (fun c146 => ?_) (fun c146 => ?_)
  · have hf := it_s hf c146
    exact t_X8_justOf_b224 X kh39 kh93 F I J x1 x2 x3 x5 x6 x8 H locs ls hf hfF hfI hfJ hP hS (lv_sub hl [0, 1, 2, 3, 4, 5, 6] rfl)
  · have hf := ie_s hf c146
    refine lv_iload X.1 X.2.1 dX8_justOf_149 (lv_at hl 8 rfl) ?_
    refine lv_iload X.1 X.2.1 dX8_justOf_151 (lv_at hl 9 rfl) ?_
    obtain ⟨r153, ho, hf⟩ := b1_s hf
    refine call_si (rest := []) X (c_X8_isIn x10 x11 ho) q_5_133 q_5_134 q_1_10 q_5_135 ok_X8_isIn rfl ⟨Nat.le_of_ble_eq_true rfl, Nat.le_of_ble_eq_true rfl⟩ rfl rfl hl.1 rfl (Nat.le_of_ble_eq_true rfl) dX8_justOf_153 hP hS (fun H locs hP hS => ?_)
    refine lv_if_eq (tgt := 218) X.1 X.2.1 dX8_justOf_156 (by decide) (fun c156 => ?_) (fun c156 => ?_)
    · have hf := it_s hf c156
      exact t_X8_justOf_b218 X kh39 kh93 kh140 F I J x1 x2 x3 x5 x6 x8 x9 x10 x11 H locs ls hf hfF hfI hfJ hP hS (lv_sub hl [0, 1, 2, 3, 4, 5, 6, 7, 8, 9] rfl)
    · have hf := ie_s hf c156
      refine lv_aload_n X.1 X.2.1 dX8_justOf_159 rfl (lv_at hl 0 rfl) ?_
      refine gM_0_26 X q_4_135 dX8_justOf_160 hP ?_
      refine lv_bipush (v := 9) X.1 X.2.1 dX8_justOf_163 (by decide) ?_
      refine lv_iload X.1 X.2.1 dX8_justOf_165 (lv_at hl 7 rfl) ?_
      refine lv_iconst (v := 1) X.1 X.2.1 dX8_justOf_167 (by decide) ?_
      refine lv_iload X.1 X.2.1 dX8_justOf_168 (lv_at hl 9 rfl) ?_
      refine lv_ishl X.1 X.2.1 dX8_justOf_170 ?_
      refine lv_ior X.1 X.2.1 dX8_justOf_171 ?_
      refine lv_imul X.1 X.2.1 dX8_justOf_172 ?_
      refine lv_iload X.1 X.2.1 dX8_justOf_173 (lv_at hl 6 rfl) ?_
      refine lv_bipush (v := 9) X.1 X.2.1 dX8_justOf_175 (by decide) ?_
      obtain ⟨h177, hf⟩ := gd_s hf
      refine lv_irem X.1 X.2.1 dX8_justOf_177 (of_decide_eq_true h177) ?_
      refine lv_iadd X.1 X.2.1 dX8_justOf_178 ?_
      refine lv_iload X.1 X.2.1 dX8_justOf_179 (lv_at hl 9 rfl) ?_
      refine lv_aload_n X.1 X.2.1 dX8_justOf_181 rfl (lv_at hl 0 rfl) ?_
      refine gM_0_13 X q_4_122 dX8_justOf_182 hP ?_
      refine lv_iload X.1 X.2.1 dX8_justOf_185 (lv_at hl 4 rfl) ?_
      obtain ⟨h187, hf⟩ := gd_s hf
      refine lM_9 (I := I) X (f := (I 8)) rfl h187 dX8_justOf_187 hP ?_
      refine lv_icmp_ne (tgt := 195) X.1 X.2.1 dX8_justOf_188 (by decide) (fun c188 => ?_) (fun c188 => ?_)
      · have hf := ie_s hf c188
        refine lv_iconst (v := 1) X.1 X.2.1 dX8_justOf_195 (by decide) ?_
        exact t_X8_justOf_b196 X kh39 kh93 kh140 F I J ((9 * (x9 ||| ((1 : Int32) <<< (x11 &&& 31)))) + (x8 - (x8 / 9) * 9)) 1 x1 x2 x3 x5 x6 x8 x9 x10 x11 H locs ls hf hfF hfI hfJ hP hS (lv_sub hl [0, 1, 2, 3, 4, 5, 6, 7, 8, 9] rfl)
      · have hf := it_s hf c188
        refine lv_iconst (v := 0) X.1 X.2.1 dX8_justOf_191 (by decide) ?_
        refine lv_goto (tgt := 196) X.1 X.2.1 dX8_justOf_192 (by decide) ?_
        exact t_X8_justOf_b196 X kh39 kh93 kh140 F I J ((9 * (x9 ||| ((1 : Int32) <<< (x11 &&& 31)))) + (x8 - (x8 / 9) * 9)) 0 x1 x2 x3 x5 x6 x8 x9 x10 x11 H locs ls hf hfF hfI hfJ hP hS (lv_sub hl [0, 1, 2, 3, 4, 5, 6, 7, 8, 9] rfl)
set_option maxRecDepth 100000 in
theorem t_X8_justOf_b140 {p : Program} {l : Launch} {e : Env} {s : State} {m : MethodId} {args : Array Value} {below : List Frame} {meth : Method} {c : Code} {D : va_G} {a : Nat → Nat} {kc : Nat → ClassId} (X : cx 21 p s m args meth c D (tyM kc) a cX8_justOf 12 RX8 (some .long)) {G : Nat → Int64} {Ff : Nat → Int32} {If : Nat → Nat → Int32} {Jf : Nat → Nat → Int64} {r : Int64} {K39 : Int32 → Int32 → Int32 → Int32 → Int32 → (Nat → Int32) → (Nat → Int32) → (Nat → Int32) → (Nat → Int32) → (Nat → Int64) → (Nat → Int64) → Int32 → Int32 → Int64 → Int32 → Option (Int64 × Int32 × Int32 × Int32 × (Nat → Int32) × (Nat → Int64) × (Nat → Int64))} (kh39 : ∀ (F : Nat → Int32) (I : Nat → Nat → Int32) (J : Nat → Nat → Int64) (x1 : Int32) (x2 : Int32) (x3 : Int64) (x5 : Int32) (H : Heap) (locs : List Loc) (ls : Array Slot), K39 (F 2) (F 4) (F 5) (F 6) (F 8) (I 6) (I 8) (I 9) (I 10) (J 2) (J 3) x1 x2 x3 x5 = some (r, (Ff 5), (Ff 6), (Ff 8), (If 10), (Jf 2), (Jf 3)) → (∀ k, k ∉ ([5, 6, 8] : List Nat) → Ff k = F k) → (∀ k, k ∉ ([10] : List Nat) → If k = I k) → (∀ k, k ∉ ([2, 3] : List Nat) → Jf k = J k) → va_P D vwCl (wM a kc F G I J) H → va_S (ad a 21 s.heap.size) s.heap H locs → lv_has ls 12 [(0, .ref (a 0)), (1, .int x1), (2, .int x2), (3, .long x3), (5, .int x5)] → W p l e rm_X8_justOf s m args below meth c H locs 0 0 (MQ below (Ql D (wM a kc Ff G If Jf) r (ad a 21 s.heap.size)) args s 0 0 (ad a 21 s.heap.size)) (F0 m 39 ls [])) {K93 : Int32 → Int32 → Int32 → Int32 → Int32 → (Nat → Int32) → (Nat → Int32) → (Nat → Int32) → (Nat → Int32) → (Nat → Int64) → (Nat → Int64) → Int32 → Int32 → Int64 → Int32 → Int64 → Int32 → Option (Int64 × Int32 × Int32 × Int32 × (Nat → Int32) × (Nat → Int64) × (Nat → Int64))} (kh93 : ∀ (F : Nat → Int32) (I : Nat → Nat → Int32) (J : Nat → Nat → Int64) (x1 : Int32) (x2 : Int32) (x3 : Int64) (x5 : Int32) (x6 : Int64) (x8 : Int32) (H : Heap) (locs : List Loc) (ls : Array Slot), K93 (F 2) (F 4) (F 5) (F 6) (F 8) (I 6) (I 8) (I 9) (I 10) (J 2) (J 3) x1 x2 x3 x5 x6 x8 = some (r, (Ff 5), (Ff 6), (Ff 8), (If 10), (Jf 2), (Jf 3)) → (∀ k, k ∉ ([5, 6, 8] : List Nat) → Ff k = F k) → (∀ k, k ∉ ([10] : List Nat) → If k = I k) → (∀ k, k ∉ ([2, 3] : List Nat) → Jf k = J k) → va_P D vwCl (wM a kc F G I J) H → va_S (ad a 21 s.heap.size) s.heap H locs → lv_has ls 12 [(0, .ref (a 0)), (1, .int x1), (2, .int x2), (3, .long x3), (5, .int x5), (6, .long x6), (8, .int x8)] → W p l e rm_X8_justOf s m args below meth c H locs 0 0 (MQ below (Ql D (wM a kc Ff G If Jf) r (ad a 21 s.heap.size)) args s 0 0 (ad a 21 s.heap.size)) (F0 m 93 ls [])) :
    ∀ (n : Nat) (F : Nat → Int32) (I : Nat → Nat → Int32) (J : Nat → Nat → Int64) (x1 : Int32) (x2 : Int32) (x3 : Int64) (x5 : Int32) (x6 : Int64) (x8 : Int32) (x9 : Int32) (x10 : Int32) (x11 : Int32) (H : Heap) (locs : List Loc) (ls : Array Slot), p_X8_justOf_b140 K39 K93 n (F 2) (F 4) (F 5) (F 6) (F 8) (I 6) (I 8) (I 9) (I 10) (J 2) (J 3) x1 x2 x3 x5 x6 x8 x9 x10 x11 = some (r, (Ff 5), (Ff 6), (Ff 8), (If 10), (Jf 2), (Jf 3)) → (∀ k, k ∉ ([5, 6, 8] : List Nat) → Ff k = F k) → (∀ k, k ∉ ([10] : List Nat) → If k = I k) → (∀ k, k ∉ ([2, 3] : List Nat) → Jf k = J k) → va_P D vwCl (wM a kc F G I J) H → va_S (ad a 21 s.heap.size) s.heap H locs → lv_has ls 12 [(0, .ref (a 0)), (1, .int x1), (2, .int x2), (3, .long x3), (5, .int x5), (6, .long x6), (8, .int x8), (9, .int x9), (10, .int x10), (11, .int x11)] → W p l e rm_X8_justOf s m args below meth c H locs 0 0 (MQ below (Ql D (wM a kc Ff G If Jf) r (ad a 21 s.heap.size)) args s 0 0 (ad a 21 s.heap.size)) (F0 m 140 ls []) := by
  intro n
  induction n with
  | zero => intro F I J x1 x2 x3 x5 x6 x8 x9 x10 x11 H locs ls hf hfF hfI hfJ hP hS hl; exact (nos hf).elim
  | succ n ih => exact t_X8_justOf_b140x X kh39 kh93 ih
set_option maxHeartbeats 4000000 in
set_option maxRecDepth 100000 in
theorem t_X8_justOf_b93x {p : Program} {l : Launch} {e : Env} {s : State} {m : MethodId} {args : Array Value} {below : List Frame} {meth : Method} {c : Code} {D : va_G} {a : Nat → Nat} {kc : Nat → ClassId} (X : cx 21 p s m args meth c D (tyM kc) a cX8_justOf 12 RX8 (some .long)) {G : Nat → Int64} {Ff : Nat → Int32} {If : Nat → Nat → Int32} {Jf : Nat → Nat → Int64} {r : Int64} {K39 : Int32 → Int32 → Int32 → Int32 → Int32 → (Nat → Int32) → (Nat → Int32) → (Nat → Int32) → (Nat → Int32) → (Nat → Int64) → (Nat → Int64) → Int32 → Int32 → Int64 → Int32 → Option (Int64 × Int32 × Int32 × Int32 × (Nat → Int32) × (Nat → Int64) × (Nat → Int64))} (kh39 : ∀ (F : Nat → Int32) (I : Nat → Nat → Int32) (J : Nat → Nat → Int64) (x1 : Int32) (x2 : Int32) (x3 : Int64) (x5 : Int32) (H : Heap) (locs : List Loc) (ls : Array Slot), K39 (F 2) (F 4) (F 5) (F 6) (F 8) (I 6) (I 8) (I 9) (I 10) (J 2) (J 3) x1 x2 x3 x5 = some (r, (Ff 5), (Ff 6), (Ff 8), (If 10), (Jf 2), (Jf 3)) → (∀ k, k ∉ ([5, 6, 8] : List Nat) → Ff k = F k) → (∀ k, k ∉ ([10] : List Nat) → If k = I k) → (∀ k, k ∉ ([2, 3] : List Nat) → Jf k = J k) → va_P D vwCl (wM a kc F G I J) H → va_S (ad a 21 s.heap.size) s.heap H locs → lv_has ls 12 [(0, .ref (a 0)), (1, .int x1), (2, .int x2), (3, .long x3), (5, .int x5)] → W p l e rm_X8_justOf s m args below meth c H locs 0 0 (MQ below (Ql D (wM a kc Ff G If Jf) r (ad a 21 s.heap.size)) args s 0 0 (ad a 21 s.heap.size)) (F0 m 39 ls [])) {K93 : Int32 → Int32 → Int32 → Int32 → Int32 → (Nat → Int32) → (Nat → Int32) → (Nat → Int32) → (Nat → Int32) → (Nat → Int64) → (Nat → Int64) → Int32 → Int32 → Int64 → Int32 → Int64 → Int32 → Option (Int64 × Int32 × Int32 × Int32 × (Nat → Int32) × (Nat → Int64) × (Nat → Int64))} (kh93 : ∀ (F : Nat → Int32) (I : Nat → Nat → Int32) (J : Nat → Nat → Int64) (x1 : Int32) (x2 : Int32) (x3 : Int64) (x5 : Int32) (x6 : Int64) (x8 : Int32) (H : Heap) (locs : List Loc) (ls : Array Slot), K93 (F 2) (F 4) (F 5) (F 6) (F 8) (I 6) (I 8) (I 9) (I 10) (J 2) (J 3) x1 x2 x3 x5 x6 x8 = some (r, (Ff 5), (Ff 6), (Ff 8), (If 10), (Jf 2), (Jf 3)) → (∀ k, k ∉ ([5, 6, 8] : List Nat) → Ff k = F k) → (∀ k, k ∉ ([10] : List Nat) → If k = I k) → (∀ k, k ∉ ([2, 3] : List Nat) → Jf k = J k) → va_P D vwCl (wM a kc F G I J) H → va_S (ad a 21 s.heap.size) s.heap H locs → lv_has ls 12 [(0, .ref (a 0)), (1, .int x1), (2, .int x2), (3, .long x3), (5, .int x5), (6, .long x6), (8, .int x8)] → W p l e rm_X8_justOf s m args below meth c H locs 0 0 (MQ below (Ql D (wM a kc Ff G If Jf) r (ad a 21 s.heap.size)) args s 0 0 (ad a 21 s.heap.size)) (F0 m 93 ls [])) :
    ∀ (F : Nat → Int32) (I : Nat → Nat → Int32) (J : Nat → Nat → Int64) (x1 : Int32) (x2 : Int32) (x3 : Int64) (x5 : Int32) (x6 : Int64) (x8 : Int32) (H : Heap) (locs : List Loc) (ls : Array Slot), p_X8_justOf_b93x K39 K93 (F 2) (F 4) (F 5) (F 6) (F 8) (I 6) (I 8) (I 9) (I 10) (J 2) (J 3) x1 x2 x3 x5 x6 x8 = some (r, (Ff 5), (Ff 6), (Ff 8), (If 10), (Jf 2), (Jf 3)) → (∀ k, k ∉ ([5, 6, 8] : List Nat) → Ff k = F k) → (∀ k, k ∉ ([10] : List Nat) → If k = I k) → (∀ k, k ∉ ([2, 3] : List Nat) → Jf k = J k) → va_P D vwCl (wM a kc F G I J) H → va_S (ad a 21 s.heap.size) s.heap H locs → lv_has ls 12 [(0, .ref (a 0)), (1, .int x1), (2, .int x2), (3, .long x3), (5, .int x5), (6, .long x6), (8, .int x8)] → W p l e rm_X8_justOf s m args below meth c H locs 0 0 (MQ below (Ql D (wM a kc Ff G If Jf) r (ad a 21 s.heap.size)) args s 0 0 (ad a 21 s.heap.size)) (F0 m 93 ls []) := by
  intro F I J x1 x2 x3 x5 x6 x8 H locs ls hf hfF hfI hfJ hP hS hl
  unfold p_X8_justOf_b93x at hf
  refine lv_iload X.1 X.2.1 dX8_justOf_93 (lv_at hl 6 rfl) ?_
  refine lv_sipush (v := 2304) X.1 X.2.1 dX8_justOf_95 (by decide) ?_
  refine lv_icmp_ge (tgt := 230) X.1 X.2.1 dX8_justOf_98 (by decide) (fun c98 => ?_) (fun c98 => ?_)
  · have hf := it_s hf c98
    refine lv_iconst (v := 0) X.1 X.2.1 dX8_justOf_230 (by decide) ?_
    refine lv_istore (lv' := [(8, .int 0), (0, .ref (a 0)), (1, .int x1), (2, .int x2), (3, .long x3), (5, .int x5), (6, .long x6)]) X.1 X.2.1 dX8_justOf_231 hl (by decide) rfl (fun ls hl => ?_)
    exact t_X8_justOf_b233 X kh39 4096 F I J x1 x2 x3 x5 0 H locs ls hf hfF hfI hfJ hP hS (lv_sub hl [1, 2, 3, 4, 5, 0] rfl)
  · have hf := ie_s hf c98
    refine lv_aload_n X.1 X.2.1 dX8_justOf_101 rfl (lv_at hl 0 rfl) ?_
    refine gM_0_25 X q_4_134 dX8_justOf_102 hP ?_
    refine lv_iload X.1 X.2.1 dX8_justOf_105 (lv_at hl 6 rfl) ?_
    obtain ⟨h107, hf⟩ := gd_s hf
    refine lM_16 (J := J) X (f := (J 2)) rfl h107 dX8_justOf_107 hP ?_
    refine lv_lconst (v := 0) X.1 X.2.1 dX8_justOf_108 (by decide) ?_
    refine W.lcmp X.1 X.2.1 dX8_justOf_109 ?_
    refine lv_if_le (tgt := 224) X.1 X.2.1 dX8_justOf_110 (by decide) (fun c110 => ?_) (fun c110 => ?_)
    · have hf := it_s hf c110
      exact t_X8_justOf_b224 X kh39 kh93 F I J x1 x2 x3 x5 x6 x8 H locs ls hf hfF hfI hfJ hP hS (lv_sub hl [0, 1, 2, 3, 4, 5, 6] rfl)
    · have hf := ie_s hf c110
      refine lv_iload X.1 X.2.1 dX8_justOf_113 (lv_at hl 6 rfl) ?_
      refine lv_bipush (v := 9) X.1 X.2.1 dX8_justOf_115 (by decide) ?_
      obtain ⟨h117, hf⟩ := gd_s hf
      refine lv_idiv X.1 X.2.1 dX8_justOf_117 (of_decide_eq_true h117) ?_
      refine nm_i hf (fun x118 hf => ?_)
      refine lv_istore (lv' := [(9, .int x118), (0, .ref (a 0)), (1, .int x1), (2, .int x2), (3, .long x3), (5, .int x5), (6, .long x6), (8, .int x8)]) X.1 X.2.1 dX8_justOf_118 hl (by decide) rfl (fun ls hl => ?_)
      refine lv_aload_n X.1 X.2.1 dX8_justOf_120 rfl (lv_at hl 1 rfl) ?_
      refine lv_iload X.1 X.2.1 dX8_justOf_121 (lv_at hl 5 rfl) ?_
      refine lv_aload_n X.1 X.2.1 dX8_justOf_123 rfl (lv_at hl 1 rfl) ?_
      refine gM_0_14 X q_4_123 dX8_justOf_124 hP ?_
      refine lv_iload X.1 X.2.1 dX8_justOf_127 (lv_at hl 5 rfl) ?_
      obtain ⟨h129, hf⟩ := gd_s hf
      refine lM_10 (I := I) X (f := (I 9)) rfl h129 dX8_justOf_129 hP ?_
      refine lv_iload X.1 X.2.1 dX8_justOf_130 (lv_at hl 0 rfl) ?_
      obtain ⟨r132, ho, hf⟩ := b1_s hf
      refine call_vi (rest := []) X (c_X8_choices F G I J X.2.2.2.2.2.2.2.1 x5 ((I 9) x5.toNatClampNeg) x118 ho) q_5_129 q_5_131 qs_yX8_choices q_1_10 q_5_132 ok_X8_choices rfl 0 rfl rfl ⟨Nat.le_of_ble_eq_true rfl, Nat.le_of_ble_eq_true rfl⟩ rfl rfl hl.1 rfl (Nat.le_of_ble_eq_true rfl) dX8_justOf_132 hP hS (fun H locs hP hS => ?_)
      refine lv_istore (lv' := [(10, .int r132), (9, .int x118), (0, .ref (a 0)), (1, .int x1), (2, .int x2), (3, .long x3), (5, .int x5), (6, .long x6), (8, .int x8)]) X.1 X.2.1 dX8_justOf_135 hl (by decide) rfl (fun ls hl => ?_)
      refine lv_iconst (v := 0) X.1 X.2.1 dX8_justOf_137 (by decide) ?_
      refine lv_istore (lv' := [(11, .int 0), (10, .int r132), (9, .int x118), (0, .ref (a 0)), (1, .int x1), (2, .int x2), (3, .long x3), (5, .int x5), (6, .long x6), (8, .int x8)]) X.1 X.2.1 dX8_justOf_138 hl (by decide) rfl (fun ls hl => ?_)
      exact t_X8_justOf_b140 X kh39 kh93 4096 F I J x1 x2 x3 x5 x6 x8 x118 r132 0 H locs ls hf hfF hfI hfJ hP hS (lv_sub hl [3, 4, 5, 6, 7, 8, 9, 2, 1, 0] rfl)
set_option maxRecDepth 100000 in
theorem t_X8_justOf_b93 {p : Program} {l : Launch} {e : Env} {s : State} {m : MethodId} {args : Array Value} {below : List Frame} {meth : Method} {c : Code} {D : va_G} {a : Nat → Nat} {kc : Nat → ClassId} (X : cx 21 p s m args meth c D (tyM kc) a cX8_justOf 12 RX8 (some .long)) {G : Nat → Int64} {Ff : Nat → Int32} {If : Nat → Nat → Int32} {Jf : Nat → Nat → Int64} {r : Int64} {K39 : Int32 → Int32 → Int32 → Int32 → Int32 → (Nat → Int32) → (Nat → Int32) → (Nat → Int32) → (Nat → Int32) → (Nat → Int64) → (Nat → Int64) → Int32 → Int32 → Int64 → Int32 → Option (Int64 × Int32 × Int32 × Int32 × (Nat → Int32) × (Nat → Int64) × (Nat → Int64))} (kh39 : ∀ (F : Nat → Int32) (I : Nat → Nat → Int32) (J : Nat → Nat → Int64) (x1 : Int32) (x2 : Int32) (x3 : Int64) (x5 : Int32) (H : Heap) (locs : List Loc) (ls : Array Slot), K39 (F 2) (F 4) (F 5) (F 6) (F 8) (I 6) (I 8) (I 9) (I 10) (J 2) (J 3) x1 x2 x3 x5 = some (r, (Ff 5), (Ff 6), (Ff 8), (If 10), (Jf 2), (Jf 3)) → (∀ k, k ∉ ([5, 6, 8] : List Nat) → Ff k = F k) → (∀ k, k ∉ ([10] : List Nat) → If k = I k) → (∀ k, k ∉ ([2, 3] : List Nat) → Jf k = J k) → va_P D vwCl (wM a kc F G I J) H → va_S (ad a 21 s.heap.size) s.heap H locs → lv_has ls 12 [(0, .ref (a 0)), (1, .int x1), (2, .int x2), (3, .long x3), (5, .int x5)] → W p l e rm_X8_justOf s m args below meth c H locs 0 0 (MQ below (Ql D (wM a kc Ff G If Jf) r (ad a 21 s.heap.size)) args s 0 0 (ad a 21 s.heap.size)) (F0 m 39 ls [])) :
    ∀ (n : Nat) (F : Nat → Int32) (I : Nat → Nat → Int32) (J : Nat → Nat → Int64) (x1 : Int32) (x2 : Int32) (x3 : Int64) (x5 : Int32) (x6 : Int64) (x8 : Int32) (H : Heap) (locs : List Loc) (ls : Array Slot), p_X8_justOf_b93 K39 n (F 2) (F 4) (F 5) (F 6) (F 8) (I 6) (I 8) (I 9) (I 10) (J 2) (J 3) x1 x2 x3 x5 x6 x8 = some (r, (Ff 5), (Ff 6), (Ff 8), (If 10), (Jf 2), (Jf 3)) → (∀ k, k ∉ ([5, 6, 8] : List Nat) → Ff k = F k) → (∀ k, k ∉ ([10] : List Nat) → If k = I k) → (∀ k, k ∉ ([2, 3] : List Nat) → Jf k = J k) → va_P D vwCl (wM a kc F G I J) H → va_S (ad a 21 s.heap.size) s.heap H locs → lv_has ls 12 [(0, .ref (a 0)), (1, .int x1), (2, .int x2), (3, .long x3), (5, .int x5), (6, .long x6), (8, .int x8)] → W p l e rm_X8_justOf s m args below meth c H locs 0 0 (MQ below (Ql D (wM a kc Ff G If Jf) r (ad a 21 s.heap.size)) args s 0 0 (ad a 21 s.heap.size)) (F0 m 93 ls []) := by
  intro n
  induction n with
  | zero => intro F I J x1 x2 x3 x5 x6 x8 H locs ls hf hfF hfI hfJ hP hS hl; exact (nos hf).elim
  | succ n ih => exact t_X8_justOf_b93x X kh39 ih
set_option maxHeartbeats 4000000 in
set_option maxRecDepth 100000 in
theorem t_X8_justOf_b68x {p : Program} {l : Launch} {e : Env} {s : State} {m : MethodId} {args : Array Value} {below : List Frame} {meth : Method} {c : Code} {D : va_G} {a : Nat → Nat} {kc : Nat → ClassId} (X : cx 21 p s m args meth c D (tyM kc) a cX8_justOf 12 RX8 (some .long)) {G : Nat → Int64} {Ff : Nat → Int32} {If : Nat → Nat → Int32} {Jf : Nat → Nat → Int64} {r : Int64} {K39 : Int32 → Int32 → Int32 → Int32 → Int32 → (Nat → Int32) → (Nat → Int32) → (Nat → Int32) → (Nat → Int32) → (Nat → Int64) → (Nat → Int64) → Int32 → Int32 → Int64 → Int32 → Option (Int64 × Int32 × Int32 × Int32 × (Nat → Int32) × (Nat → Int64) × (Nat → Int64))} (kh39 : ∀ (F : Nat → Int32) (I : Nat → Nat → Int32) (J : Nat → Nat → Int64) (x1 : Int32) (x2 : Int32) (x3 : Int64) (x5 : Int32) (H : Heap) (locs : List Loc) (ls : Array Slot), K39 (F 2) (F 4) (F 5) (F 6) (F 8) (I 6) (I 8) (I 9) (I 10) (J 2) (J 3) x1 x2 x3 x5 = some (r, (Ff 5), (Ff 6), (Ff 8), (If 10), (Jf 2), (Jf 3)) → (∀ k, k ∉ ([5, 6, 8] : List Nat) → Ff k = F k) → (∀ k, k ∉ ([10] : List Nat) → If k = I k) → (∀ k, k ∉ ([2, 3] : List Nat) → Jf k = J k) → va_P D vwCl (wM a kc F G I J) H → va_S (ad a 21 s.heap.size) s.heap H locs → lv_has ls 12 [(0, .ref (a 0)), (1, .int x1), (2, .int x2), (3, .long x3), (5, .int x5)] → W p l e rm_X8_justOf s m args below meth c H locs 0 0 (MQ below (Ql D (wM a kc Ff G If Jf) r (ad a 21 s.heap.size)) args s 0 0 (ad a 21 s.heap.size)) (F0 m 39 ls [])) {K68 : Int32 → Int32 → Int32 → Int32 → Int32 → (Nat → Int32) → (Nat → Int32) → (Nat → Int32) → (Nat → Int32) → (Nat → Int64) → (Nat → Int64) → Int32 → Int32 → Int64 → Int32 → Int64 → Int32 → Option (Int64 × Int32 × Int32 × Int32 × (Nat → Int32) × (Nat → Int64) × (Nat → Int64))} (kh68 : ∀ (F : Nat → Int32) (I : Nat → Nat → Int32) (J : Nat → Nat → Int64) (x1 : Int32) (x2 : Int32) (x3 : Int64) (x5 : Int32) (x6 : Int64) (x8 : Int32) (H : Heap) (locs : List Loc) (ls : Array Slot), K68 (F 2) (F 4) (F 5) (F 6) (F 8) (I 6) (I 8) (I 9) (I 10) (J 2) (J 3) x1 x2 x3 x5 x6 x8 = some (r, (Ff 5), (Ff 6), (Ff 8), (If 10), (Jf 2), (Jf 3)) → (∀ k, k ∉ ([5, 6, 8] : List Nat) → Ff k = F k) → (∀ k, k ∉ ([10] : List Nat) → If k = I k) → (∀ k, k ∉ ([2, 3] : List Nat) → Jf k = J k) → va_P D vwCl (wM a kc F G I J) H → va_S (ad a 21 s.heap.size) s.heap H locs → lv_has ls 12 [(0, .ref (a 0)), (1, .int x1), (2, .int x2), (3, .long x3), (5, .int x5), (6, .long x6), (8, .int x8)] → W p l e rm_X8_justOf s m args below meth c H locs 0 0 (MQ below (Ql D (wM a kc Ff G If Jf) r (ad a 21 s.heap.size)) args s 0 0 (ad a 21 s.heap.size)) (F0 m 68 ls [])) :
    ∀ (F : Nat → Int32) (I : Nat → Nat → Int32) (J : Nat → Nat → Int64) (x1 : Int32) (x2 : Int32) (x3 : Int64) (x5 : Int32) (x6 : Int64) (x8 : Int32) (H : Heap) (locs : List Loc) (ls : Array Slot), p_X8_justOf_b68x K39 K68 (F 2) (F 4) (F 5) (F 6) (F 8) (I 6) (I 8) (I 9) (I 10) (J 2) (J 3) x1 x2 x3 x5 x6 x8 = some (r, (Ff 5), (Ff 6), (Ff 8), (If 10), (Jf 2), (Jf 3)) → (∀ k, k ∉ ([5, 6, 8] : List Nat) → Ff k = F k) → (∀ k, k ∉ ([10] : List Nat) → If k = I k) → (∀ k, k ∉ ([2, 3] : List Nat) → Jf k = J k) → va_P D vwCl (wM a kc F G I J) H → va_S (ad a 21 s.heap.size) s.heap H locs → lv_has ls 12 [(0, .ref (a 0)), (1, .int x1), (2, .int x2), (3, .long x3), (5, .int x5), (6, .long x6), (8, .int x8)] → W p l e rm_X8_justOf s m args below meth c H locs 0 0 (MQ below (Ql D (wM a kc Ff G If Jf) r (ad a 21 s.heap.size)) args s 0 0 (ad a 21 s.heap.size)) (F0 m 68 ls []) := by
  intro F I J x1 x2 x3 x5 x6 x8 H locs ls hf hfF hfI hfJ hP hS hl
  unfold p_X8_justOf_b68x at hf
  refine lv_iload X.1 X.2.1 dX8_justOf_68 (lv_at hl 6 rfl) ?_
  refine lv_sipush (v := 2304) X.1 X.2.1 dX8_justOf_70 (by decide) ?_
  refine lv_icmp_ge (tgt := 90) X.1 X.2.1 dX8_justOf_73 (by decide) (fun c73 => ?_) (fun c73 => ?_)
  · have hf := it_s hf c73
    refine lv_iconst (v := 0) X.1 X.2.1 dX8_justOf_90 (by decide) ?_
    refine lv_istore (lv' := [(8, .int 0), (0, .ref (a 0)), (1, .int x1), (2, .int x2), (3, .long x3), (5, .int x5), (6, .long x6)]) X.1 X.2.1 dX8_justOf_91 hl (by decide) rfl (fun ls hl => ?_)
    exact t_X8_justOf_b93 X kh39 4096 F I J x1 x2 x3 x5 x6 0 H locs ls hf hfF hfI hfJ hP hS (lv_sub hl [1, 2, 3, 4, 5, 6, 0] rfl)
  · have hf := ie_s hf c73
    refine lv_aload_n X.1 X.2.1 dX8_justOf_76 rfl (lv_at hl 0 rfl) ?_
    refine gM_0_26 X q_4_135 dX8_justOf_77 hP ?_
    refine lv_iload X.1 X.2.1 dX8_justOf_80 (lv_at hl 6 rfl) ?_
    refine lv_lconst (v := 0) X.1 X.2.1 dX8_justOf_82 (by decide) ?_
    obtain ⟨h83, hf⟩ := gd_s hf
    obtain ⟨m_bothNext_83, em_bothNext_83, hf⟩ := nm_x hf
    refine sM_17 (J := J) X h83 em_bothNext_83 dX8_justOf_83 hP hS (fun H locs hP hS => ?_)
    obtain ⟨x84, ex84, hf⟩ := nm_x hf
    refine lv_iinc (v := x84) (lv' := [(8, .int x84), (0, .ref (a 0)), (1, .int x1), (2, .int x2), (3, .long x3), (5, .int x5), (6, .long x6)]) X.1 X.2.1 dX8_justOf_84 hl (k := 6) rfl ex84 (by decide) rfl (fun ls hl => ?_)
    refine lv_goto (tgt := 68) X.1 X.2.1 dX8_justOf_87 (by decide) ?_
    exact kh68 F I (va_up J 3 m_bothNext_83) x1 x2 x3 x5 x6 x84 H locs ls hf hfF hfI (frm_up hfJ (by decide)) hP hS (lv_sub hl [1, 2, 3, 4, 5, 6, 0] rfl)
set_option maxRecDepth 100000 in
theorem t_X8_justOf_b68 {p : Program} {l : Launch} {e : Env} {s : State} {m : MethodId} {args : Array Value} {below : List Frame} {meth : Method} {c : Code} {D : va_G} {a : Nat → Nat} {kc : Nat → ClassId} (X : cx 21 p s m args meth c D (tyM kc) a cX8_justOf 12 RX8 (some .long)) {G : Nat → Int64} {Ff : Nat → Int32} {If : Nat → Nat → Int32} {Jf : Nat → Nat → Int64} {r : Int64} {K39 : Int32 → Int32 → Int32 → Int32 → Int32 → (Nat → Int32) → (Nat → Int32) → (Nat → Int32) → (Nat → Int32) → (Nat → Int64) → (Nat → Int64) → Int32 → Int32 → Int64 → Int32 → Option (Int64 × Int32 × Int32 × Int32 × (Nat → Int32) × (Nat → Int64) × (Nat → Int64))} (kh39 : ∀ (F : Nat → Int32) (I : Nat → Nat → Int32) (J : Nat → Nat → Int64) (x1 : Int32) (x2 : Int32) (x3 : Int64) (x5 : Int32) (H : Heap) (locs : List Loc) (ls : Array Slot), K39 (F 2) (F 4) (F 5) (F 6) (F 8) (I 6) (I 8) (I 9) (I 10) (J 2) (J 3) x1 x2 x3 x5 = some (r, (Ff 5), (Ff 6), (Ff 8), (If 10), (Jf 2), (Jf 3)) → (∀ k, k ∉ ([5, 6, 8] : List Nat) → Ff k = F k) → (∀ k, k ∉ ([10] : List Nat) → If k = I k) → (∀ k, k ∉ ([2, 3] : List Nat) → Jf k = J k) → va_P D vwCl (wM a kc F G I J) H → va_S (ad a 21 s.heap.size) s.heap H locs → lv_has ls 12 [(0, .ref (a 0)), (1, .int x1), (2, .int x2), (3, .long x3), (5, .int x5)] → W p l e rm_X8_justOf s m args below meth c H locs 0 0 (MQ below (Ql D (wM a kc Ff G If Jf) r (ad a 21 s.heap.size)) args s 0 0 (ad a 21 s.heap.size)) (F0 m 39 ls [])) :
    ∀ (n : Nat) (F : Nat → Int32) (I : Nat → Nat → Int32) (J : Nat → Nat → Int64) (x1 : Int32) (x2 : Int32) (x3 : Int64) (x5 : Int32) (x6 : Int64) (x8 : Int32) (H : Heap) (locs : List Loc) (ls : Array Slot), p_X8_justOf_b68 K39 n (F 2) (F 4) (F 5) (F 6) (F 8) (I 6) (I 8) (I 9) (I 10) (J 2) (J 3) x1 x2 x3 x5 x6 x8 = some (r, (Ff 5), (Ff 6), (Ff 8), (If 10), (Jf 2), (Jf 3)) → (∀ k, k ∉ ([5, 6, 8] : List Nat) → Ff k = F k) → (∀ k, k ∉ ([10] : List Nat) → If k = I k) → (∀ k, k ∉ ([2, 3] : List Nat) → Jf k = J k) → va_P D vwCl (wM a kc F G I J) H → va_S (ad a 21 s.heap.size) s.heap H locs → lv_has ls 12 [(0, .ref (a 0)), (1, .int x1), (2, .int x2), (3, .long x3), (5, .int x5), (6, .long x6), (8, .int x8)] → W p l e rm_X8_justOf s m args below meth c H locs 0 0 (MQ below (Ql D (wM a kc Ff G If Jf) r (ad a 21 s.heap.size)) args s 0 0 (ad a 21 s.heap.size)) (F0 m 68 ls []) := by
  intro n
  induction n with
  | zero => intro F I J x1 x2 x3 x5 x6 x8 H locs ls hf hfF hfI hfJ hP hS hl; exact (nos hf).elim
  | succ n ih => exact t_X8_justOf_b68x X kh39 ih
set_option maxHeartbeats 4000000 in
set_option maxRecDepth 100000 in
theorem t_X8_justOf_b39x {p : Program} {l : Launch} {e : Env} {s : State} {m : MethodId} {args : Array Value} {below : List Frame} {meth : Method} {c : Code} {D : va_G} {a : Nat → Nat} {kc : Nat → ClassId} (X : cx 21 p s m args meth c D (tyM kc) a cX8_justOf 12 RX8 (some .long)) {G : Nat → Int64} {Ff : Nat → Int32} {If : Nat → Nat → Int32} {Jf : Nat → Nat → Int64} {r : Int64} {K39 : Int32 → Int32 → Int32 → Int32 → Int32 → (Nat → Int32) → (Nat → Int32) → (Nat → Int32) → (Nat → Int32) → (Nat → Int64) → (Nat → Int64) → Int32 → Int32 → Int64 → Int32 → Option (Int64 × Int32 × Int32 × Int32 × (Nat → Int32) × (Nat → Int64) × (Nat → Int64))} (kh39 : ∀ (F : Nat → Int32) (I : Nat → Nat → Int32) (J : Nat → Nat → Int64) (x1 : Int32) (x2 : Int32) (x3 : Int64) (x5 : Int32) (H : Heap) (locs : List Loc) (ls : Array Slot), K39 (F 2) (F 4) (F 5) (F 6) (F 8) (I 6) (I 8) (I 9) (I 10) (J 2) (J 3) x1 x2 x3 x5 = some (r, (Ff 5), (Ff 6), (Ff 8), (If 10), (Jf 2), (Jf 3)) → (∀ k, k ∉ ([5, 6, 8] : List Nat) → Ff k = F k) → (∀ k, k ∉ ([10] : List Nat) → If k = I k) → (∀ k, k ∉ ([2, 3] : List Nat) → Jf k = J k) → va_P D vwCl (wM a kc F G I J) H → va_S (ad a 21 s.heap.size) s.heap H locs → lv_has ls 12 [(0, .ref (a 0)), (1, .int x1), (2, .int x2), (3, .long x3), (5, .int x5)] → W p l e rm_X8_justOf s m args below meth c H locs 0 0 (MQ below (Ql D (wM a kc Ff G If Jf) r (ad a 21 s.heap.size)) args s 0 0 (ad a 21 s.heap.size)) (F0 m 39 ls [])) :
    ∀ (F : Nat → Int32) (I : Nat → Nat → Int32) (J : Nat → Nat → Int64) (x1 : Int32) (x2 : Int32) (x3 : Int64) (x5 : Int32) (H : Heap) (locs : List Loc) (ls : Array Slot), p_X8_justOf_b39x K39 (F 2) (F 4) (F 5) (F 6) (F 8) (I 6) (I 8) (I 9) (I 10) (J 2) (J 3) x1 x2 x3 x5 = some (r, (Ff 5), (Ff 6), (Ff 8), (If 10), (Jf 2), (Jf 3)) → (∀ k, k ∉ ([5, 6, 8] : List Nat) → Ff k = F k) → (∀ k, k ∉ ([10] : List Nat) → If k = I k) → (∀ k, k ∉ ([2, 3] : List Nat) → Jf k = J k) → va_P D vwCl (wM a kc F G I J) H → va_S (ad a 21 s.heap.size) s.heap H locs → lv_has ls 12 [(0, .ref (a 0)), (1, .int x1), (2, .int x2), (3, .long x3), (5, .int x5)] → W p l e rm_X8_justOf s m args below meth c H locs 0 0 (MQ below (Ql D (wM a kc Ff G If Jf) r (ad a 21 s.heap.size)) args s 0 0 (ad a 21 s.heap.size)) (F0 m 39 ls []) := by
  intro F I J x1 x2 x3 x5 H locs ls hf hfF hfI hfJ hP hS hl
  unfold p_X8_justOf_b39x at hf
  refine lv_iload X.1 X.2.1 dX8_justOf_39 (lv_at hl 4 rfl) ?_
  refine lv_aload_n X.1 X.2.1 dX8_justOf_41 rfl (lv_at hl 0 rfl) ?_
  refine gM_0_12 (F := F) X (v := (F 4)) rfl q_4_121 dX8_justOf_42 hP ?_
  refine lv_icmp_ge (tgt := 267) X.1 X.2.1 dX8_justOf_45 (by decide) (fun c45 => ?_) (fun c45 => ?_)
  · have hf := it_s hf c45
    refine lv_lconst (v := 0) X.1 X.2.1 dX8_justOf_267 (by decide) ?_
    refine lv_lstore (lv' := [(5, .long 0), (0, .ref (a 0)), (1, .int x1), (2, .int x2), (3, .long x3)]) X.1 X.2.1 dX8_justOf_268 hl (by decide) rfl (fun ls hl => ?_)
    refine lv_iconst (v := 0) X.1 X.2.1 dX8_justOf_270 (by decide) ?_
    refine lv_istore (lv' := [(7, .int 0), (5, .long 0), (0, .ref (a 0)), (1, .int x1), (2, .int x2), (3, .long x3)]) X.1 X.2.1 dX8_justOf_271 hl (by decide) rfl (fun ls hl => ?_)
    exact t_X8_justOf_b273 X 4096 F I J x1 x2 x3 0 0 H locs ls hf hfF hfI hfJ hP hS (lv_sub hl [2, 3, 4, 5, 1, 0] rfl)
  · have hf := ie_s hf c45
    refine lv_aload_n X.1 X.2.1 dX8_justOf_48 rfl (lv_at hl 0 rfl) ?_
    refine gM_0_8 (F := F) X (v := (F 2)) rfl q_4_117 dX8_justOf_49 hP ?_
    refine lv_iload X.1 X.2.1 dX8_justOf_52 (lv_at hl 4 rfl) ?_
    refine lv_isub X.1 X.2.1 dX8_justOf_54 ?_
    obtain ⟨r55, ho, hf⟩ := b1_s hf
    refine call_sl (rest := []) X (c_X8_partsOf ((F 2) - x5) ho) q_5_113 q_5_114 q_1_10 q_5_115 ok_X8_partsOf rfl ⟨Nat.le_of_ble_eq_true rfl, Nat.le_of_ble_eq_true rfl⟩ rfl rfl hl.1 rfl (Nat.le_of_ble_eq_true rfl) dX8_justOf_55 hP hS (fun H locs hP hS => ?_)
    refine lv_lstore (lv' := [(6, .long r55), (0, .ref (a 0)), (1, .int x1), (2, .int x2), (3, .long x3), (5, .int x5)]) X.1 X.2.1 dX8_justOf_58 hl (by decide) rfl (fun ls hl => ?_)
    refine lv_lload_n X.1 X.2.1 dX8_justOf_60 rfl (lv_at hl 4 rfl) ?_
    refine lv_lload X.1 X.2.1 dX8_justOf_61 (lv_at hl 0 rfl) ?_
    refine lv_lmul X.1 X.2.1 dX8_justOf_63 ?_
    refine nm_l hf (fun x64 hf => ?_)
    refine lv_lstore_n (lv' := [(3, .long x64), (6, .long r55), (0, .ref (a 0)), (1, .int x1), (2, .int x2), (5, .int x5)]) X.1 X.2.1 dX8_justOf_64 rfl hl (by decide) rfl (fun ls hl => ?_)
    refine lv_iconst (v := 0) X.1 X.2.1 dX8_justOf_65 (by decide) ?_
    refine lv_istore (lv' := [(8, .int 0), (3, .long x64), (6, .long r55), (0, .ref (a 0)), (1, .int x1), (2, .int x2), (5, .int x5)]) X.1 X.2.1 dX8_justOf_66 hl (by decide) rfl (fun ls hl => ?_)
    exact t_X8_justOf_b68 X kh39 4096 F I J x1 x2 x64 x5 r55 0 H locs ls hf hfF hfI hfJ hP hS (lv_sub hl [3, 4, 5, 1, 6, 2, 0] rfl)
set_option maxRecDepth 100000 in
theorem t_X8_justOf_b39 {p : Program} {l : Launch} {e : Env} {s : State} {m : MethodId} {args : Array Value} {below : List Frame} {meth : Method} {c : Code} {D : va_G} {a : Nat → Nat} {kc : Nat → ClassId} (X : cx 21 p s m args meth c D (tyM kc) a cX8_justOf 12 RX8 (some .long)) {G : Nat → Int64} {Ff : Nat → Int32} {If : Nat → Nat → Int32} {Jf : Nat → Nat → Int64} {r : Int64} :
    ∀ (n : Nat) (F : Nat → Int32) (I : Nat → Nat → Int32) (J : Nat → Nat → Int64) (x1 : Int32) (x2 : Int32) (x3 : Int64) (x5 : Int32) (H : Heap) (locs : List Loc) (ls : Array Slot), p_X8_justOf_b39 n (F 2) (F 4) (F 5) (F 6) (F 8) (I 6) (I 8) (I 9) (I 10) (J 2) (J 3) x1 x2 x3 x5 = some (r, (Ff 5), (Ff 6), (Ff 8), (If 10), (Jf 2), (Jf 3)) → (∀ k, k ∉ ([5, 6, 8] : List Nat) → Ff k = F k) → (∀ k, k ∉ ([10] : List Nat) → If k = I k) → (∀ k, k ∉ ([2, 3] : List Nat) → Jf k = J k) → va_P D vwCl (wM a kc F G I J) H → va_S (ad a 21 s.heap.size) s.heap H locs → lv_has ls 12 [(0, .ref (a 0)), (1, .int x1), (2, .int x2), (3, .long x3), (5, .int x5)] → W p l e rm_X8_justOf s m args below meth c H locs 0 0 (MQ below (Ql D (wM a kc Ff G If Jf) r (ad a 21 s.heap.size)) args s 0 0 (ad a 21 s.heap.size)) (F0 m 39 ls []) := by
  intro n
  induction n with
  | zero => intro F I J x1 x2 x3 x5 H locs ls hf hfF hfI hfJ hP hS hl; exact (nos hf).elim
  | succ n ih => exact t_X8_justOf_b39x X ih
set_option maxHeartbeats 4000000 in
set_option maxRecDepth 100000 in
theorem t_X8_justOf_b27 {p : Program} {l : Launch} {e : Env} {s : State} {m : MethodId} {args : Array Value} {below : List Frame} {meth : Method} {c : Code} {D : va_G} {a : Nat → Nat} {kc : Nat → ClassId} (X : cx 21 p s m args meth c D (tyM kc) a cX8_justOf 12 RX8 (some .long)) {G : Nat → Int64} {Ff : Nat → Int32} {If : Nat → Nat → Int32} {Jf : Nat → Nat → Int64} {r : Int64} {K6 : Int32 → Int32 → Int32 → Int32 → Int32 → (Nat → Int32) → (Nat → Int32) → (Nat → Int32) → (Nat → Int32) → (Nat → Int64) → (Nat → Int64) → Int32 → Int32 → Int32 → Option (Int64 × Int32 × Int32 × Int32 × (Nat → Int32) × (Nat → Int64) × (Nat → Int64))} (kh6 : ∀ (F : Nat → Int32) (I : Nat → Nat → Int32) (J : Nat → Nat → Int64) (x1 : Int32) (x2 : Int32) (x3 : Int32) (H : Heap) (locs : List Loc) (ls : Array Slot), K6 (F 2) (F 4) (F 5) (F 6) (F 8) (I 6) (I 8) (I 9) (I 10) (J 2) (J 3) x1 x2 x3 = some (r, (Ff 5), (Ff 6), (Ff 8), (If 10), (Jf 2), (Jf 3)) → (∀ k, k ∉ ([5, 6, 8] : List Nat) → Ff k = F k) → (∀ k, k ∉ ([10] : List Nat) → If k = I k) → (∀ k, k ∉ ([2, 3] : List Nat) → Jf k = J k) → va_P D vwCl (wM a kc F G I J) H → va_S (ad a 21 s.heap.size) s.heap H locs → lv_has ls 12 [(0, .ref (a 0)), (1, .int x1), (2, .int x2), (3, .int x3)] → W p l e rm_X8_justOf s m args below meth c H locs 0 0 (MQ below (Ql D (wM a kc Ff G If Jf) r (ad a 21 s.heap.size)) args s 0 0 (ad a 21 s.heap.size)) (F0 m 6 ls [])) :
    ∀ (F : Nat → Int32) (I : Nat → Nat → Int32) (J : Nat → Nat → Int64) (t1 : Int32) (t2 : Int64) (x1 : Int32) (x2 : Int32) (x3 : Int32) (H : Heap) (locs : List Loc) (ls : Array Slot), p_X8_justOf_b27 K6 (F 2) (F 4) (F 5) (F 6) (F 8) (I 6) (I 8) (I 9) (I 10) (J 2) (J 3) t1 t2 x1 x2 x3 = some (r, (Ff 5), (Ff 6), (Ff 8), (If 10), (Jf 2), (Jf 3)) → (∀ k, k ∉ ([5, 6, 8] : List Nat) → Ff k = F k) → (∀ k, k ∉ ([10] : List Nat) → If k = I k) → (∀ k, k ∉ ([2, 3] : List Nat) → Jf k = J k) → va_P D vwCl (wM a kc F G I J) H → va_S (ad a 21 s.heap.size) s.heap H locs → lv_has ls 12 [(0, .ref (a 0)), (1, .int x1), (2, .int x2), (3, .int x3)] → W p l e rm_X8_justOf s m args below meth c H locs 0 0 (MQ below (Ql D (wM a kc Ff G If Jf) r (ad a 21 s.heap.size)) args s 0 0 (ad a 21 s.heap.size)) (F0 m 27 ls [.long t2, .int t1, .ref (a 16)]) := by
  intro F I J t1 t2 x1 x2 x3 H locs ls hf hfF hfI hfJ hP hS hl
  unfold p_X8_justOf_b27 at hf
  obtain ⟨h27, hf⟩ := gd_s hf
  obtain ⟨m_both_27, em_both_27, hf⟩ := nm_x hf
  refine sM_16 (J := J) X h27 em_both_27 dX8_justOf_27 hP hS (fun H locs hP hS => ?_)
  obtain ⟨x28, ex28, hf⟩ := nm_x hf
  refine lv_iinc (v := x28) (lv' := [(3, .int x28), (0, .ref (a 0)), (1, .int x1), (2, .int x2)]) X.1 X.2.1 dX8_justOf_28 hl (k := 3) rfl ex28 (by decide) rfl (fun ls hl => ?_)
  refine lv_goto (tgt := 6) X.1 X.2.1 dX8_justOf_31 (by decide) ?_
  exact kh6 F I (va_up J 2 m_both_27) x1 x2 x28 H locs ls hf hfF hfI (frm_up hfJ (by decide)) hP hS (lv_sub hl [1, 2, 3, 0] rfl)
set_option maxHeartbeats 4000000 in
set_option maxRecDepth 100000 in
theorem t_X8_justOf_b6x {p : Program} {l : Launch} {e : Env} {s : State} {m : MethodId} {args : Array Value} {below : List Frame} {meth : Method} {c : Code} {D : va_G} {a : Nat → Nat} {kc : Nat → ClassId} (X : cx 21 p s m args meth c D (tyM kc) a cX8_justOf 12 RX8 (some .long)) {G : Nat → Int64} {Ff : Nat → Int32} {If : Nat → Nat → Int32} {Jf : Nat → Nat → Int64} {r : Int64} {K6 : Int32 → Int32 → Int32 → Int32 → Int32 → (Nat → Int32) → (Nat → Int32) → (Nat → Int32) → (Nat → Int32) → (Nat → Int64) → (Nat → Int64) → Int32 → Int32 → Int32 → Option (Int64 × Int32 × Int32 × Int32 × (Nat → Int32) × (Nat → Int64) × (Nat → Int64))} (kh6 : ∀ (F : Nat → Int32) (I : Nat → Nat → Int32) (J : Nat → Nat → Int64) (x1 : Int32) (x2 : Int32) (x3 : Int32) (H : Heap) (locs : List Loc) (ls : Array Slot), K6 (F 2) (F 4) (F 5) (F 6) (F 8) (I 6) (I 8) (I 9) (I 10) (J 2) (J 3) x1 x2 x3 = some (r, (Ff 5), (Ff 6), (Ff 8), (If 10), (Jf 2), (Jf 3)) → (∀ k, k ∉ ([5, 6, 8] : List Nat) → Ff k = F k) → (∀ k, k ∉ ([10] : List Nat) → If k = I k) → (∀ k, k ∉ ([2, 3] : List Nat) → Jf k = J k) → va_P D vwCl (wM a kc F G I J) H → va_S (ad a 21 s.heap.size) s.heap H locs → lv_has ls 12 [(0, .ref (a 0)), (1, .int x1), (2, .int x2), (3, .int x3)] → W p l e rm_X8_justOf s m args below meth c H locs 0 0 (MQ below (Ql D (wM a kc Ff G If Jf) r (ad a 21 s.heap.size)) args s 0 0 (ad a 21 s.heap.size)) (F0 m 6 ls [])) :
    ∀ (F : Nat → Int32) (I : Nat → Nat → Int32) (J : Nat → Nat → Int64) (x1 : Int32) (x2 : Int32) (x3 : Int32) (H : Heap) (locs : List Loc) (ls : Array Slot), p_X8_justOf_b6x K6 (F 2) (F 4) (F 5) (F 6) (F 8) (I 6) (I 8) (I 9) (I 10) (J 2) (J 3) x1 x2 x3 = some (r, (Ff 5), (Ff 6), (Ff 8), (If 10), (Jf 2), (Jf 3)) → (∀ k, k ∉ ([5, 6, 8] : List Nat) → Ff k = F k) → (∀ k, k ∉ ([10] : List Nat) → If k = I k) → (∀ k, k ∉ ([2, 3] : List Nat) → Jf k = J k) → va_P D vwCl (wM a kc F G I J) H → va_S (ad a 21 s.heap.size) s.heap H locs → lv_has ls 12 [(0, .ref (a 0)), (1, .int x1), (2, .int x2), (3, .int x3)] → W p l e rm_X8_justOf s m args below meth c H locs 0 0 (MQ below (Ql D (wM a kc Ff G If Jf) r (ad a 21 s.heap.size)) args s 0 0 (ad a 21 s.heap.size)) (F0 m 6 ls []) := by
  intro F I J x1 x2 x3 H locs ls hf hfF hfI hfJ hP hS hl
  unfold p_X8_justOf_b6x at hf
  refine lv_iload_n X.1 X.2.1 dX8_justOf_6 rfl (lv_at hl 3 rfl) ?_
  refine lv_sipush (v := 2304) X.1 X.2.1 dX8_justOf_7 (by decide) ?_
  refine lv_icmp_ge (tgt := 34) X.1 X.2.1 dX8_justOf_10 (by decide) (fun c10 => ?_) (fun c10 => ?_)
  · have hf := it_s hf c10
    refine lv_lconst (v := 1) X.1 X.2.1 dX8_justOf_34 (by decide) ?_
    refine lv_lstore_n (lv' := [(3, .long 1), (0, .ref (a 0)), (1, .int x1), (2, .int x2)]) X.1 X.2.1 dX8_justOf_35 rfl hl (by decide) rfl (fun ls hl => ?_)
    refine lv_iconst (v := 0) X.1 X.2.1 dX8_justOf_36 (by decide) ?_
    refine lv_istore (lv' := [(5, .int 0), (3, .long 1), (0, .ref (a 0)), (1, .int x1), (2, .int x2)]) X.1 X.2.1 dX8_justOf_37 hl (by decide) rfl (fun ls hl => ?_)
    exact t_X8_justOf_b39 X 4096 F I J x1 x2 1 0 H locs ls hf hfF hfI hfJ hP hS (lv_sub hl [2, 3, 4, 1, 0] rfl)
  · have hf := ie_s hf c10
    refine lv_aload_n X.1 X.2.1 dX8_justOf_13 rfl (lv_at hl 0 rfl) ?_
    refine gM_0_25 X q_4_134 dX8_justOf_14 hP ?_
    refine lv_iload_n X.1 X.2.1 dX8_justOf_17 rfl (lv_at hl 3 rfl) ?_
    refine lv_iload_n X.1 X.2.1 dX8_justOf_18 rfl (lv_at hl 3 rfl) ?_
    refine lv_if_ne (tgt := 26) X.1 X.2.1 dX8_justOf_19 (by decide) (fun c19 => ?_) (fun c19 => ?_)
    · have hf := ie_s hf c19
      refine lv_lconst (v := 0) X.1 X.2.1 dX8_justOf_26 (by decide) ?_
      exact t_X8_justOf_b27 X kh6 F I J x3 0 x1 x2 x3 H locs ls hf hfF hfI hfJ hP hS (lv_sub hl [0, 1, 2, 3] rfl)
    · have hf := it_s hf c19
      refine lv_lconst (v := 1) X.1 X.2.1 dX8_justOf_22 (by decide) ?_
      refine lv_goto (tgt := 27) X.1 X.2.1 dX8_justOf_23 (by decide) ?_
      exact t_X8_justOf_b27 X kh6 F I J x3 1 x1 x2 x3 H locs ls hf hfF hfI hfJ hP hS (lv_sub hl [0, 1, 2, 3] rfl)
set_option maxRecDepth 100000 in
theorem t_X8_justOf_b6 {p : Program} {l : Launch} {e : Env} {s : State} {m : MethodId} {args : Array Value} {below : List Frame} {meth : Method} {c : Code} {D : va_G} {a : Nat → Nat} {kc : Nat → ClassId} (X : cx 21 p s m args meth c D (tyM kc) a cX8_justOf 12 RX8 (some .long)) {G : Nat → Int64} {Ff : Nat → Int32} {If : Nat → Nat → Int32} {Jf : Nat → Nat → Int64} {r : Int64} :
    ∀ (n : Nat) (F : Nat → Int32) (I : Nat → Nat → Int32) (J : Nat → Nat → Int64) (x1 : Int32) (x2 : Int32) (x3 : Int32) (H : Heap) (locs : List Loc) (ls : Array Slot), p_X8_justOf_b6 n (F 2) (F 4) (F 5) (F 6) (F 8) (I 6) (I 8) (I 9) (I 10) (J 2) (J 3) x1 x2 x3 = some (r, (Ff 5), (Ff 6), (Ff 8), (If 10), (Jf 2), (Jf 3)) → (∀ k, k ∉ ([5, 6, 8] : List Nat) → Ff k = F k) → (∀ k, k ∉ ([10] : List Nat) → If k = I k) → (∀ k, k ∉ ([2, 3] : List Nat) → Jf k = J k) → va_P D vwCl (wM a kc F G I J) H → va_S (ad a 21 s.heap.size) s.heap H locs → lv_has ls 12 [(0, .ref (a 0)), (1, .int x1), (2, .int x2), (3, .int x3)] → W p l e rm_X8_justOf s m args below meth c H locs 0 0 (MQ below (Ql D (wM a kc Ff G If Jf) r (ad a 21 s.heap.size)) args s 0 0 (ad a 21 s.heap.size)) (F0 m 6 ls []) := by
  intro n
  induction n with
  | zero => intro F I J x1 x2 x3 H locs ls hf hfF hfI hfJ hP hS hl; exact (nos hf).elim
  | succ n ih => exact t_X8_justOf_b6x X ih
set_option maxHeartbeats 4000000 in
set_option maxRecDepth 100000 in
theorem t_X8_justOf_b0 {p : Program} {l : Launch} {e : Env} {s : State} {m : MethodId} {args : Array Value} {below : List Frame} {meth : Method} {c : Code} {D : va_G} {a : Nat → Nat} {kc : Nat → ClassId} (X : cx 21 p s m args meth c D (tyM kc) a cX8_justOf 12 RX8 (some .long)) {G : Nat → Int64} {Ff : Nat → Int32} {If : Nat → Nat → Int32} {Jf : Nat → Nat → Int64} {r : Int64} :
    ∀ (F : Nat → Int32) (I : Nat → Nat → Int32) (J : Nat → Nat → Int64) (x1 : Int32) (x2 : Int32) (H : Heap) (locs : List Loc) (ls : Array Slot), p_X8_justOf_b0 (F 2) (F 4) (F 5) (F 6) (F 8) (I 6) (I 8) (I 9) (I 10) (J 2) (J 3) x1 x2 = some (r, (Ff 5), (Ff 6), (Ff 8), (If 10), (Jf 2), (Jf 3)) → (∀ k, k ∉ ([5, 6, 8] : List Nat) → Ff k = F k) → (∀ k, k ∉ ([10] : List Nat) → If k = I k) → (∀ k, k ∉ ([2, 3] : List Nat) → Jf k = J k) → va_P D vwCl (wM a kc F G I J) H → va_S (ad a 21 s.heap.size) s.heap H locs → lv_has ls 12 [(0, .ref (a 0)), (1, .int x1), (2, .int x2)] → W p l e rm_X8_justOf s m args below meth c H locs 0 0 (MQ below (Ql D (wM a kc Ff G If Jf) r (ad a 21 s.heap.size)) args s 0 0 (ad a 21 s.heap.size)) (F0 m 0 ls []) := by
  intro F I J x1 x2 H locs ls hf hfF hfI hfJ hP hS hl
  unfold p_X8_justOf_b0 at hf
  refine lv_aload_n X.1 X.2.1 dX8_justOf_0 rfl (lv_at hl 0 rfl) ?_
  obtain ⟨m_loser_1, m_onlyWho_1, m_keptFree_1, m_keptSeat_1, ho, hf⟩ := b4_s hf
  refine call_vv (rest := []) X (c_X8_noBounds F G I J X.2.2.2.2.2.2.2.1  ho) q_5_101 q_5_103 qs_yX8_noBounds q_1_10 q_5_104 ok_X8_noBounds rfl 0 rfl rfl ⟨Nat.le_of_ble_eq_true rfl, Nat.le_of_ble_eq_true rfl⟩ rfl rfl hl.1 rfl (Nat.le_of_ble_eq_true rfl) dX8_justOf_1 hP hS (fun H locs hP hS => ?_)
  refine lv_iconst (v := 0) X.1 X.2.1 dX8_justOf_4 (by decide) ?_
  refine lv_istore_n (lv' := [(3, .int 0), (0, .ref (a 0)), (1, .int x1), (2, .int x2)]) X.1 X.2.1 dX8_justOf_5 rfl hl (by decide) rfl (fun ls hl => ?_)
  exact t_X8_justOf_b6 X 4096 (va_up (va_up (va_up F 5 m_loser_1) 6 m_onlyWho_1) 8 m_keptFree_1) (va_up I 10 m_keptSeat_1) J x1 x2 0 H locs ls hf (frm_up (frm_up (frm_up hfF (by decide)) (by decide)) (by decide)) (frm_up hfI (by decide)) hfJ hP hS (lv_sub hl [1, 2, 3, 0] rfl)
set_option maxRecDepth 100000 in
theorem c_X8_justOf {l : Launch} {D : va_G} {a : Nat → Nat} {kc : Nat → ClassId} (F : Nat → Int32) (G : Nat → Int64) (I : Nat → Nat → Int32) (J : Nat → Nat → Int64) (hAp : ∀ i j, i < 21 → j < 21 → a i = a j → i = j) (x1 : Int32) (x2 : Int32) {o0 : Int64} {o1 : Int32} {o2 : Int32} {o3 : Int32} {o4 : Nat → Int32} {o5 : Nat → Int64} {o6 : Nat → Int64} (hf : p_X8_justOf (F 2) (F 4) (F 5) (F 6) (F 8) (I 6) (I 8) (I 9) (I 10) (J 2) (J 3) x1 x2 = some (o0, o1, o2, o3, o4, o5, o6)) : Ct 21 l yX8_justOf cX8_justOf 12 (some .long) rm_X8_justOf D (tyM kc) a (wM a kc F G I J) [.ref (a 0), .int x1, .int x2] (Ql D (wM a kc (va_up (va_up (va_up F 5 o1) 6 o2) 8 o3) G (va_up I 10 o4) (va_up (va_up J 2 o5) 3 o6)) o0) :=
  Ct.of (by decide +kernel) hAp (Nat.le_of_ble_eq_true rfl) (fun p e s m args below meth c ls X hP hl => t_X8_justOf_b0 X F I J x1 x2 _ _ _ hf (frm_ul (frm_ul (frm_ul (fun k _ => rfl) (by decide)) (by decide)) (by decide)) (frm_ul (fun k _ => rfl) (by decide)) (frm_ul (frm_ul (fun k _ => rfl) (by decide)) (by decide)) hP va_S.rf hl)
abbrev rm_X8_wrong : Room := { frames := 6, cells := 0, slots := 0, locals := 148 }
set_option maxHeartbeats 4000000 in
set_option maxRecDepth 100000 in
theorem t_X8_wrong_b27 {p : Program} {l : Launch} {e : Env} {s : State} {m : MethodId} {args : Array Value} {below : List Frame} {meth : Method} {c : Code} {D : va_G} {a : Nat → Nat} {kc : Nat → ClassId} (X : cx 21 p s m args meth c D (tyM kc) a cX8_wrong 3 RX8 (some .long))  {Ff : Nat → Int32} {Gf : Nat → Int64} {If : Nat → Nat → Int32} {Jf : Nat → Nat → Int64} {r : Int64} :
    ∀ (F : Nat → Int32) (G : Nat → Int64) (I : Nat → Nat → Int32) (J : Nat → Nat → Int64)  (H : Heap) (locs : List Loc) (ls : Array Slot), p_X8_wrong_b27 (F 1) (F 2) (F 3) (F 4) (F 5) (F 6) (F 7) (F 8) (G 0) (I 4) (I 5) (I 6) (I 7) (I 8) (I 9) (I 10) (I 11) (J 0) (J 1) (J 2) (J 3)  = some (r, (Ff 1), (Ff 2), (Ff 3), (Ff 4), (Ff 5), (Ff 6), (Ff 8), (Gf 0), (If 6), (If 7), (If 8), (If 9), (If 10), (If 11), (Jf 0), (Jf 1), (Jf 2), (Jf 3)) → (∀ k, k ∉ ([1, 2, 3, 4, 5, 6, 8] : List Nat) → Ff k = F k) → (∀ k, k ∉ ([0] : List Nat) → Gf k = G k) → (∀ k, k ∉ ([6, 7, 8, 9, 10, 11] : List Nat) → If k = I k) → (∀ k, k ∉ ([0, 1, 2, 3] : List Nat) → Jf k = J k) → va_P D vwCl (wM a kc F G I J) H → va_S (ad a 21 s.heap.size) s.heap H locs → lv_has ls 3 [(0, .ref (a 0))] → W p l e rm_X8_wrong s m args below meth c H locs 0 0 (MQ below (Ql D (wM a kc Ff Gf If Jf) r (ad a 21 s.heap.size)) args s 0 0 (ad a 21 s.heap.size)) (F0 m 27 ls []) := by
  intro F G I J  H locs ls hf hfF hfG hfI hfJ hP hS hl
  unfold p_X8_wrong_b27 at hf
  refine lv_bipush (v := (-2)) X.1 X.2.1 dX8_wrong_27 (by decide) ?_
  obtain ⟨r29, ho, hf⟩ := b1_s hf
  refine call_sl (rest := []) X (c_X8_no (-2) ho) q_5_158 q_5_159 q_1_10 q_5_160 ok_X8_no rfl ⟨Nat.le_of_ble_eq_true rfl, Nat.le_of_ble_eq_true rfl⟩ rfl rfl hl.1 rfl (Nat.le_of_ble_eq_true rfl) dX8_wrong_29 hP hS (fun H locs hP hS => ?_)
  obtain ⟨e0, hf⟩ := o2 hf
  obtain ⟨e1, hf⟩ := o2 hf
  obtain ⟨e2, hf⟩ := o2 hf
  obtain ⟨e3, hf⟩ := o2 hf
  obtain ⟨e4, hf⟩ := o2 hf
  obtain ⟨e5, hf⟩ := o2 hf
  obtain ⟨e6, hf⟩ := o2 hf
  obtain ⟨e7, hf⟩ := o2 hf
  obtain ⟨e8, hf⟩ := o2 hf
  obtain ⟨e9, hf⟩ := o2 hf
  obtain ⟨e10, hf⟩ := o2 hf
  obtain ⟨e11, hf⟩ := o2 hf
  obtain ⟨e12, hf⟩ := o2 hf
  obtain ⟨e13, hf⟩ := o2 hf
  obtain ⟨e14, hf⟩ := o2 hf
  obtain ⟨e15, hf⟩ := o2 hf
  obtain ⟨e16, hf⟩ := o2 hf
  obtain ⟨e17, hf⟩ := o2 hf
  have e18 := o1 hf
  have EF : Ff = F := frm_eq hfF (frm_c (e1).symm (frm_c (e2).symm (frm_c (e3).symm (frm_c (e4).symm (frm_c (e5).symm (frm_c (e6).symm (frm_c (e7).symm frm_n)))))))
  have EG : Gf = G := frm_eq hfG (frm_c (e8).symm frm_n)
  have EI : If = I := frm_eq hfI (frm_c (e9).symm (frm_c (e10).symm (frm_c (e11).symm (frm_c (e12).symm (frm_c (e13).symm (frm_c (e14).symm frm_n))))))
  have EJ : Jf = J := frm_eq hfJ (frm_c (e15).symm (frm_c (e16).symm (frm_c (e17).symm (frm_c (e18).symm frm_n))))
  exact ret_l X hS (by rw [EF, EG, EI, EJ]; exact hP) e0 dX8_wrong_32
set_option maxHeartbeats 4000000 in
set_option maxRecDepth 100000 in
theorem t_X8_wrong_b52 {p : Program} {l : Launch} {e : Env} {s : State} {m : MethodId} {args : Array Value} {below : List Frame} {meth : Method} {c : Code} {D : va_G} {a : Nat → Nat} {kc : Nat → ClassId} (X : cx 21 p s m args meth c D (tyM kc) a cX8_wrong 3 RX8 (some .long))  {Ff : Nat → Int32} {Gf : Nat → Int64} {If : Nat → Nat → Int32} {Jf : Nat → Nat → Int64} {r : Int64} :
    ∀ (F : Nat → Int32) (G : Nat → Int64) (I : Nat → Nat → Int32) (J : Nat → Nat → Int64) (t0 : Int64) (H : Heap) (locs : List Loc) (ls : Array Slot), p_X8_wrong_b52 (F 1) (F 2) (F 3) (F 4) (F 5) (F 6) (F 7) (F 8) (G 0) (I 4) (I 5) (I 6) (I 7) (I 8) (I 9) (I 10) (I 11) (J 0) (J 1) (J 2) (J 3) t0 = some (r, (Ff 1), (Ff 2), (Ff 3), (Ff 4), (Ff 5), (Ff 6), (Ff 8), (Gf 0), (If 6), (If 7), (If 8), (If 9), (If 10), (If 11), (Jf 0), (Jf 1), (Jf 2), (Jf 3)) → (∀ k, k ∉ ([1, 2, 3, 4, 5, 6, 8] : List Nat) → Ff k = F k) → (∀ k, k ∉ ([0] : List Nat) → Gf k = G k) → (∀ k, k ∉ ([6, 7, 8, 9, 10, 11] : List Nat) → If k = I k) → (∀ k, k ∉ ([0, 1, 2, 3] : List Nat) → Jf k = J k) → va_P D vwCl (wM a kc F G I J) H → va_S (ad a 21 s.heap.size) s.heap H locs → lv_has ls 3 [(0, .ref (a 0))] → W p l e rm_X8_wrong s m args below meth c H locs 0 0 (MQ below (Ql D (wM a kc Ff Gf If Jf) r (ad a 21 s.heap.size)) args s 0 0 (ad a 21 s.heap.size)) (F0 m 52 ls [.long t0]) := by
  intro F G I J t0 H locs ls hf hfF hfG hfI hfJ hP hS hl
  unfold p_X8_wrong_b52 at hf
  obtain ⟨e0, hf⟩ := o2 hf
  obtain ⟨e1, hf⟩ := o2 hf
  obtain ⟨e2, hf⟩ := o2 hf
  obtain ⟨e3, hf⟩ := o2 hf
  obtain ⟨e4, hf⟩ := o2 hf
  obtain ⟨e5, hf⟩ := o2 hf
  obtain ⟨e6, hf⟩ := o2 hf
  obtain ⟨e7, hf⟩ := o2 hf
  obtain ⟨e8, hf⟩ := o2 hf
  obtain ⟨e9, hf⟩ := o2 hf
  obtain ⟨e10, hf⟩ := o2 hf
  obtain ⟨e11, hf⟩ := o2 hf
  obtain ⟨e12, hf⟩ := o2 hf
  obtain ⟨e13, hf⟩ := o2 hf
  obtain ⟨e14, hf⟩ := o2 hf
  obtain ⟨e15, hf⟩ := o2 hf
  obtain ⟨e16, hf⟩ := o2 hf
  obtain ⟨e17, hf⟩ := o2 hf
  have e18 := o1 hf
  have EF : Ff = F := frm_eq hfF (frm_c (e1).symm (frm_c (e2).symm (frm_c (e3).symm (frm_c (e4).symm (frm_c (e5).symm (frm_c (e6).symm (frm_c (e7).symm frm_n)))))))
  have EG : Gf = G := frm_eq hfG (frm_c (e8).symm frm_n)
  have EI : If = I := frm_eq hfI (frm_c (e9).symm (frm_c (e10).symm (frm_c (e11).symm (frm_c (e12).symm (frm_c (e13).symm (frm_c (e14).symm frm_n))))))
  have EJ : Jf = J := frm_eq hfJ (frm_c (e15).symm (frm_c (e16).symm (frm_c (e17).symm (frm_c (e18).symm frm_n))))
  exact ret_l X hS (by rw [EF, EG, EI, EJ]; exact hP) e0 dX8_wrong_52
set_option maxHeartbeats 4000000 in
set_option maxRecDepth 100000 in
theorem t_X8_wrong_b0 {p : Program} {l : Launch} {e : Env} {s : State} {m : MethodId} {args : Array Value} {below : List Frame} {meth : Method} {c : Code} {D : va_G} {a : Nat → Nat} {kc : Nat → ClassId} (X : cx 21 p s m args meth c D (tyM kc) a cX8_wrong 3 RX8 (some .long))  {Ff : Nat → Int32} {Gf : Nat → Int64} {If : Nat → Nat → Int32} {Jf : Nat → Nat → Int64} {r : Int64} :
    ∀ (F : Nat → Int32) (G : Nat → Int64) (I : Nat → Nat → Int32) (J : Nat → Nat → Int64) (x1 : Int32) (x2 : Int32) (H : Heap) (locs : List Loc) (ls : Array Slot), p_X8_wrong_b0 (F 1) (F 2) (F 3) (F 4) (F 5) (F 6) (F 7) (F 8) (G 0) (I 4) (I 5) (I 6) (I 7) (I 8) (I 9) (I 10) (I 11) (J 0) (J 1) (J 2) (J 3) x1 x2 = some (r, (Ff 1), (Ff 2), (Ff 3), (Ff 4), (Ff 5), (Ff 6), (Ff 8), (Gf 0), (If 6), (If 7), (If 8), (If 9), (If 10), (If 11), (Jf 0), (Jf 1), (Jf 2), (Jf 3)) → (∀ k, k ∉ ([1, 2, 3, 4, 5, 6, 8] : List Nat) → Ff k = F k) → (∀ k, k ∉ ([0] : List Nat) → Gf k = G k) → (∀ k, k ∉ ([6, 7, 8, 9, 10, 11] : List Nat) → If k = I k) → (∀ k, k ∉ ([0, 1, 2, 3] : List Nat) → Jf k = J k) → va_P D vwCl (wM a kc F G I J) H → va_S (ad a 21 s.heap.size) s.heap H locs → lv_has ls 3 [(0, .ref (a 0)), (1, .int x1), (2, .int x2)] → W p l e rm_X8_wrong s m args below meth c H locs 0 0 (MQ below (Ql D (wM a kc Ff Gf If Jf) r (ad a 21 s.heap.size)) args s 0 0 (ad a 21 s.heap.size)) (F0 m 0 ls []) := by
  intro F G I J x1 x2 H locs ls hf hfF hfG hfI hfJ hP hS hl
  unfold p_X8_wrong_b0 at hf
  refine lv_aload_n X.1 X.2.1 dX8_wrong_0 rfl (lv_at hl 0 rfl) ?_
  obtain ⟨m_at_1, m_seats_1, m_rows_1, m_people_1, m_sorts_1, m_rowOf_1, m_own_1, m_kinds_1, ho, hf⟩ := b8_s hf
  refine call_vv (rest := []) X (c_X8_find F G I J X.2.2.2.2.2.2.2.1  ho) q_5_69 q_5_71 qs_yX8_find q_1_10 q_5_72 ok_X8_find rfl 0 rfl rfl ⟨Nat.le_of_ble_eq_true rfl, Nat.le_of_ble_eq_true rfl⟩ rfl rfl hl.1 rfl (Nat.le_of_ble_eq_true rfl) dX8_wrong_1 hP hS (fun H locs hP hS => ?_)
  refine lv_iload_n X.1 X.2.1 dX8_wrong_4 rfl (lv_at hl 1 rfl) ?_
  refine lv_i2l X.1 X.2.1 dX8_wrong_5 rfl ?_
  refine lv_ldc2 (v := (-1)) X.1 X.2.1 X.2.2.2.2.1 (X.2.2.2.2.2.1 _ q_5_174) dX8_wrong_6 ?_
  refine lv_aload_n X.1 X.2.1 dX8_wrong_9 rfl (lv_at hl 0 rfl) ?_
  refine gM_0_12 (F := (va_up (va_up (va_up (va_up F 1 m_at_1) 2 m_seats_1) 3 m_rows_1) 4 m_people_1)) X (v := m_people_1) rfl q_4_121 dX8_wrong_10 hP ?_
  refine lv_i2l X.1 X.2.1 dX8_wrong_13 rfl ?_
  obtain ⟨r14, ho, hf⟩ := b1_s hf
  refine call_si (rest := []) X (c_X8_in x1.toInt64 (-1) m_people_1.toInt64 ho) q_4_226 q_4_227 q_1_10 q_4_228 ok_X8_in rfl ⟨Nat.le_of_ble_eq_true rfl, Nat.le_of_ble_eq_true rfl⟩ rfl rfl hl.1 rfl (Nat.le_of_ble_eq_true rfl) dX8_wrong_14 hP hS (fun H locs hP hS => ?_)
  refine lv_if_eq (tgt := 27) X.1 X.2.1 dX8_wrong_17 (by decide) (fun c17 => ?_) (fun c17 => ?_)
  · have hf := it_s hf c17
    exact t_X8_wrong_b27 X (va_up (va_up (va_up (va_up F 1 m_at_1) 2 m_seats_1) 3 m_rows_1) 4 m_people_1) G (va_up (va_up (va_up (va_up I 6 m_sorts_1) 7 m_rowOf_1) 8 m_own_1) 9 m_kinds_1) J  H locs ls hf (frm_up (frm_up (frm_up (frm_up hfF (by decide)) (by decide)) (by decide)) (by decide)) hfG (frm_up (frm_up (frm_up (frm_up hfI (by decide)) (by decide)) (by decide)) (by decide)) hfJ hP hS (lv_sub hl [0] rfl)
  · have hf := ie_s hf c17
    refine lv_iload_n X.1 X.2.1 dX8_wrong_20 rfl (lv_at hl 2 rfl) ?_
    obtain ⟨r21, ho, hf⟩ := b1_s hf
    refine call_si (rest := []) X (c_X8_isTwo x2 ho) q_5_22 q_5_23 q_1_10 q_5_24 ok_X8_isTwo rfl ⟨Nat.le_of_ble_eq_true rfl, Nat.le_of_ble_eq_true rfl⟩ rfl rfl hl.1 rfl (Nat.le_of_ble_eq_true rfl) dX8_wrong_21 hP hS (fun H locs hP hS => ?_)
    refine lv_if_ne (tgt := 33) X.1 X.2.1 dX8_wrong_24 (by decide) (fun c24 => ?_) (fun c24 => ?_)
    · have hf := ie_s hf c24
      refine lv_iload_n X.1 X.2.1 dX8_wrong_33 rfl (lv_at hl 1 rfl) ?_
      refine lv_iconst (v := (-1)) X.1 X.2.1 dX8_wrong_34 (by decide) ?_
      refine lv_icmp_ne (tgt := 46) X.1 X.2.1 dX8_wrong_35 (by decide) (fun c35 => ?_) (fun c35 => ?_)
      · have hf := ie_s hf c35
        refine lv_aload_n X.1 X.2.1 dX8_wrong_46 rfl (lv_at hl 0 rfl) ?_
        refine lv_iload_n X.1 X.2.1 dX8_wrong_47 rfl (lv_at hl 1 rfl) ?_
        refine lv_iload_n X.1 X.2.1 dX8_wrong_48 rfl (lv_at hl 2 rfl) ?_
        obtain ⟨r49, m_loser_49, m_onlyWho_49, m_keptFree_49, m_keptSeat_49, m_both_49, m_bothNext_49, ho, hf⟩ := b7_s hf
        refine call_vl (rest := []) X (c_X8_justOf (va_up (va_up (va_up (va_up F 1 m_at_1) 2 m_seats_1) 3 m_rows_1) 4 m_people_1) G (va_up (va_up (va_up (va_up I 6 m_sorts_1) 7 m_rowOf_1) 8 m_own_1) 9 m_kinds_1) J X.2.2.2.2.2.2.2.1 x1 x2 ho) q_5_187 q_5_189 qs_yX8_justOf q_1_10 q_5_190 ok_X8_justOf rfl 0 rfl rfl ⟨Nat.le_of_ble_eq_true rfl, Nat.le_of_ble_eq_true rfl⟩ rfl rfl hl.1 rfl (Nat.le_of_ble_eq_true rfl) dX8_wrong_49 hP hS (fun H locs hP hS => ?_)
        exact t_X8_wrong_b52 X (va_up (va_up (va_up (va_up (va_up (va_up (va_up F 1 m_at_1) 2 m_seats_1) 3 m_rows_1) 4 m_people_1) 5 m_loser_49) 6 m_onlyWho_49) 8 m_keptFree_49) G (va_up (va_up (va_up (va_up (va_up I 6 m_sorts_1) 7 m_rowOf_1) 8 m_own_1) 9 m_kinds_1) 10 m_keptSeat_49) (va_up (va_up J 2 m_both_49) 3 m_bothNext_49) r49 H locs ls hf (frm_up (frm_up (frm_up (frm_up (frm_up (frm_up (frm_up hfF (by decide)) (by decide)) (by decide)) (by decide)) (by decide)) (by decide)) (by decide)) hfG (frm_up (frm_up (frm_up (frm_up (frm_up hfI (by decide)) (by decide)) (by decide)) (by decide)) (by decide)) (frm_up (frm_up hfJ (by decide)) (by decide)) hP hS (lv_sub hl [0] rfl)
      · have hf := it_s hf c35
        refine lv_aload_n X.1 X.2.1 dX8_wrong_38 rfl (lv_at hl 0 rfl) ?_
        refine lv_iload_n X.1 X.2.1 dX8_wrong_39 rfl (lv_at hl 2 rfl) ?_
        obtain ⟨r40, m_loser_40, m_onlyWho_40, m_keptFree_40, m_all_40, m_keptSeat_40, m_order_40, m_ways_40, m_next_40, ho, hf⟩ := b9_s hf
        refine call_vl (rest := []) X (c_X8_meanOf (va_up (va_up (va_up (va_up F 1 m_at_1) 2 m_seats_1) 3 m_rows_1) 4 m_people_1) G (va_up (va_up (va_up (va_up I 6 m_sorts_1) 7 m_rowOf_1) 8 m_own_1) 9 m_kinds_1) J X.2.2.2.2.2.2.2.1 x2 ho) q_5_175 q_5_177 qs_yX8_meanOf q_1_10 q_5_178 ok_X8_meanOf rfl 0 rfl rfl ⟨Nat.le_of_ble_eq_true rfl, Nat.le_of_ble_eq_true rfl⟩ rfl rfl hl.1 rfl (Nat.le_of_ble_eq_true rfl) dX8_wrong_40 hP hS (fun H locs hP hS => ?_)
        refine lv_goto (tgt := 52) X.1 X.2.1 dX8_wrong_43 (by decide) ?_
        exact t_X8_wrong_b52 X (va_up (va_up (va_up (va_up (va_up (va_up (va_up F 1 m_at_1) 2 m_seats_1) 3 m_rows_1) 4 m_people_1) 5 m_loser_40) 6 m_onlyWho_40) 8 m_keptFree_40) (va_up G 0 m_all_40) (va_up (va_up (va_up (va_up (va_up (va_up I 6 m_sorts_1) 7 m_rowOf_1) 8 m_own_1) 9 m_kinds_1) 10 m_keptSeat_40) 11 m_order_40) (va_up (va_up J 0 m_ways_40) 1 m_next_40) r40 H locs ls hf (frm_up (frm_up (frm_up (frm_up (frm_up (frm_up (frm_up hfF (by decide)) (by decide)) (by decide)) (by decide)) (by decide)) (by decide)) (by decide)) (frm_up hfG (by decide)) (frm_up (frm_up (frm_up (frm_up (frm_up (frm_up hfI (by decide)) (by decide)) (by decide)) (by decide)) (by decide)) (by decide)) (frm_up (frm_up hfJ (by decide)) (by decide)) hP hS (lv_sub hl [0] rfl)
    · have hf := it_s hf c24
      exact t_X8_wrong_b27 X (va_up (va_up (va_up (va_up F 1 m_at_1) 2 m_seats_1) 3 m_rows_1) 4 m_people_1) G (va_up (va_up (va_up (va_up I 6 m_sorts_1) 7 m_rowOf_1) 8 m_own_1) 9 m_kinds_1) J  H locs ls hf (frm_up (frm_up (frm_up (frm_up hfF (by decide)) (by decide)) (by decide)) (by decide)) hfG (frm_up (frm_up (frm_up (frm_up hfI (by decide)) (by decide)) (by decide)) (by decide)) hfJ hP hS (lv_sub hl [0] rfl)
set_option maxRecDepth 100000 in
theorem c_X8_wrong {l : Launch} {D : va_G} {a : Nat → Nat} {kc : Nat → ClassId} (F : Nat → Int32) (G : Nat → Int64) (I : Nat → Nat → Int32) (J : Nat → Nat → Int64) (hAp : ∀ i j, i < 21 → j < 21 → a i = a j → i = j) (x1 : Int32) (x2 : Int32) {o0 : Int64} {o1 : Int32} {o2 : Int32} {o3 : Int32} {o4 : Int32} {o5 : Int32} {o6 : Int32} {o7 : Int32} {o8 : Int64} {o9 : Nat → Int32} {o10 : Nat → Int32} {o11 : Nat → Int32} {o12 : Nat → Int32} {o13 : Nat → Int32} {o14 : Nat → Int32} {o15 : Nat → Int64} {o16 : Nat → Int64} {o17 : Nat → Int64} {o18 : Nat → Int64} (hf : p_X8_wrong (F 1) (F 2) (F 3) (F 4) (F 5) (F 6) (F 7) (F 8) (G 0) (I 4) (I 5) (I 6) (I 7) (I 8) (I 9) (I 10) (I 11) (J 0) (J 1) (J 2) (J 3) x1 x2 = some (o0, o1, o2, o3, o4, o5, o6, o7, o8, o9, o10, o11, o12, o13, o14, o15, o16, o17, o18)) : Ct 21 l yX8_wrong cX8_wrong 3 (some .long) rm_X8_wrong D (tyM kc) a (wM a kc F G I J) [.ref (a 0), .int x1, .int x2] (Ql D (wM a kc (va_up (va_up (va_up (va_up (va_up (va_up (va_up F 1 o1) 2 o2) 3 o3) 4 o4) 5 o5) 6 o6) 8 o7) (va_up G 0 o8) (va_up (va_up (va_up (va_up (va_up (va_up I 6 o9) 7 o10) 8 o11) 9 o12) 10 o13) 11 o14) (va_up (va_up (va_up (va_up J 0 o15) 1 o16) 2 o17) 3 o18)) o0) :=
  Ct.of (by decide +kernel) hAp (Nat.le_of_ble_eq_true rfl) (fun p e s m args below meth c ls X hP hl => t_X8_wrong_b0 X F G I J x1 x2 _ _ _ hf (frm_ul (frm_ul (frm_ul (frm_ul (frm_ul (frm_ul (frm_ul (fun k _ => rfl) (by decide)) (by decide)) (by decide)) (by decide)) (by decide)) (by decide)) (by decide)) (frm_ul (fun k _ => rfl) (by decide)) (frm_ul (frm_ul (frm_ul (frm_ul (frm_ul (frm_ul (fun k _ => rfl) (by decide)) (by decide)) (by decide)) (by decide)) (by decide)) (by decide)) (frm_ul (frm_ul (frm_ul (frm_ul (fun k _ => rfl) (by decide)) (by decide)) (by decide)) (by decide)) hP va_S.rf hl)
abbrev rm_X8_leftOf : Room := { frames := 5, cells := 0, slots := 0, locals := 120 }
set_option maxHeartbeats 4000000 in
set_option maxRecDepth 100000 in
theorem t_X8_leftOf_b43 {p : Program} {l : Launch} {e : Env} {s : State} {m : MethodId} {args : Array Value} {below : List Frame} {meth : Method} {c : Code} {D : va_G} {a : Nat → Nat} {kc : Nat → ClassId} (X : cx 21 p s m args meth c D (tyM kc) a cX8_leftOf 6 RX8 (some .long))  {Ff : Nat → Int32} {Gf : Nat → Int64} {If : Nat → Nat → Int32} {Jf : Nat → Nat → Int64} {r : Int64} {K13 : Int32 → Int32 → Int32 → Int32 → Int32 → Int32 → Int64 → (Nat → Int32) → (Nat → Int32) → (Nat → Int32) → (Nat → Int32) → (Nat → Int64) → (Nat → Int64) → Int32 → Int32 → Int64 → Int32 → Option (Int64 × Int32 × Int32 × Int32 × Int64 × (Nat → Int32) × (Nat → Int64) × (Nat → Int64))} (kh13 : ∀ (F : Nat → Int32) (G : Nat → Int64) (I : Nat → Nat → Int32) (J : Nat → Nat → Int64) (x1 : Int32) (x2 : Int32) (x3 : Int64) (x5 : Int32) (H : Heap) (locs : List Loc) (ls : Array Slot), K13 (F 2) (F 4) (F 5) (F 6) (F 7) (F 8) (G 0) (I 6) (I 8) (I 9) (I 10) (J 0) (J 1) x1 x2 x3 x5 = some (r, (Ff 5), (Ff 6), (Ff 8), (Gf 0), (If 10), (Jf 0), (Jf 1)) → (∀ k, k ∉ ([5, 6, 8] : List Nat) → Ff k = F k) → (∀ k, k ∉ ([0] : List Nat) → Gf k = G k) → (∀ k, k ∉ ([10] : List Nat) → If k = I k) → (∀ k, k ∉ ([0, 1] : List Nat) → Jf k = J k) → va_P D vwCl (wM a kc F G I J) H → va_S (ad a 21 s.heap.size) s.heap H locs → lv_has ls 6 [(0, .ref (a 0)), (1, .int x1), (2, .int x2), (3, .long x3), (5, .int x5)] → W p l e rm_X8_leftOf s m args below meth c H locs 0 0 (MQ below (Ql D (wM a kc Ff Gf If Jf) r (ad a 21 s.heap.size)) args s 0 0 (ad a 21 s.heap.size)) (F0 m 13 ls [])) :
    ∀ (F : Nat → Int32) (G : Nat → Int64) (I : Nat → Nat → Int32) (J : Nat → Nat → Int64) (t0 : Int64) (t1 : Int64) (x1 : Int32) (x2 : Int32) (x5 : Int32) (H : Heap) (locs : List Loc) (ls : Array Slot), p_X8_leftOf_b43 K13 (F 2) (F 4) (F 5) (F 6) (F 7) (F 8) (G 0) (I 6) (I 8) (I 9) (I 10) (J 0) (J 1) t0 t1 x1 x2 x5 = some (r, (Ff 5), (Ff 6), (Ff 8), (Gf 0), (If 10), (Jf 0), (Jf 1)) → (∀ k, k ∉ ([5, 6, 8] : List Nat) → Ff k = F k) → (∀ k, k ∉ ([0] : List Nat) → Gf k = G k) → (∀ k, k ∉ ([10] : List Nat) → If k = I k) → (∀ k, k ∉ ([0, 1] : List Nat) → Jf k = J k) → va_P D vwCl (wM a kc F G I J) H → va_S (ad a 21 s.heap.size) s.heap H locs → lv_has ls 6 [(0, .ref (a 0)), (1, .int x1), (2, .int x2), (5, .int x5)] → W p l e rm_X8_leftOf s m args below meth c H locs 0 0 (MQ below (Ql D (wM a kc Ff Gf If Jf) r (ad a 21 s.heap.size)) args s 0 0 (ad a 21 s.heap.size)) (F0 m 43 ls [.long t1, .long t0]) := by
  intro F G I J t0 t1 x1 x2 x5 H locs ls hf hfF hfG hfI hfJ hP hS hl
  unfold p_X8_leftOf_b43 at hf
  refine lv_ladd X.1 X.2.1 dX8_leftOf_43 ?_
  refine nm_l hf (fun x44 hf => ?_)
  refine lv_lstore_n (lv' := [(3, .long x44), (0, .ref (a 0)), (1, .int x1), (2, .int x2), (5, .int x5)]) X.1 X.2.1 dX8_leftOf_44 rfl hl (by decide) rfl (fun ls hl => ?_)
  obtain ⟨x45, ex45, hf⟩ := nm_x hf
  refine lv_iinc (v := x45) (lv' := [(5, .int x45), (3, .long x44), (0, .ref (a 0)), (1, .int x1), (2, .int x2)]) X.1 X.2.1 dX8_leftOf_45 hl (k := 4) rfl ex45 (by decide) rfl (fun ls hl => ?_)
  refine lv_goto (tgt := 13) X.1 X.2.1 dX8_leftOf_48 (by decide) ?_
  exact kh13 F G I J x1 x2 x44 x45 H locs ls hf hfF hfG hfI hfJ hP hS (lv_sub hl [2, 3, 4, 1, 0] rfl)
set_option maxHeartbeats 4000000 in
set_option maxRecDepth 100000 in
theorem t_X8_leftOf_b13x {p : Program} {l : Launch} {e : Env} {s : State} {m : MethodId} {args : Array Value} {below : List Frame} {meth : Method} {c : Code} {D : va_G} {a : Nat → Nat} {kc : Nat → ClassId} (X : cx 21 p s m args meth c D (tyM kc) a cX8_leftOf 6 RX8 (some .long))  {Ff : Nat → Int32} {Gf : Nat → Int64} {If : Nat → Nat → Int32} {Jf : Nat → Nat → Int64} {r : Int64} {K13 : Int32 → Int32 → Int32 → Int32 → Int32 → Int32 → Int64 → (Nat → Int32) → (Nat → Int32) → (Nat → Int32) → (Nat → Int32) → (Nat → Int64) → (Nat → Int64) → Int32 → Int32 → Int64 → Int32 → Option (Int64 × Int32 × Int32 × Int32 × Int64 × (Nat → Int32) × (Nat → Int64) × (Nat → Int64))} (kh13 : ∀ (F : Nat → Int32) (G : Nat → Int64) (I : Nat → Nat → Int32) (J : Nat → Nat → Int64) (x1 : Int32) (x2 : Int32) (x3 : Int64) (x5 : Int32) (H : Heap) (locs : List Loc) (ls : Array Slot), K13 (F 2) (F 4) (F 5) (F 6) (F 7) (F 8) (G 0) (I 6) (I 8) (I 9) (I 10) (J 0) (J 1) x1 x2 x3 x5 = some (r, (Ff 5), (Ff 6), (Ff 8), (Gf 0), (If 10), (Jf 0), (Jf 1)) → (∀ k, k ∉ ([5, 6, 8] : List Nat) → Ff k = F k) → (∀ k, k ∉ ([0] : List Nat) → Gf k = G k) → (∀ k, k ∉ ([10] : List Nat) → If k = I k) → (∀ k, k ∉ ([0, 1] : List Nat) → Jf k = J k) → va_P D vwCl (wM a kc F G I J) H → va_S (ad a 21 s.heap.size) s.heap H locs → lv_has ls 6 [(0, .ref (a 0)), (1, .int x1), (2, .int x2), (3, .long x3), (5, .int x5)] → W p l e rm_X8_leftOf s m args below meth c H locs 0 0 (MQ below (Ql D (wM a kc Ff Gf If Jf) r (ad a 21 s.heap.size)) args s 0 0 (ad a 21 s.heap.size)) (F0 m 13 ls [])) :
    ∀ (F : Nat → Int32) (G : Nat → Int64) (I : Nat → Nat → Int32) (J : Nat → Nat → Int64) (x1 : Int32) (x2 : Int32) (x3 : Int64) (x5 : Int32) (H : Heap) (locs : List Loc) (ls : Array Slot), p_X8_leftOf_b13x K13 (F 2) (F 4) (F 5) (F 6) (F 7) (F 8) (G 0) (I 6) (I 8) (I 9) (I 10) (J 0) (J 1) x1 x2 x3 x5 = some (r, (Ff 5), (Ff 6), (Ff 8), (Gf 0), (If 10), (Jf 0), (Jf 1)) → (∀ k, k ∉ ([5, 6, 8] : List Nat) → Ff k = F k) → (∀ k, k ∉ ([0] : List Nat) → Gf k = G k) → (∀ k, k ∉ ([10] : List Nat) → If k = I k) → (∀ k, k ∉ ([0, 1] : List Nat) → Jf k = J k) → va_P D vwCl (wM a kc F G I J) H → va_S (ad a 21 s.heap.size) s.heap H locs → lv_has ls 6 [(0, .ref (a 0)), (1, .int x1), (2, .int x2), (3, .long x3), (5, .int x5)] → W p l e rm_X8_leftOf s m args below meth c H locs 0 0 (MQ below (Ql D (wM a kc Ff Gf If Jf) r (ad a 21 s.heap.size)) args s 0 0 (ad a 21 s.heap.size)) (F0 m 13 ls []) := by
  intro F G I J x1 x2 x3 x5 H locs ls hf hfF hfG hfI hfJ hP hS hl
  unfold p_X8_leftOf_b13x at hf
  refine lv_iload X.1 X.2.1 dX8_leftOf_13 (lv_at hl 4 rfl) ?_
  refine lv_aload_n X.1 X.2.1 dX8_leftOf_15 rfl (lv_at hl 0 rfl) ?_
  obtain ⟨r16, ho, hf⟩ := b1_s hf
  refine call_vi (rest := [.int x5]) X (c_X8_whole F G I J X.2.2.2.2.2.2.2.1  ho) q_5_121 q_5_123 qs_yX8_whole q_1_10 q_5_124 ok_X8_whole rfl 0 rfl rfl ⟨Nat.le_of_ble_eq_true rfl, Nat.le_of_ble_eq_true rfl⟩ rfl rfl hl.1 rfl (Nat.le_of_ble_eq_true rfl) dX8_leftOf_16 hP hS (fun H locs hP hS => ?_)
  refine lv_icmp_gt (tgt := 51) X.1 X.2.1 dX8_leftOf_19 (by decide) (fun c19 => ?_) (fun c19 => ?_)
  · have hf := it_s hf c19
    refine lv_lload_n X.1 X.2.1 dX8_leftOf_51 rfl (lv_at hl 3 rfl) ?_
    refine lv_aload_n X.1 X.2.1 dX8_leftOf_52 rfl (lv_at hl 0 rfl) ?_
    refine gM_0_17 (G := G) X (v := (G 0)) rfl q_4_126 dX8_leftOf_53 hP ?_
    refine lv_iload_n X.1 X.2.1 dX8_leftOf_56 rfl (lv_at hl 2 rfl) ?_
    obtain ⟨r57, ho, hf⟩ := b1_s hf
    refine call_sl (rest := []) X (c_X8_part x3 (G 0) x2 ho) q_5_155 q_5_156 q_1_10 q_5_157 ok_X8_part rfl ⟨Nat.le_of_ble_eq_true rfl, Nat.le_of_ble_eq_true rfl⟩ rfl rfl hl.1 rfl (Nat.le_of_ble_eq_true rfl) dX8_leftOf_57 hP hS (fun H locs hP hS => ?_)
    obtain ⟨e0, hf⟩ := o2 hf
    obtain ⟨e1, hf⟩ := o2 hf
    obtain ⟨e2, hf⟩ := o2 hf
    obtain ⟨e3, hf⟩ := o2 hf
    obtain ⟨e4, hf⟩ := o2 hf
    obtain ⟨e5, hf⟩ := o2 hf
    obtain ⟨e6, hf⟩ := o2 hf
    have e7 := o1 hf
    have EF : Ff = F := frm_eq hfF (frm_c (e1).symm (frm_c (e2).symm (frm_c (e3).symm frm_n)))
    have EG : Gf = G := frm_eq hfG (frm_c (e4).symm frm_n)
    have EI : If = I := frm_eq hfI (frm_c (e5).symm frm_n)
    have EJ : Jf = J := frm_eq hfJ (frm_c (e6).symm (frm_c (e7).symm frm_n))
    exact ret_l X hS (by rw [EF, EG, EI, EJ]; exact hP) e0 dX8_leftOf_60
  · have hf := ie_s hf c19
    refine lv_lload_n X.1 X.2.1 dX8_leftOf_22 rfl (lv_at hl 3 rfl) ?_
    refine lv_iload X.1 X.2.1 dX8_leftOf_23 (lv_at hl 4 rfl) ?_
    refine lv_iload_n X.1 X.2.1 dX8_leftOf_25 rfl (lv_at hl 1 rfl) ?_
    obtain ⟨r26, ho, hf⟩ := b1_s hf
    refine call_si (rest := [.long x3]) X (c_X8_isIn x5 x1 ho) q_5_133 q_5_134 q_1_10 q_5_135 ok_X8_isIn rfl ⟨Nat.le_of_ble_eq_true rfl, Nat.le_of_ble_eq_true rfl⟩ rfl rfl hl.1 rfl (Nat.le_of_ble_eq_true rfl) dX8_leftOf_26 hP hS (fun H locs hP hS => ?_)
    refine lv_if_eq (tgt := 36) X.1 X.2.1 dX8_leftOf_29 (by decide) (fun c29 => ?_) (fun c29 => ?_)
    · have hf := it_s hf c29
      refine lv_aload_n X.1 X.2.1 dX8_leftOf_36 rfl (lv_at hl 0 rfl) ?_
      refine gM_0_15 X q_4_124 dX8_leftOf_37 hP ?_
      refine lv_iload X.1 X.2.1 dX8_leftOf_40 (lv_at hl 4 rfl) ?_
      obtain ⟨h42, hf⟩ := gd_s hf
      refine lM_11 (J := J) X (f := (J 0)) rfl h42 dX8_leftOf_42 hP ?_
      exact t_X8_leftOf_b43 X kh13 F G I J x3 ((J 0) x5.toNatClampNeg) x1 x2 x5 H locs ls hf hfF hfG hfI hfJ hP hS (lv_sub hl [0, 1, 2, 4] rfl)
    · have hf := ie_s hf c29
      refine lv_lconst (v := 0) X.1 X.2.1 dX8_leftOf_32 (by decide) ?_
      refine lv_goto (tgt := 43) X.1 X.2.1 dX8_leftOf_33 (by decide) ?_
      exact t_X8_leftOf_b43 X kh13 F G I J x3 0 x1 x2 x5 H locs ls hf hfF hfG hfI hfJ hP hS (lv_sub hl [0, 1, 2, 4] rfl)
set_option maxRecDepth 100000 in
theorem t_X8_leftOf_b13 {p : Program} {l : Launch} {e : Env} {s : State} {m : MethodId} {args : Array Value} {below : List Frame} {meth : Method} {c : Code} {D : va_G} {a : Nat → Nat} {kc : Nat → ClassId} (X : cx 21 p s m args meth c D (tyM kc) a cX8_leftOf 6 RX8 (some .long))  {Ff : Nat → Int32} {Gf : Nat → Int64} {If : Nat → Nat → Int32} {Jf : Nat → Nat → Int64} {r : Int64} :
    ∀ (n : Nat) (F : Nat → Int32) (G : Nat → Int64) (I : Nat → Nat → Int32) (J : Nat → Nat → Int64) (x1 : Int32) (x2 : Int32) (x3 : Int64) (x5 : Int32) (H : Heap) (locs : List Loc) (ls : Array Slot), p_X8_leftOf_b13 n (F 2) (F 4) (F 5) (F 6) (F 7) (F 8) (G 0) (I 6) (I 8) (I 9) (I 10) (J 0) (J 1) x1 x2 x3 x5 = some (r, (Ff 5), (Ff 6), (Ff 8), (Gf 0), (If 10), (Jf 0), (Jf 1)) → (∀ k, k ∉ ([5, 6, 8] : List Nat) → Ff k = F k) → (∀ k, k ∉ ([0] : List Nat) → Gf k = G k) → (∀ k, k ∉ ([10] : List Nat) → If k = I k) → (∀ k, k ∉ ([0, 1] : List Nat) → Jf k = J k) → va_P D vwCl (wM a kc F G I J) H → va_S (ad a 21 s.heap.size) s.heap H locs → lv_has ls 6 [(0, .ref (a 0)), (1, .int x1), (2, .int x2), (3, .long x3), (5, .int x5)] → W p l e rm_X8_leftOf s m args below meth c H locs 0 0 (MQ below (Ql D (wM a kc Ff Gf If Jf) r (ad a 21 s.heap.size)) args s 0 0 (ad a 21 s.heap.size)) (F0 m 13 ls []) := by
  intro n
  induction n with
  | zero => intro F G I J x1 x2 x3 x5 H locs ls hf hfF hfG hfI hfJ hP hS hl; exact (nos hf).elim
  | succ n ih => exact t_X8_leftOf_b13x X ih
set_option maxHeartbeats 4000000 in
set_option maxRecDepth 100000 in
theorem t_X8_leftOf_b0 {p : Program} {l : Launch} {e : Env} {s : State} {m : MethodId} {args : Array Value} {below : List Frame} {meth : Method} {c : Code} {D : va_G} {a : Nat → Nat} {kc : Nat → ClassId} (X : cx 21 p s m args meth c D (tyM kc) a cX8_leftOf 6 RX8 (some .long))  {Ff : Nat → Int32} {Gf : Nat → Int64} {If : Nat → Nat → Int32} {Jf : Nat → Nat → Int64} {r : Int64} :
    ∀ (F : Nat → Int32) (G : Nat → Int64) (I : Nat → Nat → Int32) (J : Nat → Nat → Int64) (x1 : Int32) (x2 : Int32) (H : Heap) (locs : List Loc) (ls : Array Slot), p_X8_leftOf_b0 (F 2) (F 4) (F 5) (F 6) (F 7) (F 8) (G 0) (I 6) (I 8) (I 9) (I 10) (J 0) (J 1) x1 x2 = some (r, (Ff 5), (Ff 6), (Ff 8), (Gf 0), (If 10), (Jf 0), (Jf 1)) → (∀ k, k ∉ ([5, 6, 8] : List Nat) → Ff k = F k) → (∀ k, k ∉ ([0] : List Nat) → Gf k = G k) → (∀ k, k ∉ ([10] : List Nat) → If k = I k) → (∀ k, k ∉ ([0, 1] : List Nat) → Jf k = J k) → va_P D vwCl (wM a kc F G I J) H → va_S (ad a 21 s.heap.size) s.heap H locs → lv_has ls 6 [(0, .ref (a 0)), (1, .int x1), (2, .int x2)] → W p l e rm_X8_leftOf s m args below meth c H locs 0 0 (MQ below (Ql D (wM a kc Ff Gf If Jf) r (ad a 21 s.heap.size)) args s 0 0 (ad a 21 s.heap.size)) (F0 m 0 ls []) := by
  intro F G I J x1 x2 H locs ls hf hfF hfG hfI hfJ hP hS hl
  unfold p_X8_leftOf_b0 at hf
  refine lv_aload_n X.1 X.2.1 dX8_leftOf_0 rfl (lv_at hl 0 rfl) ?_
  refine lv_aload_n X.1 X.2.1 dX8_leftOf_1 rfl (lv_at hl 0 rfl) ?_
  refine gM_0_12 (F := F) X (v := (F 4)) rfl q_4_121 dX8_leftOf_2 hP ?_
  obtain ⟨m_loser_5, m_onlyWho_5, m_keptFree_5, m_all_5, m_keptSeat_5, m_ways_5, m_next_5, ho, hf⟩ := b7_s hf
  refine call_vv (rest := []) X (c_X8_firstSit F G I J X.2.2.2.2.2.2.2.1 (F 4) ho) q_5_97 q_5_99 qs_yX8_firstSit q_1_10 q_5_100 ok_X8_firstSit rfl 0 rfl rfl ⟨Nat.le_of_ble_eq_true rfl, Nat.le_of_ble_eq_true rfl⟩ rfl rfl hl.1 rfl (Nat.le_of_ble_eq_true rfl) dX8_leftOf_5 hP hS (fun H locs hP hS => ?_)
  refine lv_lconst (v := 0) X.1 X.2.1 dX8_leftOf_8 (by decide) ?_
  refine lv_lstore_n (lv' := [(3, .long 0), (0, .ref (a 0)), (1, .int x1), (2, .int x2)]) X.1 X.2.1 dX8_leftOf_9 rfl hl (by decide) rfl (fun ls hl => ?_)
  refine lv_iconst (v := 0) X.1 X.2.1 dX8_leftOf_10 (by decide) ?_
  refine lv_istore (lv' := [(5, .int 0), (3, .long 0), (0, .ref (a 0)), (1, .int x1), (2, .int x2)]) X.1 X.2.1 dX8_leftOf_11 hl (by decide) rfl (fun ls hl => ?_)
  exact t_X8_leftOf_b13 X 4096 (va_up (va_up (va_up F 5 m_loser_5) 6 m_onlyWho_5) 8 m_keptFree_5) (va_up G 0 m_all_5) (va_up I 10 m_keptSeat_5) (va_up (va_up J 0 m_ways_5) 1 m_next_5) x1 x2 0 0 H locs ls hf (frm_up (frm_up (frm_up hfF (by decide)) (by decide)) (by decide)) (frm_up hfG (by decide)) (frm_up hfI (by decide)) (frm_up (frm_up hfJ (by decide)) (by decide)) hP hS (lv_sub hl [2, 3, 4, 1, 0] rfl)
set_option maxRecDepth 100000 in
theorem c_X8_leftOf {l : Launch} {D : va_G} {a : Nat → Nat} {kc : Nat → ClassId} (F : Nat → Int32) (G : Nat → Int64) (I : Nat → Nat → Int32) (J : Nat → Nat → Int64) (hAp : ∀ i j, i < 21 → j < 21 → a i = a j → i = j) (x1 : Int32) (x2 : Int32) {o0 : Int64} {o1 : Int32} {o2 : Int32} {o3 : Int32} {o4 : Int64} {o5 : Nat → Int32} {o6 : Nat → Int64} {o7 : Nat → Int64} (hf : p_X8_leftOf (F 2) (F 4) (F 5) (F 6) (F 7) (F 8) (G 0) (I 6) (I 8) (I 9) (I 10) (J 0) (J 1) x1 x2 = some (o0, o1, o2, o3, o4, o5, o6, o7)) : Ct 21 l yX8_leftOf cX8_leftOf 6 (some .long) rm_X8_leftOf D (tyM kc) a (wM a kc F G I J) [.ref (a 0), .int x1, .int x2] (Ql D (wM a kc (va_up (va_up (va_up F 5 o1) 6 o2) 8 o3) (va_up G 0 o4) (va_up I 10 o5) (va_up (va_up J 0 o6) 1 o7)) o0) :=
  Ct.of (by decide +kernel) hAp (Nat.le_of_ble_eq_true rfl) (fun p e s m args below meth c ls X hP hl => t_X8_leftOf_b0 X F G I J x1 x2 _ _ _ hf (frm_ul (frm_ul (frm_ul (fun k _ => rfl) (by decide)) (by decide)) (by decide)) (frm_ul (fun k _ => rfl) (by decide)) (frm_ul (fun k _ => rfl) (by decide)) (frm_ul (frm_ul (fun k _ => rfl) (by decide)) (by decide)) hP va_S.rf hl)
abbrev rm_X8_left : Room := { frames := 6, cells := 0, slots := 0, locals := 145 }
set_option maxHeartbeats 4000000 in
set_option maxRecDepth 100000 in
theorem t_X8_left_b29 {p : Program} {l : Launch} {e : Env} {s : State} {m : MethodId} {args : Array Value} {below : List Frame} {meth : Method} {c : Code} {D : va_G} {a : Nat → Nat} {kc : Nat → ClassId} (X : cx 21 p s m args meth c D (tyM kc) a cX8_left 3 RX8 (some .long))  {Ff : Nat → Int32} {Gf : Nat → Int64} {If : Nat → Nat → Int32} {Jf : Nat → Nat → Int64} {r : Int64} :
    ∀ (F : Nat → Int32) (G : Nat → Int64) (I : Nat → Nat → Int32) (J : Nat → Nat → Int64) (t0 : Int64) (H : Heap) (locs : List Loc) (ls : Array Slot), p_X8_left_b29 (F 1) (F 2) (F 3) (F 4) (F 5) (F 6) (F 7) (F 8) (G 0) (I 4) (I 5) (I 6) (I 7) (I 8) (I 9) (I 10) (J 0) (J 1) t0 = some (r, (Ff 1), (Ff 2), (Ff 3), (Ff 4), (Ff 5), (Ff 6), (Ff 8), (Gf 0), (If 6), (If 7), (If 8), (If 9), (If 10), (Jf 0), (Jf 1)) → (∀ k, k ∉ ([1, 2, 3, 4, 5, 6, 8] : List Nat) → Ff k = F k) → (∀ k, k ∉ ([0] : List Nat) → Gf k = G k) → (∀ k, k ∉ ([6, 7, 8, 9, 10] : List Nat) → If k = I k) → (∀ k, k ∉ ([0, 1] : List Nat) → Jf k = J k) → va_P D vwCl (wM a kc F G I J) H → va_S (ad a 21 s.heap.size) s.heap H locs → lv_has ls 3 [(0, .ref (a 0))] → W p l e rm_X8_left s m args below meth c H locs 0 0 (MQ below (Ql D (wM a kc Ff Gf If Jf) r (ad a 21 s.heap.size)) args s 0 0 (ad a 21 s.heap.size)) (F0 m 29 ls [.long t0]) := by
  intro F G I J t0 H locs ls hf hfF hfG hfI hfJ hP hS hl
  unfold p_X8_left_b29 at hf
  obtain ⟨e0, hf⟩ := o2 hf
  obtain ⟨e1, hf⟩ := o2 hf
  obtain ⟨e2, hf⟩ := o2 hf
  obtain ⟨e3, hf⟩ := o2 hf
  obtain ⟨e4, hf⟩ := o2 hf
  obtain ⟨e5, hf⟩ := o2 hf
  obtain ⟨e6, hf⟩ := o2 hf
  obtain ⟨e7, hf⟩ := o2 hf
  obtain ⟨e8, hf⟩ := o2 hf
  obtain ⟨e9, hf⟩ := o2 hf
  obtain ⟨e10, hf⟩ := o2 hf
  obtain ⟨e11, hf⟩ := o2 hf
  obtain ⟨e12, hf⟩ := o2 hf
  obtain ⟨e13, hf⟩ := o2 hf
  obtain ⟨e14, hf⟩ := o2 hf
  have e15 := o1 hf
  have EF : Ff = F := frm_eq hfF (frm_c (e1).symm (frm_c (e2).symm (frm_c (e3).symm (frm_c (e4).symm (frm_c (e5).symm (frm_c (e6).symm (frm_c (e7).symm frm_n)))))))
  have EG : Gf = G := frm_eq hfG (frm_c (e8).symm frm_n)
  have EI : If = I := frm_eq hfI (frm_c (e9).symm (frm_c (e10).symm (frm_c (e11).symm (frm_c (e12).symm (frm_c (e13).symm frm_n)))))
  have EJ : Jf = J := frm_eq hfJ (frm_c (e14).symm (frm_c (e15).symm frm_n))
  exact ret_l X hS (by rw [EF, EG, EI, EJ]; exact hP) e0 dX8_left_29
set_option maxHeartbeats 4000000 in
set_option maxRecDepth 100000 in
theorem t_X8_left_b24 {p : Program} {l : Launch} {e : Env} {s : State} {m : MethodId} {args : Array Value} {below : List Frame} {meth : Method} {c : Code} {D : va_G} {a : Nat → Nat} {kc : Nat → ClassId} (X : cx 21 p s m args meth c D (tyM kc) a cX8_left 3 RX8 (some .long))  {Ff : Nat → Int32} {Gf : Nat → Int64} {If : Nat → Nat → Int32} {Jf : Nat → Nat → Int64} {r : Int64} :
    ∀ (F : Nat → Int32) (G : Nat → Int64) (I : Nat → Nat → Int32) (J : Nat → Nat → Int64)  (H : Heap) (locs : List Loc) (ls : Array Slot), p_X8_left_b24 (F 1) (F 2) (F 3) (F 4) (F 5) (F 6) (F 7) (F 8) (G 0) (I 4) (I 5) (I 6) (I 7) (I 8) (I 9) (I 10) (J 0) (J 1)  = some (r, (Ff 1), (Ff 2), (Ff 3), (Ff 4), (Ff 5), (Ff 6), (Ff 8), (Gf 0), (If 6), (If 7), (If 8), (If 9), (If 10), (Jf 0), (Jf 1)) → (∀ k, k ∉ ([1, 2, 3, 4, 5, 6, 8] : List Nat) → Ff k = F k) → (∀ k, k ∉ ([0] : List Nat) → Gf k = G k) → (∀ k, k ∉ ([6, 7, 8, 9, 10] : List Nat) → If k = I k) → (∀ k, k ∉ ([0, 1] : List Nat) → Jf k = J k) → va_P D vwCl (wM a kc F G I J) H → va_S (ad a 21 s.heap.size) s.heap H locs → lv_has ls 3 [(0, .ref (a 0))] → W p l e rm_X8_left s m args below meth c H locs 0 0 (MQ below (Ql D (wM a kc Ff Gf If Jf) r (ad a 21 s.heap.size)) args s 0 0 (ad a 21 s.heap.size)) (F0 m 24 ls []) := by
  intro F G I J  H locs ls hf hfF hfG hfI hfJ hP hS hl
  unfold p_X8_left_b24 at hf
  refine lv_bipush (v := (-2)) X.1 X.2.1 dX8_left_24 (by decide) ?_
  obtain ⟨r26, ho, hf⟩ := b1_s hf
  refine call_sl (rest := []) X (c_X8_no (-2) ho) q_5_158 q_5_159 q_1_10 q_5_160 ok_X8_no rfl ⟨Nat.le_of_ble_eq_true rfl, Nat.le_of_ble_eq_true rfl⟩ rfl rfl hl.1 rfl (Nat.le_of_ble_eq_true rfl) dX8_left_26 hP hS (fun H locs hP hS => ?_)
  exact t_X8_left_b29 X F G I J r26 H locs ls hf hfF hfG hfI hfJ hP hS (lv_sub hl [0] rfl)
set_option maxHeartbeats 4000000 in
set_option maxRecDepth 100000 in
theorem t_X8_left_b0 {p : Program} {l : Launch} {e : Env} {s : State} {m : MethodId} {args : Array Value} {below : List Frame} {meth : Method} {c : Code} {D : va_G} {a : Nat → Nat} {kc : Nat → ClassId} (X : cx 21 p s m args meth c D (tyM kc) a cX8_left 3 RX8 (some .long))  {Ff : Nat → Int32} {Gf : Nat → Int64} {If : Nat → Nat → Int32} {Jf : Nat → Nat → Int64} {r : Int64} :
    ∀ (F : Nat → Int32) (G : Nat → Int64) (I : Nat → Nat → Int32) (J : Nat → Nat → Int64) (x1 : Int32) (x2 : Int32) (H : Heap) (locs : List Loc) (ls : Array Slot), p_X8_left_b0 (F 1) (F 2) (F 3) (F 4) (F 5) (F 6) (F 7) (F 8) (G 0) (I 4) (I 5) (I 6) (I 7) (I 8) (I 9) (I 10) (J 0) (J 1) x1 x2 = some (r, (Ff 1), (Ff 2), (Ff 3), (Ff 4), (Ff 5), (Ff 6), (Ff 8), (Gf 0), (If 6), (If 7), (If 8), (If 9), (If 10), (Jf 0), (Jf 1)) → (∀ k, k ∉ ([1, 2, 3, 4, 5, 6, 8] : List Nat) → Ff k = F k) → (∀ k, k ∉ ([0] : List Nat) → Gf k = G k) → (∀ k, k ∉ ([6, 7, 8, 9, 10] : List Nat) → If k = I k) → (∀ k, k ∉ ([0, 1] : List Nat) → Jf k = J k) → va_P D vwCl (wM a kc F G I J) H → va_S (ad a 21 s.heap.size) s.heap H locs → lv_has ls 3 [(0, .ref (a 0)), (1, .int x1), (2, .int x2)] → W p l e rm_X8_left s m args below meth c H locs 0 0 (MQ below (Ql D (wM a kc Ff Gf If Jf) r (ad a 21 s.heap.size)) args s 0 0 (ad a 21 s.heap.size)) (F0 m 0 ls []) := by
  intro F G I J x1 x2 H locs ls hf hfF hfG hfI hfJ hP hS hl
  unfold p_X8_left_b0 at hf
  refine lv_aload_n X.1 X.2.1 dX8_left_0 rfl (lv_at hl 0 rfl) ?_
  refine lv_iload_n X.1 X.2.1 dX8_left_1 rfl (lv_at hl 1 rfl) ?_
  obtain ⟨r2, m_at_2, m_seats_2, m_rows_2, m_people_2, m_sorts_2, m_rowOf_2, m_own_2, m_kinds_2, ho, hf⟩ := b9_s hf
  refine call_vi (rest := []) X (c_X8_isSeat F G I J X.2.2.2.2.2.2.2.1 x1 ho) q_5_65 q_5_67 qs_yX8_isSeat q_1_10 q_5_68 ok_X8_isSeat rfl 0 rfl rfl ⟨Nat.le_of_ble_eq_true rfl, Nat.le_of_ble_eq_true rfl⟩ rfl rfl hl.1 rfl (Nat.le_of_ble_eq_true rfl) dX8_left_2 hP hS (fun H locs hP hS => ?_)
  refine lv_if_eq (tgt := 24) X.1 X.2.1 dX8_left_5 (by decide) (fun c5 => ?_) (fun c5 => ?_)
  · have hf := it_s hf c5
    exact t_X8_left_b24 X (va_up (va_up (va_up (va_up F 1 m_at_2) 2 m_seats_2) 3 m_rows_2) 4 m_people_2) G (va_up (va_up (va_up (va_up I 6 m_sorts_2) 7 m_rowOf_2) 8 m_own_2) 9 m_kinds_2) J  H locs ls hf (frm_up (frm_up (frm_up (frm_up hfF (by decide)) (by decide)) (by decide)) (by decide)) hfG (frm_up (frm_up (frm_up (frm_up hfI (by decide)) (by decide)) (by decide)) (by decide)) hfJ hP hS (lv_sub hl [0] rfl)
  · have hf := ie_s hf c5
    refine lv_iload_n X.1 X.2.1 dX8_left_8 rfl (lv_at hl 2 rfl) ?_
    obtain ⟨r9, ho, hf⟩ := b1_s hf
    refine call_si (rest := []) X (c_X8_isTwo x2 ho) q_5_22 q_5_23 q_1_10 q_5_24 ok_X8_isTwo rfl ⟨Nat.le_of_ble_eq_true rfl, Nat.le_of_ble_eq_true rfl⟩ rfl rfl hl.1 rfl (Nat.le_of_ble_eq_true rfl) dX8_left_9 hP hS (fun H locs hP hS => ?_)
    refine lv_if_eq (tgt := 24) X.1 X.2.1 dX8_left_12 (by decide) (fun c12 => ?_) (fun c12 => ?_)
    · have hf := it_s hf c12
      exact t_X8_left_b24 X (va_up (va_up (va_up (va_up F 1 m_at_2) 2 m_seats_2) 3 m_rows_2) 4 m_people_2) G (va_up (va_up (va_up (va_up I 6 m_sorts_2) 7 m_rowOf_2) 8 m_own_2) 9 m_kinds_2) J  H locs ls hf (frm_up (frm_up (frm_up (frm_up hfF (by decide)) (by decide)) (by decide)) (by decide)) hfG (frm_up (frm_up (frm_up (frm_up hfI (by decide)) (by decide)) (by decide)) (by decide)) hfJ hP hS (lv_sub hl [0] rfl)
    · have hf := ie_s hf c12
      refine lv_aload_n X.1 X.2.1 dX8_left_15 rfl (lv_at hl 0 rfl) ?_
      refine lv_iload_n X.1 X.2.1 dX8_left_16 rfl (lv_at hl 1 rfl) ?_
      refine lv_iload_n X.1 X.2.1 dX8_left_17 rfl (lv_at hl 2 rfl) ?_
      obtain ⟨r18, m_loser_18, m_onlyWho_18, m_keptFree_18, m_all_18, m_keptSeat_18, m_ways_18, m_next_18, ho, hf⟩ := b8_s hf
      refine call_vl (rest := []) X (c_X8_leftOf (va_up (va_up (va_up (va_up F 1 m_at_2) 2 m_seats_2) 3 m_rows_2) 4 m_people_2) G (va_up (va_up (va_up (va_up I 6 m_sorts_2) 7 m_rowOf_2) 8 m_own_2) 9 m_kinds_2) J X.2.2.2.2.2.2.2.1 x1 x2 ho) q_5_195 q_5_197 qs_yX8_leftOf q_1_10 q_5_198 ok_X8_leftOf rfl 0 rfl rfl ⟨Nat.le_of_ble_eq_true rfl, Nat.le_of_ble_eq_true rfl⟩ rfl rfl hl.1 rfl (Nat.le_of_ble_eq_true rfl) dX8_left_18 hP hS (fun H locs hP hS => ?_)
      refine lv_goto (tgt := 29) X.1 X.2.1 dX8_left_21 (by decide) ?_
      exact t_X8_left_b29 X (va_up (va_up (va_up (va_up (va_up (va_up (va_up F 1 m_at_2) 2 m_seats_2) 3 m_rows_2) 4 m_people_2) 5 m_loser_18) 6 m_onlyWho_18) 8 m_keptFree_18) (va_up G 0 m_all_18) (va_up (va_up (va_up (va_up (va_up I 6 m_sorts_2) 7 m_rowOf_2) 8 m_own_2) 9 m_kinds_2) 10 m_keptSeat_18) (va_up (va_up J 0 m_ways_18) 1 m_next_18) r18 H locs ls hf (frm_up (frm_up (frm_up (frm_up (frm_up (frm_up (frm_up hfF (by decide)) (by decide)) (by decide)) (by decide)) (by decide)) (by decide)) (by decide)) (frm_up hfG (by decide)) (frm_up (frm_up (frm_up (frm_up (frm_up hfI (by decide)) (by decide)) (by decide)) (by decide)) (by decide)) (frm_up (frm_up hfJ (by decide)) (by decide)) hP hS (lv_sub hl [0] rfl)
set_option maxRecDepth 100000 in
theorem c_X8_left {l : Launch} {D : va_G} {a : Nat → Nat} {kc : Nat → ClassId} (F : Nat → Int32) (G : Nat → Int64) (I : Nat → Nat → Int32) (J : Nat → Nat → Int64) (hAp : ∀ i j, i < 21 → j < 21 → a i = a j → i = j) (x1 : Int32) (x2 : Int32) {o0 : Int64} {o1 : Int32} {o2 : Int32} {o3 : Int32} {o4 : Int32} {o5 : Int32} {o6 : Int32} {o7 : Int32} {o8 : Int64} {o9 : Nat → Int32} {o10 : Nat → Int32} {o11 : Nat → Int32} {o12 : Nat → Int32} {o13 : Nat → Int32} {o14 : Nat → Int64} {o15 : Nat → Int64} (hf : p_X8_left (F 1) (F 2) (F 3) (F 4) (F 5) (F 6) (F 7) (F 8) (G 0) (I 4) (I 5) (I 6) (I 7) (I 8) (I 9) (I 10) (J 0) (J 1) x1 x2 = some (o0, o1, o2, o3, o4, o5, o6, o7, o8, o9, o10, o11, o12, o13, o14, o15)) : Ct 21 l yX8_left cX8_left 3 (some .long) rm_X8_left D (tyM kc) a (wM a kc F G I J) [.ref (a 0), .int x1, .int x2] (Ql D (wM a kc (va_up (va_up (va_up (va_up (va_up (va_up (va_up F 1 o1) 2 o2) 3 o3) 4 o4) 5 o5) 6 o6) 8 o7) (va_up G 0 o8) (va_up (va_up (va_up (va_up (va_up I 6 o9) 7 o10) 8 o11) 9 o12) 10 o13) (va_up (va_up J 0 o14) 1 o15)) o0) :=
  Ct.of (by decide +kernel) hAp (Nat.le_of_ble_eq_true rfl) (fun p e s m args below meth c ls X hP hl => t_X8_left_b0 X F G I J x1 x2 _ _ _ hf (frm_ul (frm_ul (frm_ul (frm_ul (frm_ul (frm_ul (frm_ul (fun k _ => rfl) (by decide)) (by decide)) (by decide)) (by decide)) (by decide)) (by decide)) (by decide)) (frm_ul (fun k _ => rfl) (by decide)) (frm_ul (frm_ul (frm_ul (frm_ul (frm_ul (fun k _ => rfl) (by decide)) (by decide)) (by decide)) (by decide)) (by decide)) (frm_ul (frm_ul (fun k _ => rfl) (by decide)) (by decide)) hP va_S.rf hl)
abbrev rm_X8_looksNow : Room := { frames := 4, cells := 0, slots := 0, locals := 98 }
set_option maxHeartbeats 4000000 in
set_option maxRecDepth 100000 in
theorem t_X8_looksNow_b121 {p : Program} {l : Launch} {e : Env} {s : State} {m : MethodId} {args : Array Value} {below : List Frame} {meth : Method} {c : Code} {D : va_G} {a : Nat → Nat} {kc : Nat → ClassId} (X : cx 21 p s m args meth c D (tyM kc) a cX8_looksNow 9 RX8 (some .long))  {Ff : Nat → Int32} {Gf : Nat → Int64} {If : Nat → Nat → Int32} {Jf : Nat → Nat → Int64} {r : Int64} {K13 : Int32 → Int32 → Int32 → Int32 → Int32 → Int32 → Int64 → (Nat → Int32) → (Nat → Int32) → (Nat → Int32) → (Nat → Int32) → (Nat → Int64) → (Nat → Int64) → Int32 → Int64 → Int32 → Option (Int64 × Int32 × Int32 × Int32 × Int64 × (Nat → Int32) × (Nat → Int64) × (Nat → Int64))} (kh13 : ∀ (F : Nat → Int32) (G : Nat → Int64) (I : Nat → Nat → Int32) (J : Nat → Nat → Int64) (x1 : Int32) (x2 : Int64) (x4 : Int32) (H : Heap) (locs : List Loc) (ls : Array Slot), K13 (F 2) (F 4) (F 5) (F 6) (F 7) (F 8) (G 0) (I 6) (I 8) (I 9) (I 10) (J 0) (J 1) x1 x2 x4 = some (r, (Ff 5), (Ff 6), (Ff 8), (Gf 0), (If 10), (Jf 0), (Jf 1)) → (∀ k, k ∉ ([5, 6, 8] : List Nat) → Ff k = F k) → (∀ k, k ∉ ([0] : List Nat) → Gf k = G k) → (∀ k, k ∉ ([10] : List Nat) → If k = I k) → (∀ k, k ∉ ([0, 1] : List Nat) → Jf k = J k) → va_P D vwCl (wM a kc F G I J) H → va_S (ad a 21 s.heap.size) s.heap H locs → lv_has ls 9 [(0, .ref (a 0)), (1, .int x1), (2, .long x2), (4, .int x4)] → W p l e rm_X8_looksNow s m args below meth c H locs 0 0 (MQ below (Ql D (wM a kc Ff Gf If Jf) r (ad a 21 s.heap.size)) args s 0 0 (ad a 21 s.heap.size)) (F0 m 13 ls [])) {K28 : Int32 → Int32 → Int32 → Int32 → Int32 → Int32 → Int64 → (Nat → Int32) → (Nat → Int32) → (Nat → Int32) → (Nat → Int32) → (Nat → Int64) → (Nat → Int64) → Int32 → Int64 → Int32 → Int64 → Int32 → Option (Int64 × Int32 × Int32 × Int32 × Int64 × (Nat → Int32) × (Nat → Int64) × (Nat → Int64))} (kh28 : ∀ (F : Nat → Int32) (G : Nat → Int64) (I : Nat → Nat → Int32) (J : Nat → Nat → Int64) (x1 : Int32) (x2 : Int64) (x4 : Int32) (x5 : Int64) (x7 : Int32) (H : Heap) (locs : List Loc) (ls : Array Slot), K28 (F 2) (F 4) (F 5) (F 6) (F 7) (F 8) (G 0) (I 6) (I 8) (I 9) (I 10) (J 0) (J 1) x1 x2 x4 x5 x7 = some (r, (Ff 5), (Ff 6), (Ff 8), (Gf 0), (If 10), (Jf 0), (Jf 1)) → (∀ k, k ∉ ([5, 6, 8] : List Nat) → Ff k = F k) → (∀ k, k ∉ ([0] : List Nat) → Gf k = G k) → (∀ k, k ∉ ([10] : List Nat) → If k = I k) → (∀ k, k ∉ ([0, 1] : List Nat) → Jf k = J k) → va_P D vwCl (wM a kc F G I J) H → va_S (ad a 21 s.heap.size) s.heap H locs → lv_has ls 9 [(0, .ref (a 0)), (1, .int x1), (2, .long x2), (4, .int x4), (5, .long x5), (7, .int x7)] → W p l e rm_X8_looksNow s m args below meth c H locs 0 0 (MQ below (Ql D (wM a kc Ff Gf If Jf) r (ad a 21 s.heap.size)) args s 0 0 (ad a 21 s.heap.size)) (F0 m 28 ls [])) :
    ∀ (F : Nat → Int32) (G : Nat → Int64) (I : Nat → Nat → Int32) (J : Nat → Nat → Int64) (x1 : Int32) (x2 : Int64) (x4 : Int32) (x5 : Int64) (x7 : Int32) (H : Heap) (locs : List Loc) (ls : Array Slot), p_X8_looksNow_b121 K13 K28 (F 2) (F 4) (F 5) (F 6) (F 7) (F 8) (G 0) (I 6) (I 8) (I 9) (I 10) (J 0) (J 1) x1 x2 x4 x5 x7 = some (r, (Ff 5), (Ff 6), (Ff 8), (Gf 0), (If 10), (Jf 0), (Jf 1)) → (∀ k, k ∉ ([5, 6, 8] : List Nat) → Ff k = F k) → (∀ k, k ∉ ([0] : List Nat) → Gf k = G k) → (∀ k, k ∉ ([10] : List Nat) → If k = I k) → (∀ k, k ∉ ([0, 1] : List Nat) → Jf k = J k) → va_P D vwCl (wM a kc F G I J) H → va_S (ad a 21 s.heap.size) s.heap H locs → lv_has ls 9 [(0, .ref (a 0)), (1, .int x1), (2, .long x2), (4, .int x4), (5, .long x5), (7, .int x7)] → W p l e rm_X8_looksNow s m args below meth c H locs 0 0 (MQ below (Ql D (wM a kc Ff Gf If Jf) r (ad a 21 s.heap.size)) args s 0 0 (ad a 21 s.heap.size)) (F0 m 121 ls []) := by
  intro F G I J x1 x2 x4 x5 x7 H locs ls hf hfF hfG hfI hfJ hP hS hl
  unfold p_X8_looksNow_b121 at hf
  obtain ⟨x121, ex121, hf⟩ := nm_x hf
  refine lv_iinc (v := x121) (lv' := [(7, .int x121), (0, .ref (a 0)), (1, .int x1), (2, .long x2), (4, .int x4), (5, .long x5)]) X.1 X.2.1 dX8_looksNow_121 hl (k := 5) rfl ex121 (by decide) rfl (fun ls hl => ?_)
  refine lv_goto (tgt := 28) X.1 X.2.1 dX8_looksNow_124 (by decide) ?_
  exact kh28 F G I J x1 x2 x4 x5 x121 H locs ls hf hfF hfG hfI hfJ hP hS (lv_sub hl [1, 2, 3, 4, 5, 0] rfl)
set_option maxHeartbeats 4000000 in
set_option maxRecDepth 100000 in
theorem t_X8_looksNow_b116 {p : Program} {l : Launch} {e : Env} {s : State} {m : MethodId} {args : Array Value} {below : List Frame} {meth : Method} {c : Code} {D : va_G} {a : Nat → Nat} {kc : Nat → ClassId} (X : cx 21 p s m args meth c D (tyM kc) a cX8_looksNow 9 RX8 (some .long))  {Ff : Nat → Int32} {Gf : Nat → Int64} {If : Nat → Nat → Int32} {Jf : Nat → Nat → Int64} {r : Int64} {K13 : Int32 → Int32 → Int32 → Int32 → Int32 → Int32 → Int64 → (Nat → Int32) → (Nat → Int32) → (Nat → Int32) → (Nat → Int32) → (Nat → Int64) → (Nat → Int64) → Int32 → Int64 → Int32 → Option (Int64 × Int32 × Int32 × Int32 × Int64 × (Nat → Int32) × (Nat → Int64) × (Nat → Int64))} (kh13 : ∀ (F : Nat → Int32) (G : Nat → Int64) (I : Nat → Nat → Int32) (J : Nat → Nat → Int64) (x1 : Int32) (x2 : Int64) (x4 : Int32) (H : Heap) (locs : List Loc) (ls : Array Slot), K13 (F 2) (F 4) (F 5) (F 6) (F 7) (F 8) (G 0) (I 6) (I 8) (I 9) (I 10) (J 0) (J 1) x1 x2 x4 = some (r, (Ff 5), (Ff 6), (Ff 8), (Gf 0), (If 10), (Jf 0), (Jf 1)) → (∀ k, k ∉ ([5, 6, 8] : List Nat) → Ff k = F k) → (∀ k, k ∉ ([0] : List Nat) → Gf k = G k) → (∀ k, k ∉ ([10] : List Nat) → If k = I k) → (∀ k, k ∉ ([0, 1] : List Nat) → Jf k = J k) → va_P D vwCl (wM a kc F G I J) H → va_S (ad a 21 s.heap.size) s.heap H locs → lv_has ls 9 [(0, .ref (a 0)), (1, .int x1), (2, .long x2), (4, .int x4)] → W p l e rm_X8_looksNow s m args below meth c H locs 0 0 (MQ below (Ql D (wM a kc Ff Gf If Jf) r (ad a 21 s.heap.size)) args s 0 0 (ad a 21 s.heap.size)) (F0 m 13 ls [])) {K28 : Int32 → Int32 → Int32 → Int32 → Int32 → Int32 → Int64 → (Nat → Int32) → (Nat → Int32) → (Nat → Int32) → (Nat → Int32) → (Nat → Int64) → (Nat → Int64) → Int32 → Int64 → Int32 → Int64 → Int32 → Option (Int64 × Int32 × Int32 × Int32 × Int64 × (Nat → Int32) × (Nat → Int64) × (Nat → Int64))} (kh28 : ∀ (F : Nat → Int32) (G : Nat → Int64) (I : Nat → Nat → Int32) (J : Nat → Nat → Int64) (x1 : Int32) (x2 : Int64) (x4 : Int32) (x5 : Int64) (x7 : Int32) (H : Heap) (locs : List Loc) (ls : Array Slot), K28 (F 2) (F 4) (F 5) (F 6) (F 7) (F 8) (G 0) (I 6) (I 8) (I 9) (I 10) (J 0) (J 1) x1 x2 x4 x5 x7 = some (r, (Ff 5), (Ff 6), (Ff 8), (Gf 0), (If 10), (Jf 0), (Jf 1)) → (∀ k, k ∉ ([5, 6, 8] : List Nat) → Ff k = F k) → (∀ k, k ∉ ([0] : List Nat) → Gf k = G k) → (∀ k, k ∉ ([10] : List Nat) → If k = I k) → (∀ k, k ∉ ([0, 1] : List Nat) → Jf k = J k) → va_P D vwCl (wM a kc F G I J) H → va_S (ad a 21 s.heap.size) s.heap H locs → lv_has ls 9 [(0, .ref (a 0)), (1, .int x1), (2, .long x2), (4, .int x4), (5, .long x5), (7, .int x7)] → W p l e rm_X8_looksNow s m args below meth c H locs 0 0 (MQ below (Ql D (wM a kc Ff Gf If Jf) r (ad a 21 s.heap.size)) args s 0 0 (ad a 21 s.heap.size)) (F0 m 28 ls [])) :
    ∀ (F : Nat → Int32) (G : Nat → Int64) (I : Nat → Nat → Int32) (J : Nat → Nat → Int64) (t0 : Int64) (t1 : Int64) (t2 : Int32) (x1 : Int32) (x2 : Int64) (x4 : Int32) (x7 : Int32) (H : Heap) (locs : List Loc) (ls : Array Slot), p_X8_looksNow_b116 K13 K28 (F 2) (F 4) (F 5) (F 6) (F 7) (F 8) (G 0) (I 6) (I 8) (I 9) (I 10) (J 0) (J 1) t0 t1 t2 x1 x2 x4 x7 = some (r, (Ff 5), (Ff 6), (Ff 8), (Gf 0), (If 10), (Jf 0), (Jf 1)) → (∀ k, k ∉ ([5, 6, 8] : List Nat) → Ff k = F k) → (∀ k, k ∉ ([0] : List Nat) → Gf k = G k) → (∀ k, k ∉ ([10] : List Nat) → If k = I k) → (∀ k, k ∉ ([0, 1] : List Nat) → Jf k = J k) → va_P D vwCl (wM a kc F G I J) H → va_S (ad a 21 s.heap.size) s.heap H locs → lv_has ls 9 [(0, .ref (a 0)), (1, .int x1), (2, .long x2), (4, .int x4), (7, .int x7)] → W p l e rm_X8_looksNow s m args below meth c H locs 0 0 (MQ below (Ql D (wM a kc Ff Gf If Jf) r (ad a 21 s.heap.size)) args s 0 0 (ad a 21 s.heap.size)) (F0 m 116 ls [.int t2, .long t1, .long t0]) := by
  intro F G I J t0 t1 t2 x1 x2 x4 x7 H locs ls hf hfF hfG hfI hfJ hP hS hl
  unfold p_X8_looksNow_b116 at hf
  refine lv_i2l X.1 X.2.1 dX8_looksNow_116 rfl ?_
  refine lv_lmul X.1 X.2.1 dX8_looksNow_117 ?_
  refine lv_ladd X.1 X.2.1 dX8_looksNow_118 ?_
  refine nm_l hf (fun x119 hf => ?_)
  refine lv_lstore (lv' := [(5, .long x119), (0, .ref (a 0)), (1, .int x1), (2, .long x2), (4, .int x4), (7, .int x7)]) X.1 X.2.1 dX8_looksNow_119 hl (by decide) rfl (fun ls hl => ?_)
  exact t_X8_looksNow_b121 X kh13 kh28 F G I J x1 x2 x4 x119 x7 H locs ls hf hfF hfG hfI hfJ hP hS (lv_sub hl [1, 2, 3, 4, 0, 5] rfl)
set_option maxHeartbeats 4000000 in
set_option maxRecDepth 100000 in
theorem t_X8_looksNow_b28x {p : Program} {l : Launch} {e : Env} {s : State} {m : MethodId} {args : Array Value} {below : List Frame} {meth : Method} {c : Code} {D : va_G} {a : Nat → Nat} {kc : Nat → ClassId} (X : cx 21 p s m args meth c D (tyM kc) a cX8_looksNow 9 RX8 (some .long))  {Ff : Nat → Int32} {Gf : Nat → Int64} {If : Nat → Nat → Int32} {Jf : Nat → Nat → Int64} {r : Int64} {K13 : Int32 → Int32 → Int32 → Int32 → Int32 → Int32 → Int64 → (Nat → Int32) → (Nat → Int32) → (Nat → Int32) → (Nat → Int32) → (Nat → Int64) → (Nat → Int64) → Int32 → Int64 → Int32 → Option (Int64 × Int32 × Int32 × Int32 × Int64 × (Nat → Int32) × (Nat → Int64) × (Nat → Int64))} (kh13 : ∀ (F : Nat → Int32) (G : Nat → Int64) (I : Nat → Nat → Int32) (J : Nat → Nat → Int64) (x1 : Int32) (x2 : Int64) (x4 : Int32) (H : Heap) (locs : List Loc) (ls : Array Slot), K13 (F 2) (F 4) (F 5) (F 6) (F 7) (F 8) (G 0) (I 6) (I 8) (I 9) (I 10) (J 0) (J 1) x1 x2 x4 = some (r, (Ff 5), (Ff 6), (Ff 8), (Gf 0), (If 10), (Jf 0), (Jf 1)) → (∀ k, k ∉ ([5, 6, 8] : List Nat) → Ff k = F k) → (∀ k, k ∉ ([0] : List Nat) → Gf k = G k) → (∀ k, k ∉ ([10] : List Nat) → If k = I k) → (∀ k, k ∉ ([0, 1] : List Nat) → Jf k = J k) → va_P D vwCl (wM a kc F G I J) H → va_S (ad a 21 s.heap.size) s.heap H locs → lv_has ls 9 [(0, .ref (a 0)), (1, .int x1), (2, .long x2), (4, .int x4)] → W p l e rm_X8_looksNow s m args below meth c H locs 0 0 (MQ below (Ql D (wM a kc Ff Gf If Jf) r (ad a 21 s.heap.size)) args s 0 0 (ad a 21 s.heap.size)) (F0 m 13 ls [])) {K28 : Int32 → Int32 → Int32 → Int32 → Int32 → Int32 → Int64 → (Nat → Int32) → (Nat → Int32) → (Nat → Int32) → (Nat → Int32) → (Nat → Int64) → (Nat → Int64) → Int32 → Int64 → Int32 → Int64 → Int32 → Option (Int64 × Int32 × Int32 × Int32 × Int64 × (Nat → Int32) × (Nat → Int64) × (Nat → Int64))} (kh28 : ∀ (F : Nat → Int32) (G : Nat → Int64) (I : Nat → Nat → Int32) (J : Nat → Nat → Int64) (x1 : Int32) (x2 : Int64) (x4 : Int32) (x5 : Int64) (x7 : Int32) (H : Heap) (locs : List Loc) (ls : Array Slot), K28 (F 2) (F 4) (F 5) (F 6) (F 7) (F 8) (G 0) (I 6) (I 8) (I 9) (I 10) (J 0) (J 1) x1 x2 x4 x5 x7 = some (r, (Ff 5), (Ff 6), (Ff 8), (Gf 0), (If 10), (Jf 0), (Jf 1)) → (∀ k, k ∉ ([5, 6, 8] : List Nat) → Ff k = F k) → (∀ k, k ∉ ([0] : List Nat) → Gf k = G k) → (∀ k, k ∉ ([10] : List Nat) → If k = I k) → (∀ k, k ∉ ([0, 1] : List Nat) → Jf k = J k) → va_P D vwCl (wM a kc F G I J) H → va_S (ad a 21 s.heap.size) s.heap H locs → lv_has ls 9 [(0, .ref (a 0)), (1, .int x1), (2, .long x2), (4, .int x4), (5, .long x5), (7, .int x7)] → W p l e rm_X8_looksNow s m args below meth c H locs 0 0 (MQ below (Ql D (wM a kc Ff Gf If Jf) r (ad a 21 s.heap.size)) args s 0 0 (ad a 21 s.heap.size)) (F0 m 28 ls [])) :
    ∀ (F : Nat → Int32) (G : Nat → Int64) (I : Nat → Nat → Int32) (J : Nat → Nat → Int64) (x1 : Int32) (x2 : Int64) (x4 : Int32) (x5 : Int64) (x7 : Int32) (H : Heap) (locs : List Loc) (ls : Array Slot), p_X8_looksNow_b28x K13 K28 (F 2) (F 4) (F 5) (F 6) (F 7) (F 8) (G 0) (I 6) (I 8) (I 9) (I 10) (J 0) (J 1) x1 x2 x4 x5 x7 = some (r, (Ff 5), (Ff 6), (Ff 8), (Gf 0), (If 10), (Jf 0), (Jf 1)) → (∀ k, k ∉ ([5, 6, 8] : List Nat) → Ff k = F k) → (∀ k, k ∉ ([0] : List Nat) → Gf k = G k) → (∀ k, k ∉ ([10] : List Nat) → If k = I k) → (∀ k, k ∉ ([0, 1] : List Nat) → Jf k = J k) → va_P D vwCl (wM a kc F G I J) H → va_S (ad a 21 s.heap.size) s.heap H locs → lv_has ls 9 [(0, .ref (a 0)), (1, .int x1), (2, .long x2), (4, .int x4), (5, .long x5), (7, .int x7)] → W p l e rm_X8_looksNow s m args below meth c H locs 0 0 (MQ below (Ql D (wM a kc Ff Gf If Jf) r (ad a 21 s.heap.size)) args s 0 0 (ad a 21 s.heap.size)) (F0 m 28 ls []) := by
  intro F G I J x1 x2 x4 x5 x7 H locs ls hf hfF hfG hfI hfJ hP hS hl
  unfold p_X8_looksNow_b28x at hf
  refine lv_iload X.1 X.2.1 dX8_looksNow_28 (lv_at hl 5 rfl) ?_
  refine lv_aload_n X.1 X.2.1 dX8_looksNow_30 rfl (lv_at hl 0 rfl) ?_
  obtain ⟨r31, ho, hf⟩ := b1_s hf
  refine call_vi (rest := [.int x7]) X (c_X8_whole F G I J X.2.2.2.2.2.2.2.1  ho) q_5_121 q_5_123 qs_yX8_whole q_1_10 q_5_124 ok_X8_whole rfl 0 rfl rfl ⟨Nat.le_of_ble_eq_true rfl, Nat.le_of_ble_eq_true rfl⟩ rfl rfl hl.1 rfl (Nat.le_of_ble_eq_true rfl) dX8_looksNow_31 hP hS (fun H locs hP hS => ?_)
  refine lv_icmp_gt (tgt := 127) X.1 X.2.1 dX8_looksNow_34 (by decide) (fun c34 => ?_) (fun c34 => ?_)
  · have hf := it_s hf c34
    refine lv_aload_n X.1 X.2.1 dX8_looksNow_127 rfl (lv_at hl 0 rfl) ?_
    refine gM_0_8 (F := F) X (v := (F 2)) rfl q_4_117 dX8_looksNow_128 hP ?_
    refine lv_iload X.1 X.2.1 dX8_looksNow_131 (lv_at hl 3 rfl) ?_
    refine lv_isub X.1 X.2.1 dX8_looksNow_133 ?_
    obtain ⟨r134, ho, hf⟩ := b1_s hf
    refine call_sl (rest := []) X (c_X8_partsOf ((F 2) - x4) ho) q_5_113 q_5_114 q_1_10 q_5_115 ok_X8_partsOf rfl ⟨Nat.le_of_ble_eq_true rfl, Nat.le_of_ble_eq_true rfl⟩ rfl rfl hl.1 rfl (Nat.le_of_ble_eq_true rfl) dX8_looksNow_134 hP hS (fun H locs hP hS => ?_)
    refine lv_lstore (lv' := [(7, .long r134), (0, .ref (a 0)), (1, .int x1), (2, .long x2), (4, .int x4), (5, .long x5)]) X.1 X.2.1 dX8_looksNow_137 hl (by decide) rfl (fun ls hl => ?_)
    refine lv_lload_n X.1 X.2.1 dX8_looksNow_139 rfl (lv_at hl 3 rfl) ?_
    refine lv_lload X.1 X.2.1 dX8_looksNow_140 (lv_at hl 5 rfl) ?_
    refine lv_ladd X.1 X.2.1 dX8_looksNow_142 ?_
    refine lv_lload X.1 X.2.1 dX8_looksNow_143 (lv_at hl 0 rfl) ?_
    refine lv_lmul X.1 X.2.1 dX8_looksNow_145 ?_
    refine nm_l hf (fun x146 hf => ?_)
    refine lv_lstore_n (lv' := [(2, .long x146), (7, .long r134), (0, .ref (a 0)), (1, .int x1), (4, .int x4), (5, .long x5)]) X.1 X.2.1 dX8_looksNow_146 rfl hl (by decide) rfl (fun ls hl => ?_)
    refine lv_aload_n X.1 X.2.1 dX8_looksNow_147 rfl (lv_at hl 2 rfl) ?_
    refine lv_iload X.1 X.2.1 dX8_looksNow_148 (lv_at hl 4 rfl) ?_
    refine lv_iload X.1 X.2.1 dX8_looksNow_150 (lv_at hl 4 rfl) ?_
    obtain ⟨m_all_152, m_ways_152, m_next_152, ho, hf⟩ := b3_s hf
    refine call_vv (rest := []) X (c_X8_sits F G I J X.2.2.2.2.2.2.2.1 x4 x4 ho) q_5_109 q_5_111 qs_yX8_sits q_1_10 q_5_112 ok_X8_sits rfl 0 rfl rfl ⟨Nat.le_of_ble_eq_true rfl, Nat.le_of_ble_eq_true rfl⟩ rfl rfl hl.1 rfl (Nat.le_of_ble_eq_true rfl) dX8_looksNow_152 hP hS (fun H locs hP hS => ?_)
    obtain ⟨x155, ex155, hf⟩ := nm_x hf
    refine lv_iinc (v := x155) (lv' := [(4, .int x155), (2, .long x146), (7, .long r134), (0, .ref (a 0)), (1, .int x1), (5, .long x5)]) X.1 X.2.1 dX8_looksNow_155 hl (k := 4) rfl ex155 (by decide) rfl (fun ls hl => ?_)
    refine lv_goto (tgt := 13) X.1 X.2.1 dX8_looksNow_158 (by decide) ?_
    exact kh13 F (va_up G 0 m_all_152) I (va_up (va_up J 0 m_ways_152) 1 m_next_152) x1 x146 x155 H locs ls hf hfF (frm_up hfG (by decide)) hfI (frm_up (frm_up hfJ (by decide)) (by decide)) hP hS (lv_sub hl [3, 4, 1, 0] rfl)
  · have hf := ie_s hf c34
    refine lv_aload_n X.1 X.2.1 dX8_looksNow_37 rfl (lv_at hl 0 rfl) ?_
    refine gM_0_15 X q_4_124 dX8_looksNow_38 hP ?_
    refine lv_iload X.1 X.2.1 dX8_looksNow_41 (lv_at hl 5 rfl) ?_
    obtain ⟨h43, hf⟩ := gd_s hf
    refine lM_11 (J := J) X (f := (J 0)) rfl h43 dX8_looksNow_43 hP ?_
    refine lv_lconst (v := 0) X.1 X.2.1 dX8_looksNow_44 (by decide) ?_
    refine W.lcmp X.1 X.2.1 dX8_looksNow_45 ?_
    refine lv_if_le (tgt := 121) X.1 X.2.1 dX8_looksNow_46 (by decide) (fun c46 => ?_) (fun c46 => ?_)
    · have hf := it_s hf c46
      exact t_X8_looksNow_b121 X kh13 kh28 F G I J x1 x2 x4 x5 x7 H locs ls hf hfF hfG hfI hfJ hP hS (lv_sub hl [0, 1, 2, 3, 4, 5] rfl)
    · have hf := ie_s hf c46
      refine lv_aload_n X.1 X.2.1 dX8_looksNow_49 rfl (lv_at hl 0 rfl) ?_
      refine gM_0_14 X q_4_123 dX8_looksNow_50 hP ?_
      refine lv_iload X.1 X.2.1 dX8_looksNow_53 (lv_at hl 3 rfl) ?_
      obtain ⟨h55, hf⟩ := gd_s hf
      refine lM_10 (I := I) X (f := (I 9)) rfl h55 dX8_looksNow_55 hP ?_
      refine lv_iconst (v := 2) X.1 X.2.1 dX8_looksNow_56 (by decide) ?_
      refine lv_icmp_ne (tgt := 121) X.1 X.2.1 dX8_looksNow_57 (by decide) (fun c57 => ?_) (fun c57 => ?_)
      · have hf := ie_s hf c57
        exact t_X8_looksNow_b121 X kh13 kh28 F G I J x1 x2 x4 x5 x7 H locs ls hf hfF hfG hfI hfJ hP hS (lv_sub hl [0, 1, 2, 3, 4, 5] rfl)
      · have hf := it_s hf c57
        refine lv_aload_n X.1 X.2.1 dX8_looksNow_60 rfl (lv_at hl 0 rfl) ?_
        refine lv_aload_n X.1 X.2.1 dX8_looksNow_61 rfl (lv_at hl 0 rfl) ?_
        refine gM_0_13 X q_4_122 dX8_looksNow_62 hP ?_
        refine lv_iload X.1 X.2.1 dX8_looksNow_65 (lv_at hl 3 rfl) ?_
        obtain ⟨h67, hf⟩ := gd_s hf
        refine lM_9 (I := I) X (f := (I 8)) rfl h67 dX8_looksNow_67 hP ?_
        refine lv_aload_n X.1 X.2.1 dX8_looksNow_68 rfl (lv_at hl 0 rfl) ?_
        obtain ⟨r69, ho, hf⟩ := b1_s hf
        refine call_vi (rest := [.int ((I 8) x4.toNatClampNeg), .ref (a 0)]) X (c_X8_whole F G I J X.2.2.2.2.2.2.2.1  ho) q_5_121 q_5_123 qs_yX8_whole q_1_10 q_5_124 ok_X8_whole rfl 0 rfl rfl ⟨Nat.le_of_ble_eq_true rfl, Nat.le_of_ble_eq_true rfl⟩ rfl rfl hl.1 rfl (Nat.le_of_ble_eq_true rfl) dX8_looksNow_69 hP hS (fun H locs hP hS => ?_)
        refine lv_iload X.1 X.2.1 dX8_looksNow_72 (lv_at hl 5 rfl) ?_
        refine lv_iconst (v := (-1)) X.1 X.2.1 dX8_looksNow_74 (by decide) ?_
        refine lv_ixor X.1 X.2.1 dX8_looksNow_75 ?_
        refine lv_iand X.1 X.2.1 dX8_looksNow_76 ?_
        obtain ⟨r77, ho, hf⟩ := b1_s hf
        refine call_vi (rest := []) X (c_X8_nextFree F G I J X.2.2.2.2.2.2.2.1 ((I 8) x4.toNatClampNeg) (r69 &&& (x7 ^^^ (-1))) ho) q_5_136 q_5_138 qs_yX8_nextFree q_1_10 q_5_139 ok_X8_nextFree rfl 0 rfl rfl ⟨Nat.le_of_ble_eq_true rfl, Nat.le_of_ble_eq_true rfl⟩ rfl rfl hl.1 rfl (Nat.le_of_ble_eq_true rfl) dX8_looksNow_77 hP hS (fun H locs hP hS => ?_)
        refine lv_aload_n X.1 X.2.1 dX8_looksNow_80 rfl (lv_at hl 0 rfl) ?_
        refine gM_0_13 X q_4_122 dX8_looksNow_81 hP ?_
        refine lv_iload X.1 X.2.1 dX8_looksNow_84 (lv_at hl 3 rfl) ?_
        obtain ⟨h86, hf⟩ := gd_s hf
        refine lM_9 (I := I) X (f := (I 8)) rfl h86 dX8_looksNow_86 hP ?_
        refine lv_isub X.1 X.2.1 dX8_looksNow_87 ?_
        refine nm_i hf (fun x88 hf => ?_)
        refine lv_istore (lv' := [(8, .int x88), (0, .ref (a 0)), (1, .int x1), (2, .long x2), (4, .int x4), (5, .long x5), (7, .int x7)]) X.1 X.2.1 dX8_looksNow_88 hl (by decide) rfl (fun ls hl => ?_)
        refine lv_lload X.1 X.2.1 dX8_looksNow_90 (lv_at hl 5 rfl) ?_
        refine lv_aload_n X.1 X.2.1 dX8_looksNow_92 rfl (lv_at hl 1 rfl) ?_
        refine gM_0_15 X q_4_124 dX8_looksNow_93 hP ?_
        refine lv_iload X.1 X.2.1 dX8_looksNow_96 (lv_at hl 6 rfl) ?_
        obtain ⟨h98, hf⟩ := gd_s hf
        refine lM_11 (J := J) X (f := (J 0)) rfl h98 dX8_looksNow_98 hP ?_
        refine lv_iload X.1 X.2.1 dX8_looksNow_99 (lv_at hl 0 rfl) ?_
        refine lv_if_ge (tgt := 114) X.1 X.2.1 dX8_looksNow_101 (by decide) (fun c101 => ?_) (fun c101 => ?_)
        · have hf := it_s hf c101
          refine lv_iload X.1 X.2.1 dX8_looksNow_114 (lv_at hl 0 rfl) ?_
          exact t_X8_looksNow_b116 X kh13 kh28 F G I J x5 ((J 0) x7.toNatClampNeg) x88 x1 x2 x4 x7 H locs ls hf hfF hfG hfI hfJ hP hS (lv_sub hl [1, 2, 3, 4, 6] rfl)
        · have hf := ie_s hf c101
          refine lv_iload X.1 X.2.1 dX8_looksNow_104 (lv_at hl 0 rfl) ?_
          refine lv_aload_n X.1 X.2.1 dX8_looksNow_106 rfl (lv_at hl 1 rfl) ?_
          refine gM_0_8 (F := F) X (v := (F 2)) rfl q_4_117 dX8_looksNow_107 hP ?_
          refine lv_iadd X.1 X.2.1 dX8_looksNow_110 ?_
          refine lv_goto (tgt := 116) X.1 X.2.1 dX8_looksNow_111 (by decide) ?_
          exact t_X8_looksNow_b116 X kh13 kh28 F G I J x5 ((J 0) x7.toNatClampNeg) (x88 + (F 2)) x1 x2 x4 x7 H locs ls hf hfF hfG hfI hfJ hP hS (lv_sub hl [1, 2, 3, 4, 6] rfl)
set_option maxRecDepth 100000 in
theorem t_X8_looksNow_b28 {p : Program} {l : Launch} {e : Env} {s : State} {m : MethodId} {args : Array Value} {below : List Frame} {meth : Method} {c : Code} {D : va_G} {a : Nat → Nat} {kc : Nat → ClassId} (X : cx 21 p s m args meth c D (tyM kc) a cX8_looksNow 9 RX8 (some .long))  {Ff : Nat → Int32} {Gf : Nat → Int64} {If : Nat → Nat → Int32} {Jf : Nat → Nat → Int64} {r : Int64} {K13 : Int32 → Int32 → Int32 → Int32 → Int32 → Int32 → Int64 → (Nat → Int32) → (Nat → Int32) → (Nat → Int32) → (Nat → Int32) → (Nat → Int64) → (Nat → Int64) → Int32 → Int64 → Int32 → Option (Int64 × Int32 × Int32 × Int32 × Int64 × (Nat → Int32) × (Nat → Int64) × (Nat → Int64))} (kh13 : ∀ (F : Nat → Int32) (G : Nat → Int64) (I : Nat → Nat → Int32) (J : Nat → Nat → Int64) (x1 : Int32) (x2 : Int64) (x4 : Int32) (H : Heap) (locs : List Loc) (ls : Array Slot), K13 (F 2) (F 4) (F 5) (F 6) (F 7) (F 8) (G 0) (I 6) (I 8) (I 9) (I 10) (J 0) (J 1) x1 x2 x4 = some (r, (Ff 5), (Ff 6), (Ff 8), (Gf 0), (If 10), (Jf 0), (Jf 1)) → (∀ k, k ∉ ([5, 6, 8] : List Nat) → Ff k = F k) → (∀ k, k ∉ ([0] : List Nat) → Gf k = G k) → (∀ k, k ∉ ([10] : List Nat) → If k = I k) → (∀ k, k ∉ ([0, 1] : List Nat) → Jf k = J k) → va_P D vwCl (wM a kc F G I J) H → va_S (ad a 21 s.heap.size) s.heap H locs → lv_has ls 9 [(0, .ref (a 0)), (1, .int x1), (2, .long x2), (4, .int x4)] → W p l e rm_X8_looksNow s m args below meth c H locs 0 0 (MQ below (Ql D (wM a kc Ff Gf If Jf) r (ad a 21 s.heap.size)) args s 0 0 (ad a 21 s.heap.size)) (F0 m 13 ls [])) :
    ∀ (n : Nat) (F : Nat → Int32) (G : Nat → Int64) (I : Nat → Nat → Int32) (J : Nat → Nat → Int64) (x1 : Int32) (x2 : Int64) (x4 : Int32) (x5 : Int64) (x7 : Int32) (H : Heap) (locs : List Loc) (ls : Array Slot), p_X8_looksNow_b28 K13 n (F 2) (F 4) (F 5) (F 6) (F 7) (F 8) (G 0) (I 6) (I 8) (I 9) (I 10) (J 0) (J 1) x1 x2 x4 x5 x7 = some (r, (Ff 5), (Ff 6), (Ff 8), (Gf 0), (If 10), (Jf 0), (Jf 1)) → (∀ k, k ∉ ([5, 6, 8] : List Nat) → Ff k = F k) → (∀ k, k ∉ ([0] : List Nat) → Gf k = G k) → (∀ k, k ∉ ([10] : List Nat) → If k = I k) → (∀ k, k ∉ ([0, 1] : List Nat) → Jf k = J k) → va_P D vwCl (wM a kc F G I J) H → va_S (ad a 21 s.heap.size) s.heap H locs → lv_has ls 9 [(0, .ref (a 0)), (1, .int x1), (2, .long x2), (4, .int x4), (5, .long x5), (7, .int x7)] → W p l e rm_X8_looksNow s m args below meth c H locs 0 0 (MQ below (Ql D (wM a kc Ff Gf If Jf) r (ad a 21 s.heap.size)) args s 0 0 (ad a 21 s.heap.size)) (F0 m 28 ls []) := by
  intro n
  induction n with
  | zero => intro F G I J x1 x2 x4 x5 x7 H locs ls hf hfF hfG hfI hfJ hP hS hl; exact (nos hf).elim
  | succ n ih => exact t_X8_looksNow_b28x X kh13 ih
set_option maxHeartbeats 4000000 in
set_option maxRecDepth 100000 in
theorem t_X8_looksNow_b13x {p : Program} {l : Launch} {e : Env} {s : State} {m : MethodId} {args : Array Value} {below : List Frame} {meth : Method} {c : Code} {D : va_G} {a : Nat → Nat} {kc : Nat → ClassId} (X : cx 21 p s m args meth c D (tyM kc) a cX8_looksNow 9 RX8 (some .long))  {Ff : Nat → Int32} {Gf : Nat → Int64} {If : Nat → Nat → Int32} {Jf : Nat → Nat → Int64} {r : Int64} {K13 : Int32 → Int32 → Int32 → Int32 → Int32 → Int32 → Int64 → (Nat → Int32) → (Nat → Int32) → (Nat → Int32) → (Nat → Int32) → (Nat → Int64) → (Nat → Int64) → Int32 → Int64 → Int32 → Option (Int64 × Int32 × Int32 × Int32 × Int64 × (Nat → Int32) × (Nat → Int64) × (Nat → Int64))} (kh13 : ∀ (F : Nat → Int32) (G : Nat → Int64) (I : Nat → Nat → Int32) (J : Nat → Nat → Int64) (x1 : Int32) (x2 : Int64) (x4 : Int32) (H : Heap) (locs : List Loc) (ls : Array Slot), K13 (F 2) (F 4) (F 5) (F 6) (F 7) (F 8) (G 0) (I 6) (I 8) (I 9) (I 10) (J 0) (J 1) x1 x2 x4 = some (r, (Ff 5), (Ff 6), (Ff 8), (Gf 0), (If 10), (Jf 0), (Jf 1)) → (∀ k, k ∉ ([5, 6, 8] : List Nat) → Ff k = F k) → (∀ k, k ∉ ([0] : List Nat) → Gf k = G k) → (∀ k, k ∉ ([10] : List Nat) → If k = I k) → (∀ k, k ∉ ([0, 1] : List Nat) → Jf k = J k) → va_P D vwCl (wM a kc F G I J) H → va_S (ad a 21 s.heap.size) s.heap H locs → lv_has ls 9 [(0, .ref (a 0)), (1, .int x1), (2, .long x2), (4, .int x4)] → W p l e rm_X8_looksNow s m args below meth c H locs 0 0 (MQ below (Ql D (wM a kc Ff Gf If Jf) r (ad a 21 s.heap.size)) args s 0 0 (ad a 21 s.heap.size)) (F0 m 13 ls [])) :
    ∀ (F : Nat → Int32) (G : Nat → Int64) (I : Nat → Nat → Int32) (J : Nat → Nat → Int64) (x1 : Int32) (x2 : Int64) (x4 : Int32) (H : Heap) (locs : List Loc) (ls : Array Slot), p_X8_looksNow_b13x K13 (F 2) (F 4) (F 5) (F 6) (F 7) (F 8) (G 0) (I 6) (I 8) (I 9) (I 10) (J 0) (J 1) x1 x2 x4 = some (r, (Ff 5), (Ff 6), (Ff 8), (Gf 0), (If 10), (Jf 0), (Jf 1)) → (∀ k, k ∉ ([5, 6, 8] : List Nat) → Ff k = F k) → (∀ k, k ∉ ([0] : List Nat) → Gf k = G k) → (∀ k, k ∉ ([10] : List Nat) → If k = I k) → (∀ k, k ∉ ([0, 1] : List Nat) → Jf k = J k) → va_P D vwCl (wM a kc F G I J) H → va_S (ad a 21 s.heap.size) s.heap H locs → lv_has ls 9 [(0, .ref (a 0)), (1, .int x1), (2, .long x2), (4, .int x4)] → W p l e rm_X8_looksNow s m args below meth c H locs 0 0 (MQ below (Ql D (wM a kc Ff Gf If Jf) r (ad a 21 s.heap.size)) args s 0 0 (ad a 21 s.heap.size)) (F0 m 13 ls []) := by
  intro F G I J x1 x2 x4 H locs ls hf hfF hfG hfI hfJ hP hS hl
  unfold p_X8_looksNow_b13x at hf
  refine lv_iload X.1 X.2.1 dX8_looksNow_13 (lv_at hl 3 rfl) ?_
  refine lv_aload_n X.1 X.2.1 dX8_looksNow_15 rfl (lv_at hl 0 rfl) ?_
  refine gM_0_12 (F := F) X (v := (F 4)) rfl q_4_121 dX8_looksNow_16 hP ?_
  refine lv_icmp_ge (tgt := 161) X.1 X.2.1 dX8_looksNow_19 (by decide) (fun c19 => ?_) (fun c19 => ?_)
  · have hf := it_s hf c19
    refine lv_lload_n X.1 X.2.1 dX8_looksNow_161 rfl (lv_at hl 2 rfl) ?_
    refine lv_aload_n X.1 X.2.1 dX8_looksNow_162 rfl (lv_at hl 0 rfl) ?_
    refine gM_0_17 (G := G) X (v := (G 0)) rfl q_4_126 dX8_looksNow_163 hP ?_
    refine lv_iload_n X.1 X.2.1 dX8_looksNow_166 rfl (lv_at hl 1 rfl) ?_
    obtain ⟨r167, ho, hf⟩ := b1_s hf
    refine call_sl (rest := []) X (c_X8_part x2 (G 0) x1 ho) q_5_155 q_5_156 q_1_10 q_5_157 ok_X8_part rfl ⟨Nat.le_of_ble_eq_true rfl, Nat.le_of_ble_eq_true rfl⟩ rfl rfl hl.1 rfl (Nat.le_of_ble_eq_true rfl) dX8_looksNow_167 hP hS (fun H locs hP hS => ?_)
    obtain ⟨e0, hf⟩ := o2 hf
    obtain ⟨e1, hf⟩ := o2 hf
    obtain ⟨e2, hf⟩ := o2 hf
    obtain ⟨e3, hf⟩ := o2 hf
    obtain ⟨e4, hf⟩ := o2 hf
    obtain ⟨e5, hf⟩ := o2 hf
    obtain ⟨e6, hf⟩ := o2 hf
    have e7 := o1 hf
    have EF : Ff = F := frm_eq hfF (frm_c (e1).symm (frm_c (e2).symm (frm_c (e3).symm frm_n)))
    have EG : Gf = G := frm_eq hfG (frm_c (e4).symm frm_n)
    have EI : If = I := frm_eq hfI (frm_c (e5).symm frm_n)
    have EJ : Jf = J := frm_eq hfJ (frm_c (e6).symm (frm_c (e7).symm frm_n))
    exact ret_l X hS (by rw [EF, EG, EI, EJ]; exact hP) e0 dX8_looksNow_170
  · have hf := ie_s hf c19
    refine lv_lconst (v := 0) X.1 X.2.1 dX8_looksNow_22 (by decide) ?_
    refine lv_lstore (lv' := [(5, .long 0), (0, .ref (a 0)), (1, .int x1), (2, .long x2), (4, .int x4)]) X.1 X.2.1 dX8_looksNow_23 hl (by decide) rfl (fun ls hl => ?_)
    refine lv_iconst (v := 0) X.1 X.2.1 dX8_looksNow_25 (by decide) ?_
    refine lv_istore (lv' := [(7, .int 0), (5, .long 0), (0, .ref (a 0)), (1, .int x1), (2, .long x2), (4, .int x4)]) X.1 X.2.1 dX8_looksNow_26 hl (by decide) rfl (fun ls hl => ?_)
    exact t_X8_looksNow_b28 X kh13 4096 F G I J x1 x2 x4 0 0 H locs ls hf hfF hfG hfI hfJ hP hS (lv_sub hl [2, 3, 4, 5, 1, 0] rfl)
set_option maxRecDepth 100000 in
theorem t_X8_looksNow_b13 {p : Program} {l : Launch} {e : Env} {s : State} {m : MethodId} {args : Array Value} {below : List Frame} {meth : Method} {c : Code} {D : va_G} {a : Nat → Nat} {kc : Nat → ClassId} (X : cx 21 p s m args meth c D (tyM kc) a cX8_looksNow 9 RX8 (some .long))  {Ff : Nat → Int32} {Gf : Nat → Int64} {If : Nat → Nat → Int32} {Jf : Nat → Nat → Int64} {r : Int64} :
    ∀ (n : Nat) (F : Nat → Int32) (G : Nat → Int64) (I : Nat → Nat → Int32) (J : Nat → Nat → Int64) (x1 : Int32) (x2 : Int64) (x4 : Int32) (H : Heap) (locs : List Loc) (ls : Array Slot), p_X8_looksNow_b13 n (F 2) (F 4) (F 5) (F 6) (F 7) (F 8) (G 0) (I 6) (I 8) (I 9) (I 10) (J 0) (J 1) x1 x2 x4 = some (r, (Ff 5), (Ff 6), (Ff 8), (Gf 0), (If 10), (Jf 0), (Jf 1)) → (∀ k, k ∉ ([5, 6, 8] : List Nat) → Ff k = F k) → (∀ k, k ∉ ([0] : List Nat) → Gf k = G k) → (∀ k, k ∉ ([10] : List Nat) → If k = I k) → (∀ k, k ∉ ([0, 1] : List Nat) → Jf k = J k) → va_P D vwCl (wM a kc F G I J) H → va_S (ad a 21 s.heap.size) s.heap H locs → lv_has ls 9 [(0, .ref (a 0)), (1, .int x1), (2, .long x2), (4, .int x4)] → W p l e rm_X8_looksNow s m args below meth c H locs 0 0 (MQ below (Ql D (wM a kc Ff Gf If Jf) r (ad a 21 s.heap.size)) args s 0 0 (ad a 21 s.heap.size)) (F0 m 13 ls []) := by
  intro n
  induction n with
  | zero => intro F G I J x1 x2 x4 H locs ls hf hfF hfG hfI hfJ hP hS hl; exact (nos hf).elim
  | succ n ih => exact t_X8_looksNow_b13x X ih
set_option maxHeartbeats 4000000 in
set_option maxRecDepth 100000 in
theorem t_X8_looksNow_b0 {p : Program} {l : Launch} {e : Env} {s : State} {m : MethodId} {args : Array Value} {below : List Frame} {meth : Method} {c : Code} {D : va_G} {a : Nat → Nat} {kc : Nat → ClassId} (X : cx 21 p s m args meth c D (tyM kc) a cX8_looksNow 9 RX8 (some .long))  {Ff : Nat → Int32} {Gf : Nat → Int64} {If : Nat → Nat → Int32} {Jf : Nat → Nat → Int64} {r : Int64} :
    ∀ (F : Nat → Int32) (G : Nat → Int64) (I : Nat → Nat → Int32) (J : Nat → Nat → Int64) (x1 : Int32) (H : Heap) (locs : List Loc) (ls : Array Slot), p_X8_looksNow_b0 (F 2) (F 4) (F 5) (F 6) (F 7) (F 8) (G 0) (I 6) (I 8) (I 9) (I 10) (J 0) (J 1) x1 = some (r, (Ff 5), (Ff 6), (Ff 8), (Gf 0), (If 10), (Jf 0), (Jf 1)) → (∀ k, k ∉ ([5, 6, 8] : List Nat) → Ff k = F k) → (∀ k, k ∉ ([0] : List Nat) → Gf k = G k) → (∀ k, k ∉ ([10] : List Nat) → If k = I k) → (∀ k, k ∉ ([0, 1] : List Nat) → Jf k = J k) → va_P D vwCl (wM a kc F G I J) H → va_S (ad a 21 s.heap.size) s.heap H locs → lv_has ls 9 [(0, .ref (a 0)), (1, .int x1)] → W p l e rm_X8_looksNow s m args below meth c H locs 0 0 (MQ below (Ql D (wM a kc Ff Gf If Jf) r (ad a 21 s.heap.size)) args s 0 0 (ad a 21 s.heap.size)) (F0 m 0 ls []) := by
  intro F G I J x1 H locs ls hf hfF hfG hfI hfJ hP hS hl
  unfold p_X8_looksNow_b0 at hf
  refine lv_aload_n X.1 X.2.1 dX8_looksNow_0 rfl (lv_at hl 0 rfl) ?_
  obtain ⟨m_loser_1, m_onlyWho_1, m_keptFree_1, m_keptSeat_1, ho, hf⟩ := b4_s hf
  refine call_vv (rest := []) X (c_X8_noBounds F G I J X.2.2.2.2.2.2.2.1  ho) q_5_101 q_5_103 qs_yX8_noBounds q_1_10 q_5_104 ok_X8_noBounds rfl 0 rfl rfl ⟨Nat.le_of_ble_eq_true rfl, Nat.le_of_ble_eq_true rfl⟩ rfl rfl hl.1 rfl (Nat.le_of_ble_eq_true rfl) dX8_looksNow_1 hP hS (fun H locs hP hS => ?_)
  refine lv_aload_n X.1 X.2.1 dX8_looksNow_4 rfl (lv_at hl 0 rfl) ?_
  obtain ⟨m_all_5, m_ways_5, ho, hf⟩ := b2_s hf
  refine call_vv (rest := []) X (c_X8_begins (va_up (va_up (va_up F 5 m_loser_1) 6 m_onlyWho_1) 8 m_keptFree_1) G (va_up I 10 m_keptSeat_1) J X.2.2.2.2.2.2.2.1  ho) q_5_105 q_5_107 qs_yX8_begins q_1_10 q_5_108 ok_X8_begins rfl 0 rfl rfl ⟨Nat.le_of_ble_eq_true rfl, Nat.le_of_ble_eq_true rfl⟩ rfl rfl hl.1 rfl (Nat.le_of_ble_eq_true rfl) dX8_looksNow_5 hP hS (fun H locs hP hS => ?_)
  refine lv_lconst (v := 0) X.1 X.2.1 dX8_looksNow_8 (by decide) ?_
  refine lv_lstore_n (lv' := [(2, .long 0), (0, .ref (a 0)), (1, .int x1)]) X.1 X.2.1 dX8_looksNow_9 rfl hl (by decide) rfl (fun ls hl => ?_)
  refine lv_iconst (v := 0) X.1 X.2.1 dX8_looksNow_10 (by decide) ?_
  refine lv_istore (lv' := [(4, .int 0), (2, .long 0), (0, .ref (a 0)), (1, .int x1)]) X.1 X.2.1 dX8_looksNow_11 hl (by decide) rfl (fun ls hl => ?_)
  exact t_X8_looksNow_b13 X 4096 (va_up (va_up (va_up F 5 m_loser_1) 6 m_onlyWho_1) 8 m_keptFree_1) (va_up G 0 m_all_5) (va_up I 10 m_keptSeat_1) (va_up J 0 m_ways_5) x1 0 0 H locs ls hf (frm_up (frm_up (frm_up hfF (by decide)) (by decide)) (by decide)) (frm_up hfG (by decide)) (frm_up hfI (by decide)) (frm_up hfJ (by decide)) hP hS (lv_sub hl [2, 3, 1, 0] rfl)
set_option maxRecDepth 100000 in
theorem c_X8_looksNow {l : Launch} {D : va_G} {a : Nat → Nat} {kc : Nat → ClassId} (F : Nat → Int32) (G : Nat → Int64) (I : Nat → Nat → Int32) (J : Nat → Nat → Int64) (hAp : ∀ i j, i < 21 → j < 21 → a i = a j → i = j) (x1 : Int32) {o0 : Int64} {o1 : Int32} {o2 : Int32} {o3 : Int32} {o4 : Int64} {o5 : Nat → Int32} {o6 : Nat → Int64} {o7 : Nat → Int64} (hf : p_X8_looksNow (F 2) (F 4) (F 5) (F 6) (F 7) (F 8) (G 0) (I 6) (I 8) (I 9) (I 10) (J 0) (J 1) x1 = some (o0, o1, o2, o3, o4, o5, o6, o7)) : Ct 21 l yX8_looksNow cX8_looksNow 9 (some .long) rm_X8_looksNow D (tyM kc) a (wM a kc F G I J) [.ref (a 0), .int x1] (Ql D (wM a kc (va_up (va_up (va_up F 5 o1) 6 o2) 8 o3) (va_up G 0 o4) (va_up I 10 o5) (va_up (va_up J 0 o6) 1 o7)) o0) :=
  Ct.of (by decide +kernel) hAp (Nat.le_of_ble_eq_true rfl) (fun p e s m args below meth c ls X hP hl => t_X8_looksNow_b0 X F G I J x1 _ _ _ hf (frm_ul (frm_ul (frm_ul (fun k _ => rfl) (by decide)) (by decide)) (by decide)) (frm_ul (fun k _ => rfl) (by decide)) (frm_ul (fun k _ => rfl) (by decide)) (frm_ul (frm_ul (fun k _ => rfl) (by decide)) (by decide)) hP va_S.rf hl)
