abbrev rm_X8_digest : Room := { frames := 7, cells := 0, slots := 0, locals := 176 }
set_option maxHeartbeats 4000000 in
set_option maxRecDepth 100000 in
theorem t_X8_digest_b390x {p : Program} {l : Launch} {e : Env} {s : State} {m : MethodId} {args : Array Value} {below : List Frame} {meth : Method} {c : Code} {D : va_G} {a : Nat → Nat} {kc : Nat → ClassId} (X : cx 21 p s m args meth c D (tyM kc) a cX8_digest 5 RX8 (some .long))  {Ff : Nat → Int32} {Gf : Nat → Int64} {If : Nat → Nat → Int32} {Jf : Nat → Nat → Int64} {r : Int64} {K390 : Int32 → Int32 → Int32 → Int32 → Int32 → Int32 → Int32 → Int32 → Int32 → Int32 → Int32 → Int64 → Int64 → (Nat → Int32) → (Nat → Int32) → (Nat → Int32) → (Nat → Int32) → (Nat → Int32) → (Nat → Int32) → (Nat → Int32) → (Nat → Int32) → (Nat → Int32) → (Nat → Int32) → (Nat → Int32) → (Nat → Int32) → (Nat → Int64) → (Nat → Int64) → Int64 → Int32 → Option (Int64 × Int32 × Int32 × Int32 × Int32 × Int32 × Int32 × Int32 × Int32 × Int32 × Int64 × Int64 × (Nat → Int32) × (Nat → Int32) × (Nat → Int32) × (Nat → Int32) × (Nat → Int32) × (Nat → Int32) × (Nat → Int32) × (Nat → Int32) × (Nat → Int64) × (Nat → Int64))} (kh390 : ∀ (F : Nat → Int32) (G : Nat → Int64) (I : Nat → Nat → Int32) (J : Nat → Nat → Int64) (x1 : Int64) (x3 : Int32) (H : Heap) (locs : List Loc) (ls : Array Slot), K390 (F 0) (F 1) (F 2) (F 3) (F 4) (F 5) (F 6) (F 7) (F 8) (F 12) (F 13) (G 0) (G 1) (I 4) (I 5) (I 6) (I 7) (I 8) (I 9) (I 10) (I 11) (I 12) (I 13) (I 14) (I 15) (J 0) (J 1) x1 x3 = some (r, (Ff 1), (Ff 2), (Ff 3), (Ff 4), (Ff 5), (Ff 6), (Ff 7), (Ff 8), (Ff 13), (Gf 0), (Gf 1), (If 6), (If 7), (If 8), (If 9), (If 10), (If 11), (If 12), (If 15), (Jf 0), (Jf 1)) → (∀ k, k ∉ ([1, 2, 3, 4, 5, 6, 7, 8, 13] : List Nat) → Ff k = F k) → (∀ k, k ∉ ([0, 1] : List Nat) → Gf k = G k) → (∀ k, k ∉ ([6, 7, 8, 9, 10, 11, 12, 15] : List Nat) → If k = I k) → (∀ k, k ∉ ([0, 1] : List Nat) → Jf k = J k) → va_P D vwCl (wM a kc F G I J) H → va_S (ad a 21 s.heap.size) s.heap H locs → lv_has ls 5 [(0, .ref (a 0)), (1, .long x1), (3, .int x3)] → W p l e rm_X8_digest s m args below meth c H locs 0 0 (MQ below (Ql D (wM a kc Ff Gf If Jf) r (ad a 21 s.heap.size)) args s 0 0 (ad a 21 s.heap.size)) (F0 m 390 ls [])) :
    ∀ (F : Nat → Int32) (G : Nat → Int64) (I : Nat → Nat → Int32) (J : Nat → Nat → Int64) (x1 : Int64) (x3 : Int32) (H : Heap) (locs : List Loc) (ls : Array Slot), p_X8_digest_b390x K390 (F 0) (F 1) (F 2) (F 3) (F 4) (F 5) (F 6) (F 7) (F 8) (F 12) (F 13) (G 0) (G 1) (I 4) (I 5) (I 6) (I 7) (I 8) (I 9) (I 10) (I 11) (I 12) (I 13) (I 14) (I 15) (J 0) (J 1) x1 x3 = some (r, (Ff 1), (Ff 2), (Ff 3), (Ff 4), (Ff 5), (Ff 6), (Ff 7), (Ff 8), (Ff 13), (Gf 0), (Gf 1), (If 6), (If 7), (If 8), (If 9), (If 10), (If 11), (If 12), (If 15), (Jf 0), (Jf 1)) → (∀ k, k ∉ ([1, 2, 3, 4, 5, 6, 7, 8, 13] : List Nat) → Ff k = F k) → (∀ k, k ∉ ([0, 1] : List Nat) → Gf k = G k) → (∀ k, k ∉ ([6, 7, 8, 9, 10, 11, 12, 15] : List Nat) → If k = I k) → (∀ k, k ∉ ([0, 1] : List Nat) → Jf k = J k) → va_P D vwCl (wM a kc F G I J) H → va_S (ad a 21 s.heap.size) s.heap H locs → lv_has ls 5 [(0, .ref (a 0)), (1, .long x1), (3, .int x3)] → W p l e rm_X8_digest s m args below meth c H locs 0 0 (MQ below (Ql D (wM a kc Ff Gf If Jf) r (ad a 21 s.heap.size)) args s 0 0 (ad a 21 s.heap.size)) (F0 m 390 ls []) := by
  intro F G I J x1 x3 H locs ls hf hfF hfG hfI hfJ hP hS hl
  unfold p_X8_digest_b390x at hf
  refine lv_iload_n X.1 X.2.1 dX8_digest_390 rfl (lv_at hl 2 rfl) ?_
  refine lv_iconst (v := 2) X.1 X.2.1 dX8_digest_391 (by decide) ?_
  refine lv_icmp_ge (tgt := 414) X.1 X.2.1 dX8_digest_392 (by decide) (fun c392 => ?_) (fun c392 => ?_)
  · have hf := it_s hf c392
    refine lv_lload_n X.1 X.2.1 dX8_digest_414 rfl (lv_at hl 1 rfl) ?_
    obtain ⟨e0, hf⟩ := o2 hf
    obtain ⟨e1, hf⟩ := o2 hf
    obtain ⟨e2, hf⟩ := o2 hf
    obtain ⟨e3, hf⟩ := o2 hf
    obtain ⟨e4, hf⟩ := o2 hf
    obtain ⟨e5, hf⟩ := o2 hf
    obtain ⟨e6, hf⟩ := o2 hf
    obtain ⟨e7, hf⟩ := o2 hf
    obtain ⟨e8, hf⟩ := o2 hf
    obtain ⟨e9, hf⟩ := o2 hf
    obtain ⟨e10, hf⟩ := o2 hf
    obtain ⟨e11, hf⟩ := o2 hf
    obtain ⟨e12, hf⟩ := o2 hf
    obtain ⟨e13, hf⟩ := o2 hf
    obtain ⟨e14, hf⟩ := o2 hf
    obtain ⟨e15, hf⟩ := o2 hf
    obtain ⟨e16, hf⟩ := o2 hf
    obtain ⟨e17, hf⟩ := o2 hf
    obtain ⟨e18, hf⟩ := o2 hf
    obtain ⟨e19, hf⟩ := o2 hf
    obtain ⟨e20, hf⟩ := o2 hf
    have e21 := o1 hf
    have EF : Ff = F := frm_eq hfF (frm_c (e1).symm (frm_c (e2).symm (frm_c (e3).symm (frm_c (e4).symm (frm_c (e5).symm (frm_c (e6).symm (frm_c (e7).symm (frm_c (e8).symm (frm_c (e9).symm frm_n)))))))))
    have EG : Gf = G := frm_eq hfG (frm_c (e10).symm (frm_c (e11).symm frm_n))
    have EI : If = I := frm_eq hfI (frm_c (e12).symm (frm_c (e13).symm (frm_c (e14).symm (frm_c (e15).symm (frm_c (e16).symm (frm_c (e17).symm (frm_c (e18).symm (frm_c (e19).symm frm_n))))))))
    have EJ : Jf = J := frm_eq hfJ (frm_c (e20).symm (frm_c (e21).symm frm_n))
    exact ret_l X hS (by rw [EF, EG, EI, EJ]; exact hP) e0 dX8_digest_415
  · have hf := ie_s hf c392
    refine lv_ldc2 (v := 31) X.1 X.2.1 X.2.2.2.2.1 (X.2.2.2.2.2.1 _ q_6_120) dX8_digest_395 ?_
    refine lv_lload_n X.1 X.2.1 dX8_digest_398 rfl (lv_at hl 1 rfl) ?_
    refine lv_lmul X.1 X.2.1 dX8_digest_399 ?_
    refine lv_iconst (v := 5) X.1 X.2.1 dX8_digest_400 (by decide) ?_
    refine lv_iconst (v := 2) X.1 X.2.1 dX8_digest_401 (by decide) ?_
    refine lv_iload_n X.1 X.2.1 dX8_digest_402 rfl (lv_at hl 2 rfl) ?_
    obtain ⟨r403, ho, hf⟩ := b1_s hf
    refine call_sl (rest := [.long (31 * x1)]) X (c_X8_turnedOf 5 2 x3 ho) q_6_86 q_6_87 q_1_10 q_6_88 ok_X8_turnedOf rfl ⟨Nat.le_of_ble_eq_true rfl, Nat.le_of_ble_eq_true rfl⟩ rfl rfl hl.1 rfl (Nat.le_of_ble_eq_true rfl) dX8_digest_403 hP hS (fun H locs hP hS => ?_)
    refine lv_ladd X.1 X.2.1 dX8_digest_406 ?_
    refine nm_l hf (fun x407 hf => ?_)
    refine lv_lstore_n (lv' := [(1, .long x407), (0, .ref (a 0)), (3, .int x3)]) X.1 X.2.1 dX8_digest_407 rfl hl (by decide) rfl (fun ls hl => ?_)
    obtain ⟨x408, ex408, hf⟩ := nm_x hf
    refine lv_iinc (v := x408) (lv' := [(3, .int x408), (1, .long x407), (0, .ref (a 0))]) X.1 X.2.1 dX8_digest_408 hl (k := 2) rfl ex408 (by decide) rfl (fun ls hl => ?_)
    refine lv_goto (tgt := 390) X.1 X.2.1 dX8_digest_411 (by decide) ?_
    exact kh390 F G I J x407 x408 H locs ls hf hfF hfG hfI hfJ hP hS (lv_sub hl [2, 1, 0] rfl)
set_option maxRecDepth 100000 in
theorem t_X8_digest_b390 {p : Program} {l : Launch} {e : Env} {s : State} {m : MethodId} {args : Array Value} {below : List Frame} {meth : Method} {c : Code} {D : va_G} {a : Nat → Nat} {kc : Nat → ClassId} (X : cx 21 p s m args meth c D (tyM kc) a cX8_digest 5 RX8 (some .long))  {Ff : Nat → Int32} {Gf : Nat → Int64} {If : Nat → Nat → Int32} {Jf : Nat → Nat → Int64} {r : Int64} :
    ∀ (n : Nat) (F : Nat → Int32) (G : Nat → Int64) (I : Nat → Nat → Int32) (J : Nat → Nat → Int64) (x1 : Int64) (x3 : Int32) (H : Heap) (locs : List Loc) (ls : Array Slot), p_X8_digest_b390 n (F 0) (F 1) (F 2) (F 3) (F 4) (F 5) (F 6) (F 7) (F 8) (F 12) (F 13) (G 0) (G 1) (I 4) (I 5) (I 6) (I 7) (I 8) (I 9) (I 10) (I 11) (I 12) (I 13) (I 14) (I 15) (J 0) (J 1) x1 x3 = some (r, (Ff 1), (Ff 2), (Ff 3), (Ff 4), (Ff 5), (Ff 6), (Ff 7), (Ff 8), (Ff 13), (Gf 0), (Gf 1), (If 6), (If 7), (If 8), (If 9), (If 10), (If 11), (If 12), (If 15), (Jf 0), (Jf 1)) → (∀ k, k ∉ ([1, 2, 3, 4, 5, 6, 7, 8, 13] : List Nat) → Ff k = F k) → (∀ k, k ∉ ([0, 1] : List Nat) → Gf k = G k) → (∀ k, k ∉ ([6, 7, 8, 9, 10, 11, 12, 15] : List Nat) → If k = I k) → (∀ k, k ∉ ([0, 1] : List Nat) → Jf k = J k) → va_P D vwCl (wM a kc F G I J) H → va_S (ad a 21 s.heap.size) s.heap H locs → lv_has ls 5 [(0, .ref (a 0)), (1, .long x1), (3, .int x3)] → W p l e rm_X8_digest s m args below meth c H locs 0 0 (MQ below (Ql D (wM a kc Ff Gf If Jf) r (ad a 21 s.heap.size)) args s 0 0 (ad a 21 s.heap.size)) (F0 m 390 ls []) := by
  intro n
  induction n with
  | zero => intro F G I J x1 x3 H locs ls hf hfF hfG hfI hfJ hP hS hl; exact (nos hf).elim
  | succ n ih => exact t_X8_digest_b390x X ih
set_option maxHeartbeats 4000000 in
set_option maxRecDepth 100000 in
theorem t_X8_digest_b300x {p : Program} {l : Launch} {e : Env} {s : State} {m : MethodId} {args : Array Value} {below : List Frame} {meth : Method} {c : Code} {D : va_G} {a : Nat → Nat} {kc : Nat → ClassId} (X : cx 21 p s m args meth c D (tyM kc) a cX8_digest 5 RX8 (some .long))  {Ff : Nat → Int32} {Gf : Nat → Int64} {If : Nat → Nat → Int32} {Jf : Nat → Nat → Int64} {r : Int64} {K300 : Int32 → Int32 → Int32 → Int32 → Int32 → Int32 → Int32 → Int32 → Int32 → Int32 → Int32 → Int64 → Int64 → (Nat → Int32) → (Nat → Int32) → (Nat → Int32) → (Nat → Int32) → (Nat → Int32) → (Nat → Int32) → (Nat → Int32) → (Nat → Int32) → (Nat → Int32) → (Nat → Int32) → (Nat → Int32) → (Nat → Int32) → (Nat → Int64) → (Nat → Int64) → Int64 → Int32 → Option (Int64 × Int32 × Int32 × Int32 × Int32 × Int32 × Int32 × Int32 × Int32 × Int32 × Int64 × Int64 × (Nat → Int32) × (Nat → Int32) × (Nat → Int32) × (Nat → Int32) × (Nat → Int32) × (Nat → Int32) × (Nat → Int32) × (Nat → Int32) × (Nat → Int64) × (Nat → Int64))} (kh300 : ∀ (F : Nat → Int32) (G : Nat → Int64) (I : Nat → Nat → Int32) (J : Nat → Nat → Int64) (x1 : Int64) (x3 : Int32) (H : Heap) (locs : List Loc) (ls : Array Slot), K300 (F 0) (F 1) (F 2) (F 3) (F 4) (F 5) (F 6) (F 7) (F 8) (F 12) (F 13) (G 0) (G 1) (I 4) (I 5) (I 6) (I 7) (I 8) (I 9) (I 10) (I 11) (I 12) (I 13) (I 14) (I 15) (J 0) (J 1) x1 x3 = some (r, (Ff 1), (Ff 2), (Ff 3), (Ff 4), (Ff 5), (Ff 6), (Ff 7), (Ff 8), (Ff 13), (Gf 0), (Gf 1), (If 6), (If 7), (If 8), (If 9), (If 10), (If 11), (If 12), (If 15), (Jf 0), (Jf 1)) → (∀ k, k ∉ ([1, 2, 3, 4, 5, 6, 7, 8, 13] : List Nat) → Ff k = F k) → (∀ k, k ∉ ([0, 1] : List Nat) → Gf k = G k) → (∀ k, k ∉ ([6, 7, 8, 9, 10, 11, 12, 15] : List Nat) → If k = I k) → (∀ k, k ∉ ([0, 1] : List Nat) → Jf k = J k) → va_P D vwCl (wM a kc F G I J) H → va_S (ad a 21 s.heap.size) s.heap H locs → lv_has ls 5 [(0, .ref (a 0)), (1, .long x1), (3, .int x3)] → W p l e rm_X8_digest s m args below meth c H locs 0 0 (MQ below (Ql D (wM a kc Ff Gf If Jf) r (ad a 21 s.heap.size)) args s 0 0 (ad a 21 s.heap.size)) (F0 m 300 ls [])) :
    ∀ (F : Nat → Int32) (G : Nat → Int64) (I : Nat → Nat → Int32) (J : Nat → Nat → Int64) (x1 : Int64) (x3 : Int32) (H : Heap) (locs : List Loc) (ls : Array Slot), p_X8_digest_b300x K300 (F 0) (F 1) (F 2) (F 3) (F 4) (F 5) (F 6) (F 7) (F 8) (F 12) (F 13) (G 0) (G 1) (I 4) (I 5) (I 6) (I 7) (I 8) (I 9) (I 10) (I 11) (I 12) (I 13) (I 14) (I 15) (J 0) (J 1) x1 x3 = some (r, (Ff 1), (Ff 2), (Ff 3), (Ff 4), (Ff 5), (Ff 6), (Ff 7), (Ff 8), (Ff 13), (Gf 0), (Gf 1), (If 6), (If 7), (If 8), (If 9), (If 10), (If 11), (If 12), (If 15), (Jf 0), (Jf 1)) → (∀ k, k ∉ ([1, 2, 3, 4, 5, 6, 7, 8, 13] : List Nat) → Ff k = F k) → (∀ k, k ∉ ([0, 1] : List Nat) → Gf k = G k) → (∀ k, k ∉ ([6, 7, 8, 9, 10, 11, 12, 15] : List Nat) → If k = I k) → (∀ k, k ∉ ([0, 1] : List Nat) → Jf k = J k) → va_P D vwCl (wM a kc F G I J) H → va_S (ad a 21 s.heap.size) s.heap H locs → lv_has ls 5 [(0, .ref (a 0)), (1, .long x1), (3, .int x3)] → W p l e rm_X8_digest s m args below meth c H locs 0 0 (MQ below (Ql D (wM a kc Ff Gf If Jf) r (ad a 21 s.heap.size)) args s 0 0 (ad a 21 s.heap.size)) (F0 m 300 ls []) := by
  intro F G I J x1 x3 H locs ls hf hfF hfG hfI hfJ hP hS hl
  unfold p_X8_digest_b300x at hf
  refine lv_iload_n X.1 X.2.1 dX8_digest_300 rfl (lv_at hl 2 rfl) ?_
  refine lv_iconst (v := 2) X.1 X.2.1 dX8_digest_301 (by decide) ?_
  refine lv_icmp_ge (tgt := 323) X.1 X.2.1 dX8_digest_302 (by decide) (fun c302 => ?_) (fun c302 => ?_)
  · have hf := it_s hf c302
    refine lv_ldc2 (v := 31) X.1 X.2.1 X.2.2.2.2.1 (X.2.2.2.2.2.1 _ q_6_120) dX8_digest_323 ?_
    refine lv_lload_n X.1 X.2.1 dX8_digest_326 rfl (lv_at hl 1 rfl) ?_
    refine lv_lmul X.1 X.2.1 dX8_digest_327 ?_
    refine lv_aload_n X.1 X.2.1 dX8_digest_328 rfl (lv_at hl 0 rfl) ?_
    obtain ⟨r329, m_loser_329, m_onlyWho_329, m_onlyWhere_329, m_keptFree_329, m_all_329, m_keptSeat_329, m_ways_329, m_next_329, ho, hf⟩ := b9_s hf
    refine call_vi (rest := [.long (31 * x1)]) X (c_X8_losersNow F G I J X.2.2.2.2.2.2.2.1  ho) q_6_41 q_6_43 qs_yX8_losersNow q_1_10 q_6_44 ok_X8_losersNow rfl 0 rfl rfl ⟨Nat.le_of_ble_eq_true rfl, Nat.le_of_ble_eq_true rfl⟩ rfl rfl hl.1 rfl (Nat.le_of_ble_eq_true rfl) dX8_digest_329 hP hS (fun H locs hP hS => ?_)
    refine lv_i2l X.1 X.2.1 dX8_digest_332 rfl ?_
    refine lv_ladd X.1 X.2.1 dX8_digest_333 ?_
    refine nm_l hf (fun x334 hf => ?_)
    refine lv_lstore_n (lv' := [(1, .long x334), (0, .ref (a 0)), (3, .int x3)]) X.1 X.2.1 dX8_digest_334 rfl hl (by decide) rfl (fun ls hl => ?_)
    refine lv_ldc2 (v := 31) X.1 X.2.1 X.2.2.2.2.1 (X.2.2.2.2.2.1 _ q_6_120) dX8_digest_335 ?_
    refine lv_lload_n X.1 X.2.1 dX8_digest_338 rfl (lv_at hl 0 rfl) ?_
    refine lv_lmul X.1 X.2.1 dX8_digest_339 ?_
    refine lv_aload_n X.1 X.2.1 dX8_digest_340 rfl (lv_at hl 1 rfl) ?_
    obtain ⟨r341, m_loser_341, m_onlyWho_341, m_onlyWhere_341, m_keptFree_341, m_all_341, m_keptSeat_341, m_ways_341, m_next_341, ho, hf⟩ := b9_s hf
    refine call_vi (rest := [.long (31 * x334)]) X (c_X8_likeliestNow (va_up (va_up (va_up (va_up F 5 m_loser_329) 6 m_onlyWho_329) 7 m_onlyWhere_329) 8 m_keptFree_329) (va_up G 0 m_all_329) (va_up I 10 m_keptSeat_329) (va_up (va_up J 0 m_ways_329) 1 m_next_329) X.2.2.2.2.2.2.2.1  ho) q_6_61 q_6_63 qs_yX8_likeliestNow q_1_10 q_6_64 ok_X8_likeliestNow rfl 0 rfl rfl ⟨Nat.le_of_ble_eq_true rfl, Nat.le_of_ble_eq_true rfl⟩ rfl rfl hl.1 rfl (Nat.le_of_ble_eq_true rfl) dX8_digest_341 hP hS (fun H locs hP hS => ?_)
    refine lv_i2l X.1 X.2.1 dX8_digest_344 rfl ?_
    refine lv_ladd X.1 X.2.1 dX8_digest_345 ?_
    refine nm_l hf (fun x346 hf => ?_)
    refine lv_lstore_n (lv' := [(1, .long x346), (0, .ref (a 0)), (3, .int x3)]) X.1 X.2.1 dX8_digest_346 rfl hl (by decide) rfl (fun ls hl => ?_)
    refine lv_ldc2 (v := 31) X.1 X.2.1 X.2.2.2.2.1 (X.2.2.2.2.2.1 _ q_6_120) dX8_digest_347 ?_
    refine lv_lload_n X.1 X.2.1 dX8_digest_350 rfl (lv_at hl 0 rfl) ?_
    refine lv_lmul X.1 X.2.1 dX8_digest_351 ?_
    refine lv_aload_n X.1 X.2.1 dX8_digest_352 rfl (lv_at hl 1 rfl) ?_
    refine lv_iconst (v := 0) X.1 X.2.1 dX8_digest_353 (by decide) ?_
    obtain ⟨r354, m_loser_354, m_onlyWho_354, m_onlyWhere_354, m_keptFree_354, m_all_354, m_keptSeat_354, m_ways_354, m_next_354, ho, hf⟩ := b9_s hf
    refine call_vi (rest := [.long (31 * x346)]) X (c_X8_askNow (va_up (va_up (va_up (va_up (va_up (va_up (va_up (va_up F 5 m_loser_329) 6 m_onlyWho_329) 7 m_onlyWhere_329) 8 m_keptFree_329) 5 m_loser_341) 6 m_onlyWho_341) 7 m_onlyWhere_341) 8 m_keptFree_341) (va_up (va_up G 0 m_all_329) 0 m_all_341) (va_up (va_up I 10 m_keptSeat_329) 10 m_keptSeat_341) (va_up (va_up (va_up (va_up J 0 m_ways_329) 1 m_next_329) 0 m_ways_341) 1 m_next_341) X.2.2.2.2.2.2.2.1 0 ho) q_6_69 q_6_71 qs_yX8_askNow q_1_10 q_6_72 ok_X8_askNow rfl 0 rfl rfl ⟨Nat.le_of_ble_eq_true rfl, Nat.le_of_ble_eq_true rfl⟩ rfl rfl hl.1 rfl (Nat.le_of_ble_eq_true rfl) dX8_digest_354 hP hS (fun H locs hP hS => ?_)
    refine lv_i2l X.1 X.2.1 dX8_digest_357 rfl ?_
    refine lv_ladd X.1 X.2.1 dX8_digest_358 ?_
    refine nm_l hf (fun x359 hf => ?_)
    refine lv_lstore_n (lv' := [(1, .long x359), (0, .ref (a 0)), (3, .int x3)]) X.1 X.2.1 dX8_digest_359 rfl hl (by decide) rfl (fun ls hl => ?_)
    refine lv_ldc2 (v := 31) X.1 X.2.1 X.2.2.2.2.1 (X.2.2.2.2.2.1 _ q_6_120) dX8_digest_360 ?_
    refine lv_lload_n X.1 X.2.1 dX8_digest_363 rfl (lv_at hl 0 rfl) ?_
    refine lv_lmul X.1 X.2.1 dX8_digest_364 ?_
    refine lv_aload_n X.1 X.2.1 dX8_digest_365 rfl (lv_at hl 1 rfl) ?_
    refine lv_iconst (v := 1) X.1 X.2.1 dX8_digest_366 (by decide) ?_
    obtain ⟨r367, m_loser_367, m_onlyWho_367, m_onlyWhere_367, m_keptFree_367, m_all_367, m_keptSeat_367, m_ways_367, m_next_367, ho, hf⟩ := b9_s hf
    refine call_vi (rest := [.long (31 * x359)]) X (c_X8_askNow (va_up (va_up (va_up (va_up (va_up (va_up (va_up (va_up (va_up (va_up (va_up (va_up F 5 m_loser_329) 6 m_onlyWho_329) 7 m_onlyWhere_329) 8 m_keptFree_329) 5 m_loser_341) 6 m_onlyWho_341) 7 m_onlyWhere_341) 8 m_keptFree_341) 5 m_loser_354) 6 m_onlyWho_354) 7 m_onlyWhere_354) 8 m_keptFree_354) (va_up (va_up (va_up G 0 m_all_329) 0 m_all_341) 0 m_all_354) (va_up (va_up (va_up I 10 m_keptSeat_329) 10 m_keptSeat_341) 10 m_keptSeat_354) (va_up (va_up (va_up (va_up (va_up (va_up J 0 m_ways_329) 1 m_next_329) 0 m_ways_341) 1 m_next_341) 0 m_ways_354) 1 m_next_354) X.2.2.2.2.2.2.2.1 1 ho) q_6_69 q_6_71 qs_yX8_askNow q_1_10 q_6_72 ok_X8_askNow rfl 0 rfl rfl ⟨Nat.le_of_ble_eq_true rfl, Nat.le_of_ble_eq_true rfl⟩ rfl rfl hl.1 rfl (Nat.le_of_ble_eq_true rfl) dX8_digest_367 hP hS (fun H locs hP hS => ?_)
    refine lv_i2l X.1 X.2.1 dX8_digest_370 rfl ?_
    refine lv_ladd X.1 X.2.1 dX8_digest_371 ?_
    refine nm_l hf (fun x372 hf => ?_)
    refine lv_lstore_n (lv' := [(1, .long x372), (0, .ref (a 0)), (3, .int x3)]) X.1 X.2.1 dX8_digest_372 rfl hl (by decide) rfl (fun ls hl => ?_)
    refine lv_ldc2 (v := 31) X.1 X.2.1 X.2.2.2.2.1 (X.2.2.2.2.2.1 _ q_6_120) dX8_digest_373 ?_
    refine lv_lload_n X.1 X.2.1 dX8_digest_376 rfl (lv_at hl 0 rfl) ?_
    refine lv_lmul X.1 X.2.1 dX8_digest_377 ?_
    refine lv_aload_n X.1 X.2.1 dX8_digest_378 rfl (lv_at hl 1 rfl) ?_
    refine lv_bipush (v := 7) X.1 X.2.1 dX8_digest_379 (by decide) ?_
    refine lv_iconst (v := (-1)) X.1 X.2.1 dX8_digest_381 (by decide) ?_
    obtain ⟨r382, m_seedNow_382, m_evening_382, ho, hf⟩ := b3_s hf
    refine call_vi (rest := [.long (31 * x372)]) X (c_X8_eveningOf (va_up (va_up (va_up (va_up (va_up (va_up (va_up (va_up (va_up (va_up (va_up (va_up (va_up (va_up (va_up (va_up F 5 m_loser_329) 6 m_onlyWho_329) 7 m_onlyWhere_329) 8 m_keptFree_329) 5 m_loser_341) 6 m_onlyWho_341) 7 m_onlyWhere_341) 8 m_keptFree_341) 5 m_loser_354) 6 m_onlyWho_354) 7 m_onlyWhere_354) 8 m_keptFree_354) 5 m_loser_367) 6 m_onlyWho_367) 7 m_onlyWhere_367) 8 m_keptFree_367) (va_up (va_up (va_up (va_up G 0 m_all_329) 0 m_all_341) 0 m_all_354) 0 m_all_367) (va_up (va_up (va_up (va_up I 10 m_keptSeat_329) 10 m_keptSeat_341) 10 m_keptSeat_354) 10 m_keptSeat_367) (va_up (va_up (va_up (va_up (va_up (va_up (va_up (va_up J 0 m_ways_329) 1 m_next_329) 0 m_ways_341) 1 m_next_341) 0 m_ways_354) 1 m_next_354) 0 m_ways_367) 1 m_next_367) X.2.2.2.2.2.2.2.1 7 (-1) ho) q_6_94 q_6_96 qs_yX8_eveningOf q_1_10 q_6_97 ok_X8_eveningOf rfl 0 rfl rfl ⟨Nat.le_of_ble_eq_true rfl, Nat.le_of_ble_eq_true rfl⟩ rfl rfl hl.1 rfl (Nat.le_of_ble_eq_true rfl) dX8_digest_382 hP hS (fun H locs hP hS => ?_)
    refine lv_i2l X.1 X.2.1 dX8_digest_385 rfl ?_
    refine lv_ladd X.1 X.2.1 dX8_digest_386 ?_
    refine nm_l hf (fun x387 hf => ?_)
    refine lv_lstore_n (lv' := [(1, .long x387), (0, .ref (a 0)), (3, .int x3)]) X.1 X.2.1 dX8_digest_387 rfl hl (by decide) rfl (fun ls hl => ?_)
    refine lv_iconst (v := 0) X.1 X.2.1 dX8_digest_388 (by decide) ?_
    refine lv_istore_n (lv' := [(3, .int 0), (1, .long x387), (0, .ref (a 0))]) X.1 X.2.1 dX8_digest_389 rfl hl (by decide) rfl (fun ls hl => ?_)
    exact t_X8_digest_b390 X 4096 (va_up (va_up (va_up (va_up (va_up (va_up (va_up (va_up (va_up (va_up (va_up (va_up (va_up (va_up (va_up (va_up (va_up F 5 m_loser_329) 6 m_onlyWho_329) 7 m_onlyWhere_329) 8 m_keptFree_329) 5 m_loser_341) 6 m_onlyWho_341) 7 m_onlyWhere_341) 8 m_keptFree_341) 5 m_loser_354) 6 m_onlyWho_354) 7 m_onlyWhere_354) 8 m_keptFree_354) 5 m_loser_367) 6 m_onlyWho_367) 7 m_onlyWhere_367) 8 m_keptFree_367) 13 m_seedNow_382) (va_up (va_up (va_up (va_up G 0 m_all_329) 0 m_all_341) 0 m_all_354) 0 m_all_367) (va_up (va_up (va_up (va_up (va_up I 10 m_keptSeat_329) 10 m_keptSeat_341) 10 m_keptSeat_354) 10 m_keptSeat_367) 15 m_evening_382) (va_up (va_up (va_up (va_up (va_up (va_up (va_up (va_up J 0 m_ways_329) 1 m_next_329) 0 m_ways_341) 1 m_next_341) 0 m_ways_354) 1 m_next_354) 0 m_ways_367) 1 m_next_367) x387 0 H locs ls hf (frm_up (frm_up (frm_up (frm_up (frm_up (frm_up (frm_up (frm_up (frm_up (frm_up (frm_up (frm_up (frm_up (frm_up (frm_up (frm_up (frm_up hfF (by decide)) (by decide)) (by decide)) (by decide)) (by decide)) (by decide)) (by decide)) (by decide)) (by decide)) (by decide)) (by decide)) (by decide)) (by decide)) (by decide)) (by decide)) (by decide)) (by decide)) (frm_up (frm_up (frm_up (frm_up hfG (by decide)) (by decide)) (by decide)) (by decide)) (frm_up (frm_up (frm_up (frm_up (frm_up hfI (by decide)) (by decide)) (by decide)) (by decide)) (by decide)) (frm_up (frm_up (frm_up (frm_up (frm_up (frm_up (frm_up (frm_up hfJ (by decide)) (by decide)) (by decide)) (by decide)) (by decide)) (by decide)) (by decide)) (by decide)) hP hS (lv_sub hl [2, 1, 0] rfl)
  · have hf := ie_s hf c302
    refine lv_ldc2 (v := 31) X.1 X.2.1 X.2.2.2.2.1 (X.2.2.2.2.2.1 _ q_6_120) dX8_digest_305 ?_
    refine lv_lload_n X.1 X.2.1 dX8_digest_308 rfl (lv_at hl 1 rfl) ?_
    refine lv_lmul X.1 X.2.1 dX8_digest_309 ?_
    refine lv_aload_n X.1 X.2.1 dX8_digest_310 rfl (lv_at hl 0 rfl) ?_
    refine lv_iload_n X.1 X.2.1 dX8_digest_311 rfl (lv_at hl 2 rfl) ?_
    obtain ⟨r312, m_loser_312, m_onlyWho_312, m_keptFree_312, m_all_312, m_bestRight_312, m_keptSeat_312, m_order_312, m_bestOrder_312, m_ways_312, m_next_312, ho, hf⟩ := b11_s hf
    refine call_vl (rest := [.long (31 * x1)]) X (c_X8_bestOf F G I J X.2.2.2.2.2.2.2.1 x3 ho) q_6_7 q_6_9 qs_yX8_bestOf q_1_10 q_6_10 ok_X8_bestOf rfl 0 rfl rfl ⟨Nat.le_of_ble_eq_true rfl, Nat.le_of_ble_eq_true rfl⟩ rfl rfl hl.1 rfl (Nat.le_of_ble_eq_true rfl) dX8_digest_312 hP hS (fun H locs hP hS => ?_)
    refine lv_ladd X.1 X.2.1 dX8_digest_315 ?_
    refine nm_l hf (fun x316 hf => ?_)
    refine lv_lstore_n (lv' := [(1, .long x316), (0, .ref (a 0)), (3, .int x3)]) X.1 X.2.1 dX8_digest_316 rfl hl (by decide) rfl (fun ls hl => ?_)
    obtain ⟨x317, ex317, hf⟩ := nm_x hf
    refine lv_iinc (v := x317) (lv' := [(3, .int x317), (1, .long x316), (0, .ref (a 0))]) X.1 X.2.1 dX8_digest_317 hl (k := 2) rfl ex317 (by decide) rfl (fun ls hl => ?_)
    refine lv_goto (tgt := 300) X.1 X.2.1 dX8_digest_320 (by decide) ?_
    exact kh300 (va_up (va_up (va_up F 5 m_loser_312) 6 m_onlyWho_312) 8 m_keptFree_312) (va_up (va_up G 0 m_all_312) 1 m_bestRight_312) (va_up (va_up (va_up I 10 m_keptSeat_312) 11 m_order_312) 12 m_bestOrder_312) (va_up (va_up J 0 m_ways_312) 1 m_next_312) x316 x317 H locs ls hf (frm_up (frm_up (frm_up hfF (by decide)) (by decide)) (by decide)) (frm_up (frm_up hfG (by decide)) (by decide)) (frm_up (frm_up (frm_up hfI (by decide)) (by decide)) (by decide)) (frm_up (frm_up hfJ (by decide)) (by decide)) hP hS (lv_sub hl [2, 1, 0] rfl)
set_option maxRecDepth 100000 in
theorem t_X8_digest_b300 {p : Program} {l : Launch} {e : Env} {s : State} {m : MethodId} {args : Array Value} {below : List Frame} {meth : Method} {c : Code} {D : va_G} {a : Nat → Nat} {kc : Nat → ClassId} (X : cx 21 p s m args meth c D (tyM kc) a cX8_digest 5 RX8 (some .long))  {Ff : Nat → Int32} {Gf : Nat → Int64} {If : Nat → Nat → Int32} {Jf : Nat → Nat → Int64} {r : Int64} :
    ∀ (n : Nat) (F : Nat → Int32) (G : Nat → Int64) (I : Nat → Nat → Int32) (J : Nat → Nat → Int64) (x1 : Int64) (x3 : Int32) (H : Heap) (locs : List Loc) (ls : Array Slot), p_X8_digest_b300 n (F 0) (F 1) (F 2) (F 3) (F 4) (F 5) (F 6) (F 7) (F 8) (F 12) (F 13) (G 0) (G 1) (I 4) (I 5) (I 6) (I 7) (I 8) (I 9) (I 10) (I 11) (I 12) (I 13) (I 14) (I 15) (J 0) (J 1) x1 x3 = some (r, (Ff 1), (Ff 2), (Ff 3), (Ff 4), (Ff 5), (Ff 6), (Ff 7), (Ff 8), (Ff 13), (Gf 0), (Gf 1), (If 6), (If 7), (If 8), (If 9), (If 10), (If 11), (If 12), (If 15), (Jf 0), (Jf 1)) → (∀ k, k ∉ ([1, 2, 3, 4, 5, 6, 7, 8, 13] : List Nat) → Ff k = F k) → (∀ k, k ∉ ([0, 1] : List Nat) → Gf k = G k) → (∀ k, k ∉ ([6, 7, 8, 9, 10, 11, 12, 15] : List Nat) → If k = I k) → (∀ k, k ∉ ([0, 1] : List Nat) → Jf k = J k) → va_P D vwCl (wM a kc F G I J) H → va_S (ad a 21 s.heap.size) s.heap H locs → lv_has ls 5 [(0, .ref (a 0)), (1, .long x1), (3, .int x3)] → W p l e rm_X8_digest s m args below meth c H locs 0 0 (MQ below (Ql D (wM a kc Ff Gf If Jf) r (ad a 21 s.heap.size)) args s 0 0 (ad a 21 s.heap.size)) (F0 m 300 ls []) := by
  intro n
  induction n with
  | zero => intro F G I J x1 x3 H locs ls hf hfF hfG hfI hfJ hP hS hl; exact (nos hf).elim
  | succ n ih => exact t_X8_digest_b300x X ih
set_option maxHeartbeats 4000000 in
set_option maxRecDepth 100000 in
theorem t_X8_digest_b263x {p : Program} {l : Launch} {e : Env} {s : State} {m : MethodId} {args : Array Value} {below : List Frame} {meth : Method} {c : Code} {D : va_G} {a : Nat → Nat} {kc : Nat → ClassId} (X : cx 21 p s m args meth c D (tyM kc) a cX8_digest 5 RX8 (some .long))  {Ff : Nat → Int32} {Gf : Nat → Int64} {If : Nat → Nat → Int32} {Jf : Nat → Nat → Int64} {r : Int64} {K263 : Int32 → Int32 → Int32 → Int32 → Int32 → Int32 → Int32 → Int32 → Int32 → Int32 → Int32 → Int64 → Int64 → (Nat → Int32) → (Nat → Int32) → (Nat → Int32) → (Nat → Int32) → (Nat → Int32) → (Nat → Int32) → (Nat → Int32) → (Nat → Int32) → (Nat → Int32) → (Nat → Int32) → (Nat → Int32) → (Nat → Int32) → (Nat → Int64) → (Nat → Int64) → Int64 → Int32 → Option (Int64 × Int32 × Int32 × Int32 × Int32 × Int32 × Int32 × Int32 × Int32 × Int32 × Int64 × Int64 × (Nat → Int32) × (Nat → Int32) × (Nat → Int32) × (Nat → Int32) × (Nat → Int32) × (Nat → Int32) × (Nat → Int32) × (Nat → Int32) × (Nat → Int64) × (Nat → Int64))} (kh263 : ∀ (F : Nat → Int32) (G : Nat → Int64) (I : Nat → Nat → Int32) (J : Nat → Nat → Int64) (x1 : Int64) (x3 : Int32) (H : Heap) (locs : List Loc) (ls : Array Slot), K263 (F 0) (F 1) (F 2) (F 3) (F 4) (F 5) (F 6) (F 7) (F 8) (F 12) (F 13) (G 0) (G 1) (I 4) (I 5) (I 6) (I 7) (I 8) (I 9) (I 10) (I 11) (I 12) (I 13) (I 14) (I 15) (J 0) (J 1) x1 x3 = some (r, (Ff 1), (Ff 2), (Ff 3), (Ff 4), (Ff 5), (Ff 6), (Ff 7), (Ff 8), (Ff 13), (Gf 0), (Gf 1), (If 6), (If 7), (If 8), (If 9), (If 10), (If 11), (If 12), (If 15), (Jf 0), (Jf 1)) → (∀ k, k ∉ ([1, 2, 3, 4, 5, 6, 7, 8, 13] : List Nat) → Ff k = F k) → (∀ k, k ∉ ([0, 1] : List Nat) → Gf k = G k) → (∀ k, k ∉ ([6, 7, 8, 9, 10, 11, 12, 15] : List Nat) → If k = I k) → (∀ k, k ∉ ([0, 1] : List Nat) → Jf k = J k) → va_P D vwCl (wM a kc F G I J) H → va_S (ad a 21 s.heap.size) s.heap H locs → lv_has ls 5 [(0, .ref (a 0)), (1, .long x1), (3, .int x3)] → W p l e rm_X8_digest s m args below meth c H locs 0 0 (MQ below (Ql D (wM a kc Ff Gf If Jf) r (ad a 21 s.heap.size)) args s 0 0 (ad a 21 s.heap.size)) (F0 m 263 ls [])) :
    ∀ (F : Nat → Int32) (G : Nat → Int64) (I : Nat → Nat → Int32) (J : Nat → Nat → Int64) (x1 : Int64) (x3 : Int32) (H : Heap) (locs : List Loc) (ls : Array Slot), p_X8_digest_b263x K263 (F 0) (F 1) (F 2) (F 3) (F 4) (F 5) (F 6) (F 7) (F 8) (F 12) (F 13) (G 0) (G 1) (I 4) (I 5) (I 6) (I 7) (I 8) (I 9) (I 10) (I 11) (I 12) (I 13) (I 14) (I 15) (J 0) (J 1) x1 x3 = some (r, (Ff 1), (Ff 2), (Ff 3), (Ff 4), (Ff 5), (Ff 6), (Ff 7), (Ff 8), (Ff 13), (Gf 0), (Gf 1), (If 6), (If 7), (If 8), (If 9), (If 10), (If 11), (If 12), (If 15), (Jf 0), (Jf 1)) → (∀ k, k ∉ ([1, 2, 3, 4, 5, 6, 7, 8, 13] : List Nat) → Ff k = F k) → (∀ k, k ∉ ([0, 1] : List Nat) → Gf k = G k) → (∀ k, k ∉ ([6, 7, 8, 9, 10, 11, 12, 15] : List Nat) → If k = I k) → (∀ k, k ∉ ([0, 1] : List Nat) → Jf k = J k) → va_P D vwCl (wM a kc F G I J) H → va_S (ad a 21 s.heap.size) s.heap H locs → lv_has ls 5 [(0, .ref (a 0)), (1, .long x1), (3, .int x3)] → W p l e rm_X8_digest s m args below meth c H locs 0 0 (MQ below (Ql D (wM a kc Ff Gf If Jf) r (ad a 21 s.heap.size)) args s 0 0 (ad a 21 s.heap.size)) (F0 m 263 ls []) := by
  intro F G I J x1 x3 H locs ls hf hfF hfG hfI hfJ hP hS hl
  unfold p_X8_digest_b263x at hf
  refine lv_iload_n X.1 X.2.1 dX8_digest_263 rfl (lv_at hl 2 rfl) ?_
  refine lv_iconst (v := 2) X.1 X.2.1 dX8_digest_264 (by decide) ?_
  refine lv_icmp_ge (tgt := 298) X.1 X.2.1 dX8_digest_265 (by decide) (fun c265 => ?_) (fun c265 => ?_)
  · have hf := it_s hf c265
    refine lv_iconst (v := 0) X.1 X.2.1 dX8_digest_298 (by decide) ?_
    refine lv_istore_n (lv' := [(3, .int 0), (0, .ref (a 0)), (1, .long x1)]) X.1 X.2.1 dX8_digest_299 rfl hl (by decide) rfl (fun ls hl => ?_)
    exact t_X8_digest_b300 X 4096 F G I J x1 0 H locs ls hf hfF hfG hfI hfJ hP hS (lv_sub hl [1, 2, 0] rfl)
  · have hf := ie_s hf c265
    refine lv_ldc2 (v := 31) X.1 X.2.1 X.2.2.2.2.1 (X.2.2.2.2.2.1 _ q_6_120) dX8_digest_268 ?_
    refine lv_lload_n X.1 X.2.1 dX8_digest_271 rfl (lv_at hl 1 rfl) ?_
    refine lv_lmul X.1 X.2.1 dX8_digest_272 ?_
    refine lv_aload_n X.1 X.2.1 dX8_digest_273 rfl (lv_at hl 0 rfl) ?_
    refine lv_aload_n X.1 X.2.1 dX8_digest_274 rfl (lv_at hl 0 rfl) ?_
    refine gM_0_12 (F := F) X (v := (F 4)) rfl q_4_121 dX8_digest_275 hP ?_
    refine lv_iconst (v := 1) X.1 X.2.1 dX8_digest_278 (by decide) ?_
    refine lv_aload_n X.1 X.2.1 dX8_digest_279 rfl (lv_at hl 0 rfl) ?_
    refine gM_0_12 (F := F) X (v := (F 4)) rfl q_4_121 dX8_digest_280 hP ?_
    refine lv_ishl X.1 X.2.1 dX8_digest_283 ?_
    refine lv_iconst (v := 1) X.1 X.2.1 dX8_digest_284 (by decide) ?_
    refine lv_isub X.1 X.2.1 dX8_digest_285 ?_
    refine lv_iload_n X.1 X.2.1 dX8_digest_286 rfl (lv_at hl 2 rfl) ?_
    obtain ⟨r287, m_loser_287, m_onlyWho_287, m_keptFree_287, m_all_287, m_keptSeat_287, m_ways_287, m_next_287, ho, hf⟩ := b8_s hf
    refine call_vl (rest := [.long (31 * x1)]) X (c_X8_takenOf F G I J X.2.2.2.2.2.2.2.1 (F 4) (((1 : Int32) <<< ((F 4) &&& 31)) - 1) x3 ho) q_5_166 q_5_168 qs_yX8_takenOf q_1_10 q_5_169 ok_X8_takenOf rfl 0 rfl rfl ⟨Nat.le_of_ble_eq_true rfl, Nat.le_of_ble_eq_true rfl⟩ rfl rfl hl.1 rfl (Nat.le_of_ble_eq_true rfl) dX8_digest_287 hP hS (fun H locs hP hS => ?_)
    refine lv_ladd X.1 X.2.1 dX8_digest_290 ?_
    refine nm_l hf (fun x291 hf => ?_)
    refine lv_lstore_n (lv' := [(1, .long x291), (0, .ref (a 0)), (3, .int x3)]) X.1 X.2.1 dX8_digest_291 rfl hl (by decide) rfl (fun ls hl => ?_)
    obtain ⟨x292, ex292, hf⟩ := nm_x hf
    refine lv_iinc (v := x292) (lv' := [(3, .int x292), (1, .long x291), (0, .ref (a 0))]) X.1 X.2.1 dX8_digest_292 hl (k := 2) rfl ex292 (by decide) rfl (fun ls hl => ?_)
    refine lv_goto (tgt := 263) X.1 X.2.1 dX8_digest_295 (by decide) ?_
    exact kh263 (va_up (va_up (va_up F 5 m_loser_287) 6 m_onlyWho_287) 8 m_keptFree_287) (va_up G 0 m_all_287) (va_up I 10 m_keptSeat_287) (va_up (va_up J 0 m_ways_287) 1 m_next_287) x291 x292 H locs ls hf (frm_up (frm_up (frm_up hfF (by decide)) (by decide)) (by decide)) (frm_up hfG (by decide)) (frm_up hfI (by decide)) (frm_up (frm_up hfJ (by decide)) (by decide)) hP hS (lv_sub hl [2, 1, 0] rfl)
set_option maxRecDepth 100000 in
theorem t_X8_digest_b263 {p : Program} {l : Launch} {e : Env} {s : State} {m : MethodId} {args : Array Value} {below : List Frame} {meth : Method} {c : Code} {D : va_G} {a : Nat → Nat} {kc : Nat → ClassId} (X : cx 21 p s m args meth c D (tyM kc) a cX8_digest 5 RX8 (some .long))  {Ff : Nat → Int32} {Gf : Nat → Int64} {If : Nat → Nat → Int32} {Jf : Nat → Nat → Int64} {r : Int64} :
    ∀ (n : Nat) (F : Nat → Int32) (G : Nat → Int64) (I : Nat → Nat → Int32) (J : Nat → Nat → Int64) (x1 : Int64) (x3 : Int32) (H : Heap) (locs : List Loc) (ls : Array Slot), p_X8_digest_b263 n (F 0) (F 1) (F 2) (F 3) (F 4) (F 5) (F 6) (F 7) (F 8) (F 12) (F 13) (G 0) (G 1) (I 4) (I 5) (I 6) (I 7) (I 8) (I 9) (I 10) (I 11) (I 12) (I 13) (I 14) (I 15) (J 0) (J 1) x1 x3 = some (r, (Ff 1), (Ff 2), (Ff 3), (Ff 4), (Ff 5), (Ff 6), (Ff 7), (Ff 8), (Ff 13), (Gf 0), (Gf 1), (If 6), (If 7), (If 8), (If 9), (If 10), (If 11), (If 12), (If 15), (Jf 0), (Jf 1)) → (∀ k, k ∉ ([1, 2, 3, 4, 5, 6, 7, 8, 13] : List Nat) → Ff k = F k) → (∀ k, k ∉ ([0, 1] : List Nat) → Gf k = G k) → (∀ k, k ∉ ([6, 7, 8, 9, 10, 11, 12, 15] : List Nat) → If k = I k) → (∀ k, k ∉ ([0, 1] : List Nat) → Jf k = J k) → va_P D vwCl (wM a kc F G I J) H → va_S (ad a 21 s.heap.size) s.heap H locs → lv_has ls 5 [(0, .ref (a 0)), (1, .long x1), (3, .int x3)] → W p l e rm_X8_digest s m args below meth c H locs 0 0 (MQ below (Ql D (wM a kc Ff Gf If Jf) r (ad a 21 s.heap.size)) args s 0 0 (ad a 21 s.heap.size)) (F0 m 263 ls []) := by
  intro n
  induction n with
  | zero => intro F G I J x1 x3 H locs ls hf hfF hfG hfI hfJ hP hS hl; exact (nos hf).elim
  | succ n ih => exact t_X8_digest_b263x X ih
set_option maxHeartbeats 4000000 in
set_option maxRecDepth 100000 in
theorem t_X8_digest_b238x {p : Program} {l : Launch} {e : Env} {s : State} {m : MethodId} {args : Array Value} {below : List Frame} {meth : Method} {c : Code} {D : va_G} {a : Nat → Nat} {kc : Nat → ClassId} (X : cx 21 p s m args meth c D (tyM kc) a cX8_digest 5 RX8 (some .long))  {Ff : Nat → Int32} {Gf : Nat → Int64} {If : Nat → Nat → Int32} {Jf : Nat → Nat → Int64} {r : Int64} {K238 : Int32 → Int32 → Int32 → Int32 → Int32 → Int32 → Int32 → Int32 → Int32 → Int32 → Int32 → Int64 → Int64 → (Nat → Int32) → (Nat → Int32) → (Nat → Int32) → (Nat → Int32) → (Nat → Int32) → (Nat → Int32) → (Nat → Int32) → (Nat → Int32) → (Nat → Int32) → (Nat → Int32) → (Nat → Int32) → (Nat → Int32) → (Nat → Int64) → (Nat → Int64) → Int64 → Int32 → Option (Int64 × Int32 × Int32 × Int32 × Int32 × Int32 × Int32 × Int32 × Int32 × Int32 × Int64 × Int64 × (Nat → Int32) × (Nat → Int32) × (Nat → Int32) × (Nat → Int32) × (Nat → Int32) × (Nat → Int32) × (Nat → Int32) × (Nat → Int32) × (Nat → Int64) × (Nat → Int64))} (kh238 : ∀ (F : Nat → Int32) (G : Nat → Int64) (I : Nat → Nat → Int32) (J : Nat → Nat → Int64) (x1 : Int64) (x3 : Int32) (H : Heap) (locs : List Loc) (ls : Array Slot), K238 (F 0) (F 1) (F 2) (F 3) (F 4) (F 5) (F 6) (F 7) (F 8) (F 12) (F 13) (G 0) (G 1) (I 4) (I 5) (I 6) (I 7) (I 8) (I 9) (I 10) (I 11) (I 12) (I 13) (I 14) (I 15) (J 0) (J 1) x1 x3 = some (r, (Ff 1), (Ff 2), (Ff 3), (Ff 4), (Ff 5), (Ff 6), (Ff 7), (Ff 8), (Ff 13), (Gf 0), (Gf 1), (If 6), (If 7), (If 8), (If 9), (If 10), (If 11), (If 12), (If 15), (Jf 0), (Jf 1)) → (∀ k, k ∉ ([1, 2, 3, 4, 5, 6, 7, 8, 13] : List Nat) → Ff k = F k) → (∀ k, k ∉ ([0, 1] : List Nat) → Gf k = G k) → (∀ k, k ∉ ([6, 7, 8, 9, 10, 11, 12, 15] : List Nat) → If k = I k) → (∀ k, k ∉ ([0, 1] : List Nat) → Jf k = J k) → va_P D vwCl (wM a kc F G I J) H → va_S (ad a 21 s.heap.size) s.heap H locs → lv_has ls 5 [(0, .ref (a 0)), (1, .long x1), (3, .int x3)] → W p l e rm_X8_digest s m args below meth c H locs 0 0 (MQ below (Ql D (wM a kc Ff Gf If Jf) r (ad a 21 s.heap.size)) args s 0 0 (ad a 21 s.heap.size)) (F0 m 238 ls [])) :
    ∀ (F : Nat → Int32) (G : Nat → Int64) (I : Nat → Nat → Int32) (J : Nat → Nat → Int64) (x1 : Int64) (x3 : Int32) (H : Heap) (locs : List Loc) (ls : Array Slot), p_X8_digest_b238x K238 (F 0) (F 1) (F 2) (F 3) (F 4) (F 5) (F 6) (F 7) (F 8) (F 12) (F 13) (G 0) (G 1) (I 4) (I 5) (I 6) (I 7) (I 8) (I 9) (I 10) (I 11) (I 12) (I 13) (I 14) (I 15) (J 0) (J 1) x1 x3 = some (r, (Ff 1), (Ff 2), (Ff 3), (Ff 4), (Ff 5), (Ff 6), (Ff 7), (Ff 8), (Ff 13), (Gf 0), (Gf 1), (If 6), (If 7), (If 8), (If 9), (If 10), (If 11), (If 12), (If 15), (Jf 0), (Jf 1)) → (∀ k, k ∉ ([1, 2, 3, 4, 5, 6, 7, 8, 13] : List Nat) → Ff k = F k) → (∀ k, k ∉ ([0, 1] : List Nat) → Gf k = G k) → (∀ k, k ∉ ([6, 7, 8, 9, 10, 11, 12, 15] : List Nat) → If k = I k) → (∀ k, k ∉ ([0, 1] : List Nat) → Jf k = J k) → va_P D vwCl (wM a kc F G I J) H → va_S (ad a 21 s.heap.size) s.heap H locs → lv_has ls 5 [(0, .ref (a 0)), (1, .long x1), (3, .int x3)] → W p l e rm_X8_digest s m args below meth c H locs 0 0 (MQ below (Ql D (wM a kc Ff Gf If Jf) r (ad a 21 s.heap.size)) args s 0 0 (ad a 21 s.heap.size)) (F0 m 238 ls []) := by
  intro F G I J x1 x3 H locs ls hf hfF hfG hfI hfJ hP hS hl
  unfold p_X8_digest_b238x at hf
  refine lv_iload_n X.1 X.2.1 dX8_digest_238 rfl (lv_at hl 2 rfl) ?_
  refine lv_iconst (v := 2) X.1 X.2.1 dX8_digest_239 (by decide) ?_
  refine lv_icmp_ge (tgt := 261) X.1 X.2.1 dX8_digest_240 (by decide) (fun c240 => ?_) (fun c240 => ?_)
  · have hf := it_s hf c240
    refine lv_iconst (v := 0) X.1 X.2.1 dX8_digest_261 (by decide) ?_
    refine lv_istore_n (lv' := [(3, .int 0), (0, .ref (a 0)), (1, .long x1)]) X.1 X.2.1 dX8_digest_262 rfl hl (by decide) rfl (fun ls hl => ?_)
    exact t_X8_digest_b263 X 4096 F G I J x1 0 H locs ls hf hfF hfG hfI hfJ hP hS (lv_sub hl [1, 2, 0] rfl)
  · have hf := ie_s hf c240
    refine lv_ldc2 (v := 31) X.1 X.2.1 X.2.2.2.2.1 (X.2.2.2.2.2.1 _ q_6_120) dX8_digest_243 ?_
    refine lv_lload_n X.1 X.2.1 dX8_digest_246 rfl (lv_at hl 1 rfl) ?_
    refine lv_lmul X.1 X.2.1 dX8_digest_247 ?_
    refine lv_aload_n X.1 X.2.1 dX8_digest_248 rfl (lv_at hl 0 rfl) ?_
    refine lv_iload_n X.1 X.2.1 dX8_digest_249 rfl (lv_at hl 2 rfl) ?_
    obtain ⟨r250, m_loser_250, m_onlyWho_250, m_keptFree_250, m_all_250, m_keptSeat_250, m_ways_250, m_next_250, ho, hf⟩ := b8_s hf
    refine call_vl (rest := [.long (31 * x1)]) X (c_X8_looksNow F G I J X.2.2.2.2.2.2.2.1 x3 ho) q_5_203 q_5_205 qs_yX8_looksNow q_1_10 q_5_206 ok_X8_looksNow rfl 0 rfl rfl ⟨Nat.le_of_ble_eq_true rfl, Nat.le_of_ble_eq_true rfl⟩ rfl rfl hl.1 rfl (Nat.le_of_ble_eq_true rfl) dX8_digest_250 hP hS (fun H locs hP hS => ?_)
    refine lv_ladd X.1 X.2.1 dX8_digest_253 ?_
    refine nm_l hf (fun x254 hf => ?_)
    refine lv_lstore_n (lv' := [(1, .long x254), (0, .ref (a 0)), (3, .int x3)]) X.1 X.2.1 dX8_digest_254 rfl hl (by decide) rfl (fun ls hl => ?_)
    obtain ⟨x255, ex255, hf⟩ := nm_x hf
    refine lv_iinc (v := x255) (lv' := [(3, .int x255), (1, .long x254), (0, .ref (a 0))]) X.1 X.2.1 dX8_digest_255 hl (k := 2) rfl ex255 (by decide) rfl (fun ls hl => ?_)
    refine lv_goto (tgt := 238) X.1 X.2.1 dX8_digest_258 (by decide) ?_
    exact kh238 (va_up (va_up (va_up F 5 m_loser_250) 6 m_onlyWho_250) 8 m_keptFree_250) (va_up G 0 m_all_250) (va_up I 10 m_keptSeat_250) (va_up (va_up J 0 m_ways_250) 1 m_next_250) x254 x255 H locs ls hf (frm_up (frm_up (frm_up hfF (by decide)) (by decide)) (by decide)) (frm_up hfG (by decide)) (frm_up hfI (by decide)) (frm_up (frm_up hfJ (by decide)) (by decide)) hP hS (lv_sub hl [2, 1, 0] rfl)
set_option maxRecDepth 100000 in
theorem t_X8_digest_b238 {p : Program} {l : Launch} {e : Env} {s : State} {m : MethodId} {args : Array Value} {below : List Frame} {meth : Method} {c : Code} {D : va_G} {a : Nat → Nat} {kc : Nat → ClassId} (X : cx 21 p s m args meth c D (tyM kc) a cX8_digest 5 RX8 (some .long))  {Ff : Nat → Int32} {Gf : Nat → Int64} {If : Nat → Nat → Int32} {Jf : Nat → Nat → Int64} {r : Int64} :
    ∀ (n : Nat) (F : Nat → Int32) (G : Nat → Int64) (I : Nat → Nat → Int32) (J : Nat → Nat → Int64) (x1 : Int64) (x3 : Int32) (H : Heap) (locs : List Loc) (ls : Array Slot), p_X8_digest_b238 n (F 0) (F 1) (F 2) (F 3) (F 4) (F 5) (F 6) (F 7) (F 8) (F 12) (F 13) (G 0) (G 1) (I 4) (I 5) (I 6) (I 7) (I 8) (I 9) (I 10) (I 11) (I 12) (I 13) (I 14) (I 15) (J 0) (J 1) x1 x3 = some (r, (Ff 1), (Ff 2), (Ff 3), (Ff 4), (Ff 5), (Ff 6), (Ff 7), (Ff 8), (Ff 13), (Gf 0), (Gf 1), (If 6), (If 7), (If 8), (If 9), (If 10), (If 11), (If 12), (If 15), (Jf 0), (Jf 1)) → (∀ k, k ∉ ([1, 2, 3, 4, 5, 6, 7, 8, 13] : List Nat) → Ff k = F k) → (∀ k, k ∉ ([0, 1] : List Nat) → Gf k = G k) → (∀ k, k ∉ ([6, 7, 8, 9, 10, 11, 12, 15] : List Nat) → If k = I k) → (∀ k, k ∉ ([0, 1] : List Nat) → Jf k = J k) → va_P D vwCl (wM a kc F G I J) H → va_S (ad a 21 s.heap.size) s.heap H locs → lv_has ls 5 [(0, .ref (a 0)), (1, .long x1), (3, .int x3)] → W p l e rm_X8_digest s m args below meth c H locs 0 0 (MQ below (Ql D (wM a kc Ff Gf If Jf) r (ad a 21 s.heap.size)) args s 0 0 (ad a 21 s.heap.size)) (F0 m 238 ls []) := by
  intro n
  induction n with
  | zero => intro F G I J x1 x3 H locs ls hf hfF hfG hfI hfJ hP hS hl; exact (nos hf).elim
  | succ n ih => exact t_X8_digest_b238x X ih
set_option maxHeartbeats 4000000 in
set_option maxRecDepth 100000 in
theorem t_X8_digest_b213x {p : Program} {l : Launch} {e : Env} {s : State} {m : MethodId} {args : Array Value} {below : List Frame} {meth : Method} {c : Code} {D : va_G} {a : Nat → Nat} {kc : Nat → ClassId} (X : cx 21 p s m args meth c D (tyM kc) a cX8_digest 5 RX8 (some .long))  {Ff : Nat → Int32} {Gf : Nat → Int64} {If : Nat → Nat → Int32} {Jf : Nat → Nat → Int64} {r : Int64} {K213 : Int32 → Int32 → Int32 → Int32 → Int32 → Int32 → Int32 → Int32 → Int32 → Int32 → Int32 → Int64 → Int64 → (Nat → Int32) → (Nat → Int32) → (Nat → Int32) → (Nat → Int32) → (Nat → Int32) → (Nat → Int32) → (Nat → Int32) → (Nat → Int32) → (Nat → Int32) → (Nat → Int32) → (Nat → Int32) → (Nat → Int32) → (Nat → Int64) → (Nat → Int64) → Int64 → Int32 → Option (Int64 × Int32 × Int32 × Int32 × Int32 × Int32 × Int32 × Int32 × Int32 × Int32 × Int64 × Int64 × (Nat → Int32) × (Nat → Int32) × (Nat → Int32) × (Nat → Int32) × (Nat → Int32) × (Nat → Int32) × (Nat → Int32) × (Nat → Int32) × (Nat → Int64) × (Nat → Int64))} (kh213 : ∀ (F : Nat → Int32) (G : Nat → Int64) (I : Nat → Nat → Int32) (J : Nat → Nat → Int64) (x1 : Int64) (x3 : Int32) (H : Heap) (locs : List Loc) (ls : Array Slot), K213 (F 0) (F 1) (F 2) (F 3) (F 4) (F 5) (F 6) (F 7) (F 8) (F 12) (F 13) (G 0) (G 1) (I 4) (I 5) (I 6) (I 7) (I 8) (I 9) (I 10) (I 11) (I 12) (I 13) (I 14) (I 15) (J 0) (J 1) x1 x3 = some (r, (Ff 1), (Ff 2), (Ff 3), (Ff 4), (Ff 5), (Ff 6), (Ff 7), (Ff 8), (Ff 13), (Gf 0), (Gf 1), (If 6), (If 7), (If 8), (If 9), (If 10), (If 11), (If 12), (If 15), (Jf 0), (Jf 1)) → (∀ k, k ∉ ([1, 2, 3, 4, 5, 6, 7, 8, 13] : List Nat) → Ff k = F k) → (∀ k, k ∉ ([0, 1] : List Nat) → Gf k = G k) → (∀ k, k ∉ ([6, 7, 8, 9, 10, 11, 12, 15] : List Nat) → If k = I k) → (∀ k, k ∉ ([0, 1] : List Nat) → Jf k = J k) → va_P D vwCl (wM a kc F G I J) H → va_S (ad a 21 s.heap.size) s.heap H locs → lv_has ls 5 [(0, .ref (a 0)), (1, .long x1), (3, .int x3)] → W p l e rm_X8_digest s m args below meth c H locs 0 0 (MQ below (Ql D (wM a kc Ff Gf If Jf) r (ad a 21 s.heap.size)) args s 0 0 (ad a 21 s.heap.size)) (F0 m 213 ls [])) :
    ∀ (F : Nat → Int32) (G : Nat → Int64) (I : Nat → Nat → Int32) (J : Nat → Nat → Int64) (x1 : Int64) (x3 : Int32) (H : Heap) (locs : List Loc) (ls : Array Slot), p_X8_digest_b213x K213 (F 0) (F 1) (F 2) (F 3) (F 4) (F 5) (F 6) (F 7) (F 8) (F 12) (F 13) (G 0) (G 1) (I 4) (I 5) (I 6) (I 7) (I 8) (I 9) (I 10) (I 11) (I 12) (I 13) (I 14) (I 15) (J 0) (J 1) x1 x3 = some (r, (Ff 1), (Ff 2), (Ff 3), (Ff 4), (Ff 5), (Ff 6), (Ff 7), (Ff 8), (Ff 13), (Gf 0), (Gf 1), (If 6), (If 7), (If 8), (If 9), (If 10), (If 11), (If 12), (If 15), (Jf 0), (Jf 1)) → (∀ k, k ∉ ([1, 2, 3, 4, 5, 6, 7, 8, 13] : List Nat) → Ff k = F k) → (∀ k, k ∉ ([0, 1] : List Nat) → Gf k = G k) → (∀ k, k ∉ ([6, 7, 8, 9, 10, 11, 12, 15] : List Nat) → If k = I k) → (∀ k, k ∉ ([0, 1] : List Nat) → Jf k = J k) → va_P D vwCl (wM a kc F G I J) H → va_S (ad a 21 s.heap.size) s.heap H locs → lv_has ls 5 [(0, .ref (a 0)), (1, .long x1), (3, .int x3)] → W p l e rm_X8_digest s m args below meth c H locs 0 0 (MQ below (Ql D (wM a kc Ff Gf If Jf) r (ad a 21 s.heap.size)) args s 0 0 (ad a 21 s.heap.size)) (F0 m 213 ls []) := by
  intro F G I J x1 x3 H locs ls hf hfF hfG hfI hfJ hP hS hl
  unfold p_X8_digest_b213x at hf
  refine lv_iload_n X.1 X.2.1 dX8_digest_213 rfl (lv_at hl 2 rfl) ?_
  refine lv_iconst (v := 2) X.1 X.2.1 dX8_digest_214 (by decide) ?_
  refine lv_icmp_ge (tgt := 236) X.1 X.2.1 dX8_digest_215 (by decide) (fun c215 => ?_) (fun c215 => ?_)
  · have hf := it_s hf c215
    refine lv_iconst (v := 0) X.1 X.2.1 dX8_digest_236 (by decide) ?_
    refine lv_istore_n (lv' := [(3, .int 0), (0, .ref (a 0)), (1, .long x1)]) X.1 X.2.1 dX8_digest_237 rfl hl (by decide) rfl (fun ls hl => ?_)
    exact t_X8_digest_b238 X 4096 F G I J x1 0 H locs ls hf hfF hfG hfI hfJ hP hS (lv_sub hl [1, 2, 0] rfl)
  · have hf := ie_s hf c215
    refine lv_ldc2 (v := 31) X.1 X.2.1 X.2.2.2.2.1 (X.2.2.2.2.2.1 _ q_6_120) dX8_digest_218 ?_
    refine lv_lload_n X.1 X.2.1 dX8_digest_221 rfl (lv_at hl 1 rfl) ?_
    refine lv_lmul X.1 X.2.1 dX8_digest_222 ?_
    refine lv_aload_n X.1 X.2.1 dX8_digest_223 rfl (lv_at hl 0 rfl) ?_
    refine lv_iload_n X.1 X.2.1 dX8_digest_224 rfl (lv_at hl 2 rfl) ?_
    obtain ⟨r225, m_loser_225, m_onlyWho_225, m_keptFree_225, m_all_225, m_keptSeat_225, m_order_225, m_ways_225, m_next_225, ho, hf⟩ := b9_s hf
    refine call_vl (rest := [.long (31 * x1)]) X (c_X8_meanOf F G I J X.2.2.2.2.2.2.2.1 x3 ho) q_5_175 q_5_177 qs_yX8_meanOf q_1_10 q_5_178 ok_X8_meanOf rfl 0 rfl rfl ⟨Nat.le_of_ble_eq_true rfl, Nat.le_of_ble_eq_true rfl⟩ rfl rfl hl.1 rfl (Nat.le_of_ble_eq_true rfl) dX8_digest_225 hP hS (fun H locs hP hS => ?_)
    refine lv_ladd X.1 X.2.1 dX8_digest_228 ?_
    refine nm_l hf (fun x229 hf => ?_)
    refine lv_lstore_n (lv' := [(1, .long x229), (0, .ref (a 0)), (3, .int x3)]) X.1 X.2.1 dX8_digest_229 rfl hl (by decide) rfl (fun ls hl => ?_)
    obtain ⟨x230, ex230, hf⟩ := nm_x hf
    refine lv_iinc (v := x230) (lv' := [(3, .int x230), (1, .long x229), (0, .ref (a 0))]) X.1 X.2.1 dX8_digest_230 hl (k := 2) rfl ex230 (by decide) rfl (fun ls hl => ?_)
    refine lv_goto (tgt := 213) X.1 X.2.1 dX8_digest_233 (by decide) ?_
    exact kh213 (va_up (va_up (va_up F 5 m_loser_225) 6 m_onlyWho_225) 8 m_keptFree_225) (va_up G 0 m_all_225) (va_up (va_up I 10 m_keptSeat_225) 11 m_order_225) (va_up (va_up J 0 m_ways_225) 1 m_next_225) x229 x230 H locs ls hf (frm_up (frm_up (frm_up hfF (by decide)) (by decide)) (by decide)) (frm_up hfG (by decide)) (frm_up (frm_up hfI (by decide)) (by decide)) (frm_up (frm_up hfJ (by decide)) (by decide)) hP hS (lv_sub hl [2, 1, 0] rfl)
set_option maxRecDepth 100000 in
theorem t_X8_digest_b213 {p : Program} {l : Launch} {e : Env} {s : State} {m : MethodId} {args : Array Value} {below : List Frame} {meth : Method} {c : Code} {D : va_G} {a : Nat → Nat} {kc : Nat → ClassId} (X : cx 21 p s m args meth c D (tyM kc) a cX8_digest 5 RX8 (some .long))  {Ff : Nat → Int32} {Gf : Nat → Int64} {If : Nat → Nat → Int32} {Jf : Nat → Nat → Int64} {r : Int64} :
    ∀ (n : Nat) (F : Nat → Int32) (G : Nat → Int64) (I : Nat → Nat → Int32) (J : Nat → Nat → Int64) (x1 : Int64) (x3 : Int32) (H : Heap) (locs : List Loc) (ls : Array Slot), p_X8_digest_b213 n (F 0) (F 1) (F 2) (F 3) (F 4) (F 5) (F 6) (F 7) (F 8) (F 12) (F 13) (G 0) (G 1) (I 4) (I 5) (I 6) (I 7) (I 8) (I 9) (I 10) (I 11) (I 12) (I 13) (I 14) (I 15) (J 0) (J 1) x1 x3 = some (r, (Ff 1), (Ff 2), (Ff 3), (Ff 4), (Ff 5), (Ff 6), (Ff 7), (Ff 8), (Ff 13), (Gf 0), (Gf 1), (If 6), (If 7), (If 8), (If 9), (If 10), (If 11), (If 12), (If 15), (Jf 0), (Jf 1)) → (∀ k, k ∉ ([1, 2, 3, 4, 5, 6, 7, 8, 13] : List Nat) → Ff k = F k) → (∀ k, k ∉ ([0, 1] : List Nat) → Gf k = G k) → (∀ k, k ∉ ([6, 7, 8, 9, 10, 11, 12, 15] : List Nat) → If k = I k) → (∀ k, k ∉ ([0, 1] : List Nat) → Jf k = J k) → va_P D vwCl (wM a kc F G I J) H → va_S (ad a 21 s.heap.size) s.heap H locs → lv_has ls 5 [(0, .ref (a 0)), (1, .long x1), (3, .int x3)] → W p l e rm_X8_digest s m args below meth c H locs 0 0 (MQ below (Ql D (wM a kc Ff Gf If Jf) r (ad a 21 s.heap.size)) args s 0 0 (ad a 21 s.heap.size)) (F0 m 213 ls []) := by
  intro n
  induction n with
  | zero => intro F G I J x1 x3 H locs ls hf hfF hfG hfI hfJ hP hS hl; exact (nos hf).elim
  | succ n ih => exact t_X8_digest_b213x X ih
set_option maxHeartbeats 4000000 in
set_option maxRecDepth 100000 in
theorem t_X8_digest_b173x {p : Program} {l : Launch} {e : Env} {s : State} {m : MethodId} {args : Array Value} {below : List Frame} {meth : Method} {c : Code} {D : va_G} {a : Nat → Nat} {kc : Nat → ClassId} (X : cx 21 p s m args meth c D (tyM kc) a cX8_digest 5 RX8 (some .long))  {Ff : Nat → Int32} {Gf : Nat → Int64} {If : Nat → Nat → Int32} {Jf : Nat → Nat → Int64} {r : Int64} {K134 : Int32 → Int32 → Int32 → Int32 → Int32 → Int32 → Int32 → Int32 → Int32 → Int32 → Int32 → Int64 → Int64 → (Nat → Int32) → (Nat → Int32) → (Nat → Int32) → (Nat → Int32) → (Nat → Int32) → (Nat → Int32) → (Nat → Int32) → (Nat → Int32) → (Nat → Int32) → (Nat → Int32) → (Nat → Int32) → (Nat → Int32) → (Nat → Int64) → (Nat → Int64) → Int64 → Int32 → Option (Int64 × Int32 × Int32 × Int32 × Int32 × Int32 × Int32 × Int32 × Int32 × Int32 × Int64 × Int64 × (Nat → Int32) × (Nat → Int32) × (Nat → Int32) × (Nat → Int32) × (Nat → Int32) × (Nat → Int32) × (Nat → Int32) × (Nat → Int32) × (Nat → Int64) × (Nat → Int64))} (kh134 : ∀ (F : Nat → Int32) (G : Nat → Int64) (I : Nat → Nat → Int32) (J : Nat → Nat → Int64) (x1 : Int64) (x3 : Int32) (H : Heap) (locs : List Loc) (ls : Array Slot), K134 (F 0) (F 1) (F 2) (F 3) (F 4) (F 5) (F 6) (F 7) (F 8) (F 12) (F 13) (G 0) (G 1) (I 4) (I 5) (I 6) (I 7) (I 8) (I 9) (I 10) (I 11) (I 12) (I 13) (I 14) (I 15) (J 0) (J 1) x1 x3 = some (r, (Ff 1), (Ff 2), (Ff 3), (Ff 4), (Ff 5), (Ff 6), (Ff 7), (Ff 8), (Ff 13), (Gf 0), (Gf 1), (If 6), (If 7), (If 8), (If 9), (If 10), (If 11), (If 12), (If 15), (Jf 0), (Jf 1)) → (∀ k, k ∉ ([1, 2, 3, 4, 5, 6, 7, 8, 13] : List Nat) → Ff k = F k) → (∀ k, k ∉ ([0, 1] : List Nat) → Gf k = G k) → (∀ k, k ∉ ([6, 7, 8, 9, 10, 11, 12, 15] : List Nat) → If k = I k) → (∀ k, k ∉ ([0, 1] : List Nat) → Jf k = J k) → va_P D vwCl (wM a kc F G I J) H → va_S (ad a 21 s.heap.size) s.heap H locs → lv_has ls 5 [(0, .ref (a 0)), (1, .long x1), (3, .int x3)] → W p l e rm_X8_digest s m args below meth c H locs 0 0 (MQ below (Ql D (wM a kc Ff Gf If Jf) r (ad a 21 s.heap.size)) args s 0 0 (ad a 21 s.heap.size)) (F0 m 134 ls [])) {K173 : Int32 → Int32 → Int32 → Int32 → Int32 → Int32 → Int32 → Int32 → Int32 → Int32 → Int32 → Int64 → Int64 → (Nat → Int32) → (Nat → Int32) → (Nat → Int32) → (Nat → Int32) → (Nat → Int32) → (Nat → Int32) → (Nat → Int32) → (Nat → Int32) → (Nat → Int32) → (Nat → Int32) → (Nat → Int32) → (Nat → Int32) → (Nat → Int64) → (Nat → Int64) → Int64 → Int32 → Int32 → Option (Int64 × Int32 × Int32 × Int32 × Int32 × Int32 × Int32 × Int32 × Int32 × Int32 × Int64 × Int64 × (Nat → Int32) × (Nat → Int32) × (Nat → Int32) × (Nat → Int32) × (Nat → Int32) × (Nat → Int32) × (Nat → Int32) × (Nat → Int32) × (Nat → Int64) × (Nat → Int64))} (kh173 : ∀ (F : Nat → Int32) (G : Nat → Int64) (I : Nat → Nat → Int32) (J : Nat → Nat → Int64) (x1 : Int64) (x3 : Int32) (x4 : Int32) (H : Heap) (locs : List Loc) (ls : Array Slot), K173 (F 0) (F 1) (F 2) (F 3) (F 4) (F 5) (F 6) (F 7) (F 8) (F 12) (F 13) (G 0) (G 1) (I 4) (I 5) (I 6) (I 7) (I 8) (I 9) (I 10) (I 11) (I 12) (I 13) (I 14) (I 15) (J 0) (J 1) x1 x3 x4 = some (r, (Ff 1), (Ff 2), (Ff 3), (Ff 4), (Ff 5), (Ff 6), (Ff 7), (Ff 8), (Ff 13), (Gf 0), (Gf 1), (If 6), (If 7), (If 8), (If 9), (If 10), (If 11), (If 12), (If 15), (Jf 0), (Jf 1)) → (∀ k, k ∉ ([1, 2, 3, 4, 5, 6, 7, 8, 13] : List Nat) → Ff k = F k) → (∀ k, k ∉ ([0, 1] : List Nat) → Gf k = G k) → (∀ k, k ∉ ([6, 7, 8, 9, 10, 11, 12, 15] : List Nat) → If k = I k) → (∀ k, k ∉ ([0, 1] : List Nat) → Jf k = J k) → va_P D vwCl (wM a kc F G I J) H → va_S (ad a 21 s.heap.size) s.heap H locs → lv_has ls 5 [(0, .ref (a 0)), (1, .long x1), (3, .int x3), (4, .int x4)] → W p l e rm_X8_digest s m args below meth c H locs 0 0 (MQ below (Ql D (wM a kc Ff Gf If Jf) r (ad a 21 s.heap.size)) args s 0 0 (ad a 21 s.heap.size)) (F0 m 173 ls [])) :
    ∀ (F : Nat → Int32) (G : Nat → Int64) (I : Nat → Nat → Int32) (J : Nat → Nat → Int64) (x1 : Int64) (x3 : Int32) (x4 : Int32) (H : Heap) (locs : List Loc) (ls : Array Slot), p_X8_digest_b173x K134 K173 (F 0) (F 1) (F 2) (F 3) (F 4) (F 5) (F 6) (F 7) (F 8) (F 12) (F 13) (G 0) (G 1) (I 4) (I 5) (I 6) (I 7) (I 8) (I 9) (I 10) (I 11) (I 12) (I 13) (I 14) (I 15) (J 0) (J 1) x1 x3 x4 = some (r, (Ff 1), (Ff 2), (Ff 3), (Ff 4), (Ff 5), (Ff 6), (Ff 7), (Ff 8), (Ff 13), (Gf 0), (Gf 1), (If 6), (If 7), (If 8), (If 9), (If 10), (If 11), (If 12), (If 15), (Jf 0), (Jf 1)) → (∀ k, k ∉ ([1, 2, 3, 4, 5, 6, 7, 8, 13] : List Nat) → Ff k = F k) → (∀ k, k ∉ ([0, 1] : List Nat) → Gf k = G k) → (∀ k, k ∉ ([6, 7, 8, 9, 10, 11, 12, 15] : List Nat) → If k = I k) → (∀ k, k ∉ ([0, 1] : List Nat) → Jf k = J k) → va_P D vwCl (wM a kc F G I J) H → va_S (ad a 21 s.heap.size) s.heap H locs → lv_has ls 5 [(0, .ref (a 0)), (1, .long x1), (3, .int x3), (4, .int x4)] → W p l e rm_X8_digest s m args below meth c H locs 0 0 (MQ below (Ql D (wM a kc Ff Gf If Jf) r (ad a 21 s.heap.size)) args s 0 0 (ad a 21 s.heap.size)) (F0 m 173 ls []) := by
  intro F G I J x1 x3 x4 H locs ls hf hfF hfG hfI hfJ hP hS hl
  unfold p_X8_digest_b173x at hf
  refine lv_iload X.1 X.2.1 dX8_digest_173 (lv_at hl 3 rfl) ?_
  refine lv_iconst (v := 2) X.1 X.2.1 dX8_digest_175 (by decide) ?_
  refine lv_icmp_ge (tgt := 205) X.1 X.2.1 dX8_digest_176 (by decide) (fun c176 => ?_) (fun c176 => ?_)
  · have hf := it_s hf c176
    obtain ⟨x205, ex205, hf⟩ := nm_x hf
    refine lv_iinc (v := x205) (lv' := [(3, .int x205), (0, .ref (a 0)), (1, .long x1), (4, .int x4)]) X.1 X.2.1 dX8_digest_205 hl (k := 2) rfl ex205 (by decide) rfl (fun ls hl => ?_)
    refine lv_goto (tgt := 134) X.1 X.2.1 dX8_digest_208 (by decide) ?_
    exact kh134 F G I J x1 x205 H locs ls hf hfF hfG hfI hfJ hP hS (lv_sub hl [1, 2, 0] rfl)
  · have hf := ie_s hf c176
    refine lv_ldc2 (v := 31) X.1 X.2.1 X.2.2.2.2.1 (X.2.2.2.2.2.1 _ q_6_120) dX8_digest_179 ?_
    refine lv_lload_n X.1 X.2.1 dX8_digest_182 rfl (lv_at hl 1 rfl) ?_
    refine lv_lmul X.1 X.2.1 dX8_digest_183 ?_
    refine lv_aload_n X.1 X.2.1 dX8_digest_184 rfl (lv_at hl 0 rfl) ?_
    refine lv_iload_n X.1 X.2.1 dX8_digest_185 rfl (lv_at hl 2 rfl) ?_
    refine lv_aload_n X.1 X.2.1 dX8_digest_186 rfl (lv_at hl 0 rfl) ?_
    refine gM_0_13 X q_4_122 dX8_digest_187 hP ?_
    refine lv_iload_n X.1 X.2.1 dX8_digest_190 rfl (lv_at hl 2 rfl) ?_
    obtain ⟨h191, hf⟩ := gd_s hf
    refine lM_9 (I := I) X (f := (I 8)) rfl h191 dX8_digest_191 hP ?_
    refine lv_iload X.1 X.2.1 dX8_digest_192 (lv_at hl 3 rfl) ?_
    obtain ⟨r194, m_loser_194, m_onlyWho_194, m_keptFree_194, m_all_194, m_keptSeat_194, m_ways_194, m_next_194, ho, hf⟩ := b8_s hf
    refine call_vl (rest := [.long (31 * x1)]) X (c_X8_likelyOf F G I J X.2.2.2.2.2.2.2.1 x3 ((I 8) x3.toNatClampNeg) x4 ho) q_5_93 q_5_95 qs_yX8_likelyOf q_1_10 q_5_96 ok_X8_likelyOf rfl 0 rfl rfl ⟨Nat.le_of_ble_eq_true rfl, Nat.le_of_ble_eq_true rfl⟩ rfl rfl hl.1 rfl (Nat.le_of_ble_eq_true rfl) dX8_digest_194 hP hS (fun H locs hP hS => ?_)
    refine lv_ladd X.1 X.2.1 dX8_digest_197 ?_
    refine nm_l hf (fun x198 hf => ?_)
    refine lv_lstore_n (lv' := [(1, .long x198), (0, .ref (a 0)), (3, .int x3), (4, .int x4)]) X.1 X.2.1 dX8_digest_198 rfl hl (by decide) rfl (fun ls hl => ?_)
    obtain ⟨x199, ex199, hf⟩ := nm_x hf
    refine lv_iinc (v := x199) (lv' := [(4, .int x199), (1, .long x198), (0, .ref (a 0)), (3, .int x3)]) X.1 X.2.1 dX8_digest_199 hl (k := 3) rfl ex199 (by decide) rfl (fun ls hl => ?_)
    refine lv_goto (tgt := 173) X.1 X.2.1 dX8_digest_202 (by decide) ?_
    exact kh173 (va_up (va_up (va_up F 5 m_loser_194) 6 m_onlyWho_194) 8 m_keptFree_194) (va_up G 0 m_all_194) (va_up I 10 m_keptSeat_194) (va_up (va_up J 0 m_ways_194) 1 m_next_194) x198 x3 x199 H locs ls hf (frm_up (frm_up (frm_up hfF (by decide)) (by decide)) (by decide)) (frm_up hfG (by decide)) (frm_up hfI (by decide)) (frm_up (frm_up hfJ (by decide)) (by decide)) hP hS (lv_sub hl [2, 1, 3, 0] rfl)
set_option maxRecDepth 100000 in
theorem t_X8_digest_b173 {p : Program} {l : Launch} {e : Env} {s : State} {m : MethodId} {args : Array Value} {below : List Frame} {meth : Method} {c : Code} {D : va_G} {a : Nat → Nat} {kc : Nat → ClassId} (X : cx 21 p s m args meth c D (tyM kc) a cX8_digest 5 RX8 (some .long))  {Ff : Nat → Int32} {Gf : Nat → Int64} {If : Nat → Nat → Int32} {Jf : Nat → Nat → Int64} {r : Int64} {K134 : Int32 → Int32 → Int32 → Int32 → Int32 → Int32 → Int32 → Int32 → Int32 → Int32 → Int32 → Int64 → Int64 → (Nat → Int32) → (Nat → Int32) → (Nat → Int32) → (Nat → Int32) → (Nat → Int32) → (Nat → Int32) → (Nat → Int32) → (Nat → Int32) → (Nat → Int32) → (Nat → Int32) → (Nat → Int32) → (Nat → Int32) → (Nat → Int64) → (Nat → Int64) → Int64 → Int32 → Option (Int64 × Int32 × Int32 × Int32 × Int32 × Int32 × Int32 × Int32 × Int32 × Int32 × Int64 × Int64 × (Nat → Int32) × (Nat → Int32) × (Nat → Int32) × (Nat → Int32) × (Nat → Int32) × (Nat → Int32) × (Nat → Int32) × (Nat → Int32) × (Nat → Int64) × (Nat → Int64))} (kh134 : ∀ (F : Nat → Int32) (G : Nat → Int64) (I : Nat → Nat → Int32) (J : Nat → Nat → Int64) (x1 : Int64) (x3 : Int32) (H : Heap) (locs : List Loc) (ls : Array Slot), K134 (F 0) (F 1) (F 2) (F 3) (F 4) (F 5) (F 6) (F 7) (F 8) (F 12) (F 13) (G 0) (G 1) (I 4) (I 5) (I 6) (I 7) (I 8) (I 9) (I 10) (I 11) (I 12) (I 13) (I 14) (I 15) (J 0) (J 1) x1 x3 = some (r, (Ff 1), (Ff 2), (Ff 3), (Ff 4), (Ff 5), (Ff 6), (Ff 7), (Ff 8), (Ff 13), (Gf 0), (Gf 1), (If 6), (If 7), (If 8), (If 9), (If 10), (If 11), (If 12), (If 15), (Jf 0), (Jf 1)) → (∀ k, k ∉ ([1, 2, 3, 4, 5, 6, 7, 8, 13] : List Nat) → Ff k = F k) → (∀ k, k ∉ ([0, 1] : List Nat) → Gf k = G k) → (∀ k, k ∉ ([6, 7, 8, 9, 10, 11, 12, 15] : List Nat) → If k = I k) → (∀ k, k ∉ ([0, 1] : List Nat) → Jf k = J k) → va_P D vwCl (wM a kc F G I J) H → va_S (ad a 21 s.heap.size) s.heap H locs → lv_has ls 5 [(0, .ref (a 0)), (1, .long x1), (3, .int x3)] → W p l e rm_X8_digest s m args below meth c H locs 0 0 (MQ below (Ql D (wM a kc Ff Gf If Jf) r (ad a 21 s.heap.size)) args s 0 0 (ad a 21 s.heap.size)) (F0 m 134 ls [])) :
    ∀ (n : Nat) (F : Nat → Int32) (G : Nat → Int64) (I : Nat → Nat → Int32) (J : Nat → Nat → Int64) (x1 : Int64) (x3 : Int32) (x4 : Int32) (H : Heap) (locs : List Loc) (ls : Array Slot), p_X8_digest_b173 K134 n (F 0) (F 1) (F 2) (F 3) (F 4) (F 5) (F 6) (F 7) (F 8) (F 12) (F 13) (G 0) (G 1) (I 4) (I 5) (I 6) (I 7) (I 8) (I 9) (I 10) (I 11) (I 12) (I 13) (I 14) (I 15) (J 0) (J 1) x1 x3 x4 = some (r, (Ff 1), (Ff 2), (Ff 3), (Ff 4), (Ff 5), (Ff 6), (Ff 7), (Ff 8), (Ff 13), (Gf 0), (Gf 1), (If 6), (If 7), (If 8), (If 9), (If 10), (If 11), (If 12), (If 15), (Jf 0), (Jf 1)) → (∀ k, k ∉ ([1, 2, 3, 4, 5, 6, 7, 8, 13] : List Nat) → Ff k = F k) → (∀ k, k ∉ ([0, 1] : List Nat) → Gf k = G k) → (∀ k, k ∉ ([6, 7, 8, 9, 10, 11, 12, 15] : List Nat) → If k = I k) → (∀ k, k ∉ ([0, 1] : List Nat) → Jf k = J k) → va_P D vwCl (wM a kc F G I J) H → va_S (ad a 21 s.heap.size) s.heap H locs → lv_has ls 5 [(0, .ref (a 0)), (1, .long x1), (3, .int x3), (4, .int x4)] → W p l e rm_X8_digest s m args below meth c H locs 0 0 (MQ below (Ql D (wM a kc Ff Gf If Jf) r (ad a 21 s.heap.size)) args s 0 0 (ad a 21 s.heap.size)) (F0 m 173 ls []) := by
  intro n
  induction n with
  | zero => intro F G I J x1 x3 x4 H locs ls hf hfF hfG hfI hfJ hP hS hl; exact (nos hf).elim
  | succ n ih => exact t_X8_digest_b173x X kh134 ih
set_option maxHeartbeats 4000000 in
set_option maxRecDepth 100000 in
theorem t_X8_digest_b134x {p : Program} {l : Launch} {e : Env} {s : State} {m : MethodId} {args : Array Value} {below : List Frame} {meth : Method} {c : Code} {D : va_G} {a : Nat → Nat} {kc : Nat → ClassId} (X : cx 21 p s m args meth c D (tyM kc) a cX8_digest 5 RX8 (some .long))  {Ff : Nat → Int32} {Gf : Nat → Int64} {If : Nat → Nat → Int32} {Jf : Nat → Nat → Int64} {r : Int64} {K134 : Int32 → Int32 → Int32 → Int32 → Int32 → Int32 → Int32 → Int32 → Int32 → Int32 → Int32 → Int64 → Int64 → (Nat → Int32) → (Nat → Int32) → (Nat → Int32) → (Nat → Int32) → (Nat → Int32) → (Nat → Int32) → (Nat → Int32) → (Nat → Int32) → (Nat → Int32) → (Nat → Int32) → (Nat → Int32) → (Nat → Int32) → (Nat → Int64) → (Nat → Int64) → Int64 → Int32 → Option (Int64 × Int32 × Int32 × Int32 × Int32 × Int32 × Int32 × Int32 × Int32 × Int32 × Int64 × Int64 × (Nat → Int32) × (Nat → Int32) × (Nat → Int32) × (Nat → Int32) × (Nat → Int32) × (Nat → Int32) × (Nat → Int32) × (Nat → Int32) × (Nat → Int64) × (Nat → Int64))} (kh134 : ∀ (F : Nat → Int32) (G : Nat → Int64) (I : Nat → Nat → Int32) (J : Nat → Nat → Int64) (x1 : Int64) (x3 : Int32) (H : Heap) (locs : List Loc) (ls : Array Slot), K134 (F 0) (F 1) (F 2) (F 3) (F 4) (F 5) (F 6) (F 7) (F 8) (F 12) (F 13) (G 0) (G 1) (I 4) (I 5) (I 6) (I 7) (I 8) (I 9) (I 10) (I 11) (I 12) (I 13) (I 14) (I 15) (J 0) (J 1) x1 x3 = some (r, (Ff 1), (Ff 2), (Ff 3), (Ff 4), (Ff 5), (Ff 6), (Ff 7), (Ff 8), (Ff 13), (Gf 0), (Gf 1), (If 6), (If 7), (If 8), (If 9), (If 10), (If 11), (If 12), (If 15), (Jf 0), (Jf 1)) → (∀ k, k ∉ ([1, 2, 3, 4, 5, 6, 7, 8, 13] : List Nat) → Ff k = F k) → (∀ k, k ∉ ([0, 1] : List Nat) → Gf k = G k) → (∀ k, k ∉ ([6, 7, 8, 9, 10, 11, 12, 15] : List Nat) → If k = I k) → (∀ k, k ∉ ([0, 1] : List Nat) → Jf k = J k) → va_P D vwCl (wM a kc F G I J) H → va_S (ad a 21 s.heap.size) s.heap H locs → lv_has ls 5 [(0, .ref (a 0)), (1, .long x1), (3, .int x3)] → W p l e rm_X8_digest s m args below meth c H locs 0 0 (MQ below (Ql D (wM a kc Ff Gf If Jf) r (ad a 21 s.heap.size)) args s 0 0 (ad a 21 s.heap.size)) (F0 m 134 ls [])) :
    ∀ (F : Nat → Int32) (G : Nat → Int64) (I : Nat → Nat → Int32) (J : Nat → Nat → Int64) (x1 : Int64) (x3 : Int32) (H : Heap) (locs : List Loc) (ls : Array Slot), p_X8_digest_b134x K134 (F 0) (F 1) (F 2) (F 3) (F 4) (F 5) (F 6) (F 7) (F 8) (F 12) (F 13) (G 0) (G 1) (I 4) (I 5) (I 6) (I 7) (I 8) (I 9) (I 10) (I 11) (I 12) (I 13) (I 14) (I 15) (J 0) (J 1) x1 x3 = some (r, (Ff 1), (Ff 2), (Ff 3), (Ff 4), (Ff 5), (Ff 6), (Ff 7), (Ff 8), (Ff 13), (Gf 0), (Gf 1), (If 6), (If 7), (If 8), (If 9), (If 10), (If 11), (If 12), (If 15), (Jf 0), (Jf 1)) → (∀ k, k ∉ ([1, 2, 3, 4, 5, 6, 7, 8, 13] : List Nat) → Ff k = F k) → (∀ k, k ∉ ([0, 1] : List Nat) → Gf k = G k) → (∀ k, k ∉ ([6, 7, 8, 9, 10, 11, 12, 15] : List Nat) → If k = I k) → (∀ k, k ∉ ([0, 1] : List Nat) → Jf k = J k) → va_P D vwCl (wM a kc F G I J) H → va_S (ad a 21 s.heap.size) s.heap H locs → lv_has ls 5 [(0, .ref (a 0)), (1, .long x1), (3, .int x3)] → W p l e rm_X8_digest s m args below meth c H locs 0 0 (MQ below (Ql D (wM a kc Ff Gf If Jf) r (ad a 21 s.heap.size)) args s 0 0 (ad a 21 s.heap.size)) (F0 m 134 ls []) := by
  intro F G I J x1 x3 H locs ls hf hfF hfG hfI hfJ hP hS hl
  unfold p_X8_digest_b134x at hf
  refine lv_iload_n X.1 X.2.1 dX8_digest_134 rfl (lv_at hl 2 rfl) ?_
  refine lv_aload_n X.1 X.2.1 dX8_digest_135 rfl (lv_at hl 0 rfl) ?_
  refine gM_0_12 (F := F) X (v := (F 4)) rfl q_4_121 dX8_digest_136 hP ?_
  refine lv_icmp_ge (tgt := 211) X.1 X.2.1 dX8_digest_139 (by decide) (fun c139 => ?_) (fun c139 => ?_)
  · have hf := it_s hf c139
    refine lv_iconst (v := 0) X.1 X.2.1 dX8_digest_211 (by decide) ?_
    refine lv_istore_n (lv' := [(3, .int 0), (0, .ref (a 0)), (1, .long x1)]) X.1 X.2.1 dX8_digest_212 rfl hl (by decide) rfl (fun ls hl => ?_)
    exact t_X8_digest_b213 X 4096 F G I J x1 0 H locs ls hf hfF hfG hfI hfJ hP hS (lv_sub hl [1, 2, 0] rfl)
  · have hf := ie_s hf c139
    refine lv_ldc2 (v := 31) X.1 X.2.1 X.2.2.2.2.1 (X.2.2.2.2.2.1 _ q_6_120) dX8_digest_142 ?_
    refine lv_lload_n X.1 X.2.1 dX8_digest_145 rfl (lv_at hl 1 rfl) ?_
    refine lv_lmul X.1 X.2.1 dX8_digest_146 ?_
    refine lv_aload_n X.1 X.2.1 dX8_digest_147 rfl (lv_at hl 0 rfl) ?_
    refine gM_0_13 X q_4_122 dX8_digest_148 hP ?_
    refine lv_iload_n X.1 X.2.1 dX8_digest_151 rfl (lv_at hl 2 rfl) ?_
    obtain ⟨h152, hf⟩ := gd_s hf
    refine lM_9 (I := I) X (f := (I 8)) rfl h152 dX8_digest_152 hP ?_
    refine lv_i2l X.1 X.2.1 dX8_digest_153 rfl ?_
    refine lv_ladd X.1 X.2.1 dX8_digest_154 ?_
    refine nm_l hf (fun x155 hf => ?_)
    refine lv_lstore_n (lv' := [(1, .long x155), (0, .ref (a 0)), (3, .int x3)]) X.1 X.2.1 dX8_digest_155 rfl hl (by decide) rfl (fun ls hl => ?_)
    refine lv_ldc2 (v := 31) X.1 X.2.1 X.2.2.2.2.1 (X.2.2.2.2.2.1 _ q_6_120) dX8_digest_156 ?_
    refine lv_lload_n X.1 X.2.1 dX8_digest_159 rfl (lv_at hl 0 rfl) ?_
    refine lv_lmul X.1 X.2.1 dX8_digest_160 ?_
    refine lv_aload_n X.1 X.2.1 dX8_digest_161 rfl (lv_at hl 1 rfl) ?_
    refine gM_0_14 X q_4_123 dX8_digest_162 hP ?_
    refine lv_iload_n X.1 X.2.1 dX8_digest_165 rfl (lv_at hl 2 rfl) ?_
    obtain ⟨h166, hf⟩ := gd_s hf
    refine lM_10 (I := I) X (f := (I 9)) rfl h166 dX8_digest_166 hP ?_
    refine lv_i2l X.1 X.2.1 dX8_digest_167 rfl ?_
    refine lv_ladd X.1 X.2.1 dX8_digest_168 ?_
    refine nm_l hf (fun x169 hf => ?_)
    refine lv_lstore_n (lv' := [(1, .long x169), (0, .ref (a 0)), (3, .int x3)]) X.1 X.2.1 dX8_digest_169 rfl hl (by decide) rfl (fun ls hl => ?_)
    refine lv_iconst (v := 0) X.1 X.2.1 dX8_digest_170 (by decide) ?_
    refine lv_istore (lv' := [(4, .int 0), (1, .long x169), (0, .ref (a 0)), (3, .int x3)]) X.1 X.2.1 dX8_digest_171 hl (by decide) rfl (fun ls hl => ?_)
    exact t_X8_digest_b173 X kh134 4096 F G I J x169 x3 0 H locs ls hf hfF hfG hfI hfJ hP hS (lv_sub hl [2, 1, 3, 0] rfl)
set_option maxRecDepth 100000 in
theorem t_X8_digest_b134 {p : Program} {l : Launch} {e : Env} {s : State} {m : MethodId} {args : Array Value} {below : List Frame} {meth : Method} {c : Code} {D : va_G} {a : Nat → Nat} {kc : Nat → ClassId} (X : cx 21 p s m args meth c D (tyM kc) a cX8_digest 5 RX8 (some .long))  {Ff : Nat → Int32} {Gf : Nat → Int64} {If : Nat → Nat → Int32} {Jf : Nat → Nat → Int64} {r : Int64} :
    ∀ (n : Nat) (F : Nat → Int32) (G : Nat → Int64) (I : Nat → Nat → Int32) (J : Nat → Nat → Int64) (x1 : Int64) (x3 : Int32) (H : Heap) (locs : List Loc) (ls : Array Slot), p_X8_digest_b134 n (F 0) (F 1) (F 2) (F 3) (F 4) (F 5) (F 6) (F 7) (F 8) (F 12) (F 13) (G 0) (G 1) (I 4) (I 5) (I 6) (I 7) (I 8) (I 9) (I 10) (I 11) (I 12) (I 13) (I 14) (I 15) (J 0) (J 1) x1 x3 = some (r, (Ff 1), (Ff 2), (Ff 3), (Ff 4), (Ff 5), (Ff 6), (Ff 7), (Ff 8), (Ff 13), (Gf 0), (Gf 1), (If 6), (If 7), (If 8), (If 9), (If 10), (If 11), (If 12), (If 15), (Jf 0), (Jf 1)) → (∀ k, k ∉ ([1, 2, 3, 4, 5, 6, 7, 8, 13] : List Nat) → Ff k = F k) → (∀ k, k ∉ ([0, 1] : List Nat) → Gf k = G k) → (∀ k, k ∉ ([6, 7, 8, 9, 10, 11, 12, 15] : List Nat) → If k = I k) → (∀ k, k ∉ ([0, 1] : List Nat) → Jf k = J k) → va_P D vwCl (wM a kc F G I J) H → va_S (ad a 21 s.heap.size) s.heap H locs → lv_has ls 5 [(0, .ref (a 0)), (1, .long x1), (3, .int x3)] → W p l e rm_X8_digest s m args below meth c H locs 0 0 (MQ below (Ql D (wM a kc Ff Gf If Jf) r (ad a 21 s.heap.size)) args s 0 0 (ad a 21 s.heap.size)) (F0 m 134 ls []) := by
  intro n
  induction n with
  | zero => intro F G I J x1 x3 H locs ls hf hfF hfG hfI hfJ hP hS hl; exact (nos hf).elim
  | succ n ih => exact t_X8_digest_b134x X ih
set_option maxHeartbeats 4000000 in
set_option maxRecDepth 100000 in
theorem t_X8_digest_b100x {p : Program} {l : Launch} {e : Env} {s : State} {m : MethodId} {args : Array Value} {below : List Frame} {meth : Method} {c : Code} {D : va_G} {a : Nat → Nat} {kc : Nat → ClassId} (X : cx 21 p s m args meth c D (tyM kc) a cX8_digest 5 RX8 (some .long))  {Ff : Nat → Int32} {Gf : Nat → Int64} {If : Nat → Nat → Int32} {Jf : Nat → Nat → Int64} {r : Int64} {K59 : Int32 → Int32 → Int32 → Int32 → Int32 → Int32 → Int32 → Int32 → Int32 → Int32 → Int32 → Int64 → Int64 → (Nat → Int32) → (Nat → Int32) → (Nat → Int32) → (Nat → Int32) → (Nat → Int32) → (Nat → Int32) → (Nat → Int32) → (Nat → Int32) → (Nat → Int32) → (Nat → Int32) → (Nat → Int32) → (Nat → Int32) → (Nat → Int64) → (Nat → Int64) → Int64 → Int32 → Option (Int64 × Int32 × Int32 × Int32 × Int32 × Int32 × Int32 × Int32 × Int32 × Int32 × Int64 × Int64 × (Nat → Int32) × (Nat → Int32) × (Nat → Int32) × (Nat → Int32) × (Nat → Int32) × (Nat → Int32) × (Nat → Int32) × (Nat → Int32) × (Nat → Int64) × (Nat → Int64))} (kh59 : ∀ (F : Nat → Int32) (G : Nat → Int64) (I : Nat → Nat → Int32) (J : Nat → Nat → Int64) (x1 : Int64) (x3 : Int32) (H : Heap) (locs : List Loc) (ls : Array Slot), K59 (F 0) (F 1) (F 2) (F 3) (F 4) (F 5) (F 6) (F 7) (F 8) (F 12) (F 13) (G 0) (G 1) (I 4) (I 5) (I 6) (I 7) (I 8) (I 9) (I 10) (I 11) (I 12) (I 13) (I 14) (I 15) (J 0) (J 1) x1 x3 = some (r, (Ff 1), (Ff 2), (Ff 3), (Ff 4), (Ff 5), (Ff 6), (Ff 7), (Ff 8), (Ff 13), (Gf 0), (Gf 1), (If 6), (If 7), (If 8), (If 9), (If 10), (If 11), (If 12), (If 15), (Jf 0), (Jf 1)) → (∀ k, k ∉ ([1, 2, 3, 4, 5, 6, 7, 8, 13] : List Nat) → Ff k = F k) → (∀ k, k ∉ ([0, 1] : List Nat) → Gf k = G k) → (∀ k, k ∉ ([6, 7, 8, 9, 10, 11, 12, 15] : List Nat) → If k = I k) → (∀ k, k ∉ ([0, 1] : List Nat) → Jf k = J k) → va_P D vwCl (wM a kc F G I J) H → va_S (ad a 21 s.heap.size) s.heap H locs → lv_has ls 5 [(0, .ref (a 0)), (1, .long x1), (3, .int x3)] → W p l e rm_X8_digest s m args below meth c H locs 0 0 (MQ below (Ql D (wM a kc Ff Gf If Jf) r (ad a 21 s.heap.size)) args s 0 0 (ad a 21 s.heap.size)) (F0 m 59 ls [])) {K100 : Int32 → Int32 → Int32 → Int32 → Int32 → Int32 → Int32 → Int32 → Int32 → Int32 → Int32 → Int64 → Int64 → (Nat → Int32) → (Nat → Int32) → (Nat → Int32) → (Nat → Int32) → (Nat → Int32) → (Nat → Int32) → (Nat → Int32) → (Nat → Int32) → (Nat → Int32) → (Nat → Int32) → (Nat → Int32) → (Nat → Int32) → (Nat → Int64) → (Nat → Int64) → Int64 → Int32 → Int32 → Option (Int64 × Int32 × Int32 × Int32 × Int32 × Int32 × Int32 × Int32 × Int32 × Int32 × Int64 × Int64 × (Nat → Int32) × (Nat → Int32) × (Nat → Int32) × (Nat → Int32) × (Nat → Int32) × (Nat → Int32) × (Nat → Int32) × (Nat → Int32) × (Nat → Int64) × (Nat → Int64))} (kh100 : ∀ (F : Nat → Int32) (G : Nat → Int64) (I : Nat → Nat → Int32) (J : Nat → Nat → Int64) (x1 : Int64) (x3 : Int32) (x4 : Int32) (H : Heap) (locs : List Loc) (ls : Array Slot), K100 (F 0) (F 1) (F 2) (F 3) (F 4) (F 5) (F 6) (F 7) (F 8) (F 12) (F 13) (G 0) (G 1) (I 4) (I 5) (I 6) (I 7) (I 8) (I 9) (I 10) (I 11) (I 12) (I 13) (I 14) (I 15) (J 0) (J 1) x1 x3 x4 = some (r, (Ff 1), (Ff 2), (Ff 3), (Ff 4), (Ff 5), (Ff 6), (Ff 7), (Ff 8), (Ff 13), (Gf 0), (Gf 1), (If 6), (If 7), (If 8), (If 9), (If 10), (If 11), (If 12), (If 15), (Jf 0), (Jf 1)) → (∀ k, k ∉ ([1, 2, 3, 4, 5, 6, 7, 8, 13] : List Nat) → Ff k = F k) → (∀ k, k ∉ ([0, 1] : List Nat) → Gf k = G k) → (∀ k, k ∉ ([6, 7, 8, 9, 10, 11, 12, 15] : List Nat) → If k = I k) → (∀ k, k ∉ ([0, 1] : List Nat) → Jf k = J k) → va_P D vwCl (wM a kc F G I J) H → va_S (ad a 21 s.heap.size) s.heap H locs → lv_has ls 5 [(0, .ref (a 0)), (1, .long x1), (3, .int x3), (4, .int x4)] → W p l e rm_X8_digest s m args below meth c H locs 0 0 (MQ below (Ql D (wM a kc Ff Gf If Jf) r (ad a 21 s.heap.size)) args s 0 0 (ad a 21 s.heap.size)) (F0 m 100 ls [])) :
    ∀ (F : Nat → Int32) (G : Nat → Int64) (I : Nat → Nat → Int32) (J : Nat → Nat → Int64) (x1 : Int64) (x3 : Int32) (x4 : Int32) (H : Heap) (locs : List Loc) (ls : Array Slot), p_X8_digest_b100x K59 K100 (F 0) (F 1) (F 2) (F 3) (F 4) (F 5) (F 6) (F 7) (F 8) (F 12) (F 13) (G 0) (G 1) (I 4) (I 5) (I 6) (I 7) (I 8) (I 9) (I 10) (I 11) (I 12) (I 13) (I 14) (I 15) (J 0) (J 1) x1 x3 x4 = some (r, (Ff 1), (Ff 2), (Ff 3), (Ff 4), (Ff 5), (Ff 6), (Ff 7), (Ff 8), (Ff 13), (Gf 0), (Gf 1), (If 6), (If 7), (If 8), (If 9), (If 10), (If 11), (If 12), (If 15), (Jf 0), (Jf 1)) → (∀ k, k ∉ ([1, 2, 3, 4, 5, 6, 7, 8, 13] : List Nat) → Ff k = F k) → (∀ k, k ∉ ([0, 1] : List Nat) → Gf k = G k) → (∀ k, k ∉ ([6, 7, 8, 9, 10, 11, 12, 15] : List Nat) → If k = I k) → (∀ k, k ∉ ([0, 1] : List Nat) → Jf k = J k) → va_P D vwCl (wM a kc F G I J) H → va_S (ad a 21 s.heap.size) s.heap H locs → lv_has ls 5 [(0, .ref (a 0)), (1, .long x1), (3, .int x3), (4, .int x4)] → W p l e rm_X8_digest s m args below meth c H locs 0 0 (MQ below (Ql D (wM a kc Ff Gf If Jf) r (ad a 21 s.heap.size)) args s 0 0 (ad a 21 s.heap.size)) (F0 m 100 ls []) := by
  intro F G I J x1 x3 x4 H locs ls hf hfF hfG hfI hfJ hP hS hl
  unfold p_X8_digest_b100x at hf
  refine lv_iload X.1 X.2.1 dX8_digest_100 (lv_at hl 3 rfl) ?_
  refine lv_iconst (v := 2) X.1 X.2.1 dX8_digest_102 (by decide) ?_
  refine lv_icmp_ge (tgt := 126) X.1 X.2.1 dX8_digest_103 (by decide) (fun c103 => ?_) (fun c103 => ?_)
  · have hf := it_s hf c103
    obtain ⟨x126, ex126, hf⟩ := nm_x hf
    refine lv_iinc (v := x126) (lv' := [(3, .int x126), (0, .ref (a 0)), (1, .long x1), (4, .int x4)]) X.1 X.2.1 dX8_digest_126 hl (k := 2) rfl ex126 (by decide) rfl (fun ls hl => ?_)
    refine lv_goto (tgt := 59) X.1 X.2.1 dX8_digest_129 (by decide) ?_
    exact kh59 F G I J x1 x126 H locs ls hf hfF hfG hfI hfJ hP hS (lv_sub hl [1, 2, 0] rfl)
  · have hf := ie_s hf c103
    refine lv_ldc2 (v := 31) X.1 X.2.1 X.2.2.2.2.1 (X.2.2.2.2.2.1 _ q_6_120) dX8_digest_106 ?_
    refine lv_lload_n X.1 X.2.1 dX8_digest_109 rfl (lv_at hl 1 rfl) ?_
    refine lv_lmul X.1 X.2.1 dX8_digest_110 ?_
    refine lv_aload_n X.1 X.2.1 dX8_digest_111 rfl (lv_at hl 0 rfl) ?_
    refine lv_iload_n X.1 X.2.1 dX8_digest_112 rfl (lv_at hl 2 rfl) ?_
    refine lv_iload X.1 X.2.1 dX8_digest_113 (lv_at hl 3 rfl) ?_
    obtain ⟨r115, m_loser_115, m_onlyWho_115, m_keptFree_115, m_all_115, m_keptSeat_115, m_ways_115, m_next_115, ho, hf⟩ := b8_s hf
    refine call_vl (rest := [.long (31 * x1)]) X (c_X8_leftOf F G I J X.2.2.2.2.2.2.2.1 x3 x4 ho) q_5_195 q_5_197 qs_yX8_leftOf q_1_10 q_5_198 ok_X8_leftOf rfl 0 rfl rfl ⟨Nat.le_of_ble_eq_true rfl, Nat.le_of_ble_eq_true rfl⟩ rfl rfl hl.1 rfl (Nat.le_of_ble_eq_true rfl) dX8_digest_115 hP hS (fun H locs hP hS => ?_)
    refine lv_ladd X.1 X.2.1 dX8_digest_118 ?_
    refine nm_l hf (fun x119 hf => ?_)
    refine lv_lstore_n (lv' := [(1, .long x119), (0, .ref (a 0)), (3, .int x3), (4, .int x4)]) X.1 X.2.1 dX8_digest_119 rfl hl (by decide) rfl (fun ls hl => ?_)
    obtain ⟨x120, ex120, hf⟩ := nm_x hf
    refine lv_iinc (v := x120) (lv' := [(4, .int x120), (1, .long x119), (0, .ref (a 0)), (3, .int x3)]) X.1 X.2.1 dX8_digest_120 hl (k := 3) rfl ex120 (by decide) rfl (fun ls hl => ?_)
    refine lv_goto (tgt := 100) X.1 X.2.1 dX8_digest_123 (by decide) ?_
    exact kh100 (va_up (va_up (va_up F 5 m_loser_115) 6 m_onlyWho_115) 8 m_keptFree_115) (va_up G 0 m_all_115) (va_up I 10 m_keptSeat_115) (va_up (va_up J 0 m_ways_115) 1 m_next_115) x119 x3 x120 H locs ls hf (frm_up (frm_up (frm_up hfF (by decide)) (by decide)) (by decide)) (frm_up hfG (by decide)) (frm_up hfI (by decide)) (frm_up (frm_up hfJ (by decide)) (by decide)) hP hS (lv_sub hl [2, 1, 3, 0] rfl)
set_option maxRecDepth 100000 in
theorem t_X8_digest_b100 {p : Program} {l : Launch} {e : Env} {s : State} {m : MethodId} {args : Array Value} {below : List Frame} {meth : Method} {c : Code} {D : va_G} {a : Nat → Nat} {kc : Nat → ClassId} (X : cx 21 p s m args meth c D (tyM kc) a cX8_digest 5 RX8 (some .long))  {Ff : Nat → Int32} {Gf : Nat → Int64} {If : Nat → Nat → Int32} {Jf : Nat → Nat → Int64} {r : Int64} {K59 : Int32 → Int32 → Int32 → Int32 → Int32 → Int32 → Int32 → Int32 → Int32 → Int32 → Int32 → Int64 → Int64 → (Nat → Int32) → (Nat → Int32) → (Nat → Int32) → (Nat → Int32) → (Nat → Int32) → (Nat → Int32) → (Nat → Int32) → (Nat → Int32) → (Nat → Int32) → (Nat → Int32) → (Nat → Int32) → (Nat → Int32) → (Nat → Int64) → (Nat → Int64) → Int64 → Int32 → Option (Int64 × Int32 × Int32 × Int32 × Int32 × Int32 × Int32 × Int32 × Int32 × Int32 × Int64 × Int64 × (Nat → Int32) × (Nat → Int32) × (Nat → Int32) × (Nat → Int32) × (Nat → Int32) × (Nat → Int32) × (Nat → Int32) × (Nat → Int32) × (Nat → Int64) × (Nat → Int64))} (kh59 : ∀ (F : Nat → Int32) (G : Nat → Int64) (I : Nat → Nat → Int32) (J : Nat → Nat → Int64) (x1 : Int64) (x3 : Int32) (H : Heap) (locs : List Loc) (ls : Array Slot), K59 (F 0) (F 1) (F 2) (F 3) (F 4) (F 5) (F 6) (F 7) (F 8) (F 12) (F 13) (G 0) (G 1) (I 4) (I 5) (I 6) (I 7) (I 8) (I 9) (I 10) (I 11) (I 12) (I 13) (I 14) (I 15) (J 0) (J 1) x1 x3 = some (r, (Ff 1), (Ff 2), (Ff 3), (Ff 4), (Ff 5), (Ff 6), (Ff 7), (Ff 8), (Ff 13), (Gf 0), (Gf 1), (If 6), (If 7), (If 8), (If 9), (If 10), (If 11), (If 12), (If 15), (Jf 0), (Jf 1)) → (∀ k, k ∉ ([1, 2, 3, 4, 5, 6, 7, 8, 13] : List Nat) → Ff k = F k) → (∀ k, k ∉ ([0, 1] : List Nat) → Gf k = G k) → (∀ k, k ∉ ([6, 7, 8, 9, 10, 11, 12, 15] : List Nat) → If k = I k) → (∀ k, k ∉ ([0, 1] : List Nat) → Jf k = J k) → va_P D vwCl (wM a kc F G I J) H → va_S (ad a 21 s.heap.size) s.heap H locs → lv_has ls 5 [(0, .ref (a 0)), (1, .long x1), (3, .int x3)] → W p l e rm_X8_digest s m args below meth c H locs 0 0 (MQ below (Ql D (wM a kc Ff Gf If Jf) r (ad a 21 s.heap.size)) args s 0 0 (ad a 21 s.heap.size)) (F0 m 59 ls [])) :
    ∀ (n : Nat) (F : Nat → Int32) (G : Nat → Int64) (I : Nat → Nat → Int32) (J : Nat → Nat → Int64) (x1 : Int64) (x3 : Int32) (x4 : Int32) (H : Heap) (locs : List Loc) (ls : Array Slot), p_X8_digest_b100 K59 n (F 0) (F 1) (F 2) (F 3) (F 4) (F 5) (F 6) (F 7) (F 8) (F 12) (F 13) (G 0) (G 1) (I 4) (I 5) (I 6) (I 7) (I 8) (I 9) (I 10) (I 11) (I 12) (I 13) (I 14) (I 15) (J 0) (J 1) x1 x3 x4 = some (r, (Ff 1), (Ff 2), (Ff 3), (Ff 4), (Ff 5), (Ff 6), (Ff 7), (Ff 8), (Ff 13), (Gf 0), (Gf 1), (If 6), (If 7), (If 8), (If 9), (If 10), (If 11), (If 12), (If 15), (Jf 0), (Jf 1)) → (∀ k, k ∉ ([1, 2, 3, 4, 5, 6, 7, 8, 13] : List Nat) → Ff k = F k) → (∀ k, k ∉ ([0, 1] : List Nat) → Gf k = G k) → (∀ k, k ∉ ([6, 7, 8, 9, 10, 11, 12, 15] : List Nat) → If k = I k) → (∀ k, k ∉ ([0, 1] : List Nat) → Jf k = J k) → va_P D vwCl (wM a kc F G I J) H → va_S (ad a 21 s.heap.size) s.heap H locs → lv_has ls 5 [(0, .ref (a 0)), (1, .long x1), (3, .int x3), (4, .int x4)] → W p l e rm_X8_digest s m args below meth c H locs 0 0 (MQ below (Ql D (wM a kc Ff Gf If Jf) r (ad a 21 s.heap.size)) args s 0 0 (ad a 21 s.heap.size)) (F0 m 100 ls []) := by
  intro n
  induction n with
  | zero => intro F G I J x1 x3 x4 H locs ls hf hfF hfG hfI hfJ hP hS hl; exact (nos hf).elim
  | succ n ih => exact t_X8_digest_b100x X kh59 ih
set_option maxHeartbeats 4000000 in
set_option maxRecDepth 100000 in
theorem t_X8_digest_b70x {p : Program} {l : Launch} {e : Env} {s : State} {m : MethodId} {args : Array Value} {below : List Frame} {meth : Method} {c : Code} {D : va_G} {a : Nat → Nat} {kc : Nat → ClassId} (X : cx 21 p s m args meth c D (tyM kc) a cX8_digest 5 RX8 (some .long))  {Ff : Nat → Int32} {Gf : Nat → Int64} {If : Nat → Nat → Int32} {Jf : Nat → Nat → Int64} {r : Int64} {K59 : Int32 → Int32 → Int32 → Int32 → Int32 → Int32 → Int32 → Int32 → Int32 → Int32 → Int32 → Int64 → Int64 → (Nat → Int32) → (Nat → Int32) → (Nat → Int32) → (Nat → Int32) → (Nat → Int32) → (Nat → Int32) → (Nat → Int32) → (Nat → Int32) → (Nat → Int32) → (Nat → Int32) → (Nat → Int32) → (Nat → Int32) → (Nat → Int64) → (Nat → Int64) → Int64 → Int32 → Option (Int64 × Int32 × Int32 × Int32 × Int32 × Int32 × Int32 × Int32 × Int32 × Int32 × Int64 × Int64 × (Nat → Int32) × (Nat → Int32) × (Nat → Int32) × (Nat → Int32) × (Nat → Int32) × (Nat → Int32) × (Nat → Int32) × (Nat → Int32) × (Nat → Int64) × (Nat → Int64))} (kh59 : ∀ (F : Nat → Int32) (G : Nat → Int64) (I : Nat → Nat → Int32) (J : Nat → Nat → Int64) (x1 : Int64) (x3 : Int32) (H : Heap) (locs : List Loc) (ls : Array Slot), K59 (F 0) (F 1) (F 2) (F 3) (F 4) (F 5) (F 6) (F 7) (F 8) (F 12) (F 13) (G 0) (G 1) (I 4) (I 5) (I 6) (I 7) (I 8) (I 9) (I 10) (I 11) (I 12) (I 13) (I 14) (I 15) (J 0) (J 1) x1 x3 = some (r, (Ff 1), (Ff 2), (Ff 3), (Ff 4), (Ff 5), (Ff 6), (Ff 7), (Ff 8), (Ff 13), (Gf 0), (Gf 1), (If 6), (If 7), (If 8), (If 9), (If 10), (If 11), (If 12), (If 15), (Jf 0), (Jf 1)) → (∀ k, k ∉ ([1, 2, 3, 4, 5, 6, 7, 8, 13] : List Nat) → Ff k = F k) → (∀ k, k ∉ ([0, 1] : List Nat) → Gf k = G k) → (∀ k, k ∉ ([6, 7, 8, 9, 10, 11, 12, 15] : List Nat) → If k = I k) → (∀ k, k ∉ ([0, 1] : List Nat) → Jf k = J k) → va_P D vwCl (wM a kc F G I J) H → va_S (ad a 21 s.heap.size) s.heap H locs → lv_has ls 5 [(0, .ref (a 0)), (1, .long x1), (3, .int x3)] → W p l e rm_X8_digest s m args below meth c H locs 0 0 (MQ below (Ql D (wM a kc Ff Gf If Jf) r (ad a 21 s.heap.size)) args s 0 0 (ad a 21 s.heap.size)) (F0 m 59 ls [])) {K70 : Int32 → Int32 → Int32 → Int32 → Int32 → Int32 → Int32 → Int32 → Int32 → Int32 → Int32 → Int64 → Int64 → (Nat → Int32) → (Nat → Int32) → (Nat → Int32) → (Nat → Int32) → (Nat → Int32) → (Nat → Int32) → (Nat → Int32) → (Nat → Int32) → (Nat → Int32) → (Nat → Int32) → (Nat → Int32) → (Nat → Int32) → (Nat → Int64) → (Nat → Int64) → Int64 → Int32 → Int32 → Option (Int64 × Int32 × Int32 × Int32 × Int32 × Int32 × Int32 × Int32 × Int32 × Int32 × Int64 × Int64 × (Nat → Int32) × (Nat → Int32) × (Nat → Int32) × (Nat → Int32) × (Nat → Int32) × (Nat → Int32) × (Nat → Int32) × (Nat → Int32) × (Nat → Int64) × (Nat → Int64))} (kh70 : ∀ (F : Nat → Int32) (G : Nat → Int64) (I : Nat → Nat → Int32) (J : Nat → Nat → Int64) (x1 : Int64) (x3 : Int32) (x4 : Int32) (H : Heap) (locs : List Loc) (ls : Array Slot), K70 (F 0) (F 1) (F 2) (F 3) (F 4) (F 5) (F 6) (F 7) (F 8) (F 12) (F 13) (G 0) (G 1) (I 4) (I 5) (I 6) (I 7) (I 8) (I 9) (I 10) (I 11) (I 12) (I 13) (I 14) (I 15) (J 0) (J 1) x1 x3 x4 = some (r, (Ff 1), (Ff 2), (Ff 3), (Ff 4), (Ff 5), (Ff 6), (Ff 7), (Ff 8), (Ff 13), (Gf 0), (Gf 1), (If 6), (If 7), (If 8), (If 9), (If 10), (If 11), (If 12), (If 15), (Jf 0), (Jf 1)) → (∀ k, k ∉ ([1, 2, 3, 4, 5, 6, 7, 8, 13] : List Nat) → Ff k = F k) → (∀ k, k ∉ ([0, 1] : List Nat) → Gf k = G k) → (∀ k, k ∉ ([6, 7, 8, 9, 10, 11, 12, 15] : List Nat) → If k = I k) → (∀ k, k ∉ ([0, 1] : List Nat) → Jf k = J k) → va_P D vwCl (wM a kc F G I J) H → va_S (ad a 21 s.heap.size) s.heap H locs → lv_has ls 5 [(0, .ref (a 0)), (1, .long x1), (3, .int x3), (4, .int x4)] → W p l e rm_X8_digest s m args below meth c H locs 0 0 (MQ below (Ql D (wM a kc Ff Gf If Jf) r (ad a 21 s.heap.size)) args s 0 0 (ad a 21 s.heap.size)) (F0 m 70 ls [])) :
    ∀ (F : Nat → Int32) (G : Nat → Int64) (I : Nat → Nat → Int32) (J : Nat → Nat → Int64) (x1 : Int64) (x3 : Int32) (x4 : Int32) (H : Heap) (locs : List Loc) (ls : Array Slot), p_X8_digest_b70x K59 K70 (F 0) (F 1) (F 2) (F 3) (F 4) (F 5) (F 6) (F 7) (F 8) (F 12) (F 13) (G 0) (G 1) (I 4) (I 5) (I 6) (I 7) (I 8) (I 9) (I 10) (I 11) (I 12) (I 13) (I 14) (I 15) (J 0) (J 1) x1 x3 x4 = some (r, (Ff 1), (Ff 2), (Ff 3), (Ff 4), (Ff 5), (Ff 6), (Ff 7), (Ff 8), (Ff 13), (Gf 0), (Gf 1), (If 6), (If 7), (If 8), (If 9), (If 10), (If 11), (If 12), (If 15), (Jf 0), (Jf 1)) → (∀ k, k ∉ ([1, 2, 3, 4, 5, 6, 7, 8, 13] : List Nat) → Ff k = F k) → (∀ k, k ∉ ([0, 1] : List Nat) → Gf k = G k) → (∀ k, k ∉ ([6, 7, 8, 9, 10, 11, 12, 15] : List Nat) → If k = I k) → (∀ k, k ∉ ([0, 1] : List Nat) → Jf k = J k) → va_P D vwCl (wM a kc F G I J) H → va_S (ad a 21 s.heap.size) s.heap H locs → lv_has ls 5 [(0, .ref (a 0)), (1, .long x1), (3, .int x3), (4, .int x4)] → W p l e rm_X8_digest s m args below meth c H locs 0 0 (MQ below (Ql D (wM a kc Ff Gf If Jf) r (ad a 21 s.heap.size)) args s 0 0 (ad a 21 s.heap.size)) (F0 m 70 ls []) := by
  intro F G I J x1 x3 x4 H locs ls hf hfF hfG hfI hfJ hP hS hl
  unfold p_X8_digest_b70x at hf
  refine lv_iload X.1 X.2.1 dX8_digest_70 (lv_at hl 3 rfl) ?_
  refine lv_iconst (v := 3) X.1 X.2.1 dX8_digest_72 (by decide) ?_
  refine lv_icmp_ge (tgt := 97) X.1 X.2.1 dX8_digest_73 (by decide) (fun c73 => ?_) (fun c73 => ?_)
  · have hf := it_s hf c73
    refine lv_iconst (v := 0) X.1 X.2.1 dX8_digest_97 (by decide) ?_
    refine lv_istore (lv' := [(4, .int 0), (0, .ref (a 0)), (1, .long x1), (3, .int x3)]) X.1 X.2.1 dX8_digest_98 hl (by decide) rfl (fun ls hl => ?_)
    exact t_X8_digest_b100 X kh59 4096 F G I J x1 x3 0 H locs ls hf hfF hfG hfI hfJ hP hS (lv_sub hl [1, 2, 3, 0] rfl)
  · have hf := ie_s hf c73
    refine lv_ldc2 (v := 31) X.1 X.2.1 X.2.2.2.2.1 (X.2.2.2.2.2.1 _ q_6_120) dX8_digest_76 ?_
    refine lv_lload_n X.1 X.2.1 dX8_digest_79 rfl (lv_at hl 1 rfl) ?_
    refine lv_lmul X.1 X.2.1 dX8_digest_80 ?_
    refine lv_aload_n X.1 X.2.1 dX8_digest_81 rfl (lv_at hl 0 rfl) ?_
    refine lv_iload_n X.1 X.2.1 dX8_digest_82 rfl (lv_at hl 2 rfl) ?_
    refine lv_iload X.1 X.2.1 dX8_digest_83 (lv_at hl 3 rfl) ?_
    obtain ⟨r85, ho, hf⟩ := b1_s hf
    refine call_vi (rest := [.long (31 * x1)]) X (c_X8_seatOf F G I J X.2.2.2.2.2.2.2.1 x3 x4 ho) q_5_73 q_5_75 qs_yX8_seatOf q_1_10 q_5_76 ok_X8_seatOf rfl 0 rfl rfl ⟨Nat.le_of_ble_eq_true rfl, Nat.le_of_ble_eq_true rfl⟩ rfl rfl hl.1 rfl (Nat.le_of_ble_eq_true rfl) dX8_digest_85 hP hS (fun H locs hP hS => ?_)
    refine lv_i2l X.1 X.2.1 dX8_digest_88 rfl ?_
    refine lv_ladd X.1 X.2.1 dX8_digest_89 ?_
    refine nm_l hf (fun x90 hf => ?_)
    refine lv_lstore_n (lv' := [(1, .long x90), (0, .ref (a 0)), (3, .int x3), (4, .int x4)]) X.1 X.2.1 dX8_digest_90 rfl hl (by decide) rfl (fun ls hl => ?_)
    obtain ⟨x91, ex91, hf⟩ := nm_x hf
    refine lv_iinc (v := x91) (lv' := [(4, .int x91), (1, .long x90), (0, .ref (a 0)), (3, .int x3)]) X.1 X.2.1 dX8_digest_91 hl (k := 3) rfl ex91 (by decide) rfl (fun ls hl => ?_)
    refine lv_goto (tgt := 70) X.1 X.2.1 dX8_digest_94 (by decide) ?_
    exact kh70 F G I J x90 x3 x91 H locs ls hf hfF hfG hfI hfJ hP hS (lv_sub hl [2, 1, 3, 0] rfl)
set_option maxRecDepth 100000 in
theorem t_X8_digest_b70 {p : Program} {l : Launch} {e : Env} {s : State} {m : MethodId} {args : Array Value} {below : List Frame} {meth : Method} {c : Code} {D : va_G} {a : Nat → Nat} {kc : Nat → ClassId} (X : cx 21 p s m args meth c D (tyM kc) a cX8_digest 5 RX8 (some .long))  {Ff : Nat → Int32} {Gf : Nat → Int64} {If : Nat → Nat → Int32} {Jf : Nat → Nat → Int64} {r : Int64} {K59 : Int32 → Int32 → Int32 → Int32 → Int32 → Int32 → Int32 → Int32 → Int32 → Int32 → Int32 → Int64 → Int64 → (Nat → Int32) → (Nat → Int32) → (Nat → Int32) → (Nat → Int32) → (Nat → Int32) → (Nat → Int32) → (Nat → Int32) → (Nat → Int32) → (Nat → Int32) → (Nat → Int32) → (Nat → Int32) → (Nat → Int32) → (Nat → Int64) → (Nat → Int64) → Int64 → Int32 → Option (Int64 × Int32 × Int32 × Int32 × Int32 × Int32 × Int32 × Int32 × Int32 × Int32 × Int64 × Int64 × (Nat → Int32) × (Nat → Int32) × (Nat → Int32) × (Nat → Int32) × (Nat → Int32) × (Nat → Int32) × (Nat → Int32) × (Nat → Int32) × (Nat → Int64) × (Nat → Int64))} (kh59 : ∀ (F : Nat → Int32) (G : Nat → Int64) (I : Nat → Nat → Int32) (J : Nat → Nat → Int64) (x1 : Int64) (x3 : Int32) (H : Heap) (locs : List Loc) (ls : Array Slot), K59 (F 0) (F 1) (F 2) (F 3) (F 4) (F 5) (F 6) (F 7) (F 8) (F 12) (F 13) (G 0) (G 1) (I 4) (I 5) (I 6) (I 7) (I 8) (I 9) (I 10) (I 11) (I 12) (I 13) (I 14) (I 15) (J 0) (J 1) x1 x3 = some (r, (Ff 1), (Ff 2), (Ff 3), (Ff 4), (Ff 5), (Ff 6), (Ff 7), (Ff 8), (Ff 13), (Gf 0), (Gf 1), (If 6), (If 7), (If 8), (If 9), (If 10), (If 11), (If 12), (If 15), (Jf 0), (Jf 1)) → (∀ k, k ∉ ([1, 2, 3, 4, 5, 6, 7, 8, 13] : List Nat) → Ff k = F k) → (∀ k, k ∉ ([0, 1] : List Nat) → Gf k = G k) → (∀ k, k ∉ ([6, 7, 8, 9, 10, 11, 12, 15] : List Nat) → If k = I k) → (∀ k, k ∉ ([0, 1] : List Nat) → Jf k = J k) → va_P D vwCl (wM a kc F G I J) H → va_S (ad a 21 s.heap.size) s.heap H locs → lv_has ls 5 [(0, .ref (a 0)), (1, .long x1), (3, .int x3)] → W p l e rm_X8_digest s m args below meth c H locs 0 0 (MQ below (Ql D (wM a kc Ff Gf If Jf) r (ad a 21 s.heap.size)) args s 0 0 (ad a 21 s.heap.size)) (F0 m 59 ls [])) :
    ∀ (n : Nat) (F : Nat → Int32) (G : Nat → Int64) (I : Nat → Nat → Int32) (J : Nat → Nat → Int64) (x1 : Int64) (x3 : Int32) (x4 : Int32) (H : Heap) (locs : List Loc) (ls : Array Slot), p_X8_digest_b70 K59 n (F 0) (F 1) (F 2) (F 3) (F 4) (F 5) (F 6) (F 7) (F 8) (F 12) (F 13) (G 0) (G 1) (I 4) (I 5) (I 6) (I 7) (I 8) (I 9) (I 10) (I 11) (I 12) (I 13) (I 14) (I 15) (J 0) (J 1) x1 x3 x4 = some (r, (Ff 1), (Ff 2), (Ff 3), (Ff 4), (Ff 5), (Ff 6), (Ff 7), (Ff 8), (Ff 13), (Gf 0), (Gf 1), (If 6), (If 7), (If 8), (If 9), (If 10), (If 11), (If 12), (If 15), (Jf 0), (Jf 1)) → (∀ k, k ∉ ([1, 2, 3, 4, 5, 6, 7, 8, 13] : List Nat) → Ff k = F k) → (∀ k, k ∉ ([0, 1] : List Nat) → Gf k = G k) → (∀ k, k ∉ ([6, 7, 8, 9, 10, 11, 12, 15] : List Nat) → If k = I k) → (∀ k, k ∉ ([0, 1] : List Nat) → Jf k = J k) → va_P D vwCl (wM a kc F G I J) H → va_S (ad a 21 s.heap.size) s.heap H locs → lv_has ls 5 [(0, .ref (a 0)), (1, .long x1), (3, .int x3), (4, .int x4)] → W p l e rm_X8_digest s m args below meth c H locs 0 0 (MQ below (Ql D (wM a kc Ff Gf If Jf) r (ad a 21 s.heap.size)) args s 0 0 (ad a 21 s.heap.size)) (F0 m 70 ls []) := by
  intro n
  induction n with
  | zero => intro F G I J x1 x3 x4 H locs ls hf hfF hfG hfI hfJ hP hS hl; exact (nos hf).elim
  | succ n ih => exact t_X8_digest_b70x X kh59 ih
set_option maxHeartbeats 4000000 in
set_option maxRecDepth 100000 in
theorem t_X8_digest_b59x {p : Program} {l : Launch} {e : Env} {s : State} {m : MethodId} {args : Array Value} {below : List Frame} {meth : Method} {c : Code} {D : va_G} {a : Nat → Nat} {kc : Nat → ClassId} (X : cx 21 p s m args meth c D (tyM kc) a cX8_digest 5 RX8 (some .long))  {Ff : Nat → Int32} {Gf : Nat → Int64} {If : Nat → Nat → Int32} {Jf : Nat → Nat → Int64} {r : Int64} {K59 : Int32 → Int32 → Int32 → Int32 → Int32 → Int32 → Int32 → Int32 → Int32 → Int32 → Int32 → Int64 → Int64 → (Nat → Int32) → (Nat → Int32) → (Nat → Int32) → (Nat → Int32) → (Nat → Int32) → (Nat → Int32) → (Nat → Int32) → (Nat → Int32) → (Nat → Int32) → (Nat → Int32) → (Nat → Int32) → (Nat → Int32) → (Nat → Int64) → (Nat → Int64) → Int64 → Int32 → Option (Int64 × Int32 × Int32 × Int32 × Int32 × Int32 × Int32 × Int32 × Int32 × Int32 × Int64 × Int64 × (Nat → Int32) × (Nat → Int32) × (Nat → Int32) × (Nat → Int32) × (Nat → Int32) × (Nat → Int32) × (Nat → Int32) × (Nat → Int32) × (Nat → Int64) × (Nat → Int64))} (kh59 : ∀ (F : Nat → Int32) (G : Nat → Int64) (I : Nat → Nat → Int32) (J : Nat → Nat → Int64) (x1 : Int64) (x3 : Int32) (H : Heap) (locs : List Loc) (ls : Array Slot), K59 (F 0) (F 1) (F 2) (F 3) (F 4) (F 5) (F 6) (F 7) (F 8) (F 12) (F 13) (G 0) (G 1) (I 4) (I 5) (I 6) (I 7) (I 8) (I 9) (I 10) (I 11) (I 12) (I 13) (I 14) (I 15) (J 0) (J 1) x1 x3 = some (r, (Ff 1), (Ff 2), (Ff 3), (Ff 4), (Ff 5), (Ff 6), (Ff 7), (Ff 8), (Ff 13), (Gf 0), (Gf 1), (If 6), (If 7), (If 8), (If 9), (If 10), (If 11), (If 12), (If 15), (Jf 0), (Jf 1)) → (∀ k, k ∉ ([1, 2, 3, 4, 5, 6, 7, 8, 13] : List Nat) → Ff k = F k) → (∀ k, k ∉ ([0, 1] : List Nat) → Gf k = G k) → (∀ k, k ∉ ([6, 7, 8, 9, 10, 11, 12, 15] : List Nat) → If k = I k) → (∀ k, k ∉ ([0, 1] : List Nat) → Jf k = J k) → va_P D vwCl (wM a kc F G I J) H → va_S (ad a 21 s.heap.size) s.heap H locs → lv_has ls 5 [(0, .ref (a 0)), (1, .long x1), (3, .int x3)] → W p l e rm_X8_digest s m args below meth c H locs 0 0 (MQ below (Ql D (wM a kc Ff Gf If Jf) r (ad a 21 s.heap.size)) args s 0 0 (ad a 21 s.heap.size)) (F0 m 59 ls [])) :
    ∀ (F : Nat → Int32) (G : Nat → Int64) (I : Nat → Nat → Int32) (J : Nat → Nat → Int64) (x1 : Int64) (x3 : Int32) (H : Heap) (locs : List Loc) (ls : Array Slot), p_X8_digest_b59x K59 (F 0) (F 1) (F 2) (F 3) (F 4) (F 5) (F 6) (F 7) (F 8) (F 12) (F 13) (G 0) (G 1) (I 4) (I 5) (I 6) (I 7) (I 8) (I 9) (I 10) (I 11) (I 12) (I 13) (I 14) (I 15) (J 0) (J 1) x1 x3 = some (r, (Ff 1), (Ff 2), (Ff 3), (Ff 4), (Ff 5), (Ff 6), (Ff 7), (Ff 8), (Ff 13), (Gf 0), (Gf 1), (If 6), (If 7), (If 8), (If 9), (If 10), (If 11), (If 12), (If 15), (Jf 0), (Jf 1)) → (∀ k, k ∉ ([1, 2, 3, 4, 5, 6, 7, 8, 13] : List Nat) → Ff k = F k) → (∀ k, k ∉ ([0, 1] : List Nat) → Gf k = G k) → (∀ k, k ∉ ([6, 7, 8, 9, 10, 11, 12, 15] : List Nat) → If k = I k) → (∀ k, k ∉ ([0, 1] : List Nat) → Jf k = J k) → va_P D vwCl (wM a kc F G I J) H → va_S (ad a 21 s.heap.size) s.heap H locs → lv_has ls 5 [(0, .ref (a 0)), (1, .long x1), (3, .int x3)] → W p l e rm_X8_digest s m args below meth c H locs 0 0 (MQ below (Ql D (wM a kc Ff Gf If Jf) r (ad a 21 s.heap.size)) args s 0 0 (ad a 21 s.heap.size)) (F0 m 59 ls []) := by
  intro F G I J x1 x3 H locs ls hf hfF hfG hfI hfJ hP hS hl
  unfold p_X8_digest_b59x at hf
  refine lv_iload_n X.1 X.2.1 dX8_digest_59 rfl (lv_at hl 2 rfl) ?_
  refine lv_aload_n X.1 X.2.1 dX8_digest_60 rfl (lv_at hl 0 rfl) ?_
  refine gM_0_8 (F := F) X (v := (F 2)) rfl q_4_117 dX8_digest_61 hP ?_
  refine lv_icmp_ge (tgt := 132) X.1 X.2.1 dX8_digest_64 (by decide) (fun c64 => ?_) (fun c64 => ?_)
  · have hf := it_s hf c64
    refine lv_iconst (v := 0) X.1 X.2.1 dX8_digest_132 (by decide) ?_
    refine lv_istore_n (lv' := [(3, .int 0), (0, .ref (a 0)), (1, .long x1)]) X.1 X.2.1 dX8_digest_133 rfl hl (by decide) rfl (fun ls hl => ?_)
    exact t_X8_digest_b134 X 4096 F G I J x1 0 H locs ls hf hfF hfG hfI hfJ hP hS (lv_sub hl [1, 2, 0] rfl)
  · have hf := ie_s hf c64
    refine lv_iconst (v := 0) X.1 X.2.1 dX8_digest_67 (by decide) ?_
    refine lv_istore (lv' := [(4, .int 0), (0, .ref (a 0)), (1, .long x1), (3, .int x3)]) X.1 X.2.1 dX8_digest_68 hl (by decide) rfl (fun ls hl => ?_)
    exact t_X8_digest_b70 X kh59 4096 F G I J x1 x3 0 H locs ls hf hfF hfG hfI hfJ hP hS (lv_sub hl [1, 2, 3, 0] rfl)
set_option maxRecDepth 100000 in
theorem t_X8_digest_b59 {p : Program} {l : Launch} {e : Env} {s : State} {m : MethodId} {args : Array Value} {below : List Frame} {meth : Method} {c : Code} {D : va_G} {a : Nat → Nat} {kc : Nat → ClassId} (X : cx 21 p s m args meth c D (tyM kc) a cX8_digest 5 RX8 (some .long))  {Ff : Nat → Int32} {Gf : Nat → Int64} {If : Nat → Nat → Int32} {Jf : Nat → Nat → Int64} {r : Int64} :
    ∀ (n : Nat) (F : Nat → Int32) (G : Nat → Int64) (I : Nat → Nat → Int32) (J : Nat → Nat → Int64) (x1 : Int64) (x3 : Int32) (H : Heap) (locs : List Loc) (ls : Array Slot), p_X8_digest_b59 n (F 0) (F 1) (F 2) (F 3) (F 4) (F 5) (F 6) (F 7) (F 8) (F 12) (F 13) (G 0) (G 1) (I 4) (I 5) (I 6) (I 7) (I 8) (I 9) (I 10) (I 11) (I 12) (I 13) (I 14) (I 15) (J 0) (J 1) x1 x3 = some (r, (Ff 1), (Ff 2), (Ff 3), (Ff 4), (Ff 5), (Ff 6), (Ff 7), (Ff 8), (Ff 13), (Gf 0), (Gf 1), (If 6), (If 7), (If 8), (If 9), (If 10), (If 11), (If 12), (If 15), (Jf 0), (Jf 1)) → (∀ k, k ∉ ([1, 2, 3, 4, 5, 6, 7, 8, 13] : List Nat) → Ff k = F k) → (∀ k, k ∉ ([0, 1] : List Nat) → Gf k = G k) → (∀ k, k ∉ ([6, 7, 8, 9, 10, 11, 12, 15] : List Nat) → If k = I k) → (∀ k, k ∉ ([0, 1] : List Nat) → Jf k = J k) → va_P D vwCl (wM a kc F G I J) H → va_S (ad a 21 s.heap.size) s.heap H locs → lv_has ls 5 [(0, .ref (a 0)), (1, .long x1), (3, .int x3)] → W p l e rm_X8_digest s m args below meth c H locs 0 0 (MQ below (Ql D (wM a kc Ff Gf If Jf) r (ad a 21 s.heap.size)) args s 0 0 (ad a 21 s.heap.size)) (F0 m 59 ls []) := by
  intro n
  induction n with
  | zero => intro F G I J x1 x3 H locs ls hf hfF hfG hfI hfJ hP hS hl; exact (nos hf).elim
  | succ n ih => exact t_X8_digest_b59x X ih
set_option maxHeartbeats 4000000 in
set_option maxRecDepth 100000 in
theorem t_X8_digest_b6x {p : Program} {l : Launch} {e : Env} {s : State} {m : MethodId} {args : Array Value} {below : List Frame} {meth : Method} {c : Code} {D : va_G} {a : Nat → Nat} {kc : Nat → ClassId} (X : cx 21 p s m args meth c D (tyM kc) a cX8_digest 5 RX8 (some .long))  {Ff : Nat → Int32} {Gf : Nat → Int64} {If : Nat → Nat → Int32} {Jf : Nat → Nat → Int64} {r : Int64} {K6 : Int32 → Int32 → Int32 → Int32 → Int32 → Int32 → Int32 → Int32 → Int32 → Int32 → Int32 → Int64 → Int64 → (Nat → Int32) → (Nat → Int32) → (Nat → Int32) → (Nat → Int32) → (Nat → Int32) → (Nat → Int32) → (Nat → Int32) → (Nat → Int32) → (Nat → Int32) → (Nat → Int32) → (Nat → Int32) → (Nat → Int32) → (Nat → Int64) → (Nat → Int64) → Int64 → Int32 → Option (Int64 × Int32 × Int32 × Int32 × Int32 × Int32 × Int32 × Int32 × Int32 × Int32 × Int64 × Int64 × (Nat → Int32) × (Nat → Int32) × (Nat → Int32) × (Nat → Int32) × (Nat → Int32) × (Nat → Int32) × (Nat → Int32) × (Nat → Int32) × (Nat → Int64) × (Nat → Int64))} (kh6 : ∀ (F : Nat → Int32) (G : Nat → Int64) (I : Nat → Nat → Int32) (J : Nat → Nat → Int64) (x1 : Int64) (x3 : Int32) (H : Heap) (locs : List Loc) (ls : Array Slot), K6 (F 0) (F 1) (F 2) (F 3) (F 4) (F 5) (F 6) (F 7) (F 8) (F 12) (F 13) (G 0) (G 1) (I 4) (I 5) (I 6) (I 7) (I 8) (I 9) (I 10) (I 11) (I 12) (I 13) (I 14) (I 15) (J 0) (J 1) x1 x3 = some (r, (Ff 1), (Ff 2), (Ff 3), (Ff 4), (Ff 5), (Ff 6), (Ff 7), (Ff 8), (Ff 13), (Gf 0), (Gf 1), (If 6), (If 7), (If 8), (If 9), (If 10), (If 11), (If 12), (If 15), (Jf 0), (Jf 1)) → (∀ k, k ∉ ([1, 2, 3, 4, 5, 6, 7, 8, 13] : List Nat) → Ff k = F k) → (∀ k, k ∉ ([0, 1] : List Nat) → Gf k = G k) → (∀ k, k ∉ ([6, 7, 8, 9, 10, 11, 12, 15] : List Nat) → If k = I k) → (∀ k, k ∉ ([0, 1] : List Nat) → Jf k = J k) → va_P D vwCl (wM a kc F G I J) H → va_S (ad a 21 s.heap.size) s.heap H locs → lv_has ls 5 [(0, .ref (a 0)), (1, .long x1), (3, .int x3)] → W p l e rm_X8_digest s m args below meth c H locs 0 0 (MQ below (Ql D (wM a kc Ff Gf If Jf) r (ad a 21 s.heap.size)) args s 0 0 (ad a 21 s.heap.size)) (F0 m 6 ls [])) :
    ∀ (F : Nat → Int32) (G : Nat → Int64) (I : Nat → Nat → Int32) (J : Nat → Nat → Int64) (x1 : Int64) (x3 : Int32) (H : Heap) (locs : List Loc) (ls : Array Slot), p_X8_digest_b6x K6 (F 0) (F 1) (F 2) (F 3) (F 4) (F 5) (F 6) (F 7) (F 8) (F 12) (F 13) (G 0) (G 1) (I 4) (I 5) (I 6) (I 7) (I 8) (I 9) (I 10) (I 11) (I 12) (I 13) (I 14) (I 15) (J 0) (J 1) x1 x3 = some (r, (Ff 1), (Ff 2), (Ff 3), (Ff 4), (Ff 5), (Ff 6), (Ff 7), (Ff 8), (Ff 13), (Gf 0), (Gf 1), (If 6), (If 7), (If 8), (If 9), (If 10), (If 11), (If 12), (If 15), (Jf 0), (Jf 1)) → (∀ k, k ∉ ([1, 2, 3, 4, 5, 6, 7, 8, 13] : List Nat) → Ff k = F k) → (∀ k, k ∉ ([0, 1] : List Nat) → Gf k = G k) → (∀ k, k ∉ ([6, 7, 8, 9, 10, 11, 12, 15] : List Nat) → If k = I k) → (∀ k, k ∉ ([0, 1] : List Nat) → Jf k = J k) → va_P D vwCl (wM a kc F G I J) H → va_S (ad a 21 s.heap.size) s.heap H locs → lv_has ls 5 [(0, .ref (a 0)), (1, .long x1), (3, .int x3)] → W p l e rm_X8_digest s m args below meth c H locs 0 0 (MQ below (Ql D (wM a kc Ff Gf If Jf) r (ad a 21 s.heap.size)) args s 0 0 (ad a 21 s.heap.size)) (F0 m 6 ls []) := by
  intro F G I J x1 x3 H locs ls hf hfF hfG hfI hfJ hP hS hl
  unfold p_X8_digest_b6x at hf
  refine lv_iload_n X.1 X.2.1 dX8_digest_6 rfl (lv_at hl 2 rfl) ?_
  refine lv_bipush (v := 8) X.1 X.2.1 dX8_digest_7 (by decide) ?_
  refine lv_icmp_ge (tgt := 31) X.1 X.2.1 dX8_digest_9 (by decide) (fun c9 => ?_) (fun c9 => ?_)
  · have hf := it_s hf c9
    refine lv_ldc2 (v := 31) X.1 X.2.1 X.2.2.2.2.1 (X.2.2.2.2.2.1 _ q_6_120) dX8_digest_31 ?_
    refine lv_lload_n X.1 X.2.1 dX8_digest_34 rfl (lv_at hl 1 rfl) ?_
    refine lv_lmul X.1 X.2.1 dX8_digest_35 ?_
    refine lv_aload_n X.1 X.2.1 dX8_digest_36 rfl (lv_at hl 0 rfl) ?_
    refine lv_iconst (v := 0) X.1 X.2.1 dX8_digest_37 (by decide) ?_
    obtain ⟨r38, m_at_38, m_seats_38, m_rows_38, m_people_38, m_sorts_38, m_rowOf_38, m_own_38, m_kinds_38, ho, hf⟩ := b9_s hf
    refine call_vi (rest := [.long (31 * x1)]) X (c_X8_faultOf F G I J X.2.2.2.2.2.2.2.1 0 ho) q_5_34 q_5_36 qs_yX8_faultOf q_1_10 q_5_37 ok_X8_faultOf rfl 0 rfl rfl ⟨Nat.le_of_ble_eq_true rfl, Nat.le_of_ble_eq_true rfl⟩ rfl rfl hl.1 rfl (Nat.le_of_ble_eq_true rfl) dX8_digest_38 hP hS (fun H locs hP hS => ?_)
    refine lv_i2l X.1 X.2.1 dX8_digest_41 rfl ?_
    refine lv_ladd X.1 X.2.1 dX8_digest_42 ?_
    refine nm_l hf (fun x43 hf => ?_)
    refine lv_lstore_n (lv' := [(1, .long x43), (0, .ref (a 0)), (3, .int x3)]) X.1 X.2.1 dX8_digest_43 rfl hl (by decide) rfl (fun ls hl => ?_)
    refine lv_ldc2 (v := 31) X.1 X.2.1 X.2.2.2.2.1 (X.2.2.2.2.2.1 _ q_6_120) dX8_digest_44 ?_
    refine lv_lload_n X.1 X.2.1 dX8_digest_47 rfl (lv_at hl 0 rfl) ?_
    refine lv_lmul X.1 X.2.1 dX8_digest_48 ?_
    refine lv_aload_n X.1 X.2.1 dX8_digest_49 rfl (lv_at hl 1 rfl) ?_
    refine lv_iconst (v := 1) X.1 X.2.1 dX8_digest_50 (by decide) ?_
    obtain ⟨r51, m_at_51, m_seats_51, m_rows_51, m_people_51, m_sorts_51, m_rowOf_51, m_own_51, m_kinds_51, ho, hf⟩ := b9_s hf
    refine call_vi (rest := [.long (31 * x43)]) X (c_X8_faultOf (va_up (va_up (va_up (va_up F 1 m_at_38) 2 m_seats_38) 3 m_rows_38) 4 m_people_38) G (va_up (va_up (va_up (va_up I 6 m_sorts_38) 7 m_rowOf_38) 8 m_own_38) 9 m_kinds_38) J X.2.2.2.2.2.2.2.1 1 ho) q_5_34 q_5_36 qs_yX8_faultOf q_1_10 q_5_37 ok_X8_faultOf rfl 0 rfl rfl ⟨Nat.le_of_ble_eq_true rfl, Nat.le_of_ble_eq_true rfl⟩ rfl rfl hl.1 rfl (Nat.le_of_ble_eq_true rfl) dX8_digest_51 hP hS (fun H locs hP hS => ?_)
    refine lv_i2l X.1 X.2.1 dX8_digest_54 rfl ?_
    refine lv_ladd X.1 X.2.1 dX8_digest_55 ?_
    refine nm_l hf (fun x56 hf => ?_)
    refine lv_lstore_n (lv' := [(1, .long x56), (0, .ref (a 0)), (3, .int x3)]) X.1 X.2.1 dX8_digest_56 rfl hl (by decide) rfl (fun ls hl => ?_)
    refine lv_iconst (v := 0) X.1 X.2.1 dX8_digest_57 (by decide) ?_
    refine lv_istore_n (lv' := [(3, .int 0), (1, .long x56), (0, .ref (a 0))]) X.1 X.2.1 dX8_digest_58 rfl hl (by decide) rfl (fun ls hl => ?_)
    exact t_X8_digest_b59 X 4096 (va_up (va_up (va_up (va_up (va_up (va_up (va_up (va_up F 1 m_at_38) 2 m_seats_38) 3 m_rows_38) 4 m_people_38) 1 m_at_51) 2 m_seats_51) 3 m_rows_51) 4 m_people_51) G (va_up (va_up (va_up (va_up (va_up (va_up (va_up (va_up I 6 m_sorts_38) 7 m_rowOf_38) 8 m_own_38) 9 m_kinds_38) 6 m_sorts_51) 7 m_rowOf_51) 8 m_own_51) 9 m_kinds_51) J x56 0 H locs ls hf (frm_up (frm_up (frm_up (frm_up (frm_up (frm_up (frm_up (frm_up hfF (by decide)) (by decide)) (by decide)) (by decide)) (by decide)) (by decide)) (by decide)) (by decide)) hfG (frm_up (frm_up (frm_up (frm_up (frm_up (frm_up (frm_up (frm_up hfI (by decide)) (by decide)) (by decide)) (by decide)) (by decide)) (by decide)) (by decide)) (by decide)) hfJ hP hS (lv_sub hl [2, 1, 0] rfl)
  · have hf := ie_s hf c9
    refine lv_ldc2 (v := 31) X.1 X.2.1 X.2.2.2.2.1 (X.2.2.2.2.2.1 _ q_6_120) dX8_digest_12 ?_
    refine lv_lload_n X.1 X.2.1 dX8_digest_15 rfl (lv_at hl 1 rfl) ?_
    refine lv_lmul X.1 X.2.1 dX8_digest_16 ?_
    refine lv_aload_n X.1 X.2.1 dX8_digest_17 rfl (lv_at hl 0 rfl) ?_
    refine lv_iload_n X.1 X.2.1 dX8_digest_18 rfl (lv_at hl 2 rfl) ?_
    obtain ⟨r19, m_at_19, m_seats_19, m_rows_19, m_people_19, m_sorts_19, m_rowOf_19, m_own_19, m_kinds_19, ho, hf⟩ := b9_s hf
    refine call_vi (rest := [.long (31 * x1)]) X (c_X8_count F G I J X.2.2.2.2.2.2.2.1 x3 ho) q_6_121 q_6_112 q_6_113 q_1_10 q_6_114 ok_X8_count rfl 0 rfl rfl ⟨Nat.le_of_ble_eq_true rfl, Nat.le_of_ble_eq_true rfl⟩ rfl rfl hl.1 rfl (Nat.le_of_ble_eq_true rfl) dX8_digest_19 hP hS (fun H locs hP hS => ?_)
    refine lv_i2l X.1 X.2.1 dX8_digest_22 rfl ?_
    refine lv_ladd X.1 X.2.1 dX8_digest_23 ?_
    refine nm_l hf (fun x24 hf => ?_)
    refine lv_lstore_n (lv' := [(1, .long x24), (0, .ref (a 0)), (3, .int x3)]) X.1 X.2.1 dX8_digest_24 rfl hl (by decide) rfl (fun ls hl => ?_)
    obtain ⟨x25, ex25, hf⟩ := nm_x hf
    refine lv_iinc (v := x25) (lv' := [(3, .int x25), (1, .long x24), (0, .ref (a 0))]) X.1 X.2.1 dX8_digest_25 hl (k := 2) rfl ex25 (by decide) rfl (fun ls hl => ?_)
    refine lv_goto (tgt := 6) X.1 X.2.1 dX8_digest_28 (by decide) ?_
    exact kh6 (va_up (va_up (va_up (va_up F 1 m_at_19) 2 m_seats_19) 3 m_rows_19) 4 m_people_19) G (va_up (va_up (va_up (va_up I 6 m_sorts_19) 7 m_rowOf_19) 8 m_own_19) 9 m_kinds_19) J x24 x25 H locs ls hf (frm_up (frm_up (frm_up (frm_up hfF (by decide)) (by decide)) (by decide)) (by decide)) hfG (frm_up (frm_up (frm_up (frm_up hfI (by decide)) (by decide)) (by decide)) (by decide)) hfJ hP hS (lv_sub hl [2, 1, 0] rfl)
set_option maxRecDepth 100000 in
theorem t_X8_digest_b6 {p : Program} {l : Launch} {e : Env} {s : State} {m : MethodId} {args : Array Value} {below : List Frame} {meth : Method} {c : Code} {D : va_G} {a : Nat → Nat} {kc : Nat → ClassId} (X : cx 21 p s m args meth c D (tyM kc) a cX8_digest 5 RX8 (some .long))  {Ff : Nat → Int32} {Gf : Nat → Int64} {If : Nat → Nat → Int32} {Jf : Nat → Nat → Int64} {r : Int64} :
    ∀ (n : Nat) (F : Nat → Int32) (G : Nat → Int64) (I : Nat → Nat → Int32) (J : Nat → Nat → Int64) (x1 : Int64) (x3 : Int32) (H : Heap) (locs : List Loc) (ls : Array Slot), p_X8_digest_b6 n (F 0) (F 1) (F 2) (F 3) (F 4) (F 5) (F 6) (F 7) (F 8) (F 12) (F 13) (G 0) (G 1) (I 4) (I 5) (I 6) (I 7) (I 8) (I 9) (I 10) (I 11) (I 12) (I 13) (I 14) (I 15) (J 0) (J 1) x1 x3 = some (r, (Ff 1), (Ff 2), (Ff 3), (Ff 4), (Ff 5), (Ff 6), (Ff 7), (Ff 8), (Ff 13), (Gf 0), (Gf 1), (If 6), (If 7), (If 8), (If 9), (If 10), (If 11), (If 12), (If 15), (Jf 0), (Jf 1)) → (∀ k, k ∉ ([1, 2, 3, 4, 5, 6, 7, 8, 13] : List Nat) → Ff k = F k) → (∀ k, k ∉ ([0, 1] : List Nat) → Gf k = G k) → (∀ k, k ∉ ([6, 7, 8, 9, 10, 11, 12, 15] : List Nat) → If k = I k) → (∀ k, k ∉ ([0, 1] : List Nat) → Jf k = J k) → va_P D vwCl (wM a kc F G I J) H → va_S (ad a 21 s.heap.size) s.heap H locs → lv_has ls 5 [(0, .ref (a 0)), (1, .long x1), (3, .int x3)] → W p l e rm_X8_digest s m args below meth c H locs 0 0 (MQ below (Ql D (wM a kc Ff Gf If Jf) r (ad a 21 s.heap.size)) args s 0 0 (ad a 21 s.heap.size)) (F0 m 6 ls []) := by
  intro n
  induction n with
  | zero => intro F G I J x1 x3 H locs ls hf hfF hfG hfI hfJ hP hS hl; exact (nos hf).elim
  | succ n ih => exact t_X8_digest_b6x X ih
set_option maxHeartbeats 4000000 in
set_option maxRecDepth 100000 in
theorem t_X8_digest_b0 {p : Program} {l : Launch} {e : Env} {s : State} {m : MethodId} {args : Array Value} {below : List Frame} {meth : Method} {c : Code} {D : va_G} {a : Nat → Nat} {kc : Nat → ClassId} (X : cx 21 p s m args meth c D (tyM kc) a cX8_digest 5 RX8 (some .long))  {Ff : Nat → Int32} {Gf : Nat → Int64} {If : Nat → Nat → Int32} {Jf : Nat → Nat → Int64} {r : Int64} :
    ∀ (F : Nat → Int32) (G : Nat → Int64) (I : Nat → Nat → Int32) (J : Nat → Nat → Int64)  (H : Heap) (locs : List Loc) (ls : Array Slot), p_X8_digest_b0 (F 0) (F 1) (F 2) (F 3) (F 4) (F 5) (F 6) (F 7) (F 8) (F 12) (F 13) (G 0) (G 1) (I 4) (I 5) (I 6) (I 7) (I 8) (I 9) (I 10) (I 11) (I 12) (I 13) (I 14) (I 15) (J 0) (J 1)  = some (r, (Ff 1), (Ff 2), (Ff 3), (Ff 4), (Ff 5), (Ff 6), (Ff 7), (Ff 8), (Ff 13), (Gf 0), (Gf 1), (If 6), (If 7), (If 8), (If 9), (If 10), (If 11), (If 12), (If 15), (Jf 0), (Jf 1)) → (∀ k, k ∉ ([1, 2, 3, 4, 5, 6, 7, 8, 13] : List Nat) → Ff k = F k) → (∀ k, k ∉ ([0, 1] : List Nat) → Gf k = G k) → (∀ k, k ∉ ([6, 7, 8, 9, 10, 11, 12, 15] : List Nat) → If k = I k) → (∀ k, k ∉ ([0, 1] : List Nat) → Jf k = J k) → va_P D vwCl (wM a kc F G I J) H → va_S (ad a 21 s.heap.size) s.heap H locs → lv_has ls 5 [(0, .ref (a 0))] → W p l e rm_X8_digest s m args below meth c H locs 0 0 (MQ below (Ql D (wM a kc Ff Gf If Jf) r (ad a 21 s.heap.size)) args s 0 0 (ad a 21 s.heap.size)) (F0 m 0 ls []) := by
  intro F G I J  H locs ls hf hfF hfG hfI hfJ hP hS hl
  unfold p_X8_digest_b0 at hf
  refine lv_ldc2 (v := 17) X.1 X.2.1 X.2.2.2.2.1 (X.2.2.2.2.2.1 _ q_6_119) dX8_digest_0 ?_
  refine lv_lstore_n (lv' := [(1, .long 17), (0, .ref (a 0))]) X.1 X.2.1 dX8_digest_3 rfl hl (by decide) rfl (fun ls hl => ?_)
  refine lv_iconst (v := 0) X.1 X.2.1 dX8_digest_4 (by decide) ?_
  refine lv_istore_n (lv' := [(3, .int 0), (1, .long 17), (0, .ref (a 0))]) X.1 X.2.1 dX8_digest_5 rfl hl (by decide) rfl (fun ls hl => ?_)
  exact t_X8_digest_b6 X 4096 F G I J 17 0 H locs ls hf hfF hfG hfI hfJ hP hS (lv_sub hl [2, 1, 0] rfl)
set_option maxRecDepth 100000 in
theorem c_X8_digest {l : Launch} {D : va_G} {a : Nat → Nat} {kc : Nat → ClassId} (F : Nat → Int32) (G : Nat → Int64) (I : Nat → Nat → Int32) (J : Nat → Nat → Int64) (hAp : ∀ i j, i < 21 → j < 21 → a i = a j → i = j)  {o0 : Int64} {o1 : Int32} {o2 : Int32} {o3 : Int32} {o4 : Int32} {o5 : Int32} {o6 : Int32} {o7 : Int32} {o8 : Int32} {o9 : Int32} {o10 : Int64} {o11 : Int64} {o12 : Nat → Int32} {o13 : Nat → Int32} {o14 : Nat → Int32} {o15 : Nat → Int32} {o16 : Nat → Int32} {o17 : Nat → Int32} {o18 : Nat → Int32} {o19 : Nat → Int32} {o20 : Nat → Int64} {o21 : Nat → Int64} (hf : p_X8_digest (F 0) (F 1) (F 2) (F 3) (F 4) (F 5) (F 6) (F 7) (F 8) (F 12) (F 13) (G 0) (G 1) (I 4) (I 5) (I 6) (I 7) (I 8) (I 9) (I 10) (I 11) (I 12) (I 13) (I 14) (I 15) (J 0) (J 1)  = some (o0, o1, o2, o3, o4, o5, o6, o7, o8, o9, o10, o11, o12, o13, o14, o15, o16, o17, o18, o19, o20, o21)) : Ct 21 l yX8_digest cX8_digest 5 (some .long) rm_X8_digest D (tyM kc) a (wM a kc F G I J) [.ref (a 0)] (Ql D (wM a kc (va_up (va_up (va_up (va_up (va_up (va_up (va_up (va_up (va_up F 1 o1) 2 o2) 3 o3) 4 o4) 5 o5) 6 o6) 7 o7) 8 o8) 13 o9) (va_up (va_up G 0 o10) 1 o11) (va_up (va_up (va_up (va_up (va_up (va_up (va_up (va_up I 6 o12) 7 o13) 8 o14) 9 o15) 10 o16) 11 o17) 12 o18) 15 o19) (va_up (va_up J 0 o20) 1 o21)) o0) :=
  Ct.of (by decide +kernel) hAp (Nat.le_of_ble_eq_true rfl) (fun p e s m args below meth c ls X hP hl => t_X8_digest_b0 X F G I J  _ _ _ hf (frm_ul (frm_ul (frm_ul (frm_ul (frm_ul (frm_ul (frm_ul (frm_ul (frm_ul (fun k _ => rfl) (by decide)) (by decide)) (by decide)) (by decide)) (by decide)) (by decide)) (by decide)) (by decide)) (by decide)) (frm_ul (frm_ul (fun k _ => rfl) (by decide)) (by decide)) (frm_ul (frm_ul (frm_ul (frm_ul (frm_ul (frm_ul (frm_ul (frm_ul (fun k _ => rfl) (by decide)) (by decide)) (by decide)) (by decide)) (by decide)) (by decide)) (by decide)) (by decide)) (frm_ul (frm_ul (fun k _ => rfl) (by decide)) (by decide)) hP va_S.rf hl)
abbrev rm_X3_addSeath : Room := { frames := 1, cells := 0, slots := 0, locals := 24 }
set_option maxHeartbeats 4000000 in
set_option maxRecDepth 100000 in
theorem t_X3_addSeath_b15 {p : Program} {l : Launch} {e : Env} {s : State} {m : MethodId} {args : Array Value} {below : List Frame} {meth : Method} {c : Code} {D : va_G} {a : Nat → Nat} {kc : Nat → ClassId} (X : cx 11 p s m args meth c D (tyH kc) a cX3_addSeat 2 RX3 none) {Z : Nat → Nat → Nat → Int32} {Ff : Nat → Int32} {If : Nat → Nat → Int32}  :
    ∀ (F : Nat → Int32) (I : Nat → Nat → Int32) (x1 : Int32) (H : Heap) (locs : List Loc) (ls : Array Slot), p_X3_addSeat_b15 (F 0) (F 1) (I 2) (I 3) (I 4) x1 = some ((Ff 0), (If 2), (If 3), (If 4)) → (∀ k, k ∉ ([0] : List Nat) → Ff k = F k) → (∀ k, k ∉ ([2, 3, 4] : List Nat) → If k = I k) → va_P D vwCl (wH a kc F I Z) H → va_S (ad a 11 s.heap.size) s.heap H locs → lv_has ls 2 [(0, .ref (a 0)), (1, .int x1)] → W p l e rm_X3_addSeath s m args below meth c H locs 0 0 (MQ below (Qv D (wH a kc Ff If Z) (ad a 11 s.heap.size)) args s 0 0 (ad a 11 s.heap.size)) (F0 m 15 ls []) := by
  intro F I x1 H locs ls hf hfF hfI hP hS hl
  unfold p_X3_addSeat_b15 at hf
  refine lv_aload_n X.1 X.2.1 dX3_addSeat_15 rfl (lv_at hl 0 rfl) ?_
  refine gH_0_3 X q_1_60 dX3_addSeat_16 hP ?_
  refine lv_aload_n X.1 X.2.1 dX3_addSeat_19 rfl (lv_at hl 0 rfl) ?_
  refine gH_0_8 (F := F) X (v := (F 0)) rfl q_1_80 dX3_addSeat_20 hP ?_
  refine lv_iload_n X.1 X.2.1 dX3_addSeat_23 rfl (lv_at hl 1 rfl) ?_
  obtain ⟨h24, hf⟩ := gd_s hf
  obtain ⟨H_sorts_24, eH_sorts_24, hf⟩ := nm_x hf
  refine sH_6 (I := I) X h24 eH_sorts_24 dX3_addSeat_24 hP hS (fun H locs hP hS => ?_)
  refine lv_aload_n X.1 X.2.1 dX3_addSeat_25 rfl (lv_at hl 0 rfl) ?_
  refine gH_0_4 X q_1_62 dX3_addSeat_26 hP ?_
  refine lv_aload_n X.1 X.2.1 dX3_addSeat_29 rfl (lv_at hl 0 rfl) ?_
  refine gH_0_8 (F := F) X (v := (F 0)) rfl q_1_80 dX3_addSeat_30 hP ?_
  refine lv_aload_n X.1 X.2.1 dX3_addSeat_33 rfl (lv_at hl 0 rfl) ?_
  refine gH_0_9 (F := F) X (v := (F 1)) rfl q_1_85 dX3_addSeat_34 hP ?_
  refine lv_iconst (v := 1) X.1 X.2.1 dX3_addSeat_37 (by decide) ?_
  refine lv_isub X.1 X.2.1 dX3_addSeat_38 ?_
  obtain ⟨h39, hf⟩ := gd_s hf
  obtain ⟨H_rowOf_39, eH_rowOf_39, hf⟩ := nm_x hf
  refine sH_7 (I := (va_up I 2 H_sorts_24)) X h39 eH_rowOf_39 dX3_addSeat_39 hP hS (fun H locs hP hS => ?_)
  refine lv_aload_n X.1 X.2.1 dX3_addSeat_40 rfl (lv_at hl 0 rfl) ?_
  refine gH_0_5 X q_1_64 dX3_addSeat_41 hP ?_
  refine lv_iload_n X.1 X.2.1 dX3_addSeat_44 rfl (lv_at hl 1 rfl) ?_
  refine lv_dup2_11 X.1 X.2.1 dX3_addSeat_45 rfl rfl ?_
  obtain ⟨h46, hf⟩ := gd_s hf
  refine lH_8 (I := (va_up (va_up I 2 H_sorts_24) 3 H_rowOf_39)) X (f := (I 4)) rfl h46 dX3_addSeat_46 hP ?_
  refine lv_iconst (v := 1) X.1 X.2.1 dX3_addSeat_47 (by decide) ?_
  refine lv_aload_n X.1 X.2.1 dX3_addSeat_48 rfl (lv_at hl 0 rfl) ?_
  refine gH_0_8 (F := F) X (v := (F 0)) rfl q_1_80 dX3_addSeat_49 hP ?_
  refine lv_ishl X.1 X.2.1 dX3_addSeat_52 ?_
  refine lv_ior X.1 X.2.1 dX3_addSeat_53 ?_
  obtain ⟨h54, hf⟩ := gd_s hf
  obtain ⟨H_bySort_54, eH_bySort_54, hf⟩ := nm_x hf
  refine sH_8 (I := (va_up (va_up I 2 H_sorts_24) 3 H_rowOf_39)) X h54 eH_bySort_54 dX3_addSeat_54 hP hS (fun H locs hP hS => ?_)
  refine lv_aload_n X.1 X.2.1 dX3_addSeat_55 rfl (lv_at hl 0 rfl) ?_
  refine lv_dup X.1 X.2.1 dX3_addSeat_56 rfl ?_
  refine gH_0_8 (F := F) X (v := (F 0)) rfl q_1_80 dX3_addSeat_57 hP ?_
  refine lv_iconst (v := 1) X.1 X.2.1 dX3_addSeat_60 (by decide) ?_
  refine lv_iadd X.1 X.2.1 dX3_addSeat_61 ?_
  refine nm_i hf (fun H_seats_62 hf => ?_)
  refine pH_0_8 X q_1_80 dX3_addSeat_62 hP hS (fun H locs hP hS => ?_)
  obtain ⟨e0, hf⟩ := o2 hf
  obtain ⟨e1, hf⟩ := o2 hf
  obtain ⟨e2, hf⟩ := o2 hf
  have e3 := o1 hf
  have EF : Ff = (va_up F 0 H_seats_62) := frm_eq (frm_up hfF (by decide)) (frm_c (e0).symm frm_n)
  have EI : If = (va_up (va_up (va_up I 2 H_sorts_24) 3 H_rowOf_39) 4 H_bySort_54) := frm_eq (frm_up (frm_up (frm_up hfI (by decide)) (by decide)) (by decide)) (frm_c (e1).symm (frm_c (e2).symm (frm_c (e3).symm frm_n)))
  exact ret_v X hS (by rw [EF, EI]; exact hP) dX3_addSeat_65
set_option maxHeartbeats 4000000 in
set_option maxRecDepth 100000 in
theorem t_X3_addSeath_b0 {p : Program} {l : Launch} {e : Env} {s : State} {m : MethodId} {args : Array Value} {below : List Frame} {meth : Method} {c : Code} {D : va_G} {a : Nat → Nat} {kc : Nat → ClassId} (X : cx 11 p s m args meth c D (tyH kc) a cX3_addSeat 2 RX3 none) {Z : Nat → Nat → Nat → Int32} {Ff : Nat → Int32} {If : Nat → Nat → Int32}  :
    ∀ (F : Nat → Int32) (I : Nat → Nat → Int32) (x1 : Int32) (H : Heap) (locs : List Loc) (ls : Array Slot), p_X3_addSeat_b0 (F 0) (F 1) (I 2) (I 3) (I 4) x1 = some ((Ff 0), (If 2), (If 3), (If 4)) → (∀ k, k ∉ ([0] : List Nat) → Ff k = F k) → (∀ k, k ∉ ([2, 3, 4] : List Nat) → If k = I k) → va_P D vwCl (wH a kc F I Z) H → va_S (ad a 11 s.heap.size) s.heap H locs → lv_has ls 2 [(0, .ref (a 0)), (1, .int x1)] → W p l e rm_X3_addSeath s m args below meth c H locs 0 0 (MQ below (Qv D (wH a kc Ff If Z) (ad a 11 s.heap.size)) args s 0 0 (ad a 11 s.heap.size)) (F0 m 0 ls []) := by
  intro F I x1 H locs ls hf hfF hfI hP hS hl
  unfold p_X3_addSeat_b0 at hf
  refine lv_aload_n X.1 X.2.1 dX3_addSeat_0 rfl (lv_at hl 0 rfl) ?_
  refine gH_0_8 (F := F) X (v := (F 0)) rfl q_1_80 dX3_addSeat_1 hP ?_
  refine lv_if_ne (tgt := 15) X.1 X.2.1 dX3_addSeat_4 (by decide) (fun c4 => ?_) (fun c4 => ?_)
  · have hf := ie_s hf c4
    exact t_X3_addSeath_b15 X F I x1 H locs ls hf hfF hfI hP hS (lv_sub hl [0, 1] rfl)
  · have hf := it_s hf c4
    refine lv_aload_n X.1 X.2.1 dX3_addSeat_7 rfl (lv_at hl 0 rfl) ?_
    refine gH_0_5 X q_1_64 dX3_addSeat_8 hP ?_
    refine lv_iconst (v := 0) X.1 X.2.1 dX3_addSeat_11 (by decide) ?_
    obtain ⟨H_bySort_12, eH_bySort_12, hf⟩ := nm_x hf
    refine flH_8 (I := I) (rest := []) X eH_bySort_12 q_1_45 (Nat.le_of_ble_eq_true rfl) (Nat.le_of_ble_eq_true rfl) hl.1 (Nat.le_of_ble_eq_true rfl) dX3_addSeat_12 hP hS (fun H locs hP hS => ?_)
    exact t_X3_addSeath_b15 X F (va_up I 4 H_bySort_12) x1 H locs ls hf hfF (frm_up hfI (by decide)) hP hS (lv_sub hl [0, 1] rfl)
set_option maxRecDepth 100000 in
theorem c_X3_addSeath {l : Launch} {D : va_G} {a : Nat → Nat} {kc : Nat → ClassId} (F : Nat → Int32) (I : Nat → Nat → Int32) (Z : Nat → Nat → Nat → Int32) (hAp : ∀ i j, i < 11 → j < 11 → a i = a j → i = j) (x1 : Int32) {o0 : Int32} {o1 : Nat → Int32} {o2 : Nat → Int32} {o3 : Nat → Int32} (hf : p_X3_addSeat (F 0) (F 1) (I 2) (I 3) (I 4) x1 = some (o0, o1, o2, o3)) : Ct 11 l yX3_addSeat cX3_addSeat 2 none rm_X3_addSeath D (tyH kc) a (wH a kc F I Z) [.ref (a 0), .int x1] (Qv D (wH a kc (va_up F 0 o0) (va_up (va_up (va_up I 2 o1) 3 o2) 4 o3) Z)) :=
  Ct.of (by decide +kernel) hAp (Nat.le_of_ble_eq_true rfl) (fun p e s m args below meth c ls X hP hl => t_X3_addSeath_b0 X F I x1 _ _ _ hf (frm_ul (fun k _ => rfl) (by decide)) (frm_ul (frm_ul (frm_ul (fun k _ => rfl) (by decide)) (by decide)) (by decide)) hP va_S.rf hl)
abbrev rm_X3_parseSeatsh : Room := { frames := 2, cells := 0, slots := 0, locals := 45 }
set_option maxHeartbeats 4000000 in
set_option maxRecDepth 100000 in
theorem t_X3_parseSeatsh_b146 {p : Program} {l : Launch} {e : Env} {s : State} {m : MethodId} {args : Array Value} {below : List Frame} {meth : Method} {c : Code} {D : va_G} {a : Nat → Nat} {kc : Nat → ClassId} (X : cx 11 p s m args meth c D (tyH kc) a cX3_parseSeats 5 RX3 none) {Z : Nat → Nat → Nat → Int32} {Ff : Nat → Int32} {If : Nat → Nat → Int32}  :
    ∀ (F : Nat → Int32) (I : Nat → Nat → Int32)  (H : Heap) (locs : List Loc) (ls : Array Slot), p_X3_parseSeats_b146 (F 0) (F 1) (I 0) (I 1) (I 2) (I 3) (I 4) (Z 0)  = some ((Ff 0), (Ff 1), (If 1), (If 2), (If 3), (If 4)) → (∀ k, k ∉ ([0, 1] : List Nat) → Ff k = F k) → (∀ k, k ∉ ([1, 2, 3, 4] : List Nat) → If k = I k) → va_P D vwCl (wH a kc F I Z) H → va_S (ad a 11 s.heap.size) s.heap H locs → lv_has ls 5 [(0, .ref (a 0))] → W p l e rm_X3_parseSeatsh s m args below meth c H locs 0 0 (MQ below (Qv D (wH a kc Ff If Z) (ad a 11 s.heap.size)) args s 0 0 (ad a 11 s.heap.size)) (F0 m 146 ls []) := by
  intro F I  H locs ls hf hfF hfI hP hS hl
  unfold p_X3_parseSeats_b146 at hf
  obtain ⟨e0, hf⟩ := o2 hf
  obtain ⟨e1, hf⟩ := o2 hf
  obtain ⟨e2, hf⟩ := o2 hf
  obtain ⟨e3, hf⟩ := o2 hf
  obtain ⟨e4, hf⟩ := o2 hf
  have e5 := o1 hf
  have EF : Ff = F := frm_eq hfF (frm_c (e0).symm (frm_c (e1).symm frm_n))
  have EI : If = I := frm_eq hfI (frm_c (e2).symm (frm_c (e3).symm (frm_c (e4).symm (frm_c (e5).symm frm_n))))
  exact ret_v X hS (by rw [EF, EI]; exact hP) dX3_parseSeats_146
set_option maxHeartbeats 4000000 in
set_option maxRecDepth 100000 in
theorem t_X3_parseSeatsh_b125 {p : Program} {l : Launch} {e : Env} {s : State} {m : MethodId} {args : Array Value} {below : List Frame} {meth : Method} {c : Code} {D : va_G} {a : Nat → Nat} {kc : Nat → ClassId} (X : cx 11 p s m args meth c D (tyH kc) a cX3_parseSeats 5 RX3 none) {Z : Nat → Nat → Nat → Int32} {Ff : Nat → Int32} {If : Nat → Nat → Int32}  :
    ∀ (F : Nat → Int32) (I : Nat → Nat → Int32) (t1 : Int32) (t2 : Int32) (H : Heap) (locs : List Loc) (ls : Array Slot), p_X3_parseSeats_b125 (F 0) (F 1) (I 0) (I 1) (I 2) (I 3) (I 4) (Z 0) t1 t2 = some ((Ff 0), (Ff 1), (If 1), (If 2), (If 3), (If 4)) → (∀ k, k ∉ ([0, 1] : List Nat) → Ff k = F k) → (∀ k, k ∉ ([1, 2, 3, 4] : List Nat) → If k = I k) → va_P D vwCl (wH a kc F I Z) H → va_S (ad a 11 s.heap.size) s.heap H locs → lv_has ls 5 [(0, .ref (a 0))] → W p l e rm_X3_parseSeatsh s m args below meth c H locs 0 0 (MQ below (Qv D (wH a kc Ff If Z) (ad a 11 s.heap.size)) args s 0 0 (ad a 11 s.heap.size)) (F0 m 125 ls [.int t2, .int t1, .ref (a 5)]) := by
  intro F I t1 t2 H locs ls hf hfF hfI hP hS hl
  unfold p_X3_parseSeats_b125 at hf
  obtain ⟨h125, hf⟩ := gd_s hf
  obtain ⟨H_faults_125, eH_faults_125, hf⟩ := nm_x hf
  refine sH_5 (I := I) X h125 eH_faults_125 dX3_parseSeats_125 hP hS (fun H locs hP hS => ?_)
  refine lv_aload_n X.1 X.2.1 dX3_parseSeats_126 rfl (lv_at hl 0 rfl) ?_
  refine gH_0_2 X q_1_58 dX3_parseSeats_127 hP ?_
  refine lv_iconst (v := 0) X.1 X.2.1 dX3_parseSeats_130 (by decide) ?_
  obtain ⟨h131, hf⟩ := gd_s hf
  refine lH_5 (I := (va_up I 1 H_faults_125)) X (f := H_faults_125) rfl h131 dX3_parseSeats_131 hP ?_
  refine lv_iconst (v := (-1)) X.1 X.2.1 dX3_parseSeats_132 (by decide) ?_
  refine lv_icmp_eq (tgt := 146) X.1 X.2.1 dX3_parseSeats_133 (by decide) (fun c133 => ?_) (fun c133 => ?_)
  · have hf := it_s hf c133
    exact t_X3_parseSeatsh_b146 X F (va_up I 1 H_faults_125)  H locs ls hf hfF (frm_up hfI (by decide)) hP hS (lv_sub hl [0] rfl)
  · have hf := ie_s hf c133
    refine lv_aload_n X.1 X.2.1 dX3_parseSeats_136 rfl (lv_at hl 0 rfl) ?_
    refine lv_iconst (v := 0) X.1 X.2.1 dX3_parseSeats_137 (by decide) ?_
    refine pH_0_8 X q_1_80 dX3_parseSeats_138 hP hS (fun H locs hP hS => ?_)
    refine lv_aload_n X.1 X.2.1 dX3_parseSeats_141 rfl (lv_at hl 0 rfl) ?_
    refine lv_iconst (v := 0) X.1 X.2.1 dX3_parseSeats_142 (by decide) ?_
    refine pH_0_9 X q_1_85 dX3_parseSeats_143 hP hS (fun H locs hP hS => ?_)
    exact t_X3_parseSeatsh_b146 X (va_up (va_up F 0 0) 1 0) (va_up I 1 H_faults_125)  H locs ls hf (frm_up (frm_up hfF (by decide)) (by decide)) (frm_up hfI (by decide)) hP hS (lv_sub hl [0] rfl)
set_option maxHeartbeats 4000000 in
set_option maxRecDepth 100000 in
theorem t_X3_parseSeatsh_b124 {p : Program} {l : Launch} {e : Env} {s : State} {m : MethodId} {args : Array Value} {below : List Frame} {meth : Method} {c : Code} {D : va_G} {a : Nat → Nat} {kc : Nat → ClassId} (X : cx 11 p s m args meth c D (tyH kc) a cX3_parseSeats 5 RX3 none) {Z : Nat → Nat → Nat → Int32} {Ff : Nat → Int32} {If : Nat → Nat → Int32}  :
    ∀ (F : Nat → Int32) (I : Nat → Nat → Int32) (t1 : Int32) (x2 : Int32) (H : Heap) (locs : List Loc) (ls : Array Slot), p_X3_parseSeats_b124 (F 0) (F 1) (I 0) (I 1) (I 2) (I 3) (I 4) (Z 0) t1 x2 = some ((Ff 0), (Ff 1), (If 1), (If 2), (If 3), (If 4)) → (∀ k, k ∉ ([0, 1] : List Nat) → Ff k = F k) → (∀ k, k ∉ ([1, 2, 3, 4] : List Nat) → If k = I k) → va_P D vwCl (wH a kc F I Z) H → va_S (ad a 11 s.heap.size) s.heap H locs → lv_has ls 5 [(0, .ref (a 0)), (2, .int x2)] → W p l e rm_X3_parseSeatsh s m args below meth c H locs 0 0 (MQ below (Qv D (wH a kc Ff If Z) (ad a 11 s.heap.size)) args s 0 0 (ad a 11 s.heap.size)) (F0 m 124 ls [.int t1, .ref (a 5)]) := by
  intro F I t1 x2 H locs ls hf hfF hfI hP hS hl
  unfold p_X3_parseSeats_b124 at hf
  refine lv_iload_n X.1 X.2.1 dX3_parseSeats_124 rfl (lv_at hl 1 rfl) ?_
  exact t_X3_parseSeatsh_b125 X F I t1 x2 H locs ls hf hfF hfI hP hS (lv_sub hl [0] rfl)
set_option maxHeartbeats 4000000 in
set_option maxRecDepth 100000 in
theorem t_X3_parseSeatsh_b101 {p : Program} {l : Launch} {e : Env} {s : State} {m : MethodId} {args : Array Value} {below : List Frame} {meth : Method} {c : Code} {D : va_G} {a : Nat → Nat} {kc : Nat → ClassId} (X : cx 11 p s m args meth c D (tyH kc) a cX3_parseSeats 5 RX3 none) {Z : Nat → Nat → Nat → Int32} {Ff : Nat → Int32} {If : Nat → Nat → Int32}  :
    ∀ (F : Nat → Int32) (I : Nat → Nat → Int32) (x1 : Int32) (x2 : Int32) (H : Heap) (locs : List Loc) (ls : Array Slot), p_X3_parseSeats_b101 (F 0) (F 1) (I 0) (I 1) (I 2) (I 3) (I 4) (Z 0) x1 x2 = some ((Ff 0), (Ff 1), (If 1), (If 2), (If 3), (If 4)) → (∀ k, k ∉ ([0, 1] : List Nat) → Ff k = F k) → (∀ k, k ∉ ([1, 2, 3, 4] : List Nat) → If k = I k) → va_P D vwCl (wH a kc F I Z) H → va_S (ad a 11 s.heap.size) s.heap H locs → lv_has ls 5 [(0, .ref (a 0)), (1, .int x1), (2, .int x2)] → W p l e rm_X3_parseSeatsh s m args below meth c H locs 0 0 (MQ below (Qv D (wH a kc Ff If Z) (ad a 11 s.heap.size)) args s 0 0 (ad a 11 s.heap.size)) (F0 m 101 ls []) := by
  intro F I x1 x2 H locs ls hf hfF hfI hP hS hl
  unfold p_X3_parseSeats_b101 at hf
  refine lv_aload_n X.1 X.2.1 dX3_parseSeats_101 rfl (lv_at hl 0 rfl) ?_
  refine gH_0_2 X q_1_58 dX3_parseSeats_102 hP ?_
  refine lv_iconst (v := 0) X.1 X.2.1 dX3_parseSeats_105 (by decide) ?_
  refine lv_iload_n X.1 X.2.1 dX3_parseSeats_106 rfl (lv_at hl 2 rfl) ?_
  refine lv_aload_n X.1 X.2.1 dX3_parseSeats_107 rfl (lv_at hl 0 rfl) ?_
  refine gH_0_1 X q_1_56 dX3_parseSeats_108 hP ?_
  refine lv_iconst (v := 0) X.1 X.2.1 dX3_parseSeats_111 (by decide) ?_
  obtain ⟨h112, hf⟩ := gd_s hf
  refine lH_4 (I := I) X (f := (I 0)) rfl h112 dX3_parseSeats_112 hP ?_
  refine lv_icmp_ne (tgt := 124) X.1 X.2.1 dX3_parseSeats_113 (by decide) (fun c113 => ?_) (fun c113 => ?_)
  · have hf := ie_s hf c113
    exact t_X3_parseSeatsh_b124 X F I 0 x2 H locs ls hf hfF hfI hP hS (lv_sub hl [0, 2] rfl)
  · have hf := it_s hf c113
    refine lv_iload_n X.1 X.2.1 dX3_parseSeats_116 rfl (lv_at hl 1 rfl) ?_
    refine lv_if_eq (tgt := 124) X.1 X.2.1 dX3_parseSeats_117 (by decide) (fun c117 => ?_) (fun c117 => ?_)
    · have hf := it_s hf c117
      exact t_X3_parseSeatsh_b124 X F I 0 x2 H locs ls hf hfF hfI hP hS (lv_sub hl [0, 2] rfl)
    · have hf := ie_s hf c117
      refine lv_iconst (v := (-1)) X.1 X.2.1 dX3_parseSeats_120 (by decide) ?_
      refine lv_goto (tgt := 125) X.1 X.2.1 dX3_parseSeats_121 (by decide) ?_
      exact t_X3_parseSeatsh_b125 X F I 0 (-1) H locs ls hf hfF hfI hP hS (lv_sub hl [0] rfl)
set_option maxHeartbeats 4000000 in
set_option maxRecDepth 100000 in
theorem t_X3_parseSeatsh_b95 {p : Program} {l : Launch} {e : Env} {s : State} {m : MethodId} {args : Array Value} {below : List Frame} {meth : Method} {c : Code} {D : va_G} {a : Nat → Nat} {kc : Nat → ClassId} (X : cx 11 p s m args meth c D (tyH kc) a cX3_parseSeats 5 RX3 none) {Z : Nat → Nat → Nat → Int32} {Ff : Nat → Int32} {If : Nat → Nat → Int32}  {K14 : Int32 → Int32 → (Nat → Int32) → (Nat → Int32) → (Nat → Int32) → (Nat → Int32) → (Nat → Int32) → (Nat → Nat → Int32) → Int32 → Int32 → Option (Int32 × Int32 × (Nat → Int32) × (Nat → Int32) × (Nat → Int32) × (Nat → Int32))} (kh14 : ∀ (F : Nat → Int32) (I : Nat → Nat → Int32) (x1 : Int32) (x2 : Int32) (H : Heap) (locs : List Loc) (ls : Array Slot), K14 (F 0) (F 1) (I 0) (I 1) (I 2) (I 3) (I 4) (Z 0) x1 x2 = some ((Ff 0), (Ff 1), (If 1), (If 2), (If 3), (If 4)) → (∀ k, k ∉ ([0, 1] : List Nat) → Ff k = F k) → (∀ k, k ∉ ([1, 2, 3, 4] : List Nat) → If k = I k) → va_P D vwCl (wH a kc F I Z) H → va_S (ad a 11 s.heap.size) s.heap H locs → lv_has ls 5 [(0, .ref (a 0)), (1, .int x1), (2, .int x2)] → W p l e rm_X3_parseSeatsh s m args below meth c H locs 0 0 (MQ below (Qv D (wH a kc Ff If Z) (ad a 11 s.heap.size)) args s 0 0 (ad a 11 s.heap.size)) (F0 m 14 ls [])) :
    ∀ (F : Nat → Int32) (I : Nat → Nat → Int32) (x1 : Int32) (x2 : Int32) (H : Heap) (locs : List Loc) (ls : Array Slot), p_X3_parseSeats_b95 K14 (F 0) (F 1) (I 0) (I 1) (I 2) (I 3) (I 4) (Z 0) x1 x2 = some ((Ff 0), (Ff 1), (If 1), (If 2), (If 3), (If 4)) → (∀ k, k ∉ ([0, 1] : List Nat) → Ff k = F k) → (∀ k, k ∉ ([1, 2, 3, 4] : List Nat) → If k = I k) → va_P D vwCl (wH a kc F I Z) H → va_S (ad a 11 s.heap.size) s.heap H locs → lv_has ls 5 [(0, .ref (a 0)), (1, .int x1), (2, .int x2)] → W p l e rm_X3_parseSeatsh s m args below meth c H locs 0 0 (MQ below (Qv D (wH a kc Ff If Z) (ad a 11 s.heap.size)) args s 0 0 (ad a 11 s.heap.size)) (F0 m 95 ls []) := by
  intro F I x1 x2 H locs ls hf hfF hfI hP hS hl
  unfold p_X3_parseSeats_b95 at hf
  obtain ⟨x95, ex95, hf⟩ := nm_x hf
  refine lv_iinc (v := x95) (lv' := [(2, .int x95), (0, .ref (a 0)), (1, .int x1)]) X.1 X.2.1 dX3_parseSeats_95 hl (k := 2) rfl ex95 (by decide) rfl (fun ls hl => ?_)
  refine lv_goto (tgt := 14) X.1 X.2.1 dX3_parseSeats_98 (by decide) ?_
  exact kh14 F I x1 x95 H locs ls hf hfF hfI hP hS (lv_sub hl [1, 2, 0] rfl)
set_option maxHeartbeats 4000000 in
set_option maxRecDepth 100000 in
theorem t_X3_parseSeatsh_b83 {p : Program} {l : Launch} {e : Env} {s : State} {m : MethodId} {args : Array Value} {below : List Frame} {meth : Method} {c : Code} {D : va_G} {a : Nat → Nat} {kc : Nat → ClassId} (X : cx 11 p s m args meth c D (tyH kc) a cX3_parseSeats 5 RX3 none) {Z : Nat → Nat → Nat → Int32} {Ff : Nat → Int32} {If : Nat → Nat → Int32}  {K14 : Int32 → Int32 → (Nat → Int32) → (Nat → Int32) → (Nat → Int32) → (Nat → Int32) → (Nat → Int32) → (Nat → Nat → Int32) → Int32 → Int32 → Option (Int32 × Int32 × (Nat → Int32) × (Nat → Int32) × (Nat → Int32) × (Nat → Int32))} (kh14 : ∀ (F : Nat → Int32) (I : Nat → Nat → Int32) (x1 : Int32) (x2 : Int32) (H : Heap) (locs : List Loc) (ls : Array Slot), K14 (F 0) (F 1) (I 0) (I 1) (I 2) (I 3) (I 4) (Z 0) x1 x2 = some ((Ff 0), (Ff 1), (If 1), (If 2), (If 3), (If 4)) → (∀ k, k ∉ ([0, 1] : List Nat) → Ff k = F k) → (∀ k, k ∉ ([1, 2, 3, 4] : List Nat) → If k = I k) → va_P D vwCl (wH a kc F I Z) H → va_S (ad a 11 s.heap.size) s.heap H locs → lv_has ls 5 [(0, .ref (a 0)), (1, .int x1), (2, .int x2)] → W p l e rm_X3_parseSeatsh s m args below meth c H locs 0 0 (MQ below (Qv D (wH a kc Ff If Z) (ad a 11 s.heap.size)) args s 0 0 (ad a 11 s.heap.size)) (F0 m 14 ls [])) :
    ∀ (F : Nat → Int32) (I : Nat → Nat → Int32) (x1 : Int32) (x2 : Int32) (x3 : Int32) (H : Heap) (locs : List Loc) (ls : Array Slot), p_X3_parseSeats_b83 K14 (F 0) (F 1) (I 0) (I 1) (I 2) (I 3) (I 4) (Z 0) x1 x2 x3 = some ((Ff 0), (Ff 1), (If 1), (If 2), (If 3), (If 4)) → (∀ k, k ∉ ([0, 1] : List Nat) → Ff k = F k) → (∀ k, k ∉ ([1, 2, 3, 4] : List Nat) → If k = I k) → va_P D vwCl (wH a kc F I Z) H → va_S (ad a 11 s.heap.size) s.heap H locs → lv_has ls 5 [(0, .ref (a 0)), (1, .int x1), (2, .int x2), (3, .int x3)] → W p l e rm_X3_parseSeatsh s m args below meth c H locs 0 0 (MQ below (Qv D (wH a kc Ff If Z) (ad a 11 s.heap.size)) args s 0 0 (ad a 11 s.heap.size)) (F0 m 83 ls []) := by
  intro F I x1 x2 x3 H locs ls hf hfF hfI hP hS hl
  unfold p_X3_parseSeats_b83 at hf
  refine lv_iload_n X.1 X.2.1 dX3_parseSeats_83 rfl (lv_at hl 3 rfl) ?_
  refine lv_bipush (v := 59) X.1 X.2.1 dX3_parseSeats_84 (by decide) ?_
  refine lv_icmp_ne (tgt := 101) X.1 X.2.1 dX3_parseSeats_86 (by decide) (fun c86 => ?_) (fun c86 => ?_)
  · have hf := ie_s hf c86
    exact t_X3_parseSeatsh_b101 X F I x1 x2 H locs ls hf hfF hfI hP hS (lv_sub hl [0, 1, 2] rfl)
  · have hf := it_s hf c86
    refine lv_iload_n X.1 X.2.1 dX3_parseSeats_89 rfl (lv_at hl 1 rfl) ?_
    refine lv_if_eq (tgt := 101) X.1 X.2.1 dX3_parseSeats_90 (by decide) (fun c90 => ?_) (fun c90 => ?_)
    · have hf := it_s hf c90
      exact t_X3_parseSeatsh_b101 X F I x1 x2 H locs ls hf hfF hfI hP hS (lv_sub hl [0, 1, 2] rfl)
    · have hf := ie_s hf c90
      refine lv_iconst (v := 0) X.1 X.2.1 dX3_parseSeats_93 (by decide) ?_
      refine lv_istore_n (lv' := [(1, .int 0), (0, .ref (a 0)), (2, .int x2), (3, .int x3)]) X.1 X.2.1 dX3_parseSeats_94 rfl hl (by decide) rfl (fun ls hl => ?_)
      exact t_X3_parseSeatsh_b95 X kh14 F I 0 x2 H locs ls hf hfF hfI hP hS (lv_sub hl [1, 0, 2] rfl)
set_option maxHeartbeats 4000000 in
set_option maxRecDepth 100000 in
theorem t_X3_parseSeatsh_b68 {p : Program} {l : Launch} {e : Env} {s : State} {m : MethodId} {args : Array Value} {below : List Frame} {meth : Method} {c : Code} {D : va_G} {a : Nat → Nat} {kc : Nat → ClassId} (X : cx 11 p s m args meth c D (tyH kc) a cX3_parseSeats 5 RX3 none) {Z : Nat → Nat → Nat → Int32} {Ff : Nat → Int32} {If : Nat → Nat → Int32}  {K14 : Int32 → Int32 → (Nat → Int32) → (Nat → Int32) → (Nat → Int32) → (Nat → Int32) → (Nat → Int32) → (Nat → Nat → Int32) → Int32 → Int32 → Option (Int32 × Int32 × (Nat → Int32) × (Nat → Int32) × (Nat → Int32) × (Nat → Int32))} (kh14 : ∀ (F : Nat → Int32) (I : Nat → Nat → Int32) (x1 : Int32) (x2 : Int32) (H : Heap) (locs : List Loc) (ls : Array Slot), K14 (F 0) (F 1) (I 0) (I 1) (I 2) (I 3) (I 4) (Z 0) x1 x2 = some ((Ff 0), (Ff 1), (If 1), (If 2), (If 3), (If 4)) → (∀ k, k ∉ ([0, 1] : List Nat) → Ff k = F k) → (∀ k, k ∉ ([1, 2, 3, 4] : List Nat) → If k = I k) → va_P D vwCl (wH a kc F I Z) H → va_S (ad a 11 s.heap.size) s.heap H locs → lv_has ls 5 [(0, .ref (a 0)), (1, .int x1), (2, .int x2)] → W p l e rm_X3_parseSeatsh s m args below meth c H locs 0 0 (MQ below (Qv D (wH a kc Ff If Z) (ad a 11 s.heap.size)) args s 0 0 (ad a 11 s.heap.size)) (F0 m 14 ls [])) :
    ∀ (F : Nat → Int32) (I : Nat → Nat → Int32) (t1 : Int32) (t2 : Int32) (x2 : Int32) (x4 : Int32) (H : Heap) (locs : List Loc) (ls : Array Slot), p_X3_parseSeats_b68 K14 (F 0) (F 1) (I 0) (I 1) (I 2) (I 3) (I 4) (Z 0) t1 t2 x2 x4 = some ((Ff 0), (Ff 1), (If 1), (If 2), (If 3), (If 4)) → (∀ k, k ∉ ([0, 1] : List Nat) → Ff k = F k) → (∀ k, k ∉ ([1, 2, 3, 4] : List Nat) → If k = I k) → va_P D vwCl (wH a kc F I Z) H → va_S (ad a 11 s.heap.size) s.heap H locs → lv_has ls 5 [(0, .ref (a 0)), (2, .int x2), (4, .int x4)] → W p l e rm_X3_parseSeatsh s m args below meth c H locs 0 0 (MQ below (Qv D (wH a kc Ff If Z) (ad a 11 s.heap.size)) args s 0 0 (ad a 11 s.heap.size)) (F0 m 68 ls [.int t2, .int t1, .ref (a 0)]) := by
  intro F I t1 t2 x2 x4 H locs ls hf hfF hfI hP hS hl
  unfold p_X3_parseSeats_b68 at hf
  refine lv_iadd X.1 X.2.1 dX3_parseSeats_68 ?_
  refine nm_i hf (fun H_rows_69 hf => ?_)
  refine pH_0_9 X q_1_85 dX3_parseSeats_69 hP hS (fun H locs hP hS => ?_)
  refine lv_iconst (v := 1) X.1 X.2.1 dX3_parseSeats_72 (by decide) ?_
  refine lv_istore_n (lv' := [(1, .int 1), (0, .ref (a 0)), (2, .int x2), (4, .int x4)]) X.1 X.2.1 dX3_parseSeats_73 rfl hl (by decide) rfl (fun ls hl => ?_)
  refine lv_aload_n X.1 X.2.1 dX3_parseSeats_74 rfl (lv_at hl 1 rfl) ?_
  refine lv_iload X.1 X.2.1 dX3_parseSeats_75 (lv_at hl 3 rfl) ?_
  obtain ⟨H_seats_77, H_sorts_77, H_rowOf_77, H_bySort_77, ho, hf⟩ := b4_s hf
  refine call_vv (rest := []) X (c_X3_addSeath (va_up F 1 H_rows_69) I Z X.2.2.2.2.2.2.2.1 x4 ho) q_1_41 q_1_43 qs_yX3_addSeat q_1_2 q_1_44 ok_X3_addSeat rfl 0 rfl rfl ⟨Nat.le_of_ble_eq_true rfl, Nat.le_of_ble_eq_true rfl⟩ rfl rfl hl.1 rfl (Nat.le_of_ble_eq_true rfl) dX3_parseSeats_77 hP hS (fun H locs hP hS => ?_)
  refine lv_goto (tgt := 95) X.1 X.2.1 dX3_parseSeats_80 (by decide) ?_
  exact t_X3_parseSeatsh_b95 X kh14 (va_up (va_up F 1 H_rows_69) 0 H_seats_77) (va_up (va_up (va_up I 2 H_sorts_77) 3 H_rowOf_77) 4 H_bySort_77) 1 x2 H locs ls hf (frm_up (frm_up hfF (by decide)) (by decide)) (frm_up (frm_up (frm_up hfI (by decide)) (by decide)) (by decide)) hP hS (lv_sub hl [1, 0, 2] rfl)
set_option maxHeartbeats 4000000 in
set_option maxRecDepth 100000 in
theorem t_X3_parseSeatsh_b14x {p : Program} {l : Launch} {e : Env} {s : State} {m : MethodId} {args : Array Value} {below : List Frame} {meth : Method} {c : Code} {D : va_G} {a : Nat → Nat} {kc : Nat → ClassId} (X : cx 11 p s m args meth c D (tyH kc) a cX3_parseSeats 5 RX3 none) {Z : Nat → Nat → Nat → Int32} {Ff : Nat → Int32} {If : Nat → Nat → Int32}  {K14 : Int32 → Int32 → (Nat → Int32) → (Nat → Int32) → (Nat → Int32) → (Nat → Int32) → (Nat → Int32) → (Nat → Nat → Int32) → Int32 → Int32 → Option (Int32 × Int32 × (Nat → Int32) × (Nat → Int32) × (Nat → Int32) × (Nat → Int32))} (kh14 : ∀ (F : Nat → Int32) (I : Nat → Nat → Int32) (x1 : Int32) (x2 : Int32) (H : Heap) (locs : List Loc) (ls : Array Slot), K14 (F 0) (F 1) (I 0) (I 1) (I 2) (I 3) (I 4) (Z 0) x1 x2 = some ((Ff 0), (Ff 1), (If 1), (If 2), (If 3), (If 4)) → (∀ k, k ∉ ([0, 1] : List Nat) → Ff k = F k) → (∀ k, k ∉ ([1, 2, 3, 4] : List Nat) → If k = I k) → va_P D vwCl (wH a kc F I Z) H → va_S (ad a 11 s.heap.size) s.heap H locs → lv_has ls 5 [(0, .ref (a 0)), (1, .int x1), (2, .int x2)] → W p l e rm_X3_parseSeatsh s m args below meth c H locs 0 0 (MQ below (Qv D (wH a kc Ff If Z) (ad a 11 s.heap.size)) args s 0 0 (ad a 11 s.heap.size)) (F0 m 14 ls [])) :
    ∀ (F : Nat → Int32) (I : Nat → Nat → Int32) (x1 : Int32) (x2 : Int32) (H : Heap) (locs : List Loc) (ls : Array Slot), p_X3_parseSeats_b14x K14 (F 0) (F 1) (I 0) (I 1) (I 2) (I 3) (I 4) (Z 0) x1 x2 = some ((Ff 0), (Ff 1), (If 1), (If 2), (If 3), (If 4)) → (∀ k, k ∉ ([0, 1] : List Nat) → Ff k = F k) → (∀ k, k ∉ ([1, 2, 3, 4] : List Nat) → If k = I k) → va_P D vwCl (wH a kc F I Z) H → va_S (ad a 11 s.heap.size) s.heap H locs → lv_has ls 5 [(0, .ref (a 0)), (1, .int x1), (2, .int x2)] → W p l e rm_X3_parseSeatsh s m args below meth c H locs 0 0 (MQ below (Qv D (wH a kc Ff If Z) (ad a 11 s.heap.size)) args s 0 0 (ad a 11 s.heap.size)) (F0 m 14 ls []) := by
  intro F I x1 x2 H locs ls hf hfF hfI hP hS hl
  unfold p_X3_parseSeats_b14x at hf
  refine lv_iload_n X.1 X.2.1 dX3_parseSeats_14 rfl (lv_at hl 2 rfl) ?_
  refine lv_aload_n X.1 X.2.1 dX3_parseSeats_15 rfl (lv_at hl 0 rfl) ?_
  refine gH_0_1 X q_1_56 dX3_parseSeats_16 hP ?_
  refine lv_iconst (v := 0) X.1 X.2.1 dX3_parseSeats_19 (by decide) ?_
  obtain ⟨h20, hf⟩ := gd_s hf
  refine lH_4 (I := I) X (f := (I 0)) rfl h20 dX3_parseSeats_20 hP ?_
  refine lv_icmp_ge (tgt := 101) X.1 X.2.1 dX3_parseSeats_21 (by decide) (fun c21 => ?_) (fun c21 => ?_)
  · have hf := it_s hf c21
    exact t_X3_parseSeatsh_b101 X F I x1 x2 H locs ls hf hfF hfI hP hS (lv_sub hl [0, 1, 2] rfl)
  · have hf := ie_s hf c21
    refine lv_aload_n X.1 X.2.1 dX3_parseSeats_24 rfl (lv_at hl 0 rfl) ?_
    refine gH_0_0 X q_1_55 dX3_parseSeats_25 hP ?_
    refine lv_iconst (v := 0) X.1 X.2.1 dX3_parseSeats_28 (by decide) ?_
    obtain ⟨h29, hf⟩ := gd_s hf
    refine alH_1 X h29 dX3_parseSeats_29 hP ?_
    refine lv_iload_n X.1 X.2.1 dX3_parseSeats_30 rfl (lv_at hl 2 rfl) ?_
    obtain ⟨h31s, hf⟩ := gd_s hf
    obtain ⟨h31, hf⟩ := gd_s hf
    refine ldH_2 (Z := Z) X (of_decide_eq_true h31s) (f := (Z 0)) rfl h31 dX3_parseSeats_31 hP ?_
    refine nm_i hf (fun x32 hf => ?_)
    refine lv_istore_n (lv' := [(3, .int x32), (0, .ref (a 0)), (1, .int x1), (2, .int x2)]) X.1 X.2.1 dX3_parseSeats_32 rfl hl (by decide) rfl (fun ls hl => ?_)
    refine lv_iload_n X.1 X.2.1 dX3_parseSeats_33 rfl (lv_at hl 0 rfl) ?_
    obtain ⟨r34, ho, hf⟩ := b1_s hf
    refine call_si (rest := []) X (c_X3_sortOf x32 ho) q_1_38 q_1_39 q_1_2 q_1_40 ok_X3_sortOf rfl ⟨Nat.le_of_ble_eq_true rfl, Nat.le_of_ble_eq_true rfl⟩ rfl rfl hl.1 rfl (Nat.le_of_ble_eq_true rfl) dX3_parseSeats_34 hP hS (fun H locs hP hS => ?_)
    refine lv_istore (lv' := [(4, .int r34), (3, .int x32), (0, .ref (a 0)), (1, .int x1), (2, .int x2)]) X.1 X.2.1 dX3_parseSeats_37 hl (by decide) rfl (fun ls hl => ?_)
    refine lv_iload X.1 X.2.1 dX3_parseSeats_39 (lv_at hl 0 rfl) ?_
    refine lv_iconst (v := (-1)) X.1 X.2.1 dX3_parseSeats_41 (by decide) ?_
    refine lv_icmp_eq (tgt := 83) X.1 X.2.1 dX3_parseSeats_42 (by decide) (fun c42 => ?_) (fun c42 => ?_)
    · have hf := it_s hf c42
      exact t_X3_parseSeatsh_b83 X kh14 F I x1 x2 x32 H locs ls hf hfF hfI hP hS (lv_sub hl [2, 3, 4, 1] rfl)
    · have hf := ie_s hf c42
      refine lv_aload_n X.1 X.2.1 dX3_parseSeats_45 rfl (lv_at hl 2 rfl) ?_
      refine gH_0_8 (F := F) X (v := (F 0)) rfl q_1_80 dX3_parseSeats_46 hP ?_
      refine lv_bipush (v := 8) X.1 X.2.1 dX3_parseSeats_49 (by decide) ?_
      refine lv_icmp_ge (tgt := 83) X.1 X.2.1 dX3_parseSeats_51 (by decide) (fun c51 => ?_) (fun c51 => ?_)
      · have hf := it_s hf c51
        exact t_X3_parseSeatsh_b83 X kh14 F I x1 x2 x32 H locs ls hf hfF hfI hP hS (lv_sub hl [2, 3, 4, 1] rfl)
      · have hf := ie_s hf c51
        refine lv_aload_n X.1 X.2.1 dX3_parseSeats_54 rfl (lv_at hl 2 rfl) ?_
        refine lv_dup X.1 X.2.1 dX3_parseSeats_55 rfl ?_
        refine gH_0_9 (F := F) X (v := (F 1)) rfl q_1_85 dX3_parseSeats_56 hP ?_
        refine lv_iload_n X.1 X.2.1 dX3_parseSeats_59 rfl (lv_at hl 3 rfl) ?_
        refine lv_if_eq (tgt := 67) X.1 X.2.1 dX3_parseSeats_60 (by decide) (fun c60 => ?_) (fun c60 => ?_)
        · have hf := it_s hf c60
          refine lv_iconst (v := 1) X.1 X.2.1 dX3_parseSeats_67 (by decide) ?_
          exact t_X3_parseSeatsh_b68 X kh14 F I (F 1) 1 x2 r34 H locs ls hf hfF hfI hP hS (lv_sub hl [2, 4, 0] rfl)
        · have hf := ie_s hf c60
          refine lv_iconst (v := 0) X.1 X.2.1 dX3_parseSeats_63 (by decide) ?_
          refine lv_goto (tgt := 68) X.1 X.2.1 dX3_parseSeats_64 (by decide) ?_
          exact t_X3_parseSeatsh_b68 X kh14 F I (F 1) 0 x2 r34 H locs ls hf hfF hfI hP hS (lv_sub hl [2, 4, 0] rfl)
set_option maxRecDepth 100000 in
theorem t_X3_parseSeatsh_b14 {p : Program} {l : Launch} {e : Env} {s : State} {m : MethodId} {args : Array Value} {below : List Frame} {meth : Method} {c : Code} {D : va_G} {a : Nat → Nat} {kc : Nat → ClassId} (X : cx 11 p s m args meth c D (tyH kc) a cX3_parseSeats 5 RX3 none) {Z : Nat → Nat → Nat → Int32} {Ff : Nat → Int32} {If : Nat → Nat → Int32}  :
    ∀ (n : Nat) (F : Nat → Int32) (I : Nat → Nat → Int32) (x1 : Int32) (x2 : Int32) (H : Heap) (locs : List Loc) (ls : Array Slot), p_X3_parseSeats_b14 n (F 0) (F 1) (I 0) (I 1) (I 2) (I 3) (I 4) (Z 0) x1 x2 = some ((Ff 0), (Ff 1), (If 1), (If 2), (If 3), (If 4)) → (∀ k, k ∉ ([0, 1] : List Nat) → Ff k = F k) → (∀ k, k ∉ ([1, 2, 3, 4] : List Nat) → If k = I k) → va_P D vwCl (wH a kc F I Z) H → va_S (ad a 11 s.heap.size) s.heap H locs → lv_has ls 5 [(0, .ref (a 0)), (1, .int x1), (2, .int x2)] → W p l e rm_X3_parseSeatsh s m args below meth c H locs 0 0 (MQ below (Qv D (wH a kc Ff If Z) (ad a 11 s.heap.size)) args s 0 0 (ad a 11 s.heap.size)) (F0 m 14 ls []) := by
  intro n
  induction n with
  | zero => intro F I x1 x2 H locs ls hf hfF hfI hP hS hl; exact (nos hf).elim
  | succ n ih => exact t_X3_parseSeatsh_b14x X ih
set_option maxHeartbeats 4000000 in
set_option maxRecDepth 100000 in
theorem t_X3_parseSeatsh_b0 {p : Program} {l : Launch} {e : Env} {s : State} {m : MethodId} {args : Array Value} {below : List Frame} {meth : Method} {c : Code} {D : va_G} {a : Nat → Nat} {kc : Nat → ClassId} (X : cx 11 p s m args meth c D (tyH kc) a cX3_parseSeats 5 RX3 none) {Z : Nat → Nat → Nat → Int32} {Ff : Nat → Int32} {If : Nat → Nat → Int32}  :
    ∀ (F : Nat → Int32) (I : Nat → Nat → Int32)  (H : Heap) (locs : List Loc) (ls : Array Slot), p_X3_parseSeats_b0 (F 0) (F 1) (I 0) (I 1) (I 2) (I 3) (I 4) (Z 0)  = some ((Ff 0), (Ff 1), (If 1), (If 2), (If 3), (If 4)) → (∀ k, k ∉ ([0, 1] : List Nat) → Ff k = F k) → (∀ k, k ∉ ([1, 2, 3, 4] : List Nat) → If k = I k) → va_P D vwCl (wH a kc F I Z) H → va_S (ad a 11 s.heap.size) s.heap H locs → lv_has ls 5 [(0, .ref (a 0))] → W p l e rm_X3_parseSeatsh s m args below meth c H locs 0 0 (MQ below (Qv D (wH a kc Ff If Z) (ad a 11 s.heap.size)) args s 0 0 (ad a 11 s.heap.size)) (F0 m 0 ls []) := by
  intro F I  H locs ls hf hfF hfI hP hS hl
  unfold p_X3_parseSeats_b0 at hf
  refine lv_aload_n X.1 X.2.1 dX3_parseSeats_0 rfl (lv_at hl 0 rfl) ?_
  refine lv_iconst (v := 0) X.1 X.2.1 dX3_parseSeats_1 (by decide) ?_
  refine pH_0_8 X q_1_80 dX3_parseSeats_2 hP hS (fun H locs hP hS => ?_)
  refine lv_aload_n X.1 X.2.1 dX3_parseSeats_5 rfl (lv_at hl 0 rfl) ?_
  refine lv_iconst (v := 0) X.1 X.2.1 dX3_parseSeats_6 (by decide) ?_
  refine pH_0_9 X q_1_85 dX3_parseSeats_7 hP hS (fun H locs hP hS => ?_)
  refine lv_iconst (v := 0) X.1 X.2.1 dX3_parseSeats_10 (by decide) ?_
  refine lv_istore_n (lv' := [(1, .int 0), (0, .ref (a 0))]) X.1 X.2.1 dX3_parseSeats_11 rfl hl (by decide) rfl (fun ls hl => ?_)
  refine lv_iconst (v := 0) X.1 X.2.1 dX3_parseSeats_12 (by decide) ?_
  refine lv_istore_n (lv' := [(2, .int 0), (1, .int 0), (0, .ref (a 0))]) X.1 X.2.1 dX3_parseSeats_13 rfl hl (by decide) rfl (fun ls hl => ?_)
  exact t_X3_parseSeatsh_b14 X 4096 (va_up (va_up F 0 0) 1 0) I 0 0 H locs ls hf (frm_up (frm_up hfF (by decide)) (by decide)) hfI hP hS (lv_sub hl [2, 1, 0] rfl)
set_option maxRecDepth 100000 in
theorem c_X3_parseSeatsh {l : Launch} {D : va_G} {a : Nat → Nat} {kc : Nat → ClassId} (F : Nat → Int32) (I : Nat → Nat → Int32) (Z : Nat → Nat → Nat → Int32) (hAp : ∀ i j, i < 11 → j < 11 → a i = a j → i = j)  {o0 : Int32} {o1 : Int32} {o2 : Nat → Int32} {o3 : Nat → Int32} {o4 : Nat → Int32} {o5 : Nat → Int32} (hf : p_X3_parseSeats (F 0) (F 1) (I 0) (I 1) (I 2) (I 3) (I 4) (Z 0)  = some (o0, o1, o2, o3, o4, o5)) : Ct 11 l yX3_parseSeats cX3_parseSeats 5 none rm_X3_parseSeatsh D (tyH kc) a (wH a kc F I Z) [.ref (a 0)] (Qv D (wH a kc (va_up (va_up F 0 o0) 1 o1) (va_up (va_up (va_up (va_up I 1 o2) 2 o3) 3 o4) 4 o5) Z)) :=
  Ct.of (by decide +kernel) hAp (Nat.le_of_ble_eq_true rfl) (fun p e s m args below meth c ls X hP hl => t_X3_parseSeatsh_b0 X F I  _ _ _ hf (frm_ul (frm_ul (fun k _ => rfl) (by decide)) (by decide)) (frm_ul (frm_ul (frm_ul (frm_ul (fun k _ => rfl) (by decide)) (by decide)) (by decide)) (by decide)) hP va_S.rf hl)
abbrev rm_X3_parsePeopleh : Room := { frames := 1, cells := 0, slots := 0, locals := 20 }
set_option maxHeartbeats 4000000 in
set_option maxRecDepth 100000 in
theorem t_X3_parsePeopleh_b167 {p : Program} {l : Launch} {e : Env} {s : State} {m : MethodId} {args : Array Value} {below : List Frame} {meth : Method} {c : Code} {D : va_G} {a : Nat → Nat} {kc : Nat → ClassId} (X : cx 11 p s m args meth c D (tyH kc) a cX3_parsePeople 5 RX3 none) {Z : Nat → Nat → Nat → Int32} {Ff : Nat → Int32} {If : Nat → Nat → Int32}  :
    ∀ (F : Nat → Int32) (I : Nat → Nat → Int32)  (H : Heap) (locs : List Loc) (ls : Array Slot), p_X3_parsePeople_b167 (F 0) (F 2) (I 0) (I 1) (I 5) (I 6) (Z 0)  = some ((Ff 2), (If 1), (If 5), (If 6)) → (∀ k, k ∉ ([2] : List Nat) → Ff k = F k) → (∀ k, k ∉ ([1, 5, 6] : List Nat) → If k = I k) → va_P D vwCl (wH a kc F I Z) H → va_S (ad a 11 s.heap.size) s.heap H locs → lv_has ls 5 [(0, .ref (a 0))] → W p l e rm_X3_parsePeopleh s m args below meth c H locs 0 0 (MQ below (Qv D (wH a kc Ff If Z) (ad a 11 s.heap.size)) args s 0 0 (ad a 11 s.heap.size)) (F0 m 167 ls []) := by
  intro F I  H locs ls hf hfF hfI hP hS hl
  unfold p_X3_parsePeople_b167 at hf
  obtain ⟨e0, hf⟩ := o2 hf
  obtain ⟨e1, hf⟩ := o2 hf
  obtain ⟨e2, hf⟩ := o2 hf
  have e3 := o1 hf
  have EF : Ff = F := frm_eq hfF (frm_c (e0).symm frm_n)
  have EI : If = I := frm_eq hfI (frm_c (e1).symm (frm_c (e2).symm (frm_c (e3).symm frm_n)))
  exact ret_v X hS (by rw [EF, EI]; exact hP) dX3_parsePeople_167
set_option maxHeartbeats 4000000 in
set_option maxRecDepth 100000 in
theorem t_X3_parsePeopleh_b151 {p : Program} {l : Launch} {e : Env} {s : State} {m : MethodId} {args : Array Value} {below : List Frame} {meth : Method} {c : Code} {D : va_G} {a : Nat → Nat} {kc : Nat → ClassId} (X : cx 11 p s m args meth c D (tyH kc) a cX3_parsePeople 5 RX3 none) {Z : Nat → Nat → Nat → Int32} {Ff : Nat → Int32} {If : Nat → Nat → Int32}  :
    ∀ (F : Nat → Int32) (I : Nat → Nat → Int32) (t1 : Int32) (t2 : Int32) (H : Heap) (locs : List Loc) (ls : Array Slot), p_X3_parsePeople_b151 (F 0) (F 2) (I 0) (I 1) (I 5) (I 6) (Z 0) t1 t2 = some ((Ff 2), (If 1), (If 5), (If 6)) → (∀ k, k ∉ ([2] : List Nat) → Ff k = F k) → (∀ k, k ∉ ([1, 5, 6] : List Nat) → If k = I k) → va_P D vwCl (wH a kc F I Z) H → va_S (ad a 11 s.heap.size) s.heap H locs → lv_has ls 5 [(0, .ref (a 0))] → W p l e rm_X3_parsePeopleh s m args below meth c H locs 0 0 (MQ below (Qv D (wH a kc Ff If Z) (ad a 11 s.heap.size)) args s 0 0 (ad a 11 s.heap.size)) (F0 m 151 ls [.int t2, .int t1, .ref (a 5)]) := by
  intro F I t1 t2 H locs ls hf hfF hfI hP hS hl
  unfold p_X3_parsePeople_b151 at hf
  obtain ⟨h151, hf⟩ := gd_s hf
  obtain ⟨H_faults_151, eH_faults_151, hf⟩ := nm_x hf
  refine sH_5 (I := I) X h151 eH_faults_151 dX3_parsePeople_151 hP hS (fun H locs hP hS => ?_)
  refine lv_aload_n X.1 X.2.1 dX3_parsePeople_152 rfl (lv_at hl 0 rfl) ?_
  refine gH_0_2 X q_1_58 dX3_parsePeople_153 hP ?_
  refine lv_iconst (v := 1) X.1 X.2.1 dX3_parsePeople_156 (by decide) ?_
  obtain ⟨h157, hf⟩ := gd_s hf
  refine lH_5 (I := (va_up I 1 H_faults_151)) X (f := H_faults_151) rfl h157 dX3_parsePeople_157 hP ?_
  refine lv_iconst (v := (-1)) X.1 X.2.1 dX3_parsePeople_158 (by decide) ?_
  refine lv_icmp_eq (tgt := 167) X.1 X.2.1 dX3_parsePeople_159 (by decide) (fun c159 => ?_) (fun c159 => ?_)
  · have hf := it_s hf c159
    exact t_X3_parsePeopleh_b167 X F (va_up I 1 H_faults_151)  H locs ls hf hfF (frm_up hfI (by decide)) hP hS (lv_sub hl [0] rfl)
  · have hf := ie_s hf c159
    refine lv_aload_n X.1 X.2.1 dX3_parsePeople_162 rfl (lv_at hl 0 rfl) ?_
    refine lv_iconst (v := 0) X.1 X.2.1 dX3_parsePeople_163 (by decide) ?_
    refine pH_0_10 X q_1_92 dX3_parsePeople_164 hP hS (fun H locs hP hS => ?_)
    exact t_X3_parsePeopleh_b167 X (va_up F 2 0) (va_up I 1 H_faults_151)  H locs ls hf (frm_up hfF (by decide)) (frm_up hfI (by decide)) hP hS (lv_sub hl [0] rfl)
set_option maxHeartbeats 4000000 in
set_option maxRecDepth 100000 in
theorem t_X3_parsePeopleh_b150 {p : Program} {l : Launch} {e : Env} {s : State} {m : MethodId} {args : Array Value} {below : List Frame} {meth : Method} {c : Code} {D : va_G} {a : Nat → Nat} {kc : Nat → ClassId} (X : cx 11 p s m args meth c D (tyH kc) a cX3_parsePeople 5 RX3 none) {Z : Nat → Nat → Nat → Int32} {Ff : Nat → Int32} {If : Nat → Nat → Int32}  :
    ∀ (F : Nat → Int32) (I : Nat → Nat → Int32) (t1 : Int32) (x2 : Int32) (H : Heap) (locs : List Loc) (ls : Array Slot), p_X3_parsePeople_b150 (F 0) (F 2) (I 0) (I 1) (I 5) (I 6) (Z 0) t1 x2 = some ((Ff 2), (If 1), (If 5), (If 6)) → (∀ k, k ∉ ([2] : List Nat) → Ff k = F k) → (∀ k, k ∉ ([1, 5, 6] : List Nat) → If k = I k) → va_P D vwCl (wH a kc F I Z) H → va_S (ad a 11 s.heap.size) s.heap H locs → lv_has ls 5 [(0, .ref (a 0)), (2, .int x2)] → W p l e rm_X3_parsePeopleh s m args below meth c H locs 0 0 (MQ below (Qv D (wH a kc Ff If Z) (ad a 11 s.heap.size)) args s 0 0 (ad a 11 s.heap.size)) (F0 m 150 ls [.int t1, .ref (a 5)]) := by
  intro F I t1 x2 H locs ls hf hfF hfI hP hS hl
  unfold p_X3_parsePeople_b150 at hf
  refine lv_iload_n X.1 X.2.1 dX3_parsePeople_150 rfl (lv_at hl 1 rfl) ?_
  exact t_X3_parsePeopleh_b151 X F I t1 x2 H locs ls hf hfF hfI hP hS (lv_sub hl [0] rfl)
set_option maxHeartbeats 4000000 in
set_option maxRecDepth 100000 in
theorem t_X3_parsePeopleh_b126 {p : Program} {l : Launch} {e : Env} {s : State} {m : MethodId} {args : Array Value} {below : List Frame} {meth : Method} {c : Code} {D : va_G} {a : Nat → Nat} {kc : Nat → ClassId} (X : cx 11 p s m args meth c D (tyH kc) a cX3_parsePeople 5 RX3 none) {Z : Nat → Nat → Nat → Int32} {Ff : Nat → Int32} {If : Nat → Nat → Int32}  :
    ∀ (F : Nat → Int32) (I : Nat → Nat → Int32) (x1 : Int32) (x2 : Int32) (H : Heap) (locs : List Loc) (ls : Array Slot), p_X3_parsePeople_b126 (F 0) (F 2) (I 0) (I 1) (I 5) (I 6) (Z 0) x1 x2 = some ((Ff 2), (If 1), (If 5), (If 6)) → (∀ k, k ∉ ([2] : List Nat) → Ff k = F k) → (∀ k, k ∉ ([1, 5, 6] : List Nat) → If k = I k) → va_P D vwCl (wH a kc F I Z) H → va_S (ad a 11 s.heap.size) s.heap H locs → lv_has ls 5 [(0, .ref (a 0)), (1, .int x1), (2, .int x2)] → W p l e rm_X3_parsePeopleh s m args below meth c H locs 0 0 (MQ below (Qv D (wH a kc Ff If Z) (ad a 11 s.heap.size)) args s 0 0 (ad a 11 s.heap.size)) (F0 m 126 ls []) := by
  intro F I x1 x2 H locs ls hf hfF hfI hP hS hl
  unfold p_X3_parsePeople_b126 at hf
  refine lv_aload_n X.1 X.2.1 dX3_parsePeople_126 rfl (lv_at hl 0 rfl) ?_
  refine gH_0_2 X q_1_58 dX3_parsePeople_127 hP ?_
  refine lv_iconst (v := 1) X.1 X.2.1 dX3_parsePeople_130 (by decide) ?_
  refine lv_iload_n X.1 X.2.1 dX3_parsePeople_131 rfl (lv_at hl 2 rfl) ?_
  refine lv_aload_n X.1 X.2.1 dX3_parsePeople_132 rfl (lv_at hl 0 rfl) ?_
  refine gH_0_1 X q_1_56 dX3_parsePeople_133 hP ?_
  refine lv_iconst (v := 1) X.1 X.2.1 dX3_parsePeople_136 (by decide) ?_
  obtain ⟨h137, hf⟩ := gd_s hf
  refine lH_4 (I := I) X (f := (I 0)) rfl h137 dX3_parsePeople_137 hP ?_
  refine lv_icmp_ne (tgt := 150) X.1 X.2.1 dX3_parsePeople_138 (by decide) (fun c138 => ?_) (fun c138 => ?_)
  · have hf := ie_s hf c138
    exact t_X3_parsePeopleh_b150 X F I 1 x2 H locs ls hf hfF hfI hP hS (lv_sub hl [0, 2] rfl)
  · have hf := it_s hf c138
    refine lv_iload_n X.1 X.2.1 dX3_parsePeople_141 rfl (lv_at hl 1 rfl) ?_
    refine lv_iconst (v := (-1)) X.1 X.2.1 dX3_parsePeople_142 (by decide) ?_
    refine lv_icmp_ne (tgt := 150) X.1 X.2.1 dX3_parsePeople_143 (by decide) (fun c143 => ?_) (fun c143 => ?_)
    · have hf := ie_s hf c143
      exact t_X3_parsePeopleh_b150 X F I 1 x2 H locs ls hf hfF hfI hP hS (lv_sub hl [0, 2] rfl)
    · have hf := it_s hf c143
      refine lv_iconst (v := (-1)) X.1 X.2.1 dX3_parsePeople_146 (by decide) ?_
      refine lv_goto (tgt := 151) X.1 X.2.1 dX3_parsePeople_147 (by decide) ?_
      exact t_X3_parsePeopleh_b151 X F I 1 (-1) H locs ls hf hfF hfI hP hS (lv_sub hl [0] rfl)
set_option maxHeartbeats 4000000 in
set_option maxRecDepth 100000 in
theorem t_X3_parsePeopleh_b120 {p : Program} {l : Launch} {e : Env} {s : State} {m : MethodId} {args : Array Value} {below : List Frame} {meth : Method} {c : Code} {D : va_G} {a : Nat → Nat} {kc : Nat → ClassId} (X : cx 11 p s m args meth c D (tyH kc) a cX3_parsePeople 5 RX3 none) {Z : Nat → Nat → Nat → Int32} {Ff : Nat → Int32} {If : Nat → Nat → Int32}  {K9 : Int32 → Int32 → (Nat → Int32) → (Nat → Int32) → (Nat → Int32) → (Nat → Int32) → (Nat → Nat → Int32) → Int32 → Int32 → Option (Int32 × (Nat → Int32) × (Nat → Int32) × (Nat → Int32))} (kh9 : ∀ (F : Nat → Int32) (I : Nat → Nat → Int32) (x1 : Int32) (x2 : Int32) (H : Heap) (locs : List Loc) (ls : Array Slot), K9 (F 0) (F 2) (I 0) (I 1) (I 5) (I 6) (Z 0) x1 x2 = some ((Ff 2), (If 1), (If 5), (If 6)) → (∀ k, k ∉ ([2] : List Nat) → Ff k = F k) → (∀ k, k ∉ ([1, 5, 6] : List Nat) → If k = I k) → va_P D vwCl (wH a kc F I Z) H → va_S (ad a 11 s.heap.size) s.heap H locs → lv_has ls 5 [(0, .ref (a 0)), (1, .int x1), (2, .int x2)] → W p l e rm_X3_parsePeopleh s m args below meth c H locs 0 0 (MQ below (Qv D (wH a kc Ff If Z) (ad a 11 s.heap.size)) args s 0 0 (ad a 11 s.heap.size)) (F0 m 9 ls [])) :
    ∀ (F : Nat → Int32) (I : Nat → Nat → Int32) (x1 : Int32) (x2 : Int32) (H : Heap) (locs : List Loc) (ls : Array Slot), p_X3_parsePeople_b120 K9 (F 0) (F 2) (I 0) (I 1) (I 5) (I 6) (Z 0) x1 x2 = some ((Ff 2), (If 1), (If 5), (If 6)) → (∀ k, k ∉ ([2] : List Nat) → Ff k = F k) → (∀ k, k ∉ ([1, 5, 6] : List Nat) → If k = I k) → va_P D vwCl (wH a kc F I Z) H → va_S (ad a 11 s.heap.size) s.heap H locs → lv_has ls 5 [(0, .ref (a 0)), (1, .int x1), (2, .int x2)] → W p l e rm_X3_parsePeopleh s m args below meth c H locs 0 0 (MQ below (Qv D (wH a kc Ff If Z) (ad a 11 s.heap.size)) args s 0 0 (ad a 11 s.heap.size)) (F0 m 120 ls []) := by
  intro F I x1 x2 H locs ls hf hfF hfI hP hS hl
  unfold p_X3_parsePeople_b120 at hf
  obtain ⟨x120, ex120, hf⟩ := nm_x hf
  refine lv_iinc (v := x120) (lv' := [(2, .int x120), (0, .ref (a 0)), (1, .int x1)]) X.1 X.2.1 dX3_parsePeople_120 hl (k := 2) rfl ex120 (by decide) rfl (fun ls hl => ?_)
  refine lv_goto (tgt := 9) X.1 X.2.1 dX3_parsePeople_123 (by decide) ?_
  exact kh9 F I x1 x120 H locs ls hf hfF hfI hP hS (lv_sub hl [1, 2, 0] rfl)
set_option maxHeartbeats 4000000 in
set_option maxRecDepth 100000 in
theorem t_X3_parsePeopleh_b9x {p : Program} {l : Launch} {e : Env} {s : State} {m : MethodId} {args : Array Value} {below : List Frame} {meth : Method} {c : Code} {D : va_G} {a : Nat → Nat} {kc : Nat → ClassId} (X : cx 11 p s m args meth c D (tyH kc) a cX3_parsePeople 5 RX3 none) {Z : Nat → Nat → Nat → Int32} {Ff : Nat → Int32} {If : Nat → Nat → Int32}  {K9 : Int32 → Int32 → (Nat → Int32) → (Nat → Int32) → (Nat → Int32) → (Nat → Int32) → (Nat → Nat → Int32) → Int32 → Int32 → Option (Int32 × (Nat → Int32) × (Nat → Int32) × (Nat → Int32))} (kh9 : ∀ (F : Nat → Int32) (I : Nat → Nat → Int32) (x1 : Int32) (x2 : Int32) (H : Heap) (locs : List Loc) (ls : Array Slot), K9 (F 0) (F 2) (I 0) (I 1) (I 5) (I 6) (Z 0) x1 x2 = some ((Ff 2), (If 1), (If 5), (If 6)) → (∀ k, k ∉ ([2] : List Nat) → Ff k = F k) → (∀ k, k ∉ ([1, 5, 6] : List Nat) → If k = I k) → va_P D vwCl (wH a kc F I Z) H → va_S (ad a 11 s.heap.size) s.heap H locs → lv_has ls 5 [(0, .ref (a 0)), (1, .int x1), (2, .int x2)] → W p l e rm_X3_parsePeopleh s m args below meth c H locs 0 0 (MQ below (Qv D (wH a kc Ff If Z) (ad a 11 s.heap.size)) args s 0 0 (ad a 11 s.heap.size)) (F0 m 9 ls [])) :
    ∀ (F : Nat → Int32) (I : Nat → Nat → Int32) (x1 : Int32) (x2 : Int32) (H : Heap) (locs : List Loc) (ls : Array Slot), p_X3_parsePeople_b9x K9 (F 0) (F 2) (I 0) (I 1) (I 5) (I 6) (Z 0) x1 x2 = some ((Ff 2), (If 1), (If 5), (If 6)) → (∀ k, k ∉ ([2] : List Nat) → Ff k = F k) → (∀ k, k ∉ ([1, 5, 6] : List Nat) → If k = I k) → va_P D vwCl (wH a kc F I Z) H → va_S (ad a 11 s.heap.size) s.heap H locs → lv_has ls 5 [(0, .ref (a 0)), (1, .int x1), (2, .int x2)] → W p l e rm_X3_parsePeopleh s m args below meth c H locs 0 0 (MQ below (Qv D (wH a kc Ff If Z) (ad a 11 s.heap.size)) args s 0 0 (ad a 11 s.heap.size)) (F0 m 9 ls []) := by
  intro F I x1 x2 H locs ls hf hfF hfI hP hS hl
  unfold p_X3_parsePeople_b9x at hf
  refine lv_iload_n X.1 X.2.1 dX3_parsePeople_9 rfl (lv_at hl 2 rfl) ?_
  refine lv_aload_n X.1 X.2.1 dX3_parsePeople_10 rfl (lv_at hl 0 rfl) ?_
  refine gH_0_1 X q_1_56 dX3_parsePeople_11 hP ?_
  refine lv_iconst (v := 1) X.1 X.2.1 dX3_parsePeople_14 (by decide) ?_
  obtain ⟨h15, hf⟩ := gd_s hf
  refine lH_4 (I := I) X (f := (I 0)) rfl h15 dX3_parsePeople_15 hP ?_
  refine lv_icmp_ge (tgt := 126) X.1 X.2.1 dX3_parsePeople_16 (by decide) (fun c16 => ?_) (fun c16 => ?_)
  · have hf := it_s hf c16
    exact t_X3_parsePeopleh_b126 X F I x1 x2 H locs ls hf hfF hfI hP hS (lv_sub hl [0, 1, 2] rfl)
  · have hf := ie_s hf c16
    refine lv_aload_n X.1 X.2.1 dX3_parsePeople_19 rfl (lv_at hl 0 rfl) ?_
    refine gH_0_0 X q_1_55 dX3_parsePeople_20 hP ?_
    refine lv_iconst (v := 1) X.1 X.2.1 dX3_parsePeople_23 (by decide) ?_
    obtain ⟨h24, hf⟩ := gd_s hf
    refine alH_1 X h24 dX3_parsePeople_24 hP ?_
    refine lv_iload_n X.1 X.2.1 dX3_parsePeople_25 rfl (lv_at hl 2 rfl) ?_
    obtain ⟨h26s, hf⟩ := gd_s hf
    obtain ⟨h26, hf⟩ := gd_s hf
    refine ldH_2 (Z := Z) X (of_decide_eq_true h26s) (f := (Z 0)) rfl h26 dX3_parsePeople_26 hP ?_
    refine nm_i hf (fun x27 hf => ?_)
    refine lv_istore_n (lv' := [(3, .int x27), (0, .ref (a 0)), (1, .int x1), (2, .int x2)]) X.1 X.2.1 dX3_parsePeople_27 rfl hl (by decide) rfl (fun ls hl => ?_)
    refine lv_iload_n X.1 X.2.1 dX3_parsePeople_28 rfl (lv_at hl 2 rfl) ?_
    refine lv_iconst (v := (-1)) X.1 X.2.1 dX3_parsePeople_29 (by decide) ?_
    refine lv_icmp_ne (tgt := 72) X.1 X.2.1 dX3_parsePeople_30 (by decide) (fun c30 => ?_) (fun c30 => ?_)
    · have hf := ie_s hf c30
      refine lv_iload_n X.1 X.2.1 dX3_parsePeople_72 rfl (lv_at hl 0 rfl) ?_
      obtain ⟨r73, ho, hf⟩ := b1_s hf
      refine call_si (rest := []) X (c_X3_kindOf x27 ho) q_1_52 q_1_53 q_1_2 q_1_54 ok_X3_kindOf rfl ⟨Nat.le_of_ble_eq_true rfl, Nat.le_of_ble_eq_true rfl⟩ rfl rfl hl.1 rfl (Nat.le_of_ble_eq_true rfl) dX3_parsePeople_73 hP hS (fun H locs hP hS => ?_)
      refine lv_istore (lv' := [(4, .int r73), (3, .int x27), (0, .ref (a 0)), (1, .int x1), (2, .int x2)]) X.1 X.2.1 dX3_parsePeople_76 hl (by decide) rfl (fun ls hl => ?_)
      refine lv_iload X.1 X.2.1 dX3_parsePeople_78 (lv_at hl 0 rfl) ?_
      refine lv_iconst (v := (-1)) X.1 X.2.1 dX3_parsePeople_80 (by decide) ?_
      refine lv_icmp_ne (tgt := 87) X.1 X.2.1 dX3_parsePeople_81 (by decide) (fun c81 => ?_) (fun c81 => ?_)
      · have hf := ie_s hf c81
        refine lv_aload_n X.1 X.2.1 dX3_parsePeople_87 rfl (lv_at hl 2 rfl) ?_
        refine gH_0_6 X q_1_65 dX3_parsePeople_88 hP ?_
        refine lv_aload_n X.1 X.2.1 dX3_parsePeople_91 rfl (lv_at hl 2 rfl) ?_
        refine gH_0_10 (F := F) X (v := (F 2)) rfl q_1_92 dX3_parsePeople_92 hP ?_
        refine lv_iload_n X.1 X.2.1 dX3_parsePeople_95 rfl (lv_at hl 3 rfl) ?_
        obtain ⟨h96, hf⟩ := gd_s hf
        obtain ⟨H_owns_96, eH_owns_96, hf⟩ := nm_x hf
        refine sH_9 (I := I) X h96 eH_owns_96 dX3_parsePeople_96 hP hS (fun H locs hP hS => ?_)
        refine lv_aload_n X.1 X.2.1 dX3_parsePeople_97 rfl (lv_at hl 2 rfl) ?_
        refine gH_0_7 X q_1_72 dX3_parsePeople_98 hP ?_
        refine lv_aload_n X.1 X.2.1 dX3_parsePeople_101 rfl (lv_at hl 2 rfl) ?_
        refine gH_0_10 (F := F) X (v := (F 2)) rfl q_1_92 dX3_parsePeople_102 hP ?_
        refine lv_iload X.1 X.2.1 dX3_parsePeople_105 (lv_at hl 0 rfl) ?_
        obtain ⟨h107, hf⟩ := gd_s hf
        obtain ⟨H_kinds_107, eH_kinds_107, hf⟩ := nm_x hf
        refine sH_10 (I := (va_up I 5 H_owns_96)) X h107 eH_kinds_107 dX3_parsePeople_107 hP hS (fun H locs hP hS => ?_)
        refine lv_aload_n X.1 X.2.1 dX3_parsePeople_108 rfl (lv_at hl 2 rfl) ?_
        refine lv_dup X.1 X.2.1 dX3_parsePeople_109 rfl ?_
        refine gH_0_10 (F := F) X (v := (F 2)) rfl q_1_92 dX3_parsePeople_110 hP ?_
        refine lv_iconst (v := 1) X.1 X.2.1 dX3_parsePeople_113 (by decide) ?_
        refine lv_iadd X.1 X.2.1 dX3_parsePeople_114 ?_
        refine nm_i hf (fun H_people_115 hf => ?_)
        refine pH_0_10 X q_1_92 dX3_parsePeople_115 hP hS (fun H locs hP hS => ?_)
        refine lv_iconst (v := (-1)) X.1 X.2.1 dX3_parsePeople_118 (by decide) ?_
        refine lv_istore_n (lv' := [(1, .int (-1)), (4, .int r73), (3, .int x27), (0, .ref (a 0)), (2, .int x2)]) X.1 X.2.1 dX3_parsePeople_119 rfl hl (by decide) rfl (fun ls hl => ?_)
        exact t_X3_parsePeopleh_b120 X kh9 (va_up F 2 H_people_115) (va_up (va_up I 5 H_owns_96) 6 H_kinds_107) (-1) x2 H locs ls hf (frm_up hfF (by decide)) (frm_up (frm_up hfI (by decide)) (by decide)) hP hS (lv_sub hl [3, 0, 4] rfl)
      · have hf := it_s hf c81
        refine lv_goto (tgt := 126) X.1 X.2.1 dX3_parsePeople_84 (by decide) ?_
        exact t_X3_parsePeopleh_b126 X F I x1 x2 H locs ls hf hfF hfI hP hS (lv_sub hl [2, 3, 4] rfl)
    · have hf := it_s hf c30
      refine lv_aload_n X.1 X.2.1 dX3_parsePeople_33 rfl (lv_at hl 1 rfl) ?_
      refine gH_0_10 (F := F) X (v := (F 2)) rfl q_1_92 dX3_parsePeople_34 hP ?_
      refine lv_aload_n X.1 X.2.1 dX3_parsePeople_37 rfl (lv_at hl 1 rfl) ?_
      refine gH_0_8 (F := F) X (v := (F 0)) rfl q_1_80 dX3_parsePeople_38 hP ?_
      refine lv_icmp_ge (tgt := 126) X.1 X.2.1 dX3_parsePeople_41 (by decide) (fun c41 => ?_) (fun c41 => ?_)
      · have hf := it_s hf c41
        exact t_X3_parsePeopleh_b126 X F I x1 x2 H locs ls hf hfF hfI hP hS (lv_sub hl [1, 2, 3] rfl)
      · have hf := ie_s hf c41
        refine lv_iload_n X.1 X.2.1 dX3_parsePeople_44 rfl (lv_at hl 0 rfl) ?_
        refine lv_bipush (v := 48) X.1 X.2.1 dX3_parsePeople_45 (by decide) ?_
        refine lv_icmp_lt (tgt := 126) X.1 X.2.1 dX3_parsePeople_47 (by decide) (fun c47 => ?_) (fun c47 => ?_)
        · have hf := it_s hf c47
          exact t_X3_parsePeopleh_b126 X F I x1 x2 H locs ls hf hfF hfI hP hS (lv_sub hl [1, 2, 3] rfl)
        · have hf := ie_s hf c47
          refine lv_iload_n X.1 X.2.1 dX3_parsePeople_50 rfl (lv_at hl 0 rfl) ?_
          refine lv_bipush (v := 48) X.1 X.2.1 dX3_parsePeople_51 (by decide) ?_
          refine lv_aload_n X.1 X.2.1 dX3_parsePeople_53 rfl (lv_at hl 1 rfl) ?_
          refine gH_0_8 (F := F) X (v := (F 0)) rfl q_1_80 dX3_parsePeople_54 hP ?_
          refine lv_iadd X.1 X.2.1 dX3_parsePeople_57 ?_
          refine lv_icmp_lt (tgt := 64) X.1 X.2.1 dX3_parsePeople_58 (by decide) (fun c58 => ?_) (fun c58 => ?_)
          · have hf := it_s hf c58
            refine lv_iload_n X.1 X.2.1 dX3_parsePeople_64 rfl (lv_at hl 0 rfl) ?_
            refine lv_bipush (v := 48) X.1 X.2.1 dX3_parsePeople_65 (by decide) ?_
            refine lv_isub X.1 X.2.1 dX3_parsePeople_67 ?_
            refine nm_i hf (fun x68 hf => ?_)
            refine lv_istore_n (lv' := [(1, .int x68), (3, .int x27), (0, .ref (a 0)), (2, .int x2)]) X.1 X.2.1 dX3_parsePeople_68 rfl hl (by decide) rfl (fun ls hl => ?_)
            refine lv_goto (tgt := 120) X.1 X.2.1 dX3_parsePeople_69 (by decide) ?_
            exact t_X3_parsePeopleh_b120 X kh9 F I x68 x2 H locs ls hf hfF hfI hP hS (lv_sub hl [2, 0, 3] rfl)
          · have hf := ie_s hf c58
            refine lv_goto (tgt := 126) X.1 X.2.1 dX3_parsePeople_61 (by decide) ?_
            exact t_X3_parsePeopleh_b126 X F I x1 x2 H locs ls hf hfF hfI hP hS (lv_sub hl [1, 2, 3] rfl)
set_option maxRecDepth 100000 in
theorem t_X3_parsePeopleh_b9 {p : Program} {l : Launch} {e : Env} {s : State} {m : MethodId} {args : Array Value} {below : List Frame} {meth : Method} {c : Code} {D : va_G} {a : Nat → Nat} {kc : Nat → ClassId} (X : cx 11 p s m args meth c D (tyH kc) a cX3_parsePeople 5 RX3 none) {Z : Nat → Nat → Nat → Int32} {Ff : Nat → Int32} {If : Nat → Nat → Int32}  :
    ∀ (n : Nat) (F : Nat → Int32) (I : Nat → Nat → Int32) (x1 : Int32) (x2 : Int32) (H : Heap) (locs : List Loc) (ls : Array Slot), p_X3_parsePeople_b9 n (F 0) (F 2) (I 0) (I 1) (I 5) (I 6) (Z 0) x1 x2 = some ((Ff 2), (If 1), (If 5), (If 6)) → (∀ k, k ∉ ([2] : List Nat) → Ff k = F k) → (∀ k, k ∉ ([1, 5, 6] : List Nat) → If k = I k) → va_P D vwCl (wH a kc F I Z) H → va_S (ad a 11 s.heap.size) s.heap H locs → lv_has ls 5 [(0, .ref (a 0)), (1, .int x1), (2, .int x2)] → W p l e rm_X3_parsePeopleh s m args below meth c H locs 0 0 (MQ below (Qv D (wH a kc Ff If Z) (ad a 11 s.heap.size)) args s 0 0 (ad a 11 s.heap.size)) (F0 m 9 ls []) := by
  intro n
  induction n with
  | zero => intro F I x1 x2 H locs ls hf hfF hfI hP hS hl; exact (nos hf).elim
  | succ n ih => exact t_X3_parsePeopleh_b9x X ih
set_option maxHeartbeats 4000000 in
set_option maxRecDepth 100000 in
theorem t_X3_parsePeopleh_b0 {p : Program} {l : Launch} {e : Env} {s : State} {m : MethodId} {args : Array Value} {below : List Frame} {meth : Method} {c : Code} {D : va_G} {a : Nat → Nat} {kc : Nat → ClassId} (X : cx 11 p s m args meth c D (tyH kc) a cX3_parsePeople 5 RX3 none) {Z : Nat → Nat → Nat → Int32} {Ff : Nat → Int32} {If : Nat → Nat → Int32}  :
    ∀ (F : Nat → Int32) (I : Nat → Nat → Int32)  (H : Heap) (locs : List Loc) (ls : Array Slot), p_X3_parsePeople_b0 (F 0) (F 2) (I 0) (I 1) (I 5) (I 6) (Z 0)  = some ((Ff 2), (If 1), (If 5), (If 6)) → (∀ k, k ∉ ([2] : List Nat) → Ff k = F k) → (∀ k, k ∉ ([1, 5, 6] : List Nat) → If k = I k) → va_P D vwCl (wH a kc F I Z) H → va_S (ad a 11 s.heap.size) s.heap H locs → lv_has ls 5 [(0, .ref (a 0))] → W p l e rm_X3_parsePeopleh s m args below meth c H locs 0 0 (MQ below (Qv D (wH a kc Ff If Z) (ad a 11 s.heap.size)) args s 0 0 (ad a 11 s.heap.size)) (F0 m 0 ls []) := by
  intro F I  H locs ls hf hfF hfI hP hS hl
  unfold p_X3_parsePeople_b0 at hf
  refine lv_aload_n X.1 X.2.1 dX3_parsePeople_0 rfl (lv_at hl 0 rfl) ?_
  refine lv_iconst (v := 0) X.1 X.2.1 dX3_parsePeople_1 (by decide) ?_
  refine pH_0_10 X q_1_92 dX3_parsePeople_2 hP hS (fun H locs hP hS => ?_)
  refine lv_iconst (v := (-1)) X.1 X.2.1 dX3_parsePeople_5 (by decide) ?_
  refine lv_istore_n (lv' := [(1, .int (-1)), (0, .ref (a 0))]) X.1 X.2.1 dX3_parsePeople_6 rfl hl (by decide) rfl (fun ls hl => ?_)
  refine lv_iconst (v := 0) X.1 X.2.1 dX3_parsePeople_7 (by decide) ?_
  refine lv_istore_n (lv' := [(2, .int 0), (1, .int (-1)), (0, .ref (a 0))]) X.1 X.2.1 dX3_parsePeople_8 rfl hl (by decide) rfl (fun ls hl => ?_)
  exact t_X3_parsePeopleh_b9 X 4096 (va_up F 2 0) I (-1) 0 H locs ls hf (frm_up hfF (by decide)) hfI hP hS (lv_sub hl [2, 1, 0] rfl)
set_option maxRecDepth 100000 in
theorem c_X3_parsePeopleh {l : Launch} {D : va_G} {a : Nat → Nat} {kc : Nat → ClassId} (F : Nat → Int32) (I : Nat → Nat → Int32) (Z : Nat → Nat → Nat → Int32) (hAp : ∀ i j, i < 11 → j < 11 → a i = a j → i = j)  {o0 : Int32} {o1 : Nat → Int32} {o2 : Nat → Int32} {o3 : Nat → Int32} (hf : p_X3_parsePeople (F 0) (F 2) (I 0) (I 1) (I 5) (I 6) (Z 0)  = some (o0, o1, o2, o3)) : Ct 11 l yX3_parsePeople cX3_parsePeople 5 none rm_X3_parsePeopleh D (tyH kc) a (wH a kc F I Z) [.ref (a 0)] (Qv D (wH a kc (va_up F 2 o0) (va_up (va_up (va_up I 1 o1) 5 o2) 6 o3) Z)) :=
  Ct.of (by decide +kernel) hAp (Nat.le_of_ble_eq_true rfl) (fun p e s m args below meth c ls X hP hl => t_X3_parsePeopleh_b0 X F I  _ _ _ hf (frm_ul (fun k _ => rfl) (by decide)) (frm_ul (frm_ul (frm_ul (fun k _ => rfl) (by decide)) (by decide)) (by decide)) hP va_S.rf hl)
abbrev rm_X3_parseh : Room := { frames := 3, cells := 0, slots := 0, locals := 69 }
set_option maxHeartbeats 4000000 in
set_option maxRecDepth 100000 in
theorem t_X3_parseh_b0 {p : Program} {l : Launch} {e : Env} {s : State} {m : MethodId} {args : Array Value} {below : List Frame} {meth : Method} {c : Code} {D : va_G} {a : Nat → Nat} {kc : Nat → ClassId} (X : cx 11 p s m args meth c D (tyH kc) a cX3_parse 1 RX3 none) {Z : Nat → Nat → Nat → Int32} {Ff : Nat → Int32} {If : Nat → Nat → Int32}  :
    ∀ (F : Nat → Int32) (I : Nat → Nat → Int32)  (H : Heap) (locs : List Loc) (ls : Array Slot), p_X3_parse_b0 (F 0) (F 1) (F 2) (I 0) (I 1) (I 2) (I 3) (I 4) (I 5) (I 6) (Z 0)  = some ((Ff 0), (Ff 1), (Ff 2), (If 1), (If 2), (If 3), (If 4), (If 5), (If 6)) → (∀ k, k ∉ ([0, 1, 2] : List Nat) → Ff k = F k) → (∀ k, k ∉ ([1, 2, 3, 4, 5, 6] : List Nat) → If k = I k) → va_P D vwCl (wH a kc F I Z) H → va_S (ad a 11 s.heap.size) s.heap H locs → lv_has ls 1 [(0, .ref (a 0))] → W p l e rm_X3_parseh s m args below meth c H locs 0 0 (MQ below (Qv D (wH a kc Ff If Z) (ad a 11 s.heap.size)) args s 0 0 (ad a 11 s.heap.size)) (F0 m 0 ls []) := by
  intro F I  H locs ls hf hfF hfI hP hS hl
  unfold p_X3_parse_b0 at hf
  refine lv_aload_n X.1 X.2.1 dX3_parse_0 rfl (lv_at hl 0 rfl) ?_
  obtain ⟨H_seats_1, H_rows_1, H_faults_1, H_sorts_1, H_rowOf_1, H_bySort_1, ho, hf⟩ := b6_s hf
  refine call_vv (rest := []) X (c_X3_parseSeatsh F I Z X.2.2.2.2.2.2.2.1  ho) q_1_34 q_1_36 qs_yX3_parseSeats q_1_2 q_1_37 ok_X3_parseSeats rfl 0 rfl rfl ⟨Nat.le_of_ble_eq_true rfl, Nat.le_of_ble_eq_true rfl⟩ rfl rfl hl.1 rfl (Nat.le_of_ble_eq_true rfl) dX3_parse_1 hP hS (fun H locs hP hS => ?_)
  refine lv_aload_n X.1 X.2.1 dX3_parse_4 rfl (lv_at hl 0 rfl) ?_
  obtain ⟨H_people_5, H_faults_5, H_owns_5, H_kinds_5, ho, hf⟩ := b4_s hf
  refine call_vv (rest := []) X (c_X3_parsePeopleh (va_up (va_up F 0 H_seats_1) 1 H_rows_1) (va_up (va_up (va_up (va_up I 1 H_faults_1) 2 H_sorts_1) 3 H_rowOf_1) 4 H_bySort_1) Z X.2.2.2.2.2.2.2.1  ho) q_1_48 q_1_50 qs_yX3_parsePeople q_1_2 q_1_51 ok_X3_parsePeople rfl 0 rfl rfl ⟨Nat.le_of_ble_eq_true rfl, Nat.le_of_ble_eq_true rfl⟩ rfl rfl hl.1 rfl (Nat.le_of_ble_eq_true rfl) dX3_parse_5 hP hS (fun H locs hP hS => ?_)
  obtain ⟨e0, hf⟩ := o2 hf
  obtain ⟨e1, hf⟩ := o2 hf
  obtain ⟨e2, hf⟩ := o2 hf
  obtain ⟨e3, hf⟩ := o2 hf
  obtain ⟨e4, hf⟩ := o2 hf
  obtain ⟨e5, hf⟩ := o2 hf
  obtain ⟨e6, hf⟩ := o2 hf
  obtain ⟨e7, hf⟩ := o2 hf
  have e8 := o1 hf
  have EF : Ff = (va_up (va_up (va_up F 0 H_seats_1) 1 H_rows_1) 2 H_people_5) := frm_eq (frm_up (frm_up (frm_up hfF (by decide)) (by decide)) (by decide)) (frm_c (e0).symm (frm_c (e1).symm (frm_c (e2).symm frm_n)))
  have EI : If = (va_up (va_up (va_up (va_up (va_up (va_up (va_up I 1 H_faults_1) 2 H_sorts_1) 3 H_rowOf_1) 4 H_bySort_1) 1 H_faults_5) 5 H_owns_5) 6 H_kinds_5) := frm_eq (frm_up (frm_up (frm_up (frm_up (frm_up (frm_up (frm_up hfI (by decide)) (by decide)) (by decide)) (by decide)) (by decide)) (by decide)) (by decide)) (frm_c (e3).symm (frm_c (e4).symm (frm_c (e5).symm (frm_c (e6).symm (frm_c (e7).symm (frm_c (e8).symm frm_n))))))
  exact ret_v X hS (by rw [EF, EI]; exact hP) dX3_parse_8
set_option maxRecDepth 100000 in
theorem c_X3_parseh {l : Launch} {D : va_G} {a : Nat → Nat} {kc : Nat → ClassId} (F : Nat → Int32) (I : Nat → Nat → Int32) (Z : Nat → Nat → Nat → Int32) (hAp : ∀ i j, i < 11 → j < 11 → a i = a j → i = j)  {o0 : Int32} {o1 : Int32} {o2 : Int32} {o3 : Nat → Int32} {o4 : Nat → Int32} {o5 : Nat → Int32} {o6 : Nat → Int32} {o7 : Nat → Int32} {o8 : Nat → Int32} (hf : p_X3_parse (F 0) (F 1) (F 2) (I 0) (I 1) (I 2) (I 3) (I 4) (I 5) (I 6) (Z 0)  = some (o0, o1, o2, o3, o4, o5, o6, o7, o8)) : Ct 11 l yX3_parse cX3_parse 1 none rm_X3_parseh D (tyH kc) a (wH a kc F I Z) [.ref (a 0)] (Qv D (wH a kc (va_up (va_up (va_up F 0 o0) 1 o1) 2 o2) (va_up (va_up (va_up (va_up (va_up (va_up I 1 o3) 2 o4) 3 o5) 4 o6) 5 o7) 6 o8) Z)) :=
  Ct.of (by decide +kernel) hAp (Nat.le_of_ble_eq_true rfl) (fun p e s m args below meth c ls X hP hl => t_X3_parseh_b0 X F I  _ _ _ hf (frm_ul (frm_ul (frm_ul (fun k _ => rfl) (by decide)) (by decide)) (by decide)) (frm_ul (frm_ul (frm_ul (frm_ul (frm_ul (frm_ul (fun k _ => rfl) (by decide)) (by decide)) (by decide)) (by decide)) (by decide)) (by decide)) hP va_S.rf hl)
