theorem frm_ul {α : Type} {Kf K : Nat → α} {l : List Nat} {j : Nat} {v : α} (h : ∀ k, k ∉ l → Kf k = K k) (hj : j ∈ l) : ∀ k, k ∉ l → va_up Kf j v k = K k := fun k hk => by
  have hne : k ≠ j := fun e => hk (e ▸ hj)
  rw [← h k hk]
  simp [va_up, hne]
def fillF (n : Nat) (v : Int32) (f : Nat → Int32) : Nat → Int32 := fun j => if j < n then v else f j
def fillL (n : Nat) (v : Int64) (f : Nat → Int64) : Nat → Int64 := fun j => if j < n then v else f j
def cpB (sp dp n : Int32) (n0 n1 : Nat) : Bool := decide (¬ sp < 0) && (decide (¬ dp < 0) && (decide (¬ n < 0) && (decide (sp.toNatClampNeg + n.toNatClampNeg ≤ n0) && decide (dp.toNatClampNeg + n.toNatClampNeg ≤ n1))))
theorem cpB_s {sp dp n : Int32} {n0 n1 : Nat} (h : cpB sp dp n n0 n1 = true) : ¬ sp < 0 ∧ ¬ dp < 0 ∧ ¬ n < 0 ∧ sp.toNatClampNeg + n.toNatClampNeg ≤ n0 ∧ dp.toNatClampNeg + n.toNatClampNeg ≤ n1 := by
  unfold cpB at h
  simp only [Bool.and_eq_true, decide_eq_true_eq] at h
  exact h
theorem cpB_of {sp dp n : Int32} {n0 n1 : Nat} (h : ¬ sp < 0 ∧ ¬ dp < 0 ∧ ¬ n < 0 ∧ sp.toNatClampNeg + n.toNatClampNeg ≤ n0 ∧ dp.toNatClampNeg + n.toNatClampNeg ≤ n1) : cpB sp dp n n0 n1 = true := by
  unfold cpB
  simp only [Bool.and_eq_true, decide_eq_true_eq]
  exact h
theorem fillF_s {i : Nat} {v : Int32} {f : Nat → Int32} : upd (fillF i v f) i v = fillF (i + 1) v f := funext fun j => by
  unfold upd fillF
  by_cases h : j = i
  · simp [h]
  · by_cases h2 : j < i
    · simp [h, h2, Nat.lt_succ_of_lt h2]
    · simp [h, h2, show ¬ j < i + 1 by omega]
theorem fillL_s {i : Nat} {v : Int64} {f : Nat → Int64} : vp_updL (fillL i v f) i v = fillL (i + 1) v f := funext fun j => by
  unfold vp_updL fillL
  by_cases h : j = i
  · simp [h]
  · by_cases h2 : j < i
    · simp [h, h2, Nat.lt_succ_of_lt h2]
    · simp [h, h2, show ¬ j < i + 1 by omega]
theorem fillF_0 {v : Int32} {f : Nat → Int32} : fillF 0 v f = f := funext fun j => by simp [fillF]
theorem fillL_0 {v : Int64} {f : Nat → Int64} : fillL 0 v f = f := funext fun j => by simp [fillL]
theorem set_id {ws : va_W} {k : Nat} {x : Nat × va_E} (h : ws[k]? = some x) : ws.set k x = ws := by
  apply List.ext_getElem?
  intro i
  by_cases e : k = i
  · subst e
    have hk : k < ws.length := (List.getElem?_eq_some_iff.mp h).1
    rw [List.getElem?_set_self hk, h]
  · rw [List.getElem?_set_ne e]

abbrev rm_fillI : Room := { frames := 0, cells := 0, slots := 0, locals := 0 }
set_option maxHeartbeats 4000000 in
theorem fillI_loop {N : Nat} {p : Program} {l : Launch} {e : Env} {s : State} {m : MethodId} {args : Array Value} {below : List Frame} {meth : Method} {c : Code} {D : va_G} {tys : List (ClassId × FieldType)} {a : Nat → Nat} {ws : va_W} {k t0 q n : Nat} {cA : ClassId} {f : Nat → Int32} {v : Int32} (X : cx N p s m args meth c D tys a cJ7_fill_53178 4 RJ7 none) (he : ws[k]? = some (q, .inl (cA, n, .inl f))) (ht : tys[t0]? = some (cA, .int)) (hn : n < 2 ^ 31) :
    ∀ (r i : Nat), i + r = n → ∀ (H : Heap) (locs : List Loc) (ls : Array Slot), va_P D vwCl (ws.set k (q, .inl (cA, n, .inl (fillF i v f)))) H → va_D (ad a N s.heap.size) (ws.set k (q, .inl (cA, n, .inl (fillF i v f)))) → va_S (ad a N s.heap.size) s.heap H locs → lv_has ls 4 [(0, .ref q), (1, .int v), (2, .int (nI i)), (3, .int (nI n))] → W p l e rm_fillI s m args below meth c H locs 0 0 (MQ below (Qv D (ws.set k (q, .inl (cA, n, .inl (fillF n v f)))) (ad a N s.heap.size)) args s 0 0 (ad a N s.heap.size)) (F0 m 5 ls []) := by
  intro r
  induction r with
  | zero =>
    intro i hi H locs ls hP hD hS hl
    have ei : i = n := by omega
    subst ei
    refine lv_iload_n X.1 X.2.1 dJ7_fill_53178_5 rfl (lv_at hl 2 rfl) ?_
    refine lv_iload_n X.1 X.2.1 dJ7_fill_53178_6 rfl (lv_at hl 3 rfl) ?_
    refine lv_icmp_ge (tgt := 20) X.1 X.2.1 dJ7_fill_53178_7 (by decide) (fun h => ?_) (fun h => ?_)
    · exact ret_v X hS hP dJ7_fill_53178_20
    · exact absurd (nI_le (Nat.le_refl i) hn) h
  | succ r ih =>
    intro i hi H locs ls hP hD hS hl
    have hlt : i < n := by omega
    have hk : k < ws.length := (List.getElem?_eq_some_iff.mp he).1
    refine lv_iload_n X.1 X.2.1 dJ7_fill_53178_5 rfl (lv_at hl 2 rfl) ?_
    refine lv_iload_n X.1 X.2.1 dJ7_fill_53178_6 rfl (lv_at hl 3 rfl) ?_
    refine lv_icmp_ge (tgt := 20) X.1 X.2.1 dJ7_fill_53178_7 (by decide) (fun h => ?_) (fun h => ?_)
    · exact absurd h (nI_ge hlt hn)
    · refine lv_aload_n X.1 X.2.1 dJ7_fill_53178_10 rfl (lv_at hl 0 rfl) ?_
      refine lv_iload_n X.1 X.2.1 dJ7_fill_53178_11 rfl (lv_at hl 2 rfl) ?_
      refine lv_iload_n X.1 X.2.1 dJ7_fill_53178_12 rfl (lv_at hl 1 rfl) ?_
      have hcl : (nI i).toNatClampNeg = i := nI_clamp (by omega)
      refine va_iast X.1 X.2.1 X.2.2.2.2.2.2.1 hP hD hS k t0 (List.getElem?_set_self hk) ht (vp_in_nI hlt hn) dJ7_fill_53178_13 (fun H locs hP hD hS => ?_)
      rw [hcl, fillF_s, List.set_set] at hP hD
      refine lv_iinc (v := nI (i + 1)) (lv' := [(2, .int (nI (i + 1))), (0, .ref q), (1, .int v), (3, .int (nI n))]) X.1 X.2.1 dJ7_fill_53178_14 hl (k := 2) rfl (nI_1 i) (by decide) rfl (fun ls hl => ?_)
      refine lv_goto (tgt := 5) X.1 X.2.1 dJ7_fill_53178_17 (by decide) ?_
      exact ih (i + 1) (by omega) H locs ls hP hD hS (lv_sub hl [1, 2, 0, 3] rfl)
set_option maxHeartbeats 4000000 in
theorem c_fillI {N : Nat} {l : Launch} {D : va_G} {tys : List (ClassId × FieldType)} {a : Nat → Nat} {ws : va_W} {k t0 q n : Nat} {cA : ClassId} {f : Nat → Int32} {v : Int32} (hAp : ∀ i j, i < N → j < N → a i = a j → i = j) (he : ws[k]? = some (q, .inl (cA, n, .inl f))) (ht : tys[t0]? = some (cA, .int)) (hn : n < 2 ^ 31) (hD : ∀ sz, va_D (ad a N sz) ws) :
    Ct N l yJ7_fill_53178 cJ7_fill_53178 4 none rm_fillI D tys a ws [.ref q, .int v] (Qv D (ws.set k (q, .inl (cA, n, .inl (fillF n v f))))) :=
  Ct.of (by decide +kernel) hAp (Nat.le_of_ble_eq_true rfl) (fun p e s m args below meth c ls X hP hl => by
    have hw : ws.set k (q, .inl (cA, n, .inl (fillF 0 v f))) = ws := by rw [fillF_0]; exact set_id he
    refine lv_iconst (v := 0) X.1 X.2.1 dJ7_fill_53178_0 (by decide) ?_
    refine lv_istore_n (lv' := [(2, .int 0), (0, .ref q), (1, .int v)]) X.1 X.2.1 dJ7_fill_53178_1 rfl hl (by decide) rfl (fun ls hl => ?_)
    refine lv_aload_n X.1 X.2.1 dJ7_fill_53178_2 rfl (lv_at hl 1 rfl) ?_
    refine va_alen X.1 X.2.1 X.2.2.2.2.2.2.1 hP k t0 he ht (v := nI n) rfl dJ7_fill_53178_3 ?_
    refine lv_istore_n (lv' := [(3, .int (nI n)), (2, .int 0), (0, .ref q), (1, .int v)]) X.1 X.2.1 dJ7_fill_53178_4 rfl hl (by decide) rfl (fun ls hl => ?_)
    exact fillI_loop X he ht hn n 0 (by omega) _ _ ls (by rw [hw]; exact hP) (by rw [hw]; exact hD _) va_S.rf (lv_sub hl [2, 3, 1, 0] rfl))
abbrev rm_fillJ : Room := { frames := 0, cells := 0, slots := 0, locals := 0 }
set_option maxHeartbeats 4000000 in
theorem fillJ_loop {N : Nat} {p : Program} {l : Launch} {e : Env} {s : State} {m : MethodId} {args : Array Value} {below : List Frame} {meth : Method} {c : Code} {D : va_G} {tys : List (ClassId × FieldType)} {a : Nat → Nat} {ws : va_W} {k t0 q n : Nat} {cA : ClassId} {f : Nat → Int64} {v : Int64} (X : cx N p s m args meth c D tys a cJ7_fill_d0a16 5 RJ7 none) (he : ws[k]? = some (q, .inl (cA, n, .inr (.inl f)))) (ht : tys[t0]? = some (cA, .long)) (hn : n < 2 ^ 31) :
    ∀ (r i : Nat), i + r = n → ∀ (H : Heap) (locs : List Loc) (ls : Array Slot), va_P D vwCl (ws.set k (q, .inl (cA, n, .inr (.inl (fillL i v f))))) H → va_D (ad a N s.heap.size) (ws.set k (q, .inl (cA, n, .inr (.inl (fillL i v f))))) → va_S (ad a N s.heap.size) s.heap H locs → lv_has ls 5 [(0, .ref q), (1, .long v), (3, .int (nI i)), (4, .int (nI n))] → W p l e rm_fillJ s m args below meth c H locs 0 0 (MQ below (Qv D (ws.set k (q, .inl (cA, n, .inr (.inl (fillL n v f))))) (ad a N s.heap.size)) args s 0 0 (ad a N s.heap.size)) (F0 m 6 ls []) := by
  intro r
  induction r with
  | zero =>
    intro i hi H locs ls hP hD hS hl
    have ei : i = n := by omega
    subst ei
    refine lv_iload_n X.1 X.2.1 dJ7_fill_d0a16_6 rfl (lv_at hl 2 rfl) ?_
    refine lv_iload X.1 X.2.1 dJ7_fill_d0a16_7 (lv_at hl 3 rfl) ?_
    refine lv_icmp_ge (tgt := 22) X.1 X.2.1 dJ7_fill_d0a16_9 (by decide) (fun h => ?_) (fun h => ?_)
    · exact ret_v X hS hP dJ7_fill_d0a16_22
    · exact absurd (nI_le (Nat.le_refl i) hn) h
  | succ r ih =>
    intro i hi H locs ls hP hD hS hl
    have hlt : i < n := by omega
    have hk : k < ws.length := (List.getElem?_eq_some_iff.mp he).1
    refine lv_iload_n X.1 X.2.1 dJ7_fill_d0a16_6 rfl (lv_at hl 2 rfl) ?_
    refine lv_iload X.1 X.2.1 dJ7_fill_d0a16_7 (lv_at hl 3 rfl) ?_
    refine lv_icmp_ge (tgt := 22) X.1 X.2.1 dJ7_fill_d0a16_9 (by decide) (fun h => ?_) (fun h => ?_)
    · exact absurd h (nI_ge hlt hn)
    · refine lv_aload_n X.1 X.2.1 dJ7_fill_d0a16_12 rfl (lv_at hl 0 rfl) ?_
      refine lv_iload_n X.1 X.2.1 dJ7_fill_d0a16_13 rfl (lv_at hl 2 rfl) ?_
      refine lv_lload_n X.1 X.2.1 dJ7_fill_d0a16_14 rfl (lv_at hl 1 rfl) ?_
      have hcl : (nI i).toNatClampNeg = i := nI_clamp (by omega)
      refine va_last X.1 X.2.1 X.2.2.2.2.2.2.1 hP hD hS k t0 (List.getElem?_set_self hk) ht (vp_in_nI hlt hn) dJ7_fill_d0a16_15 (fun H locs hP hD hS => ?_)
      rw [hcl, fillL_s, List.set_set] at hP hD
      refine lv_iinc (v := nI (i + 1)) (lv' := [(3, .int (nI (i + 1))), (0, .ref q), (1, .long v), (4, .int (nI n))]) X.1 X.2.1 dJ7_fill_d0a16_16 hl (k := 2) rfl (nI_1 i) (by decide) rfl (fun ls hl => ?_)
      refine lv_goto (tgt := 6) X.1 X.2.1 dJ7_fill_d0a16_19 (by decide) ?_
      exact ih (i + 1) (by omega) H locs ls hP hD hS (lv_sub hl [1, 2, 0, 3] rfl)
set_option maxHeartbeats 4000000 in
theorem c_fillJ {N : Nat} {l : Launch} {D : va_G} {tys : List (ClassId × FieldType)} {a : Nat → Nat} {ws : va_W} {k t0 q n : Nat} {cA : ClassId} {f : Nat → Int64} {v : Int64} (hAp : ∀ i j, i < N → j < N → a i = a j → i = j) (he : ws[k]? = some (q, .inl (cA, n, .inr (.inl f)))) (ht : tys[t0]? = some (cA, .long)) (hn : n < 2 ^ 31) (hD : ∀ sz, va_D (ad a N sz) ws) :
    Ct N l yJ7_fill_d0a16 cJ7_fill_d0a16 5 none rm_fillJ D tys a ws [.ref q, .long v] (Qv D (ws.set k (q, .inl (cA, n, .inr (.inl (fillL n v f)))))) :=
  Ct.of (by decide +kernel) hAp (Nat.le_of_ble_eq_true rfl) (fun p e s m args below meth c ls X hP hl => by
    have hw : ws.set k (q, .inl (cA, n, .inr (.inl (fillL 0 v f)))) = ws := by rw [fillL_0]; exact set_id he
    refine lv_iconst (v := 0) X.1 X.2.1 dJ7_fill_d0a16_0 (by decide) ?_
    refine lv_istore_n (lv' := [(3, .int 0), (0, .ref q), (1, .long v)]) X.1 X.2.1 dJ7_fill_d0a16_1 rfl hl (by decide) rfl (fun ls hl => ?_)
    refine lv_aload_n X.1 X.2.1 dJ7_fill_d0a16_2 rfl (lv_at hl 1 rfl) ?_
    refine va_alen X.1 X.2.1 X.2.2.2.2.2.2.1 hP k t0 he ht (v := nI n) rfl dJ7_fill_d0a16_3 ?_
    refine lv_istore (lv' := [(4, .int (nI n)), (3, .int 0), (0, .ref q), (1, .long v)]) X.1 X.2.1 dJ7_fill_d0a16_4 hl (by decide) rfl (fun ls hl => ?_)
    exact fillJ_loop X he ht hn n 0 (by omega) _ _ ls (by rw [hw]; exact hP) (by rw [hw]; exact hD _) va_S.rf (lv_sub hl [2, 3, 1, 0] rfl))
theorem call_sw {N : Nat} {p : Program} {l : Launch} {e : Env} {R : Room} {s : State} {m : MethodId} {args : Array Value} {below : List Frame} {meth : Method} {c : Code} {H : Heap} {locs : List Loc} {Q : State → Prop} {cc : ByteArray} {nL pc : Nat} {ls : Array Slot} {rest st0 : List Value} {D : va_G} {tys : List (ClassId × FieldType)} {a : Nat → Nat} {ws ws' : va_W} {own : String} {ret : Option FieldType} {y : MethodName} {bytes : ByteArray} {idx maxL n : Nat} {rt : Option FieldType} {rm : Room} {As : List Value} (X : cx N p s m args meth c D tys a cc nL own ret) (hM : Ct N l y bytes maxL rt rm D tys a ws As (Qv D ws'))
    (h1 : Cond.methodLink own idx y ∈ gw) (h2 : Cond.static y ∈ gw) (h4 : Cond.initialized y.cls ∈ gw) (h5 : Cond.code y bytes maxL rt ∈ gw) (hd : okV y y.cls n) (hn : As.length = n)
    (hR : rm.frames + 1 ≤ R.frames ∧ 8 + (maxL + 11) + rm.locals ≤ R.locals) (hrc : rm.cells = 0) (hrs : rm.slots = 0) (hls : ls.size = nL) (hst : st0 = As.reverse ++ rest) (hW : (rest.map fun v => v.category).sum ≤ 8) (hdg : decode cc pc = .ok (.invokestatic idx, 3))
    (hP : va_P D vwCl ws H) (hS : va_S (ad a N s.heap.size) s.heap H locs) (kk : ∀ (H1 : Heap) (locs1 : List Loc), va_P D vwCl ws' H1 → va_S (ad a N s.heap.size) s.heap H1 locs1 → W p l e R s m args below meth c H1 locs1 0 0 Q (F0 m (pc + 3) ls rest)) : W p l e R s m args below meth c H locs 0 0 Q (F0 m pc ls st0) := by
  obtain ⟨hx, hb, hml, hr, hown, hT, hK, hAp, hlk⟩ := X
  refine va_callv (va_runS (As := As) (rest := rest) ⟨hx, hb, hml, hown, hT⟩ (hM H.size) (va_cwS n hT (wsS_gw h1 h2 h4 h5) rfl hrc hrs hd.2 hR) ⟨Pw_blind, fun U hU hW => ⟨rfl, by rw [hU], by rw [hU]; exact hP, va_K.moved hW.alike hK⟩⟩ rfl hn hls hst (lv_room hW) hdg ⟨Nat.zero_le _, Nat.zero_le _⟩) hS (fun q hq h => ad_lt q hq h) (fun q h => ad_sub hS.1 q h) (fun u t H1 locs1 ht hvm hw hB hz1 hk1 hS1 => ?_)
  rw [ht] at hB
  exact kk H1 locs1 hB hS1
theorem ok_J7_fill_53178 : okV yJ7_fill_53178 yJ7_fill_53178.cls 2 := ⟨rfl, by decide +kernel, by decide +kernel, by decide +kernel⟩
theorem ok_J7_fill_d0a16 : okV yJ7_fill_d0a16 yJ7_fill_d0a16.cls 2 := ⟨rfl, by decide +kernel, by decide +kernel, by decide +kernel⟩
theorem flC_12 {p : Program} {l : Launch} {e : Env} {R : Room} {s : State} {m : MethodId} {args : Array Value} {below : List Frame} {meth : Method} {c : Code} {H : Heap} {locs : List Loc} {Q : State → Prop} {cc : ByteArray} {nL pc idx : Nat} {ls : Array Slot} {rest : List Value} {D : va_G} {a : Nat → Nat} {kc : Nat → ClassId} {own : String} {ret : Option FieldType} {F : Nat → Int32} {G : Nat → Int64} {I : Nat → Nat → Int32} {J : Nat → Nat → Int64} {Z : Nat → Nat → Nat → Int32} (X : cx 44 p s m args meth c D (tyC kc) a cc nL own ret) {v : Int64} {y : Nat → Int64} (hy : fillL 256 v (J 0) = y) (h1 : Cond.methodLink own idx yJ7_fill_d0a16 ∈ gw) (hf : 1 ≤ R.frames) (hl : 24 ≤ R.locals) (hls : ls.size = nL) (hW : (rest.map fun v => v.category).sum ≤ 8) (hdg : decode cc pc = .ok (.invokestatic idx, 3)) (hP : va_P D vwCl (wC a kc F G I J Z) H) (hS : va_S (ad a 44 s.heap.size) s.heap H locs) (kk : ∀ (H1 : Heap) (locs1 : List Loc), va_P D vwCl (wC a kc F G I (va_up J 0 y) Z) H1 → va_S (ad a 44 s.heap.size) s.heap H1 locs1 → W p l e R s m args below meth c H1 locs1 0 0 Q (F0 m (pc + 3) ls rest)) : W p l e R s m args below meth c H locs 0 0 Q (F0 m pc ls (.long v :: .ref (a 12) :: rest)) := by
  subst hy
  exact call_sw (rest := rest) X (c_fillJ (k := 12) (t0 := 10) X.2.2.2.2.2.2.2.1 rfl rfl (Nat.lt_of_lt_of_le (show 256 < 4096 by decide) (Nat.le_of_ble_eq_true rfl)) (fun sz => wC_D X.2.2.2.2.2.2.2.1)) h1 q_2_156 q_1_3 q_2_157 ok_J7_fill_d0a16 rfl ⟨hf, Nat.le_trans (Nat.le_of_ble_eq_true rfl) hl⟩ rfl rfl hls rfl hW hdg hP hS kk
theorem flC_13 {p : Program} {l : Launch} {e : Env} {R : Room} {s : State} {m : MethodId} {args : Array Value} {below : List Frame} {meth : Method} {c : Code} {H : Heap} {locs : List Loc} {Q : State → Prop} {cc : ByteArray} {nL pc idx : Nat} {ls : Array Slot} {rest : List Value} {D : va_G} {a : Nat → Nat} {kc : Nat → ClassId} {own : String} {ret : Option FieldType} {F : Nat → Int32} {G : Nat → Int64} {I : Nat → Nat → Int32} {J : Nat → Nat → Int64} {Z : Nat → Nat → Nat → Int32} (X : cx 44 p s m args meth c D (tyC kc) a cc nL own ret) {v : Int64} {y : Nat → Int64} (hy : fillL 64 v (J 1) = y) (h1 : Cond.methodLink own idx yJ7_fill_d0a16 ∈ gw) (hf : 1 ≤ R.frames) (hl : 24 ≤ R.locals) (hls : ls.size = nL) (hW : (rest.map fun v => v.category).sum ≤ 8) (hdg : decode cc pc = .ok (.invokestatic idx, 3)) (hP : va_P D vwCl (wC a kc F G I J Z) H) (hS : va_S (ad a 44 s.heap.size) s.heap H locs) (kk : ∀ (H1 : Heap) (locs1 : List Loc), va_P D vwCl (wC a kc F G I (va_up J 1 y) Z) H1 → va_S (ad a 44 s.heap.size) s.heap H1 locs1 → W p l e R s m args below meth c H1 locs1 0 0 Q (F0 m (pc + 3) ls rest)) : W p l e R s m args below meth c H locs 0 0 Q (F0 m pc ls (.long v :: .ref (a 13) :: rest)) := by
  subst hy
  exact call_sw (rest := rest) X (c_fillJ (k := 13) (t0 := 11) X.2.2.2.2.2.2.2.1 rfl rfl (Nat.lt_of_lt_of_le (show 64 < 4096 by decide) (Nat.le_of_ble_eq_true rfl)) (fun sz => wC_D X.2.2.2.2.2.2.2.1)) h1 q_2_156 q_1_3 q_2_157 ok_J7_fill_d0a16 rfl ⟨hf, Nat.le_trans (Nat.le_of_ble_eq_true rfl) hl⟩ rfl rfl hls rfl hW hdg hP hS kk
theorem flC_14 {p : Program} {l : Launch} {e : Env} {R : Room} {s : State} {m : MethodId} {args : Array Value} {below : List Frame} {meth : Method} {c : Code} {H : Heap} {locs : List Loc} {Q : State → Prop} {cc : ByteArray} {nL pc idx : Nat} {ls : Array Slot} {rest : List Value} {D : va_G} {a : Nat → Nat} {kc : Nat → ClassId} {own : String} {ret : Option FieldType} {F : Nat → Int32} {G : Nat → Int64} {I : Nat → Nat → Int32} {J : Nat → Nat → Int64} {Z : Nat → Nat → Nat → Int32} (X : cx 44 p s m args meth c D (tyC kc) a cc nL own ret) {v : Int64} {y : Nat → Int64} (hy : fillL 9 v (J 2) = y) (h1 : Cond.methodLink own idx yJ7_fill_d0a16 ∈ gw) (hf : 1 ≤ R.frames) (hl : 24 ≤ R.locals) (hls : ls.size = nL) (hW : (rest.map fun v => v.category).sum ≤ 8) (hdg : decode cc pc = .ok (.invokestatic idx, 3)) (hP : va_P D vwCl (wC a kc F G I J Z) H) (hS : va_S (ad a 44 s.heap.size) s.heap H locs) (kk : ∀ (H1 : Heap) (locs1 : List Loc), va_P D vwCl (wC a kc F G I (va_up J 2 y) Z) H1 → va_S (ad a 44 s.heap.size) s.heap H1 locs1 → W p l e R s m args below meth c H1 locs1 0 0 Q (F0 m (pc + 3) ls rest)) : W p l e R s m args below meth c H locs 0 0 Q (F0 m pc ls (.long v :: .ref (a 14) :: rest)) := by
  subst hy
  exact call_sw (rest := rest) X (c_fillJ (k := 14) (t0 := 12) X.2.2.2.2.2.2.2.1 rfl rfl (Nat.lt_of_lt_of_le (show 9 < 4096 by decide) (Nat.le_of_ble_eq_true rfl)) (fun sz => wC_D X.2.2.2.2.2.2.2.1)) h1 q_2_156 q_1_3 q_2_157 ok_J7_fill_d0a16 rfl ⟨hf, Nat.le_trans (Nat.le_of_ble_eq_true rfl) hl⟩ rfl rfl hls rfl hW hdg hP hS kk
theorem flC_15 {p : Program} {l : Launch} {e : Env} {R : Room} {s : State} {m : MethodId} {args : Array Value} {below : List Frame} {meth : Method} {c : Code} {H : Heap} {locs : List Loc} {Q : State → Prop} {cc : ByteArray} {nL pc idx : Nat} {ls : Array Slot} {rest : List Value} {D : va_G} {a : Nat → Nat} {kc : Nat → ClassId} {own : String} {ret : Option FieldType} {F : Nat → Int32} {G : Nat → Int64} {I : Nat → Nat → Int32} {J : Nat → Nat → Int64} {Z : Nat → Nat → Nat → Int32} (X : cx 44 p s m args meth c D (tyC kc) a cc nL own ret) {v : Int64} {y : Nat → Int64} (hy : fillL 8 v (J 3) = y) (h1 : Cond.methodLink own idx yJ7_fill_d0a16 ∈ gw) (hf : 1 ≤ R.frames) (hl : 24 ≤ R.locals) (hls : ls.size = nL) (hW : (rest.map fun v => v.category).sum ≤ 8) (hdg : decode cc pc = .ok (.invokestatic idx, 3)) (hP : va_P D vwCl (wC a kc F G I J Z) H) (hS : va_S (ad a 44 s.heap.size) s.heap H locs) (kk : ∀ (H1 : Heap) (locs1 : List Loc), va_P D vwCl (wC a kc F G I (va_up J 3 y) Z) H1 → va_S (ad a 44 s.heap.size) s.heap H1 locs1 → W p l e R s m args below meth c H1 locs1 0 0 Q (F0 m (pc + 3) ls rest)) : W p l e R s m args below meth c H locs 0 0 Q (F0 m pc ls (.long v :: .ref (a 15) :: rest)) := by
  subst hy
  exact call_sw (rest := rest) X (c_fillJ (k := 15) (t0 := 13) X.2.2.2.2.2.2.2.1 rfl rfl (Nat.lt_of_lt_of_le (show 8 < 4096 by decide) (Nat.le_of_ble_eq_true rfl)) (fun sz => wC_D X.2.2.2.2.2.2.2.1)) h1 q_2_156 q_1_3 q_2_157 ok_J7_fill_d0a16 rfl ⟨hf, Nat.le_trans (Nat.le_of_ble_eq_true rfl) hl⟩ rfl rfl hls rfl hW hdg hP hS kk
theorem flC_16 {p : Program} {l : Launch} {e : Env} {R : Room} {s : State} {m : MethodId} {args : Array Value} {below : List Frame} {meth : Method} {c : Code} {H : Heap} {locs : List Loc} {Q : State → Prop} {cc : ByteArray} {nL pc idx : Nat} {ls : Array Slot} {rest : List Value} {D : va_G} {a : Nat → Nat} {kc : Nat → ClassId} {own : String} {ret : Option FieldType} {F : Nat → Int32} {G : Nat → Int64} {I : Nat → Nat → Int32} {J : Nat → Nat → Int64} {Z : Nat → Nat → Nat → Int32} (X : cx 44 p s m args meth c D (tyC kc) a cc nL own ret) {v : Int64} {y : Nat → Int64} (hy : fillL 2304 v (J 4) = y) (h1 : Cond.methodLink own idx yJ7_fill_d0a16 ∈ gw) (hf : 1 ≤ R.frames) (hl : 24 ≤ R.locals) (hls : ls.size = nL) (hW : (rest.map fun v => v.category).sum ≤ 8) (hdg : decode cc pc = .ok (.invokestatic idx, 3)) (hP : va_P D vwCl (wC a kc F G I J Z) H) (hS : va_S (ad a 44 s.heap.size) s.heap H locs) (kk : ∀ (H1 : Heap) (locs1 : List Loc), va_P D vwCl (wC a kc F G I (va_up J 4 y) Z) H1 → va_S (ad a 44 s.heap.size) s.heap H1 locs1 → W p l e R s m args below meth c H1 locs1 0 0 Q (F0 m (pc + 3) ls rest)) : W p l e R s m args below meth c H locs 0 0 Q (F0 m pc ls (.long v :: .ref (a 16) :: rest)) := by
  subst hy
  exact call_sw (rest := rest) X (c_fillJ (k := 16) (t0 := 14) X.2.2.2.2.2.2.2.1 rfl rfl (Nat.lt_of_lt_of_le (show 2304 < 4096 by decide) (Nat.le_of_ble_eq_true rfl)) (fun sz => wC_D X.2.2.2.2.2.2.2.1)) h1 q_2_156 q_1_3 q_2_157 ok_J7_fill_d0a16 rfl ⟨hf, Nat.le_trans (Nat.le_of_ble_eq_true rfl) hl⟩ rfl rfl hls rfl hW hdg hP hS kk
theorem flC_23 {p : Program} {l : Launch} {e : Env} {R : Room} {s : State} {m : MethodId} {args : Array Value} {below : List Frame} {meth : Method} {c : Code} {H : Heap} {locs : List Loc} {Q : State → Prop} {cc : ByteArray} {nL pc idx : Nat} {ls : Array Slot} {rest : List Value} {D : va_G} {a : Nat → Nat} {kc : Nat → ClassId} {own : String} {ret : Option FieldType} {F : Nat → Int32} {G : Nat → Int64} {I : Nat → Nat → Int32} {J : Nat → Nat → Int64} {Z : Nat → Nat → Nat → Int32} (X : cx 44 p s m args meth c D (tyC kc) a cc nL own ret) {v : Int64} {y : Nat → Int64} (hy : fillL 8 v (J 7) = y) (h1 : Cond.methodLink own idx yJ7_fill_d0a16 ∈ gw) (hf : 1 ≤ R.frames) (hl : 24 ≤ R.locals) (hls : ls.size = nL) (hW : (rest.map fun v => v.category).sum ≤ 8) (hdg : decode cc pc = .ok (.invokestatic idx, 3)) (hP : va_P D vwCl (wC a kc F G I J Z) H) (hS : va_S (ad a 44 s.heap.size) s.heap H locs) (kk : ∀ (H1 : Heap) (locs1 : List Loc), va_P D vwCl (wC a kc F G I (va_up J 7 y) Z) H1 → va_S (ad a 44 s.heap.size) s.heap H1 locs1 → W p l e R s m args below meth c H1 locs1 0 0 Q (F0 m (pc + 3) ls rest)) : W p l e R s m args below meth c H locs 0 0 Q (F0 m pc ls (.long v :: .ref (a 23) :: rest)) := by
  subst hy
  exact call_sw (rest := rest) X (c_fillJ (k := 23) (t0 := 19) X.2.2.2.2.2.2.2.1 rfl rfl (Nat.lt_of_lt_of_le (show 8 < 4096 by decide) (Nat.le_of_ble_eq_true rfl)) (fun sz => wC_D X.2.2.2.2.2.2.2.1)) h1 q_2_156 q_1_3 q_2_157 ok_J7_fill_d0a16 rfl ⟨hf, Nat.le_trans (Nat.le_of_ble_eq_true rfl) hl⟩ rfl rfl hls rfl hW hdg hP hS kk
theorem flC_28 {p : Program} {l : Launch} {e : Env} {R : Room} {s : State} {m : MethodId} {args : Array Value} {below : List Frame} {meth : Method} {c : Code} {H : Heap} {locs : List Loc} {Q : State → Prop} {cc : ByteArray} {nL pc idx : Nat} {ls : Array Slot} {rest : List Value} {D : va_G} {a : Nat → Nat} {kc : Nat → ClassId} {own : String} {ret : Option FieldType} {F : Nat → Int32} {G : Nat → Int64} {I : Nat → Nat → Int32} {J : Nat → Nat → Int64} {Z : Nat → Nat → Nat → Int32} (X : cx 44 p s m args meth c D (tyC kc) a cc nL own ret) {v : Int32} {y : Nat → Int32} (hy : fillF 64 v (I 13) = y) (h1 : Cond.methodLink own idx yJ7_fill_53178 ∈ gw) (hf : 1 ≤ R.frames) (hl : 24 ≤ R.locals) (hls : ls.size = nL) (hW : (rest.map fun v => v.category).sum ≤ 8) (hdg : decode cc pc = .ok (.invokestatic idx, 3)) (hP : va_P D vwCl (wC a kc F G I J Z) H) (hS : va_S (ad a 44 s.heap.size) s.heap H locs) (kk : ∀ (H1 : Heap) (locs1 : List Loc), va_P D vwCl (wC a kc F G (va_up I 13 y) J Z) H1 → va_S (ad a 44 s.heap.size) s.heap H1 locs1 → W p l e R s m args below meth c H1 locs1 0 0 Q (F0 m (pc + 3) ls rest)) : W p l e R s m args below meth c H locs 0 0 Q (F0 m pc ls (.int v :: .ref (a 28) :: rest)) := by
  subst hy
  exact call_sw (rest := rest) X (c_fillI (k := 28) (t0 := 24) X.2.2.2.2.2.2.2.1 rfl rfl (Nat.lt_of_lt_of_le (show 64 < 4096 by decide) (Nat.le_of_ble_eq_true rfl)) (fun sz => wC_D X.2.2.2.2.2.2.2.1)) h1 q_1_46 q_1_3 q_1_47 ok_J7_fill_53178 rfl ⟨hf, Nat.le_trans (Nat.le_of_ble_eq_true rfl) hl⟩ rfl rfl hls rfl hW hdg hP hS kk
theorem flC_26 {p : Program} {l : Launch} {e : Env} {R : Room} {s : State} {m : MethodId} {args : Array Value} {below : List Frame} {meth : Method} {c : Code} {H : Heap} {locs : List Loc} {Q : State → Prop} {cc : ByteArray} {nL pc idx : Nat} {ls : Array Slot} {rest : List Value} {D : va_G} {a : Nat → Nat} {kc : Nat → ClassId} {own : String} {ret : Option FieldType} {F : Nat → Int32} {G : Nat → Int64} {I : Nat → Nat → Int32} {J : Nat → Nat → Int64} {Z : Nat → Nat → Nat → Int32} (X : cx 44 p s m args meth c D (tyC kc) a cc nL own ret) {v : Int32} {y : Nat → Int32} (hy : fillF 8 v (I 11) = y) (h1 : Cond.methodLink own idx yJ7_fill_53178 ∈ gw) (hf : 1 ≤ R.frames) (hl : 24 ≤ R.locals) (hls : ls.size = nL) (hW : (rest.map fun v => v.category).sum ≤ 8) (hdg : decode cc pc = .ok (.invokestatic idx, 3)) (hP : va_P D vwCl (wC a kc F G I J Z) H) (hS : va_S (ad a 44 s.heap.size) s.heap H locs) (kk : ∀ (H1 : Heap) (locs1 : List Loc), va_P D vwCl (wC a kc F G (va_up I 11 y) J Z) H1 → va_S (ad a 44 s.heap.size) s.heap H1 locs1 → W p l e R s m args below meth c H1 locs1 0 0 Q (F0 m (pc + 3) ls rest)) : W p l e R s m args below meth c H locs 0 0 Q (F0 m pc ls (.int v :: .ref (a 26) :: rest)) := by
  subst hy
  exact call_sw (rest := rest) X (c_fillI (k := 26) (t0 := 22) X.2.2.2.2.2.2.2.1 rfl rfl (Nat.lt_of_lt_of_le (show 8 < 4096 by decide) (Nat.le_of_ble_eq_true rfl)) (fun sz => wC_D X.2.2.2.2.2.2.2.1)) h1 q_1_46 q_1_3 q_1_47 ok_J7_fill_53178 rfl ⟨hf, Nat.le_trans (Nat.le_of_ble_eq_true rfl) hl⟩ rfl rfl hls rfl hW hdg hP hS kk
theorem flC_8 {p : Program} {l : Launch} {e : Env} {R : Room} {s : State} {m : MethodId} {args : Array Value} {below : List Frame} {meth : Method} {c : Code} {H : Heap} {locs : List Loc} {Q : State → Prop} {cc : ByteArray} {nL pc idx : Nat} {ls : Array Slot} {rest : List Value} {D : va_G} {a : Nat → Nat} {kc : Nat → ClassId} {own : String} {ret : Option FieldType} {F : Nat → Int32} {G : Nat → Int64} {I : Nat → Nat → Int32} {J : Nat → Nat → Int64} {Z : Nat → Nat → Nat → Int32} (X : cx 44 p s m args meth c D (tyC kc) a cc nL own ret) {v : Int32} {y : Nat → Int32} (hy : fillF 3 v (I 4) = y) (h1 : Cond.methodLink own idx yJ7_fill_53178 ∈ gw) (hf : 1 ≤ R.frames) (hl : 24 ≤ R.locals) (hls : ls.size = nL) (hW : (rest.map fun v => v.category).sum ≤ 8) (hdg : decode cc pc = .ok (.invokestatic idx, 3)) (hP : va_P D vwCl (wC a kc F G I J Z) H) (hS : va_S (ad a 44 s.heap.size) s.heap H locs) (kk : ∀ (H1 : Heap) (locs1 : List Loc), va_P D vwCl (wC a kc F G (va_up I 4 y) J Z) H1 → va_S (ad a 44 s.heap.size) s.heap H1 locs1 → W p l e R s m args below meth c H1 locs1 0 0 Q (F0 m (pc + 3) ls rest)) : W p l e R s m args below meth c H locs 0 0 Q (F0 m pc ls (.int v :: .ref (a 8) :: rest)) := by
  subst hy
  exact call_sw (rest := rest) X (c_fillI (k := 8) (t0 := 7) X.2.2.2.2.2.2.2.1 rfl rfl (Nat.lt_of_lt_of_le (show 3 < 4096 by decide) (Nat.le_of_ble_eq_true rfl)) (fun sz => wC_D X.2.2.2.2.2.2.2.1)) h1 q_1_46 q_1_3 q_1_47 ok_J7_fill_53178 rfl ⟨hf, Nat.le_trans (Nat.le_of_ble_eq_true rfl) hl⟩ rfl rfl hls rfl hW hdg hP hS kk
theorem flC_29 {p : Program} {l : Launch} {e : Env} {R : Room} {s : State} {m : MethodId} {args : Array Value} {below : List Frame} {meth : Method} {c : Code} {H : Heap} {locs : List Loc} {Q : State → Prop} {cc : ByteArray} {nL pc idx : Nat} {ls : Array Slot} {rest : List Value} {D : va_G} {a : Nat → Nat} {kc : Nat → ClassId} {own : String} {ret : Option FieldType} {F : Nat → Int32} {G : Nat → Int64} {I : Nat → Nat → Int32} {J : Nat → Nat → Int64} {Z : Nat → Nat → Nat → Int32} (X : cx 44 p s m args meth c D (tyC kc) a cc nL own ret) {v : Int64} {y : Nat → Int64} (hy : fillL 256 v (J 8) = y) (h1 : Cond.methodLink own idx yJ7_fill_d0a16 ∈ gw) (hf : 1 ≤ R.frames) (hl : 24 ≤ R.locals) (hls : ls.size = nL) (hW : (rest.map fun v => v.category).sum ≤ 8) (hdg : decode cc pc = .ok (.invokestatic idx, 3)) (hP : va_P D vwCl (wC a kc F G I J Z) H) (hS : va_S (ad a 44 s.heap.size) s.heap H locs) (kk : ∀ (H1 : Heap) (locs1 : List Loc), va_P D vwCl (wC a kc F G I (va_up J 8 y) Z) H1 → va_S (ad a 44 s.heap.size) s.heap H1 locs1 → W p l e R s m args below meth c H1 locs1 0 0 Q (F0 m (pc + 3) ls rest)) : W p l e R s m args below meth c H locs 0 0 Q (F0 m pc ls (.long v :: .ref (a 29) :: rest)) := by
  subst hy
  exact call_sw (rest := rest) X (c_fillJ (k := 29) (t0 := 25) X.2.2.2.2.2.2.2.1 rfl rfl (Nat.lt_of_lt_of_le (show 256 < 4096 by decide) (Nat.le_of_ble_eq_true rfl)) (fun sz => wC_D X.2.2.2.2.2.2.2.1)) h1 q_2_156 q_1_3 q_2_157 ok_J7_fill_d0a16 rfl ⟨hf, Nat.le_trans (Nat.le_of_ble_eq_true rfl) hl⟩ rfl rfl hls rfl hW hdg hP hS kk
theorem flH_8 {p : Program} {l : Launch} {e : Env} {R : Room} {s : State} {m : MethodId} {args : Array Value} {below : List Frame} {meth : Method} {c : Code} {H : Heap} {locs : List Loc} {Q : State → Prop} {cc : ByteArray} {nL pc idx : Nat} {ls : Array Slot} {rest : List Value} {D : va_G} {a : Nat → Nat} {kc : Nat → ClassId} {own : String} {ret : Option FieldType} {F : Nat → Int32} {I : Nat → Nat → Int32} {Z : Nat → Nat → Nat → Int32} (X : cx 11 p s m args meth c D (tyH kc) a cc nL own ret) {v : Int32} {y : Nat → Int32} (hy : fillF 3 v (I 4) = y) (h1 : Cond.methodLink own idx yJ7_fill_53178 ∈ gw) (hf : 1 ≤ R.frames) (hl : 24 ≤ R.locals) (hls : ls.size = nL) (hW : (rest.map fun v => v.category).sum ≤ 8) (hdg : decode cc pc = .ok (.invokestatic idx, 3)) (hP : va_P D vwCl (wH a kc F I Z) H) (hS : va_S (ad a 11 s.heap.size) s.heap H locs) (kk : ∀ (H1 : Heap) (locs1 : List Loc), va_P D vwCl (wH a kc F (va_up I 4 y) Z) H1 → va_S (ad a 11 s.heap.size) s.heap H1 locs1 → W p l e R s m args below meth c H1 locs1 0 0 Q (F0 m (pc + 3) ls rest)) : W p l e R s m args below meth c H locs 0 0 Q (F0 m pc ls (.int v :: .ref (a 8) :: rest)) := by
  subst hy
  exact call_sw (rest := rest) X (c_fillI (k := 8) (t0 := 7) X.2.2.2.2.2.2.2.1 rfl rfl (Nat.lt_of_lt_of_le (show 3 < 4096 by decide) (Nat.le_of_ble_eq_true rfl)) (fun sz => wH_D X.2.2.2.2.2.2.2.1)) h1 q_1_46 q_1_3 q_1_47 ok_J7_fill_53178 rfl ⟨hf, Nat.le_trans (Nat.le_of_ble_eq_true rfl) hl⟩ rfl rfl hls rfl hW hdg hP hS kk
theorem flC_40 {p : Program} {l : Launch} {e : Env} {R : Room} {s : State} {m : MethodId} {args : Array Value} {below : List Frame} {meth : Method} {c : Code} {H : Heap} {locs : List Loc} {Q : State → Prop} {cc : ByteArray} {nL pc idx : Nat} {ls : Array Slot} {rest : List Value} {D : va_G} {a : Nat → Nat} {kc : Nat → ClassId} {own : String} {ret : Option FieldType} {F : Nat → Int32} {G : Nat → Int64} {I : Nat → Nat → Int32} {J : Nat → Nat → Int64} {Z : Nat → Nat → Nat → Int32} (X : cx 44 p s m args meth c D (tyC kc) a cc nL own ret) {v : Int32} {z : Nat} (h : z < 4) {y : Nat → Nat → Int32} (hy : va_up (Z 1) z (fillF 60 v (Z 1 z)) = y) (h1 : Cond.methodLink own idx yJ7_fill_53178 ∈ gw) (hf : 1 ≤ R.frames) (hl : 24 ≤ R.locals) (hls : ls.size = nL) (hW : (rest.map fun v => v.category).sum ≤ 8) (hdg : decode cc pc = .ok (.invokestatic idx, 3)) (hP : va_P D vwCl (wC a kc F G I J Z) H) (hS : va_S (ad a 44 s.heap.size) s.heap H locs) (kk : ∀ (H1 : Heap) (locs1 : List Loc), va_P D vwCl (wC a kc F G I J (va_up Z 1 y)) H1 → va_S (ad a 44 s.heap.size) s.heap H1 locs1 → W p l e R s m args below meth c H1 locs1 0 0 Q (F0 m (pc + 3) ls rest)) : W p l e R s m args below meth c H locs 0 0 Q (F0 m pc ls (.int v :: .ref (a (40 + z)) :: rest)) := by
  subst hy
  exact call_sw (rest := rest) X (c_fillI (k := 40 + z) (t0 := 29 + z) X.2.2.2.2.2.2.2.1 (atC_40 h) (atyC_40 h) (Nat.lt_of_lt_of_le (show 60 < 4096 by decide) (Nat.le_of_ble_eq_true rfl)) (fun sz => wC_D X.2.2.2.2.2.2.2.1)) h1 q_1_46 q_1_3 q_1_47 ok_J7_fill_53178 rfl ⟨hf, Nat.le_trans (Nat.le_of_ble_eq_true rfl) hl⟩ rfl rfl hls rfl hW hdg hP hS (fun H1 locs1 hP1 hS1 => kk H1 locs1 (by rw [setC_40 h] at hP1; exact hP1) hS1)
theorem cpC_19_18 {p : Program} {l : Launch} {e : Env} {R : Room} {s : State} {m : MethodId} {args : Array Value} {below : List Frame} {meth : Method} {c : Code} {H : Heap} {locs : List Loc} {Q : State → Prop} {cc : ByteArray} {nL pc idx : Nat} {ls : Array Slot} {rest : List Value} {D : va_G} {a : Nat → Nat} {kc : Nat → ClassId} {own : String} {ret : Option FieldType} {F : Nat → Int32} {G : Nat → Int64} {I : Nat → Nat → Int32} {J : Nat → Nat → Int64} {Z : Nat → Nat → Nat → Int32} (X : cx 44 p s m args meth c D (tyC kc) a cc nL own ret) {sp dp n : Int32} {y : Nat → Int32} (hc : cpB sp dp n 6 6 = true) (hy : va_cpy (I 8) (I 7) sp.toNatClampNeg dp.toNatClampNeg n.toNatClampNeg = y) (h1 : Cond.methodLink own idx arraycopyName ∈ gw) (hls : ls.size = nL) (hf : 1 ≤ R.frames) (hl : (rest.map fun v => v.category).sum + (nativeFrameWords "java/lang/System" "arraycopy" 5 + 11) ≤ R.locals) (hdg : decode cc pc = .ok (.invokestatic idx, 3)) (hP : va_P D vwCl (wC a kc F G I J Z) H) (hS : va_S (ad a 44 s.heap.size) s.heap H locs) (kk : ∀ (H1 : Heap) (locs1 : List Loc), va_P D vwCl (wC a kc F G (va_up I 7 y) J Z) H1 → va_S (ad a 44 s.heap.size) s.heap H1 locs1 → W p l e R s m args below meth c H1 locs1 0 0 Q (F0 m (pc + 3) ls rest)) : W p l e R s m args below meth c H locs 0 0 Q (F0 m pc ls (.int n :: .int dp :: .ref (a 18) :: .int sp :: .ref (a 19) :: rest)) := by
  subst hy
  obtain ⟨c1, c2, c3, c4, c5⟩ := cpB_s hc
  exact va_copyi X.1 X.2.1 (by rw [X.2.2.1, hls]) X.2.2.2.2.1 (X.2.2.2.2.2.1 _ h1) (X.2.2.2.2.2.1 _ q_3_41) (X.2.2.2.2.2.1 _ q_3_40) (X.2.2.2.2.2.1 _ q_1_12) X.2.2.2.2.2.2.1 hP (wC_D X.2.2.2.2.2.2.2.1) hS 19 18 16 15 rfl rfl rfl rfl rfl c1 c2 c3 c4 c5 (fun _ _ => rfl) hf hl hdg (fun H1 locs1 hP1 hD1 hS1 => kk H1 locs1 hP1 hS1)
theorem cpC_10_27 {p : Program} {l : Launch} {e : Env} {R : Room} {s : State} {m : MethodId} {args : Array Value} {below : List Frame} {meth : Method} {c : Code} {H : Heap} {locs : List Loc} {Q : State → Prop} {cc : ByteArray} {nL pc idx : Nat} {ls : Array Slot} {rest : List Value} {D : va_G} {a : Nat → Nat} {kc : Nat → ClassId} {own : String} {ret : Option FieldType} {F : Nat → Int32} {G : Nat → Int64} {I : Nat → Nat → Int32} {J : Nat → Nat → Int64} {Z : Nat → Nat → Nat → Int32} (X : cx 44 p s m args meth c D (tyC kc) a cc nL own ret) {sp dp n : Int32} {y : Nat → Int32} (hc : cpB sp dp n 8 8 = true) (hy : va_cpy (I 6) (I 12) sp.toNatClampNeg dp.toNatClampNeg n.toNatClampNeg = y) (h1 : Cond.methodLink own idx arraycopyName ∈ gw) (hls : ls.size = nL) (hf : 1 ≤ R.frames) (hl : (rest.map fun v => v.category).sum + (nativeFrameWords "java/lang/System" "arraycopy" 5 + 11) ≤ R.locals) (hdg : decode cc pc = .ok (.invokestatic idx, 3)) (hP : va_P D vwCl (wC a kc F G I J Z) H) (hS : va_S (ad a 44 s.heap.size) s.heap H locs) (kk : ∀ (H1 : Heap) (locs1 : List Loc), va_P D vwCl (wC a kc F G (va_up I 12 y) J Z) H1 → va_S (ad a 44 s.heap.size) s.heap H1 locs1 → W p l e R s m args below meth c H1 locs1 0 0 Q (F0 m (pc + 3) ls rest)) : W p l e R s m args below meth c H locs 0 0 Q (F0 m pc ls (.int n :: .int dp :: .ref (a 27) :: .int sp :: .ref (a 10) :: rest)) := by
  subst hy
  obtain ⟨c1, c2, c3, c4, c5⟩ := cpB_s hc
  exact va_copyi X.1 X.2.1 (by rw [X.2.2.1, hls]) X.2.2.2.2.1 (X.2.2.2.2.2.1 _ h1) (X.2.2.2.2.2.1 _ q_3_41) (X.2.2.2.2.2.1 _ q_3_40) (X.2.2.2.2.2.1 _ q_1_12) X.2.2.2.2.2.2.1 hP (wC_D X.2.2.2.2.2.2.2.1) hS 10 27 9 23 rfl rfl rfl rfl rfl c1 c2 c3 c4 c5 (fun _ _ => rfl) hf hl hdg (fun H1 locs1 hP1 hD1 hS1 => kk H1 locs1 hP1 hS1)
theorem cpC_40_40 {p : Program} {l : Launch} {e : Env} {R : Room} {s : State} {m : MethodId} {args : Array Value} {below : List Frame} {meth : Method} {c : Code} {H : Heap} {locs : List Loc} {Q : State → Prop} {cc : ByteArray} {nL pc idx : Nat} {ls : Array Slot} {rest : List Value} {D : va_G} {a : Nat → Nat} {kc : Nat → ClassId} {own : String} {ret : Option FieldType} {F : Nat → Int32} {G : Nat → Int64} {I : Nat → Nat → Int32} {J : Nat → Nat → Int64} {Z : Nat → Nat → Nat → Int32} (X : cx 44 p s m args meth c D (tyC kc) a cc nL own ret) {z0 z1 : Nat} (hz0 : z0 < 4) (hz1 : z1 < 4) {sp dp n : Int32} {y : Nat → Nat → Int32} (hc : cpB sp dp n 60 60 = true) (hy : va_up (Z 1) z1 (va_cpy (Z 1 z0) (Z 1 z1) sp.toNatClampNeg dp.toNatClampNeg n.toNatClampNeg) = y) (h1 : Cond.methodLink own idx arraycopyName ∈ gw) (hls : ls.size = nL) (hf : 1 ≤ R.frames) (hl : (rest.map fun v => v.category).sum + (nativeFrameWords "java/lang/System" "arraycopy" 5 + 11) ≤ R.locals) (hdg : decode cc pc = .ok (.invokestatic idx, 3)) (hP : va_P D vwCl (wC a kc F G I J Z) H) (hS : va_S (ad a 44 s.heap.size) s.heap H locs) (kk : ∀ (H1 : Heap) (locs1 : List Loc), va_P D vwCl (wC a kc F G I J (va_up Z 1 y)) H1 → va_S (ad a 44 s.heap.size) s.heap H1 locs1 → W p l e R s m args below meth c H1 locs1 0 0 Q (F0 m (pc + 3) ls rest)) : W p l e R s m args below meth c H locs 0 0 Q (F0 m pc ls (.int n :: .int dp :: .ref (a (40 + z1)) :: .int sp :: .ref (a (40 + z0)) :: rest)) := by
  subst hy
  obtain ⟨c1, c2, c3, c4, c5⟩ := cpB_s hc
  exact va_copyi X.1 X.2.1 (by rw [X.2.2.1, hls]) X.2.2.2.2.1 (X.2.2.2.2.2.1 _ h1) (X.2.2.2.2.2.1 _ q_3_41) (X.2.2.2.2.2.1 _ q_3_40) (X.2.2.2.2.2.1 _ q_1_12) X.2.2.2.2.2.2.1 hP (wC_D X.2.2.2.2.2.2.2.1) hS (40 + z0) (40 + z1) (29 + z0) (29 + z1) (atC_40 hz0) (atC_40 hz1) (atyC_40 hz0) (atyC_40 hz1) rfl c1 c2 c3 c4 c5 (fun _ _ => rfl) hf hl hdg (fun H1 locs1 hP1 hD1 hS1 => kk H1 locs1 (by rw [setC_40 hz1] at hP1; exact hP1) hS1)
theorem ok_X0_refresh : okV yX0_refresh RX0 0 := ⟨rfl, by decide +kernel, by decide +kernel, by decide +kernel⟩
theorem ok_X0_clear : okV yX0_clear RX0 0 := ⟨rfl, by decide +kernel, by decide +kernel, by decide +kernel⟩
theorem ok_X0_goOn : okV yX0_goOn RX0 2 := ⟨rfl, by decide +kernel, by decide +kernel, by decide +kernel⟩
theorem ok_X0_sitDown : okV yX0_sitDown RX0 4 := ⟨rfl, by decide +kernel, by decide +kernel, by decide +kernel⟩
theorem ok_X0_close : okV yX0_close RX0 2 := ⟨rfl, by decide +kernel, by decide +kernel, by decide +kernel⟩
theorem ok_X1_refresh : okV yX1_refresh RX1 0 := ⟨rfl, by decide +kernel, by decide +kernel, by decide +kernel⟩
theorem ok_X1_letIn : okV yX1_letIn RX1 3 := ⟨rfl, by decide +kernel, by decide +kernel, by decide +kernel⟩
theorem ok_X1_onlyLostOutside : okV yX1_onlyLostOutside RX1 1 := ⟨rfl, by decide +kernel, by decide +kernel, by decide +kernel⟩
theorem ok_X1_letInLost : okV yX1_letInLost RX1 3 := ⟨rfl, by decide +kernel, by decide +kernel, by decide +kernel⟩
theorem ok_X1_keep : okV yX1_keep RX1 1 := ⟨rfl, by decide +kernel, by decide +kernel, by decide +kernel⟩
theorem ok_X1_hasTwinOutside : okV yX1_hasTwinOutside RX1 2 := ⟨rfl, by decide +kernel, by decide +kernel, by decide +kernel⟩
theorem ok_X1_leastToCome : okV yX1_leastToCome RX1 2 := ⟨rfl, by decide +kernel, by decide +kernel, by decide +kernel⟩
theorem ok_X1_wrongNext : okV yX1_wrongNext RX1 2 := ⟨rfl, by decide +kernel, by decide +kernel, by decide +kernel⟩
theorem ok_X1_wrongAmong : okV yX1_wrongAmong RX1 3 := ⟨rfl, by decide +kernel, by decide +kernel, by decide +kernel⟩
theorem ok_X1_seatNext : okV yX1_seatNext RX1 2 := ⟨rfl, by decide +kernel, by decide +kernel, by decide +kernel⟩
theorem ok_X1_copyTaken : okV yX1_copyTaken RX1 1 := ⟨rfl, by decide +kernel, by decide +kernel, by decide +kernel⟩
theorem ok_X1_clearSets : okV yX1_clearSets RX1 1 := ⟨rfl, by decide +kernel, by decide +kernel, by decide +kernel⟩
theorem ok_X1_spread : okV yX1_spread RX1 3 := ⟨rfl, by decide +kernel, by decide +kernel, by decide +kernel⟩
theorem ok_X1_nextAsLarge : okV yX1_nextAsLarge RX1 1 := ⟨rfl, by decide +kernel, by decide +kernel, by decide +kernel⟩
theorem ok_X2_run : okV yX2_run RX2 1 := ⟨rfl, by decide +kernel, by decide +kernel, by decide +kernel⟩
theorem ok_X2_place : okV yX2_place RX2 3 := ⟨rfl, by decide +kernel, by decide +kernel, by decide +kernel⟩
theorem ok_X2_lot : okV yX2_lot RX2 1 := ⟨rfl, by decide +kernel, by decide +kernel, by decide +kernel⟩
theorem ok_X2_member : okV yX2_member RX2 2 := ⟨rfl, by decide +kernel, by decide +kernel, by decide +kernel⟩
theorem ok_X3_append : okV yX3_append RX3 2 := ⟨rfl, by decide +kernel, by decide +kernel, by decide +kernel⟩
theorem ok_X3_empty : okV yX3_empty RX3 1 := ⟨rfl, by decide +kernel, by decide +kernel, by decide +kernel⟩
theorem ok_X3_parse : okV yX3_parse RX3 0 := ⟨rfl, by decide +kernel, by decide +kernel, by decide +kernel⟩
theorem ok_X3_parseSeats : okV yX3_parseSeats RX3 0 := ⟨rfl, by decide +kernel, by decide +kernel, by decide +kernel⟩
theorem ok_X3_addSeat : okV yX3_addSeat RX3 1 := ⟨rfl, by decide +kernel, by decide +kernel, by decide +kernel⟩
theorem ok_X3_parsePeople : okV yX3_parsePeople RX3 0 := ⟨rfl, by decide +kernel, by decide +kernel, by decide +kernel⟩
theorem ok_X3_sortOf : okV yX3_sortOf RX3 1 := ⟨rfl, by decide +kernel, by decide +kernel, by decide +kernel⟩
theorem ok_X3_kindOf : okV yX3_kindOf RX3 1 := ⟨rfl, by decide +kernel, by decide +kernel, by decide +kernel⟩
theorem ok_X3_allSeats : okV yX3_allSeats RX3 0 := ⟨rfl, by decide +kernel, by decide +kernel, by decide +kernel⟩
theorem ok_X3_ownersOf : okV yX3_ownersOf RX3 1 := ⟨rfl, by decide +kernel, by decide +kernel, by decide +kernel⟩
theorem ok_X3_countLost : okV yX3_countLost RX3 0 := ⟨rfl, by decide +kernel, by decide +kernel, by decide +kernel⟩
theorem ok_X3_countUnowned : okV yX3_countUnowned RX3 0 := ⟨rfl, by decide +kernel, by decide +kernel, by decide +kernel⟩
theorem ok_X3_choices : okV yX3_choices RX3 3 := ⟨rfl, by decide +kernel, by decide +kernel, by decide +kernel⟩
theorem ok_X3_nextFree : okV yX3_nextFree RX3 2 := ⟨rfl, by decide +kernel, by decide +kernel, by decide +kernel⟩
theorem ok_X3_passedOver : okV yX3_passedOver RX3 2 := ⟨rfl, by decide +kernel, by decide +kernel, by decide +kernel⟩
theorem ok_X3_firstWhoCannot : okV yX3_firstWhoCannot RX3 1 := ⟨rfl, by decide +kernel, by decide +kernel, by decide +kernel⟩
theorem ok_X3_chanceOf : okV yX3_chanceOf RX3 1 := ⟨rfl, by decide +kernel, by decide +kernel, by decide +kernel⟩
theorem ok_X3_isIn : okV yX3_isIn RX3 2 := ⟨rfl, by decide +kernel, by decide +kernel, by decide +kernel⟩
theorem ok_X3_has : okV yX3_has RX3 2 := ⟨rfl, by decide +kernel, by decide +kernel, by decide +kernel⟩
theorem ok_X4_follow : okV yX4_follow RX4 1 := ⟨rfl, by decide +kernel, by decide +kernel, by decide +kernel⟩
theorem ok_X4_isWhole : okV yX4_isWhole RX4 1 := ⟨rfl, by decide +kernel, by decide +kernel, by decide +kernel⟩
theorem ok_X4_countRings : okV yX4_countRings RX4 0 := ⟨rfl, by decide +kernel, by decide +kernel, by decide +kernel⟩
theorem ok_X4_rounds : okV yX4_rounds RX4 0 := ⟨rfl, by decide +kernel, by decide +kernel, by decide +kernel⟩
theorem ok_X5_renew : okV yX5_renew RX5 2 := ⟨rfl, by decide +kernel, by decide +kernel, by decide +kernel⟩
theorem ok_X5_holds : okV yX5_holds RX5 2 := ⟨rfl, by decide +kernel, by decide +kernel, by decide +kernel⟩
theorem ok_X5_put : okV yX5_put RX5 2 := ⟨rfl, by decide +kernel, by decide +kernel, by decide +kernel⟩
theorem ok_X6_mayTell : okV yX6_mayTell RX6 2 := ⟨rfl, by decide +kernel, by decide +kernel, by decide +kernel⟩
theorem ok_X6_tell : okV yX6_tell RX6 2 := ⟨rfl, by decide +kernel, by decide +kernel, by decide +kernel⟩
theorem ok_X6_clear : okV yX6_clear RX6 0 := ⟨rfl, by decide +kernel, by decide +kernel, by decide +kernel⟩
theorem ok_X6_refresh : okV yX6_refresh RX6 0 := ⟨rfl, by decide +kernel, by decide +kernel, by decide +kernel⟩
theorem ok_X6_narrow : okV yX6_narrow RX6 0 := ⟨rfl, by decide +kernel, by decide +kernel, by decide +kernel⟩
theorem ok_X6_forbid : okV yX6_forbid RX6 1 := ⟨rfl, by decide +kernel, by decide +kernel, by decide +kernel⟩
theorem ok_X6_suspect : okV yX6_suspect RX6 1 := ⟨rfl, by decide +kernel, by decide +kernel, by decide +kernel⟩
theorem ok_X6_walkForward : okV yX6_walkForward RX6 0 := ⟨rfl, by decide +kernel, by decide +kernel, by decide +kernel⟩
theorem ok_X6_spread : okV yX6_spread RX6 3 := ⟨rfl, by decide +kernel, by decide +kernel, by decide +kernel⟩
theorem ok_X6_weightAtLast : okV yX6_weightAtLast RX6 0 := ⟨rfl, by decide +kernel, by decide +kernel, by decide +kernel⟩
theorem ok_X6_walkBackward : okV yX6_walkBackward RX6 1 := ⟨rfl, by decide +kernel, by decide +kernel, by decide +kernel⟩
theorem ok_X6_waysOn : okV yX6_waysOn RX6 2 := ⟨rfl, by decide +kernel, by decide +kernel, by decide +kernel⟩
theorem ok_X6_heaviest : okV yX6_heaviest RX6 0 := ⟨rfl, by decide +kernel, by decide +kernel, by decide +kernel⟩
theorem ok_X6_whomToAsk : okV yX6_whomToAsk RX6 0 := ⟨rfl, by decide +kernel, by decide +kernel, by decide +kernel⟩
theorem ok_X6_wasSeen : okV yX6_wasSeen RX6 1 := ⟨rfl, by decide +kernel, by decide +kernel, by decide +kernel⟩
theorem ok_X6_worstCase : okV yX6_worstCase RX6 1 := ⟨rfl, by decide +kernel, by decide +kernel, by decide +kernel⟩
theorem ok_X7_type : okV yX7_type RX7 2 := ⟨rfl, by decide +kernel, by decide +kernel, by decide +kernel⟩
theorem ok_X7_wipe : okV yX7_wipe RX7 1 := ⟨rfl, by decide +kernel, by decide +kernel, by decide +kernel⟩
theorem ok_X7_fault : okV yX7_fault RX7 1 := ⟨rfl, by decide +kernel, by decide +kernel, by decide +kernel⟩
theorem ok_X7_seat : okV yX7_seat RX7 2 := ⟨rfl, by decide +kernel, by decide +kernel, by decide +kernel⟩
theorem ok_X7_person : okV yX7_person RX7 2 := ⟨rfl, by decide +kernel, by decide +kernel, by decide +kernel⟩
theorem ok_X7_likely : okV yX7_likely RX7 3 := ⟨rfl, by decide +kernel, by decide +kernel, by decide +kernel⟩
theorem ok_X7_taken : okV yX7_taken RX7 3 := ⟨rfl, by decide +kernel, by decide +kernel, by decide +kernel⟩
theorem ok_X7_wrong : okV yX7_wrong RX7 2 := ⟨rfl, by decide +kernel, by decide +kernel, by decide +kernel⟩
theorem ok_X7_left : okV yX7_left RX7 2 := ⟨rfl, by decide +kernel, by decide +kernel, by decide +kernel⟩
theorem ok_X7_looks : okV yX7_looks RX7 1 := ⟨rfl, by decide +kernel, by decide +kernel, by decide +kernel⟩
theorem ok_X7_judged : okV yX7_judged RX7 1 := ⟨rfl, by decide +kernel, by decide +kernel, by decide +kernel⟩
theorem ok_X7_sitting : okV yX7_sitting RX7 2 := ⟨rfl, by decide +kernel, by decide +kernel, by decide +kernel⟩
theorem ok_X7_order : okV yX7_order RX7 1 := ⟨rfl, by decide +kernel, by decide +kernel, by decide +kernel⟩
theorem ok_X7_best : okV yX7_best RX7 1 := ⟨rfl, by decide +kernel, by decide +kernel, by decide +kernel⟩
theorem ok_X7_back : okV yX7_back RX7 2 := ⟨rfl, by decide +kernel, by decide +kernel, by decide +kernel⟩
theorem ok_X7_seen : okV yX7_seen RX7 2 := ⟨rfl, by decide +kernel, by decide +kernel, by decide +kernel⟩
theorem ok_X7_read : okV yX7_read RX7 1 := ⟨rfl, by decide +kernel, by decide +kernel, by decide +kernel⟩
theorem ok_X7_forget : okV yX7_forget RX7 0 := ⟨rfl, by decide +kernel, by decide +kernel, by decide +kernel⟩
theorem ok_X7_losers : okV yX7_losers RX7 0 := ⟨rfl, by decide +kernel, by decide +kernel, by decide +kernel⟩
theorem ok_X7_share : okV yX7_share RX7 2 := ⟨rfl, by decide +kernel, by decide +kernel, by decide +kernel⟩
theorem ok_X7_likeliest : okV yX7_likeliest RX7 0 := ⟨rfl, by decide +kernel, by decide +kernel, by decide +kernel⟩
theorem ok_X7_ask : okV yX7_ask RX7 1 := ⟨rfl, by decide +kernel, by decide +kernel, by decide +kernel⟩
theorem ok_X7_turned : okV yX7_turned RX7 3 := ⟨rfl, by decide +kernel, by decide +kernel, by decide +kernel⟩
theorem ok_X7_evening : okV yX7_evening RX7 2 := ⟨rfl, by decide +kernel, by decide +kernel, by decide +kernel⟩
theorem ok_X7_sheet : okV yX7_sheet RX7 3 := ⟨rfl, by decide +kernel, by decide +kernel, by decide +kernel⟩
theorem ok_X7_lose : okV yX7_lose RX7 1 := ⟨rfl, by decide +kernel, by decide +kernel, by decide +kernel⟩
theorem ok_X7_lay : okV yX7_lay RX7 4 := ⟨rfl, by decide +kernel, by decide +kernel, by decide +kernel⟩
theorem ok_X7_get : okV yX7_get RX7 3 := ⟨rfl, by decide +kernel, by decide +kernel, by decide +kernel⟩
theorem ok_X7_copy : okV yX7_copy RX7 5 := ⟨rfl, by decide +kernel, by decide +kernel, by decide +kernel⟩
theorem ok_X7_write : okV yX7_write RX7 2 := ⟨rfl, by decide +kernel, by decide +kernel, by decide +kernel⟩
theorem ok_X7_count : okV yX7_count RX7 1 := ⟨rfl, by decide +kernel, by decide +kernel, by decide +kernel⟩
theorem ok_X7_digest : okV yX7_digest RX7 0 := ⟨rfl, by decide +kernel, by decide +kernel, by decide +kernel⟩
theorem ok_X7_mixSeats : okV yX7_mixSeats RX7 1 := ⟨rfl, by decide +kernel, by decide +kernel, by decide +kernel⟩
theorem ok_X7_mixPeople : okV yX7_mixPeople RX7 1 := ⟨rfl, by decide +kernel, by decide +kernel, by decide +kernel⟩
theorem ok_X7_mix : okV yX7_mix RX7 3 := ⟨rfl, by decide +kernel, by decide +kernel, by decide +kernel⟩
theorem ok_X7_spoilAnswers : okV yX7_spoilAnswers RX7 0 := ⟨rfl, by decide +kernel, by decide +kernel, by decide +kernel⟩
theorem ok_X7_isNoText : okV yX7_isNoText RX7 1 := ⟨rfl, by decide +kernel, by decide +kernel, by decide +kernel⟩
theorem ok_X7_isNoSeat : okV yX7_isNoSeat RX7 1 := ⟨rfl, by decide +kernel, by decide +kernel, by decide +kernel⟩
theorem ok_X7_isNobody : okV yX7_isNobody RX7 1 := ⟨rfl, by decide +kernel, by decide +kernel, by decide +kernel⟩
theorem ok_X7_isNoPart : okV yX7_isNoPart RX7 1 := ⟨rfl, by decide +kernel, by decide +kernel, by decide +kernel⟩
theorem ok_X7_isNoSheet : okV yX7_isNoSheet RX7 1 := ⟨rfl, by decide +kernel, by decide +kernel, by decide +kernel⟩
theorem ok_X7_isNoForm : okV yX7_isNoForm RX7 1 := ⟨rfl, by decide +kernel, by decide +kernel, by decide +kernel⟩
theorem ok_X7_find : okV yX7_find RX7 1 := ⟨rfl, by decide +kernel, by decide +kernel, by decide +kernel⟩
theorem ok_X7_refuseSheet : okV yX7_refuseSheet RX7 2 := ⟨rfl, by decide +kernel, by decide +kernel, by decide +kernel⟩
theorem ok_X7_refuseSitting : okV yX7_refuseSitting RX7 2 := ⟨rfl, by decide +kernel, by decide +kernel, by decide +kernel⟩
theorem ok_X7_refuseItem : okV yX7_refuseItem RX7 3 := ⟨rfl, by decide +kernel, by decide +kernel, by decide +kernel⟩
theorem ok_X7_asLong : okV yX7_asLong RX7 1 := ⟨rfl, by decide +kernel, by decide +kernel, by decide +kernel⟩
theorem ok_X7_part : okV yX7_part RX7 3 := ⟨rfl, by decide +kernel, by decide +kernel, by decide +kernel⟩
theorem ok_X7_commonDivisor : okV yX7_commonDivisor RX7 2 := ⟨rfl, by decide +kernel, by decide +kernel, by decide +kernel⟩
theorem ok_X8_in : okV yX8_in RX8 3 := ⟨rfl, by decide +kernel, by decide +kernel, by decide +kernel⟩
theorem ok_X8_no : okV yX8_no RX8 1 := ⟨rfl, by decide +kernel, by decide +kernel, by decide +kernel⟩
theorem ok_X8_isTwo : okV yX8_isTwo RX8 1 := ⟨rfl, by decide +kernel, by decide +kernel, by decide +kernel⟩
theorem ok_X8_isIn : okV yX8_isIn RX8 2 := ⟨rfl, by decide +kernel, by decide +kernel, by decide +kernel⟩
theorem ok_X8_ones : okV yX8_ones RX8 1 := ⟨rfl, by decide +kernel, by decide +kernel, by decide +kernel⟩
theorem ok_X8_part : okV yX8_part RX8 3 := ⟨rfl, by decide +kernel, by decide +kernel, by decide +kernel⟩
theorem ok_X8_met : okV yX8_met RX8 1 := ⟨rfl, by decide +kernel, by decide +kernel, by decide +kernel⟩
theorem ok_X8_isSheet : okV yX8_isSheet RX8 1 := ⟨rfl, by decide +kernel, by decide +kernel, by decide +kernel⟩
theorem ok_X8_sheet : okV yX8_sheet RX8 3 := ⟨rfl, by decide +kernel, by decide +kernel, by decide +kernel⟩
theorem ok_X8_lose : okV yX8_lose RX8 1 := ⟨rfl, by decide +kernel, by decide +kernel, by decide +kernel⟩
theorem ok_X8_lacks : okV yX8_lacks RX8 3 := ⟨rfl, by decide +kernel, by decide +kernel, by decide +kernel⟩
theorem ok_X8_cut : okV yX8_cut RX8 2 := ⟨rfl, by decide +kernel, by decide +kernel, by decide +kernel⟩
theorem ok_X8_lay : okV yX8_lay RX8 4 := ⟨rfl, by decide +kernel, by decide +kernel, by decide +kernel⟩
theorem ok_X8_get : okV yX8_get RX8 3 := ⟨rfl, by decide +kernel, by decide +kernel, by decide +kernel⟩
theorem ok_X8_copy : okV yX8_copy RX8 5 := ⟨rfl, by decide +kernel, by decide +kernel, by decide +kernel⟩
theorem ok_X8_type : okV yX8_type RX8 2 := ⟨rfl, by decide +kernel, by decide +kernel, by decide +kernel⟩
theorem ok_X8_wipe : okV yX8_wipe RX8 1 := ⟨rfl, by decide +kernel, by decide +kernel, by decide +kernel⟩
theorem ok_X8_here : okV yX8_here RX8 1 := ⟨rfl, by decide +kernel, by decide +kernel, by decide +kernel⟩
theorem ok_X8_noSeats : okV yX8_noSeats RX8 0 := ⟨rfl, by decide +kernel, by decide +kernel, by decide +kernel⟩
theorem ok_X8_readsSeats : okV yX8_readsSeats RX8 0 := ⟨rfl, by decide +kernel, by decide +kernel, by decide +kernel⟩
theorem ok_X8_kindOf : okV yX8_kindOf RX8 1 := ⟨rfl, by decide +kernel, by decide +kernel, by decide +kernel⟩
theorem ok_X8_nobody : okV yX8_nobody RX8 0 := ⟨rfl, by decide +kernel, by decide +kernel, by decide +kernel⟩
theorem ok_X8_readsPeople : okV yX8_readsPeople RX8 0 := ⟨rfl, by decide +kernel, by decide +kernel, by decide +kernel⟩
theorem ok_X8_find : okV yX8_find RX8 0 := ⟨rfl, by decide +kernel, by decide +kernel, by decide +kernel⟩
theorem ok_X8_faultOf : okV yX8_faultOf RX8 1 := ⟨rfl, by decide +kernel, by decide +kernel, by decide +kernel⟩
theorem ok_X8_fault : okV yX8_fault RX8 1 := ⟨rfl, by decide +kernel, by decide +kernel, by decide +kernel⟩
theorem ok_X8_isSeat : okV yX8_isSeat RX8 1 := ⟨rfl, by decide +kernel, by decide +kernel, by decide +kernel⟩
theorem ok_X8_isPerson : okV yX8_isPerson RX8 1 := ⟨rfl, by decide +kernel, by decide +kernel, by decide +kernel⟩
theorem ok_X8_ownersOf : okV yX8_ownersOf RX8 1 := ⟨rfl, by decide +kernel, by decide +kernel, by decide +kernel⟩
theorem ok_X8_seatOf : okV yX8_seatOf RX8 2 := ⟨rfl, by decide +kernel, by decide +kernel, by decide +kernel⟩
theorem ok_X8_seat : okV yX8_seat RX8 2 := ⟨rfl, by decide +kernel, by decide +kernel, by decide +kernel⟩
theorem ok_X8_person : okV yX8_person RX8 2 := ⟨rfl, by decide +kernel, by decide +kernel, by decide +kernel⟩
theorem ok_X8_whole : okV yX8_whole RX8 0 := ⟨rfl, by decide +kernel, by decide +kernel, by decide +kernel⟩
theorem ok_X8_ofSort : okV yX8_ofSort RX8 1 := ⟨rfl, by decide +kernel, by decide +kernel, by decide +kernel⟩
theorem ok_X8_nextFree : okV yX8_nextFree RX8 2 := ⟨rfl, by decide +kernel, by decide +kernel, by decide +kernel⟩
theorem ok_X8_choices : okV yX8_choices RX8 3 := ⟨rfl, by decide +kernel, by decide +kernel, by decide +kernel⟩
theorem ok_X8_partsOf : okV yX8_partsOf RX8 1 := ⟨rfl, by decide +kernel, by decide +kernel, by decide +kernel⟩
theorem ok_X8_begins : okV yX8_begins RX8 0 := ⟨rfl, by decide +kernel, by decide +kernel, by decide +kernel⟩
theorem ok_X8_kindNow : okV yX8_kindNow RX8 1 := ⟨rfl, by decide +kernel, by decide +kernel, by decide +kernel⟩
theorem ok_X8_noBounds : okV yX8_noBounds RX8 0 := ⟨rfl, by decide +kernel, by decide +kernel, by decide +kernel⟩
theorem ok_X8_mayBe : okV yX8_mayBe RX8 2 := ⟨rfl, by decide +kernel, by decide +kernel, by decide +kernel⟩
theorem ok_X8_sits : okV yX8_sits RX8 2 := ⟨rfl, by decide +kernel, by decide +kernel, by decide +kernel⟩
theorem ok_X8_firstSit : okV yX8_firstSit RX8 1 := ⟨rfl, by decide +kernel, by decide +kernel, by decide +kernel⟩
theorem ok_X8_nextOn : okV yX8_nextOn RX8 3 := ⟨rfl, by decide +kernel, by decide +kernel, by decide +kernel⟩
theorem ok_X8_likelyOf : okV yX8_likelyOf RX8 3 := ⟨rfl, by decide +kernel, by decide +kernel, by decide +kernel⟩
theorem ok_X8_likely : okV yX8_likely RX8 3 := ⟨rfl, by decide +kernel, by decide +kernel, by decide +kernel⟩
theorem ok_X8_takenOf : okV yX8_takenOf RX8 3 := ⟨rfl, by decide +kernel, by decide +kernel, by decide +kernel⟩
theorem ok_X8_taken : okV yX8_taken RX8 3 := ⟨rfl, by decide +kernel, by decide +kernel, by decide +kernel⟩
theorem ok_X8_rightByOrder : okV yX8_rightByOrder RX8 1 := ⟨rfl, by decide +kernel, by decide +kernel, by decide +kernel⟩
theorem ok_X8_asTheyCome : okV yX8_asTheyCome RX8 0 := ⟨rfl, by decide +kernel, by decide +kernel, by decide +kernel⟩
theorem ok_X8_meanOf : okV yX8_meanOf RX8 1 := ⟨rfl, by decide +kernel, by decide +kernel, by decide +kernel⟩
theorem ok_X8_justOf : okV yX8_justOf RX8 2 := ⟨rfl, by decide +kernel, by decide +kernel, by decide +kernel⟩
theorem ok_X8_wrong : okV yX8_wrong RX8 2 := ⟨rfl, by decide +kernel, by decide +kernel, by decide +kernel⟩
theorem ok_X8_leftOf : okV yX8_leftOf RX8 2 := ⟨rfl, by decide +kernel, by decide +kernel, by decide +kernel⟩
theorem ok_X8_left : okV yX8_left RX8 2 := ⟨rfl, by decide +kernel, by decide +kernel, by decide +kernel⟩
theorem ok_X8_looksNow : okV yX8_looksNow RX8 1 := ⟨rfl, by decide +kernel, by decide +kernel, by decide +kernel⟩
theorem ok_X8_looks : okV yX8_looks RX8 1 := ⟨rfl, by decide +kernel, by decide +kernel, by decide +kernel⟩
theorem ok_X8_noSitting : okV yX8_noSitting RX8 1 := ⟨rfl, by decide +kernel, by decide +kernel, by decide +kernel⟩
theorem ok_X8_isSeatNow : okV yX8_isSeatNow RX8 1 := ⟨rfl, by decide +kernel, by decide +kernel, by decide +kernel⟩
theorem ok_X8_judged : okV yX8_judged RX8 1 := ⟨rfl, by decide +kernel, by decide +kernel, by decide +kernel⟩
theorem ok_X8_sittingOf : okV yX8_sittingOf RX8 2 := ⟨rfl, by decide +kernel, by decide +kernel, by decide +kernel⟩
theorem ok_X8_sitting : okV yX8_sitting RX8 2 := ⟨rfl, by decide +kernel, by decide +kernel, by decide +kernel⟩
theorem ok_X8_goesOn : okV yX8_goesOn RX8 1 := ⟨rfl, by decide +kernel, by decide +kernel, by decide +kernel⟩
theorem ok_X8_swaps : okV yX8_swaps RX8 2 := ⟨rfl, by decide +kernel, by decide +kernel, by decide +kernel⟩
theorem ok_X8_findOrder : okV yX8_findOrder RX8 0 := ⟨rfl, by decide +kernel, by decide +kernel, by decide +kernel⟩
theorem ok_X8_order : okV yX8_order RX8 1 := ⟨rfl, by decide +kernel, by decide +kernel, by decide +kernel⟩
theorem ok_X8_bestOf : okV yX8_bestOf RX8 1 := ⟨rfl, by decide +kernel, by decide +kernel, by decide +kernel⟩
theorem ok_X8_best : okV yX8_best RX8 1 := ⟨rfl, by decide +kernel, by decide +kernel, by decide +kernel⟩
theorem ok_X8_findRings : okV yX8_findRings RX8 1 := ⟨rfl, by decide +kernel, by decide +kernel, by decide +kernel⟩
theorem ok_X8_sitter : okV yX8_sitter RX8 2 := ⟨rfl, by decide +kernel, by decide +kernel, by decide +kernel⟩
theorem ok_X8_back : okV yX8_back RX8 2 := ⟨rfl, by decide +kernel, by decide +kernel, by decide +kernel⟩
theorem ok_X8_seen : okV yX8_seen RX8 2 := ⟨rfl, by decide +kernel, by decide +kernel, by decide +kernel⟩
theorem ok_X8_read : okV yX8_read RX8 1 := ⟨rfl, by decide +kernel, by decide +kernel, by decide +kernel⟩
theorem ok_X8_forget : okV yX8_forget RX8 0 := ⟨rfl, by decide +kernel, by decide +kernel, by decide +kernel⟩
theorem ok_X8_laysBounds : okV yX8_laysBounds RX8 0 := ⟨rfl, by decide +kernel, by decide +kernel, by decide +kernel⟩
theorem ok_X8_seenWith : okV yX8_seenWith RX8 3 := ⟨rfl, by decide +kernel, by decide +kernel, by decide +kernel⟩
theorem ok_X8_losersNow : okV yX8_losersNow RX8 0 := ⟨rfl, by decide +kernel, by decide +kernel, by decide +kernel⟩
theorem ok_X8_losers : okV yX8_losers RX8 0 := ⟨rfl, by decide +kernel, by decide +kernel, by decide +kernel⟩
theorem ok_X8_share : okV yX8_share RX8 2 := ⟨rfl, by decide +kernel, by decide +kernel, by decide +kernel⟩
theorem ok_X8_likeliestNow : okV yX8_likeliestNow RX8 0 := ⟨rfl, by decide +kernel, by decide +kernel, by decide +kernel⟩
theorem ok_X8_likeliest : okV yX8_likeliest RX8 0 := ⟨rfl, by decide +kernel, by decide +kernel, by decide +kernel⟩
theorem ok_X8_wasSeen : okV yX8_wasSeen RX8 1 := ⟨rfl, by decide +kernel, by decide +kernel, by decide +kernel⟩
theorem ok_X8_worstBy : okV yX8_worstBy RX8 2 := ⟨rfl, by decide +kernel, by decide +kernel, by decide +kernel⟩
theorem ok_X8_askNow : okV yX8_askNow RX8 1 := ⟨rfl, by decide +kernel, by decide +kernel, by decide +kernel⟩
theorem ok_X8_ask : okV yX8_ask RX8 1 := ⟨rfl, by decide +kernel, by decide +kernel, by decide +kernel⟩
theorem ok_X8_turnedOf : okV yX8_turnedOf RX8 3 := ⟨rfl, by decide +kernel, by decide +kernel, by decide +kernel⟩
theorem ok_X8_turned : okV yX8_turned RX8 3 := ⟨rfl, by decide +kernel, by decide +kernel, by decide +kernel⟩
theorem ok_X8_lot : okV yX8_lot RX8 1 := ⟨rfl, by decide +kernel, by decide +kernel, by decide +kernel⟩
theorem ok_X8_findEvening : okV yX8_findEvening RX8 1 := ⟨rfl, by decide +kernel, by decide +kernel, by decide +kernel⟩
theorem ok_X8_eveningOf : okV yX8_eveningOf RX8 2 := ⟨rfl, by decide +kernel, by decide +kernel, by decide +kernel⟩
theorem ok_X8_evening : okV yX8_evening RX8 2 := ⟨rfl, by decide +kernel, by decide +kernel, by decide +kernel⟩
theorem ok_X8_write : okV yX8_write RX8 2 := ⟨rfl, by decide +kernel, by decide +kernel, by decide +kernel⟩
theorem ok_X8_count : okV yX8_count RX8 1 := ⟨rfl, by decide +kernel, by decide +kernel, by decide +kernel⟩
theorem ok_X8_digest : okV yX8_digest RX8 0 := ⟨rfl, by decide +kernel, by decide +kernel, by decide +kernel⟩
theorem ok_J6_bitCount_0f7a4 : okV yJ6_bitCount_0f7a4 RJ6 1 := ⟨rfl, by decide +kernel, by decide +kernel, by decide +kernel⟩
theorem ok_J9_max_7cf53 : okV yJ9_max_7cf53 RJ9 2 := ⟨rfl, by decide +kernel, by decide +kernel, by decide +kernel⟩
theorem ok_J9_min_7cf53 : okV yJ9_min_7cf53 RJ9 2 := ⟨rfl, by decide +kernel, by decide +kernel, by decide +kernel⟩
