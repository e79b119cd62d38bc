def R_law : String := "LostTicketLaw"
def lw_P (b : Addr) (xs : List Int32) (args : Array Value) (s : State) : Prop := args = #[.ref b] ∧ s.IntsAt b xs ∧ xs.length ≤ 384 ∧ (Jvm.Cond.and given_1 narrow_1).before args s = true
def lw_Q (_ : Array Value) (s : State) (o : Outcome) (t : State) : Prop := o = .returned (some (.int 1)) ∧ Framed s o t [] 600000 7302249
def lw_Z (below : List Frame) (a : Array Value) (s : State) : State → Prop := fun t => ∃ o, t.status = .running ∧ Ended t below o ∧ lw_Q a s o t
/-- the law's own end, with 1 on the stack, nothing written that was there before, its room as the claim has it -/
theorem lw_ret {p : Program} {l : Launch} {e : Env} {s : State} {m : MethodId} {below : List Frame} {meth : Method} {c : Code} {b : Nat} (hx : p.tables.exec = Jvm.exec) (hb : c.code = code) (hr : meth.sig.returnType = ret) (hlocks : meth.locks = false) {pc : Nat} {H : Heap} {ls : Array Slot} (hdg : decode code pc = .ok (.ireturn, 1)) : W p l e room_1 s m #[Value.ref b] below meth c H [] 600000 7302249 (lw_Z below #[Value.ref b] s) (F0 m pc ls [.int 1]) := by
  intro T hT X
  obtain ⟨fs, hret, hrun, hended, hW, hframe⟩ := X.leave (v := some (.int 1)) (hlocks := hlocks) (fun h => by rw [hr] at h; cases h)
  have hmeth' : T.vm.method? m = some meth := X.method'
  refine ⟨T.setFrames fs, ?_, .returned (some (.int 1)), hrun, hended, rfl, ⟨_, rfl⟩, hW, hframe⟩
  jvm_step X.here [X.here.top, hx, hb, hdg, hmeth', hr, ret, narrow_b1]
  (try refine ⟨rfl, ?_⟩); (try refine ⟨rfl, ?_⟩)
  first | (intro acts; rw [hret _ acts rfl rfl rfl]) | rw [hret _ _ rfl rfl rfl]
  exact Steps.refl _
/-- what holds at the law's entry: the machine, the code, the tables' words (any of lw_tbl by 'hts w (by decide +kernel)'), the script of L ints xs at the cell b, what the Statement gives of the start (any of its parts by flat_of_before) -/
def lw_At (p : Program) (s : State) (m : MethodId) (meth : Method) (c : Code) (b L : Nat) (xs : Nat → Int32) : Prop :=
  p.tables.exec = Jvm.exec ∧ c.code = code ∧ meth.sig.returnType = ret ∧ c.maxLocals = 4 ∧ s.vm.findClass R_law = some m.cls ∧ (∀ w ∈ lw_tbl, w.before #[Value.ref b] s = true) ∧ va_X b L xs s s.heap ∧ b < s.heap.size ∧ meth.locks = false ∧ (Jvm.Cond.and given_1 narrow_1).before #[Value.ref b] s = true
def lwX (p : Program) (s : State) (m : MethodId) (meth : Method) (c : Code) (b L : Nat) (xs : Nat → Int32) (D : va_G) (a : Nat → Nat) (kc : Nat → ClassId) (a2 : Nat → Nat) (kc2 : Nat → ClassId) : Prop :=
  (p.tables.exec = Jvm.exec ∧ c.code = code ∧ meth.sig.returnType = ret ∧ c.maxLocals = 4 ∧ s.vm.findClass RL = some m.cls ∧ (∀ w ∈ gw, w.before #[Value.ref b] s = true) ∧ va_X b L xs s s.heap ∧ b < s.heap.size ∧ meth.locks = false) ∧ va_K D vwCl (tyC kc) s ∧ va_K D vwCl (tyM kc2) s ∧ (∀ i j, i < 44 → j < 44 → a i = a j → i = j) ∧ (∀ i j, i < 21 → j < 21 → a2 i = a2 j → i = j) ∧ (∀ i j, i < 44 → j < 21 → a i ≠ a2 j) ∧ (∀ i, i < 44 → s.heap.size ≤ a i) ∧ (∀ j, j < 21 → s.heap.size ≤ a2 j)
theorem wd_fst {a : Nat → Nat} {N : Nat} {ws : va_W} (h : ws.map Prod.fst = (List.range N).map a) : ∀ (i : Nat) (p : Nat × va_E), ws[i]? = some p → i < N ∧ p.1 = a i := fun i p hi => by
  have h1 : (ws.map Prod.fst)[i]? = some p.1 := by rw [List.getElem?_map, hi]; rfl
  rw [h, List.getElem?_map] at h1
  by_cases hN : i < N
  · rw [List.getElem?_range hN] at h1
    exact ⟨hN, (Option.some.inj h1).symm⟩
  · have h0 : (List.range N)[i]? = none := List.getElem?_eq_none (by rw [List.length_range]; omega)
    rw [h0] at h1
    cases h1
theorem li_in {i L k : Nat} (h : i + k < L) (hL : L ≤ 384) : vp_in (nI i + nI k) L := by rw [nI_add]; exact vp_in_nI h (by omega)

theorem lcall_i {r : Int32} {N N2 : Nat} {p : Program} {l : Launch} {e : Env} {s : State} {m : MethodId} {b0 cells slots : Nat} {below : List Frame} {meth : Method} {c : Code} {H : Heap} {locs : List Loc} {Q : State → Prop} {pc : Nat} {ls : Array Slot} {rest st0 : List Value} {D : va_G} {tys : List (ClassId × FieldType)} {a a2 : Nat → Nat} {ws ws' ws2 : va_W} {C : String} {T : u_T} {y : MethodName} {bytes : ByteArray} {idx maxL n Nf ci b : Nat} {rt : Option FieldType} {rm : Room} {As fs : List Value}
    (hx : p.tables.exec = Jvm.exec) (hb : c.code = code) (hml : c.maxLocals = 4) (hown : s.vm.findClass RL = some m.cls) (hT : ∀ w ∈ gw, w.before #[Value.ref b0] s = true) (hK : va_K D vwCl tys s) (hap : ∀ i j, i < N → j < N2 → a i ≠ a2 j) (hge : ∀ i, i < N → s.heap.size ≤ a i) (hf2 : ws2.map Prod.fst = (List.range N2).map a2)
    (hM : Ct N l y bytes maxL rt rm D tys a ws (.ref b :: As) (Qi D ws' r)) (h1 : Cond.methodLink RL idx y ∈ gw) (h2 : Cond.instanceMethod y ∈ gw) (h3 : Cond.selects C y y ∈ gw) (h4 : Cond.initialized C ∈ gw) (h5 : Cond.code y bytes maxL rt ∈ gw) (hd : okV y C n) (hn : As.length = n) (q0 : Nat) (he : ws[q0]? = some (b, .inr (ci, fs))) (hc : vwCl[ci]? = some (C, T, Nf))
    (hR : rm.frames + 1 ≤ room_1.frames ∧ 8 + (maxL + 11) + rm.locals ≤ room_1.locals) (hrc : rm.cells = 0) (hrs : rm.slots = 0) (hls : ls.size = 4) (hst : st0 = As.reverse ++ .ref b :: rest) (hW : (rest.map fun v => v.category).sum ≤ 8) (hcs : cells ≤ room_1.cells ∧ slots ≤ room_1.slots) (hdg : decode cL_law pc = .ok (.invokevirtual idx, 3))
    (hP : va_P D vwCl ws H) (hP2 : va_P D vwCl ws2 H) (hS : va_S (fun q : Nat => s.heap.size ≤ q) s.heap H locs) (kk : ∀ (H1 : Heap) (locs1 : List Loc), va_P D vwCl ws' H1 → va_P D vwCl ws2 H1 → va_S (fun q : Nat => s.heap.size ≤ q) s.heap H1 locs1 → W p l e room_1 s m #[Value.ref b0] below meth c H1 locs1 cells slots Q (F0 m (pc + 3) ls (.int r :: rest))) : W p l e room_1 s m #[Value.ref b0] below meth c H locs cells slots Q (F0 m pc ls st0) := by
  have hA : ∀ q, ad a N H.size q → s.heap.size ≤ q := fun q h => h.elim (fun ⟨k, hk, e⟩ => by rw [e]; exact hge k hk) (fun h => Nat.le_trans hS.1 h)
  refine va_calli (va_runV (As := As) (rest := rest) ⟨hx, hb, hml, hown, hT⟩ (hM H.size) (cwV n hT (wsV_gw h1 h2 h3 h4 h5) rfl hrc hrs hd hR) ⟨Pw_blind, va_recv hK hP hc he, fun U hU hW => ⟨rfl, by rw [hU], by rw [hU]; exact hP, va_K.moved hW.alike hK⟩⟩ rfl hn hls hst (lv_room hW) hdg hcs) hS (fun q _ h => hA q h) (fun q h => hA q h) (fun x u t H1 locs1 ht hvm hw hB hz1 hk1 hS1 => ?_)
  have hw' : x = r := hw
  subst hw'
  rw [ht] at hB
  exact kk H1 locs1 hB (hP2.kept fun k q hq => hk1 q.1 (hP2 k q hq).lt (fun h => h.elim (fun ⟨i, hi, e⟩ => by
    obtain ⟨hj, e2⟩ := wd_fst hf2 k q hq
    exact hap i k hi hj (by rw [← e, e2])) (fun h => absurd h (Nat.not_le.mpr (hP2 k q hq).lt)))) hS1
theorem lcall_l {r : Int64} {N N2 : Nat} {p : Program} {l : Launch} {e : Env} {s : State} {m : MethodId} {b0 cells slots : Nat} {below : List Frame} {meth : Method} {c : Code} {H : Heap} {locs : List Loc} {Q : State → Prop} {pc : Nat} {ls : Array Slot} {rest st0 : List Value} {D : va_G} {tys : List (ClassId × FieldType)} {a a2 : Nat → Nat} {ws ws' ws2 : va_W} {C : String} {T : u_T} {y : MethodName} {bytes : ByteArray} {idx maxL n Nf ci b : Nat} {rt : Option FieldType} {rm : Room} {As fs : List Value}
    (hx : p.tables.exec = Jvm.exec) (hb : c.code = code) (hml : c.maxLocals = 4) (hown : s.vm.findClass RL = some m.cls) (hT : ∀ w ∈ gw, w.before #[Value.ref b0] s = true) (hK : va_K D vwCl tys s) (hap : ∀ i j, i < N → j < N2 → a i ≠ a2 j) (hge : ∀ i, i < N → s.heap.size ≤ a i) (hf2 : ws2.map Prod.fst = (List.range N2).map a2)
    (hM : Ct N l y bytes maxL rt rm D tys a ws (.ref b :: As) (Ql D ws' r)) (h1 : Cond.methodLink RL idx y ∈ gw) (h2 : Cond.instanceMethod y ∈ gw) (h3 : Cond.selects C y y ∈ gw) (h4 : Cond.initialized C ∈ gw) (h5 : Cond.code y bytes maxL rt ∈ gw) (hd : okV y C n) (hn : As.length = n) (q0 : Nat) (he : ws[q0]? = some (b, .inr (ci, fs))) (hc : vwCl[ci]? = some (C, T, Nf))
    (hR : rm.frames + 1 ≤ room_1.frames ∧ 8 + (maxL + 11) + rm.locals ≤ room_1.locals) (hrc : rm.cells = 0) (hrs : rm.slots = 0) (hls : ls.size = 4) (hst : st0 = As.reverse ++ .ref b :: rest) (hW : (rest.map fun v => v.category).sum ≤ 8) (hcs : cells ≤ room_1.cells ∧ slots ≤ room_1.slots) (hdg : decode cL_law pc = .ok (.invokevirtual idx, 3))
    (hP : va_P D vwCl ws H) (hP2 : va_P D vwCl ws2 H) (hS : va_S (fun q : Nat => s.heap.size ≤ q) s.heap H locs) (kk : ∀ (H1 : Heap) (locs1 : List Loc), va_P D vwCl ws' H1 → va_P D vwCl ws2 H1 → va_S (fun q : Nat => s.heap.size ≤ q) s.heap H1 locs1 → W p l e room_1 s m #[Value.ref b0] below meth c H1 locs1 cells slots Q (F0 m (pc + 3) ls (.long r :: rest))) : W p l e room_1 s m #[Value.ref b0] below meth c H locs cells slots Q (F0 m pc ls st0) := by
  have hA : ∀ q, ad a N H.size q → s.heap.size ≤ q := fun q h => h.elim (fun ⟨k, hk, e⟩ => by rw [e]; exact hge k hk) (fun h => Nat.le_trans hS.1 h)
  refine va_calll (va_runV (As := As) (rest := rest) ⟨hx, hb, hml, hown, hT⟩ (hM H.size) (cwV n hT (wsV_gw h1 h2 h3 h4 h5) rfl hrc hrs hd hR) ⟨Pw_blind, va_recv hK hP hc he, fun U hU hW => ⟨rfl, by rw [hU], by rw [hU]; exact hP, va_K.moved hW.alike hK⟩⟩ rfl hn hls hst (lv_room hW) hdg hcs) hS (fun q _ h => hA q h) (fun q h => hA q h) (fun x u t H1 locs1 ht hvm hw hB hz1 hk1 hS1 => ?_)
  have hw' : x = r := hw
  subst hw'
  rw [ht] at hB
  exact kk H1 locs1 hB (hP2.kept fun k q hq => hk1 q.1 (hP2 k q hq).lt (fun h => h.elim (fun ⟨i, hi, e⟩ => by
    obtain ⟨hj, e2⟩ := wd_fst hf2 k q hq
    exact hap i k hi hj (by rw [← e, e2])) (fun h => absurd h (Nat.not_le.mpr (hP2 k q hq).lt)))) hS1
set_option maxHeartbeats 4000000 in
set_option maxRecDepth 100000 in
theorem lawc_0 {p : Program} {l : Launch} {e : Env} {s : State} {m : MethodId} {below : List Frame} {meth : Method} {c : Code} {b L : Nat} {xs : Nat → Int32} {D : va_G} {a : Nat → Nat} {kc : Nat → ClassId} {a2 : Nat → Nat} {kc2 : Nat → ClassId} {cells slots : Nat} {Rel : RelT} (X : lwX p s m meth c b L xs D a kc a2 kc2) (hL : L ≤ 384) (hcs : cells ≤ room_1.cells ∧ slots ≤ room_1.slots) (hs : Sp_type Rel) {i : Nat} (hi : i + 6 ≤ L) (kk : ∀ (F : Nat → Int32) (G : Nat → Int64) (I : Nat → Nat → Int32) (J : Nat → Nat → Int64) (Z : Nat → Nat → Nat → Int32) (F2 : Nat → Int32) (G2 : Nat → Int64) (I2 : Nat → Nat → Int32) (J2 : Nat → Nat → Int64), Rel F G I J Z F2 G2 I2 J2 → ∀ (H : Heap) (locs : List Loc) (ls : Array Slot), va_P D vwCl (wC a kc F G I J Z) H → va_P D vwCl (wM a2 kc2 F2 G2 I2 J2) H → va_S (fun q : Nat => s.heap.size ≤ q) s.heap H locs → lv_has ls 4 [(0, .ref b), (1, .ref (a 34)), (2, .ref (a2 0)), (3, .int (nI (i + 6)))] → W p l e room_1 s m #[Value.ref b] below meth c H locs cells slots (lw_Z below #[Value.ref b] s) (F0 m 18 ls [])) :
    ∀ (F : Nat → Int32) (G : Nat → Int64) (I : Nat → Nat → Int32) (J : Nat → Nat → Int64) (Z : Nat → Nat → Nat → Int32) (F2 : Nat → Int32) (G2 : Nat → Int64) (I2 : Nat → Nat → Int32) (J2 : Nat → Nat → Int64), Rel F G I J Z F2 G2 I2 J2 → ∀ (H : Heap) (locs : List Loc) (ls : Array Slot), va_P D vwCl (wC a kc F G I J Z) H → va_P D vwCl (wM a2 kc2 F2 G2 I2 J2) H → va_S (fun q : Nat => s.heap.size ≤ q) s.heap H locs → lv_has ls 4 [(0, .ref b), (1, .ref (a 34)), (2, .ref (a2 0)), (3, .int (nI i))] → W p l e room_1 s m #[Value.ref b] below meth c H locs cells slots (lw_Z below #[Value.ref b] s) (F0 m 176 ls []) := by
  intro F G I J Z F2 G2 I2 J2 hRel H locs ls hP hP2 hS hl
  obtain ⟨⟨hx, hb, hr, hml, hown, hT, hX, hbl, hlk⟩, hK, hK2, hi1, hi2, hap, hge, hge2⟩ := X
  have hbA : ¬ (fun q : Nat => s.heap.size ≤ q) b := Nat.not_le.mpr hbl
  obtain ⟨r, o1, o2, o3, o4, o5, o6, o7, o8, o9, o10, o11, o12, o13, o14, q1, q2, ho, hq, hRel⟩ := hs F G I J Z F2 G2 I2 J2 hRel (xs (nI i + 1).toNatClampNeg) (xs (nI i + 2).toNatClampNeg)
  refine lv_aload_n hx hb dL_law_176 rfl (lv_at hl 1 rfl) ?_
  refine lv_aload_n hx hb dL_law_177 rfl (lv_at hl 0 rfl) ?_
  refine lv_iload_n hx hb dL_law_178 rfl (lv_at hl 3 rfl) ?_
  refine lv_iconst (v := 1) hx hb dL_law_179 (by decide) ?_
  refine lv_iadd hx hb dL_law_180 ?_
  refine va_sld hx hb hX hbl hbA hS (i := nI i + 1) (li_in (k := 1) (by omega) hL) dL_law_181 ?_
  refine lv_aload_n hx hb dL_law_182 rfl (lv_at hl 0 rfl) ?_
  refine lv_iload_n hx hb dL_law_183 rfl (lv_at hl 3 rfl) ?_
  refine lv_iconst (v := 2) hx hb dL_law_184 (by decide) ?_
  refine lv_iadd hx hb dL_law_185 ?_
  refine va_sld hx hb hX hbl hbA hS (i := nI i + 2) (li_in (k := 2) (by omega) hL) dL_law_186 ?_
  refine lcall_i (rest := []) hx hb hml hown hT hK hap hge (ws2 := (wM a2 kc2 F2 G2 I2 J2)) rfl (c_X7_type F G I J Z hi1 (xs (nI i + 1).toNatClampNeg) (xs (nI i + 2).toNatClampNeg) ho) q_2_89 q_2_90 q_2_91 q_1_1 q_2_92 ok_X7_type rfl 34 rfl rfl ⟨Nat.le_of_ble_eq_true rfl, Nat.le_of_ble_eq_true rfl⟩ rfl rfl hl.1 rfl (Nat.le_of_ble_eq_true rfl) hcs dL_law_187 hP hP2 hS (fun H locs hP hP2 hS => ?_)
  refine lv_aload_n hx hb dL_law_190 rfl (lv_at hl 2 rfl) ?_
  refine lv_aload_n hx hb dL_law_191 rfl (lv_at hl 0 rfl) ?_
  refine lv_iload_n hx hb dL_law_192 rfl (lv_at hl 3 rfl) ?_
  refine lv_iconst (v := 1) hx hb dL_law_193 (by decide) ?_
  refine lv_iadd hx hb dL_law_194 ?_
  refine va_sld hx hb hX hbl hbA hS (i := nI i + 1) (li_in (k := 1) (by omega) hL) dL_law_195 ?_
  refine lv_aload_n hx hb dL_law_196 rfl (lv_at hl 0 rfl) ?_
  refine lv_iload_n hx hb dL_law_197 rfl (lv_at hl 3 rfl) ?_
  refine lv_iconst (v := 2) hx hb dL_law_198 (by decide) ?_
  refine lv_iadd hx hb dL_law_199 ?_
  refine va_sld hx hb hX hbl hbA hS (i := nI i + 2) (li_in (k := 2) (by omega) hL) dL_law_200 ?_
  refine lcall_i (rest := [.int r]) hx hb hml hown hT hK2 (fun i j hi hj h => hap j i hj hi h.symm) hge2 (ws2 := (wC a kc (va_up (va_up (va_up (va_up (va_up (va_up F 0 o1) 1 o2) 2 o3) 3 o4) 4 o5) 7 o6) G (va_up (va_up (va_up (va_up (va_up (va_up (va_up I 0 o7) 1 o8) 2 o9) 3 o10) 4 o11) 5 o12) 6 o13) J (va_up Z 0 o14))) rfl (c_X8_type F2 G2 I2 J2 hi2 (xs (nI i + 1).toNatClampNeg) (xs (nI i + 2).toNatClampNeg) hq) q_5_18 q_5_19 q_5_20 q_1_10 q_5_21 ok_X8_type rfl 0 rfl rfl ⟨Nat.le_of_ble_eq_true rfl, Nat.le_of_ble_eq_true rfl⟩ rfl rfl hl.1 rfl (Nat.le_of_ble_eq_true rfl) hcs dL_law_201 hP2 hP hS (fun H locs hP2 hP hS => ?_)
  refine lv_icmp_eq (tgt := 1162) hx hb dL_law_204 (by decide) (fun _ => ?_) (fun h => ?_)
  · refine lv_iinc (v := nI (i + 6)) (lv' := [(3, .int (nI (i + 6))), (0, .ref b), (1, .ref (a 34)), (2, .ref (a2 0))]) hx hb dL_law_1162 hl (k := 3) rfl (nI_add i 6) (by decide) rfl (fun ls hl => ?_)
    refine lv_goto (tgt := 18) hx hb dL_law_1165 (by decide) ?_
    exact kk (va_up (va_up (va_up (va_up (va_up (va_up F 0 o1) 1 o2) 2 o3) 3 o4) 4 o5) 7 o6) G (va_up (va_up (va_up (va_up (va_up (va_up (va_up I 0 o7) 1 o8) 2 o9) 3 o10) 4 o11) 5 o12) 6 o13) J (va_up Z 0 o14) F2 G2 (va_up (va_up I2 4 q1) 5 q2) J2 hRel H locs ls hP hP2 hS (lv_sub hl [1, 2, 3, 0] rfl)
  · exact absurd rfl h
set_option maxHeartbeats 4000000 in
set_option maxRecDepth 100000 in
theorem lawc_1 {p : Program} {l : Launch} {e : Env} {s : State} {m : MethodId} {below : List Frame} {meth : Method} {c : Code} {b L : Nat} {xs : Nat → Int32} {D : va_G} {a : Nat → Nat} {kc : Nat → ClassId} {a2 : Nat → Nat} {kc2 : Nat → ClassId} {cells slots : Nat} {Rel : RelT} (X : lwX p s m meth c b L xs D a kc a2 kc2) (hL : L ≤ 384) (hcs : cells ≤ room_1.cells ∧ slots ≤ room_1.slots) (hs : Sp_wipe Rel) {i : Nat} (hi : i + 6 ≤ L) (kk : ∀ (F : Nat → Int32) (G : Nat → Int64) (I : Nat → Nat → Int32) (J : Nat → Nat → Int64) (Z : Nat → Nat → Nat → Int32) (F2 : Nat → Int32) (G2 : Nat → Int64) (I2 : Nat → Nat → Int32) (J2 : Nat → Nat → Int64), Rel F G I J Z F2 G2 I2 J2 → ∀ (H : Heap) (locs : List Loc) (ls : Array Slot), va_P D vwCl (wC a kc F G I J Z) H → va_P D vwCl (wM a2 kc2 F2 G2 I2 J2) H → va_S (fun q : Nat => s.heap.size ≤ q) s.heap H locs → lv_has ls 4 [(0, .ref b), (1, .ref (a 34)), (2, .ref (a2 0)), (3, .int (nI (i + 6)))] → W p l e room_1 s m #[Value.ref b] below meth c H locs cells slots (lw_Z below #[Value.ref b] s) (F0 m 18 ls [])) :
    ∀ (F : Nat → Int32) (G : Nat → Int64) (I : Nat → Nat → Int32) (J : Nat → Nat → Int64) (Z : Nat → Nat → Nat → Int32) (F2 : Nat → Int32) (G2 : Nat → Int64) (I2 : Nat → Nat → Int32) (J2 : Nat → Nat → Int64), Rel F G I J Z F2 G2 I2 J2 → ∀ (H : Heap) (locs : List Loc) (ls : Array Slot), va_P D vwCl (wC a kc F G I J Z) H → va_P D vwCl (wM a2 kc2 F2 G2 I2 J2) H → va_S (fun q : Nat => s.heap.size ≤ q) s.heap H locs → lv_has ls 4 [(0, .ref b), (1, .ref (a 34)), (2, .ref (a2 0)), (3, .int (nI i))] → W p l e room_1 s m #[Value.ref b] below meth c H locs cells slots (lw_Z below #[Value.ref b] s) (F0 m 209 ls []) := by
  intro F G I J Z F2 G2 I2 J2 hRel H locs ls hP hP2 hS hl
  obtain ⟨⟨hx, hb, hr, hml, hown, hT, hX, hbl, hlk⟩, hK, hK2, hi1, hi2, hap, hge, hge2⟩ := X
  have hbA : ¬ (fun q : Nat => s.heap.size ≤ q) b := Nat.not_le.mpr hbl
  obtain ⟨r, o1, o2, o3, o4, o5, o6, o7, o8, o9, o10, o11, o12, o13, q1, ho, hq, hRel⟩ := hs F G I J Z F2 G2 I2 J2 hRel (xs (nI i + 1).toNatClampNeg)
  refine lv_aload_n hx hb dL_law_209 rfl (lv_at hl 1 rfl) ?_
  refine lv_aload_n hx hb dL_law_210 rfl (lv_at hl 0 rfl) ?_
  refine lv_iload_n hx hb dL_law_211 rfl (lv_at hl 3 rfl) ?_
  refine lv_iconst (v := 1) hx hb dL_law_212 (by decide) ?_
  refine lv_iadd hx hb dL_law_213 ?_
  refine va_sld hx hb hX hbl hbA hS (i := nI i + 1) (li_in (k := 1) (by omega) hL) dL_law_214 ?_
  refine lcall_i (rest := []) hx hb hml hown hT hK hap hge (ws2 := (wM a2 kc2 F2 G2 I2 J2)) rfl (c_X7_wipe F G I J Z hi1 (xs (nI i + 1).toNatClampNeg) ho) q_2_104 q_2_105 q_2_106 q_1_1 q_2_107 ok_X7_wipe rfl 34 rfl rfl ⟨Nat.le_of_ble_eq_true rfl, Nat.le_of_ble_eq_true rfl⟩ rfl rfl hl.1 rfl (Nat.le_of_ble_eq_true rfl) hcs dL_law_215 hP hP2 hS (fun H locs hP hP2 hS => ?_)
  refine lv_aload_n hx hb dL_law_218 rfl (lv_at hl 2 rfl) ?_
  refine lv_aload_n hx hb dL_law_219 rfl (lv_at hl 0 rfl) ?_
  refine lv_iload_n hx hb dL_law_220 rfl (lv_at hl 3 rfl) ?_
  refine lv_iconst (v := 1) hx hb dL_law_221 (by decide) ?_
  refine lv_iadd hx hb dL_law_222 ?_
  refine va_sld hx hb hX hbl hbA hS (i := nI i + 1) (li_in (k := 1) (by omega) hL) dL_law_223 ?_
  refine lcall_i (rest := [.int r]) hx hb hml hown hT hK2 (fun i j hi hj h => hap j i hj hi h.symm) hge2 (ws2 := (wC a kc (va_up (va_up (va_up (va_up (va_up (va_up F 0 o1) 1 o2) 2 o3) 3 o4) 4 o5) 7 o6) G (va_up (va_up (va_up (va_up (va_up (va_up (va_up I 0 o7) 1 o8) 2 o9) 3 o10) 4 o11) 5 o12) 6 o13) J Z)) rfl (c_X8_wipe F2 G2 I2 J2 hi2 (xs (nI i + 1).toNatClampNeg) hq) q_5_26 q_5_27 q_5_28 q_1_10 q_5_29 ok_X8_wipe rfl 0 rfl rfl ⟨Nat.le_of_ble_eq_true rfl, Nat.le_of_ble_eq_true rfl⟩ rfl rfl hl.1 rfl (Nat.le_of_ble_eq_true rfl) hcs dL_law_224 hP2 hP hS (fun H locs hP2 hP hS => ?_)
  refine lv_icmp_eq (tgt := 1162) hx hb dL_law_227 (by decide) (fun _ => ?_) (fun h => ?_)
  · refine lv_iinc (v := nI (i + 6)) (lv' := [(3, .int (nI (i + 6))), (0, .ref b), (1, .ref (a 34)), (2, .ref (a2 0))]) hx hb dL_law_1162 hl (k := 3) rfl (nI_add i 6) (by decide) rfl (fun ls hl => ?_)
    refine lv_goto (tgt := 18) hx hb dL_law_1165 (by decide) ?_
    exact kk (va_up (va_up (va_up (va_up (va_up (va_up F 0 o1) 1 o2) 2 o3) 3 o4) 4 o5) 7 o6) G (va_up (va_up (va_up (va_up (va_up (va_up (va_up I 0 o7) 1 o8) 2 o9) 3 o10) 4 o11) 5 o12) 6 o13) J Z F2 G2 (va_up I2 5 q1) J2 hRel H locs ls hP hP2 hS (lv_sub hl [1, 2, 3, 0] rfl)
  · exact absurd rfl h
set_option maxHeartbeats 4000000 in
set_option maxRecDepth 100000 in
theorem lawc_2 {p : Program} {l : Launch} {e : Env} {s : State} {m : MethodId} {below : List Frame} {meth : Method} {c : Code} {b L : Nat} {xs : Nat → Int32} {D : va_G} {a : Nat → Nat} {kc : Nat → ClassId} {a2 : Nat → Nat} {kc2 : Nat → ClassId} {cells slots : Nat} {Rel : RelT} (X : lwX p s m meth c b L xs D a kc a2 kc2) (hL : L ≤ 384) (hcs : cells ≤ room_1.cells ∧ slots ≤ room_1.slots) (hs : Sp_fault Rel) {i : Nat} (hi : i + 6 ≤ L) (kk : ∀ (F : Nat → Int32) (G : Nat → Int64) (I : Nat → Nat → Int32) (J : Nat → Nat → Int64) (Z : Nat → Nat → Nat → Int32) (F2 : Nat → Int32) (G2 : Nat → Int64) (I2 : Nat → Nat → Int32) (J2 : Nat → Nat → Int64), Rel F G I J Z F2 G2 I2 J2 → ∀ (H : Heap) (locs : List Loc) (ls : Array Slot), va_P D vwCl (wC a kc F G I J Z) H → va_P D vwCl (wM a2 kc2 F2 G2 I2 J2) H → va_S (fun q : Nat => s.heap.size ≤ q) s.heap H locs → lv_has ls 4 [(0, .ref b), (1, .ref (a 34)), (2, .ref (a2 0)), (3, .int (nI (i + 6)))] → W p l e room_1 s m #[Value.ref b] below meth c H locs cells slots (lw_Z below #[Value.ref b] s) (F0 m 18 ls [])) :
    ∀ (F : Nat → Int32) (G : Nat → Int64) (I : Nat → Nat → Int32) (J : Nat → Nat → Int64) (Z : Nat → Nat → Nat → Int32) (F2 : Nat → Int32) (G2 : Nat → Int64) (I2 : Nat → Nat → Int32) (J2 : Nat → Nat → Int64), Rel F G I J Z F2 G2 I2 J2 → ∀ (H : Heap) (locs : List Loc) (ls : Array Slot), va_P D vwCl (wC a kc F G I J Z) H → va_P D vwCl (wM a2 kc2 F2 G2 I2 J2) H → va_S (fun q : Nat => s.heap.size ≤ q) s.heap H locs → lv_has ls 4 [(0, .ref b), (1, .ref (a 34)), (2, .ref (a2 0)), (3, .int (nI i))] → W p l e room_1 s m #[Value.ref b] below meth c H locs cells slots (lw_Z below #[Value.ref b] s) (F0 m 232 ls []) := by
  intro F G I J Z F2 G2 I2 J2 hRel H locs ls hP hP2 hS hl
  obtain ⟨⟨hx, hb, hr, hml, hown, hT, hX, hbl, hlk⟩, hK, hK2, hi1, hi2, hap, hge, hge2⟩ := X
  have hbA : ¬ (fun q : Nat => s.heap.size ≤ q) b := Nat.not_le.mpr hbl
  obtain ⟨r, q1, q2, q3, q4, q5, q6, q7, q8, ho, hq, hRel⟩ := hs F G I J Z F2 G2 I2 J2 hRel (xs (nI i + 1).toNatClampNeg)
  refine lv_aload_n hx hb dL_law_232 rfl (lv_at hl 1 rfl) ?_
  refine lv_aload_n hx hb dL_law_233 rfl (lv_at hl 0 rfl) ?_
  refine lv_iload_n hx hb dL_law_234 rfl (lv_at hl 3 rfl) ?_
  refine lv_iconst (v := 1) hx hb dL_law_235 (by decide) ?_
  refine lv_iadd hx hb dL_law_236 ?_
  refine va_sld hx hb hX hbl hbA hS (i := nI i + 1) (li_in (k := 1) (by omega) hL) dL_law_237 ?_
  refine lcall_i (rest := []) hx hb hml hown hT hK hap hge (ws2 := (wM a2 kc2 F2 G2 I2 J2)) rfl (c_X7_fault F G I J Z hi1 (xs (nI i + 1).toNatClampNeg) ho) q_2_112 q_2_113 q_2_114 q_1_1 q_2_115 ok_X7_fault rfl 34 rfl rfl ⟨Nat.le_of_ble_eq_true rfl, Nat.le_of_ble_eq_true rfl⟩ rfl rfl hl.1 rfl (Nat.le_of_ble_eq_true rfl) hcs dL_law_238 hP hP2 hS (fun H locs hP hP2 hS => ?_)
  refine lv_aload_n hx hb dL_law_241 rfl (lv_at hl 2 rfl) ?_
  refine lv_aload_n hx hb dL_law_242 rfl (lv_at hl 0 rfl) ?_
  refine lv_iload_n hx hb dL_law_243 rfl (lv_at hl 3 rfl) ?_
  refine lv_iconst (v := 1) hx hb dL_law_244 (by decide) ?_
  refine lv_iadd hx hb dL_law_245 ?_
  refine va_sld hx hb hX hbl hbA hS (i := nI i + 1) (li_in (k := 1) (by omega) hL) dL_law_246 ?_
  refine lcall_i (rest := [.int r]) hx hb hml hown hT hK2 (fun i j hi hj h => hap j i hj hi h.symm) hge2 (ws2 := (wC a kc F G I J Z)) rfl (c_X8_fault F2 G2 I2 J2 hi2 (xs (nI i + 1).toNatClampNeg) hq) q_5_30 q_5_31 q_5_32 q_1_10 q_5_33 ok_X8_fault rfl 0 rfl rfl ⟨Nat.le_of_ble_eq_true rfl, Nat.le_of_ble_eq_true rfl⟩ rfl rfl hl.1 rfl (Nat.le_of_ble_eq_true rfl) hcs dL_law_247 hP2 hP hS (fun H locs hP2 hP hS => ?_)
  refine lv_icmp_eq (tgt := 1162) hx hb dL_law_250 (by decide) (fun _ => ?_) (fun h => ?_)
  · refine lv_iinc (v := nI (i + 6)) (lv' := [(3, .int (nI (i + 6))), (0, .ref b), (1, .ref (a 34)), (2, .ref (a2 0))]) hx hb dL_law_1162 hl (k := 3) rfl (nI_add i 6) (by decide) rfl (fun ls hl => ?_)
    refine lv_goto (tgt := 18) hx hb dL_law_1165 (by decide) ?_
    exact kk F G I J Z (va_up (va_up (va_up (va_up F2 1 q1) 2 q2) 3 q3) 4 q4) G2 (va_up (va_up (va_up (va_up I2 6 q5) 7 q6) 8 q7) 9 q8) J2 hRel H locs ls hP hP2 hS (lv_sub hl [1, 2, 3, 0] rfl)
  · exact absurd rfl h
set_option maxHeartbeats 4000000 in
set_option maxRecDepth 100000 in
theorem lawc_3 {p : Program} {l : Launch} {e : Env} {s : State} {m : MethodId} {below : List Frame} {meth : Method} {c : Code} {b L : Nat} {xs : Nat → Int32} {D : va_G} {a : Nat → Nat} {kc : Nat → ClassId} {a2 : Nat → Nat} {kc2 : Nat → ClassId} {cells slots : Nat} {Rel : RelT} (X : lwX p s m meth c b L xs D a kc a2 kc2) (hL : L ≤ 384) (hcs : cells ≤ room_1.cells ∧ slots ≤ room_1.slots) (hs : Sp_seat Rel) {i : Nat} (hi : i + 6 ≤ L) (kk : ∀ (F : Nat → Int32) (G : Nat → Int64) (I : Nat → Nat → Int32) (J : Nat → Nat → Int64) (Z : Nat → Nat → Nat → Int32) (F2 : Nat → Int32) (G2 : Nat → Int64) (I2 : Nat → Nat → Int32) (J2 : Nat → Nat → Int64), Rel F G I J Z F2 G2 I2 J2 → ∀ (H : Heap) (locs : List Loc) (ls : Array Slot), va_P D vwCl (wC a kc F G I J Z) H → va_P D vwCl (wM a2 kc2 F2 G2 I2 J2) H → va_S (fun q : Nat => s.heap.size ≤ q) s.heap H locs → lv_has ls 4 [(0, .ref b), (1, .ref (a 34)), (2, .ref (a2 0)), (3, .int (nI (i + 6)))] → W p l e room_1 s m #[Value.ref b] below meth c H locs cells slots (lw_Z below #[Value.ref b] s) (F0 m 18 ls [])) :
    ∀ (F : Nat → Int32) (G : Nat → Int64) (I : Nat → Nat → Int32) (J : Nat → Nat → Int64) (Z : Nat → Nat → Nat → Int32) (F2 : Nat → Int32) (G2 : Nat → Int64) (I2 : Nat → Nat → Int32) (J2 : Nat → Nat → Int64), Rel F G I J Z F2 G2 I2 J2 → ∀ (H : Heap) (locs : List Loc) (ls : Array Slot), va_P D vwCl (wC a kc F G I J Z) H → va_P D vwCl (wM a2 kc2 F2 G2 I2 J2) H → va_S (fun q : Nat => s.heap.size ≤ q) s.heap H locs → lv_has ls 4 [(0, .ref b), (1, .ref (a 34)), (2, .ref (a2 0)), (3, .int (nI i))] → W p l e room_1 s m #[Value.ref b] below meth c H locs cells slots (lw_Z below #[Value.ref b] s) (F0 m 255 ls []) := by
  intro F G I J Z F2 G2 I2 J2 hRel H locs ls hP hP2 hS hl
  obtain ⟨⟨hx, hb, hr, hml, hown, hT, hX, hbl, hlk⟩, hK, hK2, hi1, hi2, hap, hge, hge2⟩ := X
  have hbA : ¬ (fun q : Nat => s.heap.size ≤ q) b := Nat.not_le.mpr hbl
  obtain ⟨r, q1, q2, q3, q4, q5, q6, q7, q8, ho, hq, hRel⟩ := hs F G I J Z F2 G2 I2 J2 hRel (xs (nI i + 1).toNatClampNeg) (xs (nI i + 2).toNatClampNeg)
  refine lv_aload_n hx hb dL_law_255 rfl (lv_at hl 1 rfl) ?_
  refine lv_aload_n hx hb dL_law_256 rfl (lv_at hl 0 rfl) ?_
  refine lv_iload_n hx hb dL_law_257 rfl (lv_at hl 3 rfl) ?_
  refine lv_iconst (v := 1) hx hb dL_law_258 (by decide) ?_
  refine lv_iadd hx hb dL_law_259 ?_
  refine va_sld hx hb hX hbl hbA hS (i := nI i + 1) (li_in (k := 1) (by omega) hL) dL_law_260 ?_
  refine lv_aload_n hx hb dL_law_261 rfl (lv_at hl 0 rfl) ?_
  refine lv_iload_n hx hb dL_law_262 rfl (lv_at hl 3 rfl) ?_
  refine lv_iconst (v := 2) hx hb dL_law_263 (by decide) ?_
  refine lv_iadd hx hb dL_law_264 ?_
  refine va_sld hx hb hX hbl hbA hS (i := nI i + 2) (li_in (k := 2) (by omega) hL) dL_law_265 ?_
  refine lcall_i (rest := []) hx hb hml hown hT hK hap hge (ws2 := (wM a2 kc2 F2 G2 I2 J2)) rfl (c_X7_seat F G I J Z hi1 (xs (nI i + 1).toNatClampNeg) (xs (nI i + 2).toNatClampNeg) ho) q_2_116 q_2_117 q_2_118 q_1_1 q_2_119 ok_X7_seat rfl 34 rfl rfl ⟨Nat.le_of_ble_eq_true rfl, Nat.le_of_ble_eq_true rfl⟩ rfl rfl hl.1 rfl (Nat.le_of_ble_eq_true rfl) hcs dL_law_266 hP hP2 hS (fun H locs hP hP2 hS => ?_)
  refine lv_aload_n hx hb dL_law_269 rfl (lv_at hl 2 rfl) ?_
  refine lv_aload_n hx hb dL_law_270 rfl (lv_at hl 0 rfl) ?_
  refine lv_iload_n hx hb dL_law_271 rfl (lv_at hl 3 rfl) ?_
  refine lv_iconst (v := 1) hx hb dL_law_272 (by decide) ?_
  refine lv_iadd hx hb dL_law_273 ?_
  refine va_sld hx hb hX hbl hbA hS (i := nI i + 1) (li_in (k := 1) (by omega) hL) dL_law_274 ?_
  refine lv_aload_n hx hb dL_law_275 rfl (lv_at hl 0 rfl) ?_
  refine lv_iload_n hx hb dL_law_276 rfl (lv_at hl 3 rfl) ?_
  refine lv_iconst (v := 2) hx hb dL_law_277 (by decide) ?_
  refine lv_iadd hx hb dL_law_278 ?_
  refine va_sld hx hb hX hbl hbA hS (i := nI i + 2) (li_in (k := 2) (by omega) hL) dL_law_279 ?_
  refine lcall_i (rest := [.int r]) hx hb hml hown hT hK2 (fun i j hi hj h => hap j i hj hi h.symm) hge2 (ws2 := (wC a kc F G I J Z)) rfl (c_X8_seat F2 G2 I2 J2 hi2 (xs (nI i + 1).toNatClampNeg) (xs (nI i + 2).toNatClampNeg) hq) q_5_61 q_5_62 q_5_63 q_1_10 q_5_64 ok_X8_seat rfl 0 rfl rfl ⟨Nat.le_of_ble_eq_true rfl, Nat.le_of_ble_eq_true rfl⟩ rfl rfl hl.1 rfl (Nat.le_of_ble_eq_true rfl) hcs dL_law_280 hP2 hP hS (fun H locs hP2 hP hS => ?_)
  refine lv_icmp_eq (tgt := 1162) hx hb dL_law_283 (by decide) (fun _ => ?_) (fun h => ?_)
  · refine lv_iinc (v := nI (i + 6)) (lv' := [(3, .int (nI (i + 6))), (0, .ref b), (1, .ref (a 34)), (2, .ref (a2 0))]) hx hb dL_law_1162 hl (k := 3) rfl (nI_add i 6) (by decide) rfl (fun ls hl => ?_)
    refine lv_goto (tgt := 18) hx hb dL_law_1165 (by decide) ?_
    exact kk F G I J Z (va_up (va_up (va_up (va_up F2 1 q1) 2 q2) 3 q3) 4 q4) G2 (va_up (va_up (va_up (va_up I2 6 q5) 7 q6) 8 q7) 9 q8) J2 hRel H locs ls hP hP2 hS (lv_sub hl [1, 2, 3, 0] rfl)
  · exact absurd rfl h
set_option maxHeartbeats 4000000 in
set_option maxRecDepth 100000 in
theorem lawc_4 {p : Program} {l : Launch} {e : Env} {s : State} {m : MethodId} {below : List Frame} {meth : Method} {c : Code} {b L : Nat} {xs : Nat → Int32} {D : va_G} {a : Nat → Nat} {kc : Nat → ClassId} {a2 : Nat → Nat} {kc2 : Nat → ClassId} {cells slots : Nat} {Rel : RelT} (X : lwX p s m meth c b L xs D a kc a2 kc2) (hL : L ≤ 384) (hcs : cells ≤ room_1.cells ∧ slots ≤ room_1.slots) (hs : Sp_person Rel) {i : Nat} (hi : i + 6 ≤ L) (kk : ∀ (F : Nat → Int32) (G : Nat → Int64) (I : Nat → Nat → Int32) (J : Nat → Nat → Int64) (Z : Nat → Nat → Nat → Int32) (F2 : Nat → Int32) (G2 : Nat → Int64) (I2 : Nat → Nat → Int32) (J2 : Nat → Nat → Int64), Rel F G I J Z F2 G2 I2 J2 → ∀ (H : Heap) (locs : List Loc) (ls : Array Slot), va_P D vwCl (wC a kc F G I J Z) H → va_P D vwCl (wM a2 kc2 F2 G2 I2 J2) H → va_S (fun q : Nat => s.heap.size ≤ q) s.heap H locs → lv_has ls 4 [(0, .ref b), (1, .ref (a 34)), (2, .ref (a2 0)), (3, .int (nI (i + 6)))] → W p l e room_1 s m #[Value.ref b] below meth c H locs cells slots (lw_Z below #[Value.ref b] s) (F0 m 18 ls [])) :
    ∀ (F : Nat → Int32) (G : Nat → Int64) (I : Nat → Nat → Int32) (J : Nat → Nat → Int64) (Z : Nat → Nat → Nat → Int32) (F2 : Nat → Int32) (G2 : Nat → Int64) (I2 : Nat → Nat → Int32) (J2 : Nat → Nat → Int64), Rel F G I J Z F2 G2 I2 J2 → ∀ (H : Heap) (locs : List Loc) (ls : Array Slot), va_P D vwCl (wC a kc F G I J Z) H → va_P D vwCl (wM a2 kc2 F2 G2 I2 J2) H → va_S (fun q : Nat => s.heap.size ≤ q) s.heap H locs → lv_has ls 4 [(0, .ref b), (1, .ref (a 34)), (2, .ref (a2 0)), (3, .int (nI i))] → W p l e room_1 s m #[Value.ref b] below meth c H locs cells slots (lw_Z below #[Value.ref b] s) (F0 m 288 ls []) := by
  intro F G I J Z F2 G2 I2 J2 hRel H locs ls hP hP2 hS hl
  obtain ⟨⟨hx, hb, hr, hml, hown, hT, hX, hbl, hlk⟩, hK, hK2, hi1, hi2, hap, hge, hge2⟩ := X
  have hbA : ¬ (fun q : Nat => s.heap.size ≤ q) b := Nat.not_le.mpr hbl
  obtain ⟨r, q1, q2, q3, q4, q5, q6, q7, q8, ho, hq, hRel⟩ := hs F G I J Z F2 G2 I2 J2 hRel (xs (nI i + 1).toNatClampNeg) (xs (nI i + 2).toNatClampNeg)
  refine lv_aload_n hx hb dL_law_288 rfl (lv_at hl 1 rfl) ?_
  refine lv_aload_n hx hb dL_law_289 rfl (lv_at hl 0 rfl) ?_
  refine lv_iload_n hx hb dL_law_290 rfl (lv_at hl 3 rfl) ?_
  refine lv_iconst (v := 1) hx hb dL_law_291 (by decide) ?_
  refine lv_iadd hx hb dL_law_292 ?_
  refine va_sld hx hb hX hbl hbA hS (i := nI i + 1) (li_in (k := 1) (by omega) hL) dL_law_293 ?_
  refine lv_aload_n hx hb dL_law_294 rfl (lv_at hl 0 rfl) ?_
  refine lv_iload_n hx hb dL_law_295 rfl (lv_at hl 3 rfl) ?_
  refine lv_iconst (v := 2) hx hb dL_law_296 (by decide) ?_
  refine lv_iadd hx hb dL_law_297 ?_
  refine va_sld hx hb hX hbl hbA hS (i := nI i + 2) (li_in (k := 2) (by omega) hL) dL_law_298 ?_
  refine lcall_i (rest := []) hx hb hml hown hT hK hap hge (ws2 := (wM a2 kc2 F2 G2 I2 J2)) rfl (c_X7_person F G I J Z hi1 (xs (nI i + 1).toNatClampNeg) (xs (nI i + 2).toNatClampNeg) ho) q_2_128 q_2_129 q_2_130 q_1_1 q_2_131 ok_X7_person rfl 34 rfl rfl ⟨Nat.le_of_ble_eq_true rfl, Nat.le_of_ble_eq_true rfl⟩ rfl rfl hl.1 rfl (Nat.le_of_ble_eq_true rfl) hcs dL_law_299 hP hP2 hS (fun H locs hP hP2 hS => ?_)
  refine lv_aload_n hx hb dL_law_302 rfl (lv_at hl 2 rfl) ?_
  refine lv_aload_n hx hb dL_law_303 rfl (lv_at hl 0 rfl) ?_
  refine lv_iload_n hx hb dL_law_304 rfl (lv_at hl 3 rfl) ?_
  refine lv_iconst (v := 1) hx hb dL_law_305 (by decide) ?_
  refine lv_iadd hx hb dL_law_306 ?_
  refine va_sld hx hb hX hbl hbA hS (i := nI i + 1) (li_in (k := 1) (by omega) hL) dL_law_307 ?_
  refine lv_aload_n hx hb dL_law_308 rfl (lv_at hl 0 rfl) ?_
  refine lv_iload_n hx hb dL_law_309 rfl (lv_at hl 3 rfl) ?_
  refine lv_iconst (v := 2) hx hb dL_law_310 (by decide) ?_
  refine lv_iadd hx hb dL_law_311 ?_
  refine va_sld hx hb hX hbl hbA hS (i := nI i + 2) (li_in (k := 2) (by omega) hL) dL_law_312 ?_
  refine lcall_i (rest := [.int r]) hx hb hml hown hT hK2 (fun i j hi hj h => hap j i hj hi h.symm) hge2 (ws2 := (wC a kc F G I J Z)) rfl (c_X8_person F2 G2 I2 J2 hi2 (xs (nI i + 1).toNatClampNeg) (xs (nI i + 2).toNatClampNeg) hq) q_5_81 q_5_82 q_5_83 q_1_10 q_5_84 ok_X8_person rfl 0 rfl rfl ⟨Nat.le_of_ble_eq_true rfl, Nat.le_of_ble_eq_true rfl⟩ rfl rfl hl.1 rfl (Nat.le_of_ble_eq_true rfl) hcs dL_law_313 hP2 hP hS (fun H locs hP2 hP hS => ?_)
  refine lv_icmp_eq (tgt := 1162) hx hb dL_law_316 (by decide) (fun _ => ?_) (fun h => ?_)
  · refine lv_iinc (v := nI (i + 6)) (lv' := [(3, .int (nI (i + 6))), (0, .ref b), (1, .ref (a 34)), (2, .ref (a2 0))]) hx hb dL_law_1162 hl (k := 3) rfl (nI_add i 6) (by decide) rfl (fun ls hl => ?_)
    refine lv_goto (tgt := 18) hx hb dL_law_1165 (by decide) ?_
    exact kk F G I J Z (va_up (va_up (va_up (va_up F2 1 q1) 2 q2) 3 q3) 4 q4) G2 (va_up (va_up (va_up (va_up I2 6 q5) 7 q6) 8 q7) 9 q8) J2 hRel H locs ls hP hP2 hS (lv_sub hl [1, 2, 3, 0] rfl)
  · exact absurd rfl h
set_option maxHeartbeats 4000000 in
set_option maxRecDepth 100000 in
theorem lawc_5 {p : Program} {l : Launch} {e : Env} {s : State} {m : MethodId} {below : List Frame} {meth : Method} {c : Code} {b L : Nat} {xs : Nat → Int32} {D : va_G} {a : Nat → Nat} {kc : Nat → ClassId} {a2 : Nat → Nat} {kc2 : Nat → ClassId} {cells slots : Nat} {Rel : RelT} (X : lwX p s m meth c b L xs D a kc a2 kc2) (hL : L ≤ 384) (hcs : cells ≤ room_1.cells ∧ slots ≤ room_1.slots) (hs : Sp_likely Rel) {i : Nat} (hi : i + 6 ≤ L) (kk : ∀ (F : Nat → Int32) (G : Nat → Int64) (I : Nat → Nat → Int32) (J : Nat → Nat → Int64) (Z : Nat → Nat → Nat → Int32) (F2 : Nat → Int32) (G2 : Nat → Int64) (I2 : Nat → Nat → Int32) (J2 : Nat → Nat → Int64), Rel F G I J Z F2 G2 I2 J2 → ∀ (H : Heap) (locs : List Loc) (ls : Array Slot), va_P D vwCl (wC a kc F G I J Z) H → va_P D vwCl (wM a2 kc2 F2 G2 I2 J2) H → va_S (fun q : Nat => s.heap.size ≤ q) s.heap H locs → lv_has ls 4 [(0, .ref b), (1, .ref (a 34)), (2, .ref (a2 0)), (3, .int (nI (i + 6)))] → W p l e room_1 s m #[Value.ref b] below meth c H locs cells slots (lw_Z below #[Value.ref b] s) (F0 m 18 ls [])) :
    ∀ (F : Nat → Int32) (G : Nat → Int64) (I : Nat → Nat → Int32) (J : Nat → Nat → Int64) (Z : Nat → Nat → Nat → Int32) (F2 : Nat → Int32) (G2 : Nat → Int64) (I2 : Nat → Nat → Int32) (J2 : Nat → Nat → Int64), Rel F G I J Z F2 G2 I2 J2 → ∀ (H : Heap) (locs : List Loc) (ls : Array Slot), va_P D vwCl (wC a kc F G I J Z) H → va_P D vwCl (wM a2 kc2 F2 G2 I2 J2) H → va_S (fun q : Nat => s.heap.size ≤ q) s.heap H locs → lv_has ls 4 [(0, .ref b), (1, .ref (a 34)), (2, .ref (a2 0)), (3, .int (nI i))] → W p l e room_1 s m #[Value.ref b] below meth c H locs cells slots (lw_Z below #[Value.ref b] s) (F0 m 321 ls []) := by
  intro F G I J Z F2 G2 I2 J2 hRel H locs ls hP hP2 hS hl
  obtain ⟨⟨hx, hb, hr, hml, hown, hT, hX, hbl, hlk⟩, hK, hK2, hi1, hi2, hap, hge, hge2⟩ := X
  have hbA : ¬ (fun q : Nat => s.heap.size ≤ q) b := Nat.not_le.mpr hbl
  obtain ⟨r, o1, o2, o3, o4, o5, o6, o7, o8, q1, q2, q3, q4, q5, q6, q7, q8, q9, q10, q11, q12, q13, q14, q15, ho, hq, hRel⟩ := hs F G I J Z F2 G2 I2 J2 hRel (xs (nI i + 1).toNatClampNeg) (xs (nI i + 2).toNatClampNeg) (xs (nI i + 3).toNatClampNeg)
  refine lv_aload_n hx hb dL_law_321 rfl (lv_at hl 1 rfl) ?_
  refine lv_aload_n hx hb dL_law_322 rfl (lv_at hl 0 rfl) ?_
  refine lv_iload_n hx hb dL_law_323 rfl (lv_at hl 3 rfl) ?_
  refine lv_iconst (v := 1) hx hb dL_law_324 (by decide) ?_
  refine lv_iadd hx hb dL_law_325 ?_
  refine va_sld hx hb hX hbl hbA hS (i := nI i + 1) (li_in (k := 1) (by omega) hL) dL_law_326 ?_
  refine lv_aload_n hx hb dL_law_327 rfl (lv_at hl 0 rfl) ?_
  refine lv_iload_n hx hb dL_law_328 rfl (lv_at hl 3 rfl) ?_
  refine lv_iconst (v := 2) hx hb dL_law_329 (by decide) ?_
  refine lv_iadd hx hb dL_law_330 ?_
  refine va_sld hx hb hX hbl hbA hS (i := nI i + 2) (li_in (k := 2) (by omega) hL) dL_law_331 ?_
  refine lv_aload_n hx hb dL_law_332 rfl (lv_at hl 0 rfl) ?_
  refine lv_iload_n hx hb dL_law_333 rfl (lv_at hl 3 rfl) ?_
  refine lv_iconst (v := 3) hx hb dL_law_334 (by decide) ?_
  refine lv_iadd hx hb dL_law_335 ?_
  refine va_sld hx hb hX hbl hbA hS (i := nI i + 3) (li_in (k := 3) (by omega) hL) dL_law_336 ?_
  refine lcall_l (rest := []) hx hb hml hown hT hK hap hge (ws2 := (wM a2 kc2 F2 G2 I2 J2)) rfl (c_X7_likely F G I J Z hi1 (xs (nI i + 1).toNatClampNeg) (xs (nI i + 2).toNatClampNeg) (xs (nI i + 3).toNatClampNeg) ho) q_2_139 q_2_140 q_2_141 q_1_1 q_2_142 ok_X7_likely rfl 34 rfl rfl ⟨Nat.le_of_ble_eq_true rfl, Nat.le_of_ble_eq_true rfl⟩ rfl rfl hl.1 rfl (Nat.le_of_ble_eq_true rfl) hcs dL_law_337 hP hP2 hS (fun H locs hP hP2 hS => ?_)
  refine lv_aload_n hx hb dL_law_340 rfl (lv_at hl 2 rfl) ?_
  refine lv_aload_n hx hb dL_law_341 rfl (lv_at hl 0 rfl) ?_
  refine lv_iload_n hx hb dL_law_342 rfl (lv_at hl 3 rfl) ?_
  refine lv_iconst (v := 1) hx hb dL_law_343 (by decide) ?_
  refine lv_iadd hx hb dL_law_344 ?_
  refine va_sld hx hb hX hbl hbA hS (i := nI i + 1) (li_in (k := 1) (by omega) hL) dL_law_345 ?_
  refine lv_aload_n hx hb dL_law_346 rfl (lv_at hl 0 rfl) ?_
  refine lv_iload_n hx hb dL_law_347 rfl (lv_at hl 3 rfl) ?_
  refine lv_iconst (v := 2) hx hb dL_law_348 (by decide) ?_
  refine lv_iadd hx hb dL_law_349 ?_
  refine va_sld hx hb hX hbl hbA hS (i := nI i + 2) (li_in (k := 2) (by omega) hL) dL_law_350 ?_
  refine lv_aload_n hx hb dL_law_351 rfl (lv_at hl 0 rfl) ?_
  refine lv_iload_n hx hb dL_law_352 rfl (lv_at hl 3 rfl) ?_
  refine lv_iconst (v := 3) hx hb dL_law_353 (by decide) ?_
  refine lv_iadd hx hb dL_law_354 ?_
  refine va_sld hx hb hX hbl hbA hS (i := nI i + 3) (li_in (k := 3) (by omega) hL) dL_law_355 ?_
  refine lcall_l (rest := [.long r]) hx hb hml hown hT hK2 (fun i j hi hj h => hap j i hj hi h.symm) hge2 (ws2 := (wC a kc (va_up F 3 o1) (va_up (va_up G 0 o2) 1 o3) I (va_up (va_up (va_up (va_up (va_up J 0 o4) 1 o5) 2 o6) 3 o7) 4 o8) Z)) rfl (c_X8_likely F2 G2 I2 J2 hi2 (xs (nI i + 1).toNatClampNeg) (xs (nI i + 2).toNatClampNeg) (xs (nI i + 3).toNatClampNeg) hq) q_5_89 q_5_90 q_5_91 q_1_10 q_5_92 ok_X8_likely rfl 0 rfl rfl ⟨Nat.le_of_ble_eq_true rfl, Nat.le_of_ble_eq_true rfl⟩ rfl rfl hl.1 rfl (Nat.le_of_ble_eq_true rfl) hcs dL_law_356 hP2 hP hS (fun H locs hP2 hP hS => ?_)
  refine W.lcmp hx hb dL_law_359 ?_
  refine lv_if_eq (tgt := 1162) hx hb dL_law_360 (by decide) (fun _ => ?_) (fun h => ?_)
  · refine lv_iinc (v := nI (i + 6)) (lv' := [(3, .int (nI (i + 6))), (0, .ref b), (1, .ref (a 34)), (2, .ref (a2 0))]) hx hb dL_law_1162 hl (k := 3) rfl (nI_add i 6) (by decide) rfl (fun ls hl => ?_)
    refine lv_goto (tgt := 18) hx hb dL_law_1165 (by decide) ?_
    exact kk (va_up F 3 o1) (va_up (va_up G 0 o2) 1 o3) I (va_up (va_up (va_up (va_up (va_up J 0 o4) 1 o5) 2 o6) 3 o7) 4 o8) Z (va_up (va_up (va_up (va_up (va_up (va_up (va_up F2 1 q1) 2 q2) 3 q3) 4 q4) 5 q5) 6 q6) 8 q7) (va_up G2 0 q8) (va_up (va_up (va_up (va_up (va_up I2 6 q9) 7 q10) 8 q11) 9 q12) 10 q13) (va_up (va_up J2 0 q14) 1 q15) hRel H locs ls hP hP2 hS (lv_sub hl [1, 2, 3, 0] rfl)
  · exact absurd (by simp [lg_cmp]) h
set_option maxHeartbeats 4000000 in
set_option maxRecDepth 100000 in
theorem lawc_6 {p : Program} {l : Launch} {e : Env} {s : State} {m : MethodId} {below : List Frame} {meth : Method} {c : Code} {b L : Nat} {xs : Nat → Int32} {D : va_G} {a : Nat → Nat} {kc : Nat → ClassId} {a2 : Nat → Nat} {kc2 : Nat → ClassId} {cells slots : Nat} {Rel : RelT} (X : lwX p s m meth c b L xs D a kc a2 kc2) (hL : L ≤ 384) (hcs : cells ≤ room_1.cells ∧ slots ≤ room_1.slots) (hs : Sp_taken Rel) {i : Nat} (hi : i + 6 ≤ L) (kk : ∀ (F : Nat → Int32) (G : Nat → Int64) (I : Nat → Nat → Int32) (J : Nat → Nat → Int64) (Z : Nat → Nat → Nat → Int32) (F2 : Nat → Int32) (G2 : Nat → Int64) (I2 : Nat → Nat → Int32) (J2 : Nat → Nat → Int64), Rel F G I J Z F2 G2 I2 J2 → ∀ (H : Heap) (locs : List Loc) (ls : Array Slot), va_P D vwCl (wC a kc F G I J Z) H → va_P D vwCl (wM a2 kc2 F2 G2 I2 J2) H → va_S (fun q : Nat => s.heap.size ≤ q) s.heap H locs → lv_has ls 4 [(0, .ref b), (1, .ref (a 34)), (2, .ref (a2 0)), (3, .int (nI (i + 6)))] → W p l e room_1 s m #[Value.ref b] below meth c H locs cells slots (lw_Z below #[Value.ref b] s) (F0 m 18 ls [])) :
    ∀ (F : Nat → Int32) (G : Nat → Int64) (I : Nat → Nat → Int32) (J : Nat → Nat → Int64) (Z : Nat → Nat → Nat → Int32) (F2 : Nat → Int32) (G2 : Nat → Int64) (I2 : Nat → Nat → Int32) (J2 : Nat → Nat → Int64), Rel F G I J Z F2 G2 I2 J2 → ∀ (H : Heap) (locs : List Loc) (ls : Array Slot), va_P D vwCl (wC a kc F G I J Z) H → va_P D vwCl (wM a2 kc2 F2 G2 I2 J2) H → va_S (fun q : Nat => s.heap.size ≤ q) s.heap H locs → lv_has ls 4 [(0, .ref b), (1, .ref (a 34)), (2, .ref (a2 0)), (3, .int (nI i))] → W p l e room_1 s m #[Value.ref b] below meth c H locs cells slots (lw_Z below #[Value.ref b] s) (F0 m 365 ls []) := by
  intro F G I J Z F2 G2 I2 J2 hRel H locs ls hP hP2 hS hl
  obtain ⟨⟨hx, hb, hr, hml, hown, hT, hX, hbl, hlk⟩, hK, hK2, hi1, hi2, hap, hge, hge2⟩ := X
  have hbA : ¬ (fun q : Nat => s.heap.size ≤ q) b := Nat.not_le.mpr hbl
  obtain ⟨r, o1, o2, o3, o4, o5, o6, o7, o8, q1, q2, q3, q4, q5, q6, q7, q8, q9, q10, q11, q12, q13, q14, q15, ho, hq, hRel⟩ := hs F G I J Z F2 G2 I2 J2 hRel (xs (nI i + 1).toNatClampNeg) (xs (nI i + 2).toNatClampNeg) (xs (nI i + 3).toNatClampNeg)
  refine lv_aload_n hx hb dL_law_365 rfl (lv_at hl 1 rfl) ?_
  refine lv_aload_n hx hb dL_law_366 rfl (lv_at hl 0 rfl) ?_
  refine lv_iload_n hx hb dL_law_367 rfl (lv_at hl 3 rfl) ?_
  refine lv_iconst (v := 1) hx hb dL_law_368 (by decide) ?_
  refine lv_iadd hx hb dL_law_369 ?_
  refine va_sld hx hb hX hbl hbA hS (i := nI i + 1) (li_in (k := 1) (by omega) hL) dL_law_370 ?_
  refine lv_aload_n hx hb dL_law_371 rfl (lv_at hl 0 rfl) ?_
  refine lv_iload_n hx hb dL_law_372 rfl (lv_at hl 3 rfl) ?_
  refine lv_iconst (v := 2) hx hb dL_law_373 (by decide) ?_
  refine lv_iadd hx hb dL_law_374 ?_
  refine va_sld hx hb hX hbl hbA hS (i := nI i + 2) (li_in (k := 2) (by omega) hL) dL_law_375 ?_
  refine lv_aload_n hx hb dL_law_376 rfl (lv_at hl 0 rfl) ?_
  refine lv_iload_n hx hb dL_law_377 rfl (lv_at hl 3 rfl) ?_
  refine lv_iconst (v := 3) hx hb dL_law_378 (by decide) ?_
  refine lv_iadd hx hb dL_law_379 ?_
  refine va_sld hx hb hX hbl hbA hS (i := nI i + 3) (li_in (k := 3) (by omega) hL) dL_law_380 ?_
  refine lcall_l (rest := []) hx hb hml hown hT hK hap hge (ws2 := (wM a2 kc2 F2 G2 I2 J2)) rfl (c_X7_taken F G I J Z hi1 (xs (nI i + 1).toNatClampNeg) (xs (nI i + 2).toNatClampNeg) (xs (nI i + 3).toNatClampNeg) ho) q_2_205 q_2_206 q_2_207 q_1_1 q_2_208 ok_X7_taken rfl 34 rfl rfl ⟨Nat.le_of_ble_eq_true rfl, Nat.le_of_ble_eq_true rfl⟩ rfl rfl hl.1 rfl (Nat.le_of_ble_eq_true rfl) hcs dL_law_381 hP hP2 hS (fun H locs hP hP2 hS => ?_)
  refine lv_aload_n hx hb dL_law_384 rfl (lv_at hl 2 rfl) ?_
  refine lv_aload_n hx hb dL_law_385 rfl (lv_at hl 0 rfl) ?_
  refine lv_iload_n hx hb dL_law_386 rfl (lv_at hl 3 rfl) ?_
  refine lv_iconst (v := 1) hx hb dL_law_387 (by decide) ?_
  refine lv_iadd hx hb dL_law_388 ?_
  refine va_sld hx hb hX hbl hbA hS (i := nI i + 1) (li_in (k := 1) (by omega) hL) dL_law_389 ?_
  refine lv_aload_n hx hb dL_law_390 rfl (lv_at hl 0 rfl) ?_
  refine lv_iload_n hx hb dL_law_391 rfl (lv_at hl 3 rfl) ?_
  refine lv_iconst (v := 2) hx hb dL_law_392 (by decide) ?_
  refine lv_iadd hx hb dL_law_393 ?_
  refine va_sld hx hb hX hbl hbA hS (i := nI i + 2) (li_in (k := 2) (by omega) hL) dL_law_394 ?_
  refine lv_aload_n hx hb dL_law_395 rfl (lv_at hl 0 rfl) ?_
  refine lv_iload_n hx hb dL_law_396 rfl (lv_at hl 3 rfl) ?_
  refine lv_iconst (v := 3) hx hb dL_law_397 (by decide) ?_
  refine lv_iadd hx hb dL_law_398 ?_
  refine va_sld hx hb hX hbl hbA hS (i := nI i + 3) (li_in (k := 3) (by omega) hL) dL_law_399 ?_
  refine lcall_l (rest := [.long r]) hx hb hml hown hT hK2 (fun i j hi hj h => hap j i hj hi h.symm) hge2 (ws2 := (wC a kc (va_up F 3 o1) (va_up (va_up G 0 o2) 1 o3) I (va_up (va_up (va_up (va_up (va_up J 0 o4) 1 o5) 2 o6) 3 o7) 4 o8) Z)) rfl (c_X8_taken F2 G2 I2 J2 hi2 (xs (nI i + 1).toNatClampNeg) (xs (nI i + 2).toNatClampNeg) (xs (nI i + 3).toNatClampNeg) hq) q_5_162 q_5_163 q_5_164 q_1_10 q_5_165 ok_X8_taken rfl 0 rfl rfl ⟨Nat.le_of_ble_eq_true rfl, Nat.le_of_ble_eq_true rfl⟩ rfl rfl hl.1 rfl (Nat.le_of_ble_eq_true rfl) hcs dL_law_400 hP2 hP hS (fun H locs hP2 hP hS => ?_)
  refine W.lcmp hx hb dL_law_403 ?_
  refine lv_if_eq (tgt := 1162) hx hb dL_law_404 (by decide) (fun _ => ?_) (fun h => ?_)
  · refine lv_iinc (v := nI (i + 6)) (lv' := [(3, .int (nI (i + 6))), (0, .ref b), (1, .ref (a 34)), (2, .ref (a2 0))]) hx hb dL_law_1162 hl (k := 3) rfl (nI_add i 6) (by decide) rfl (fun ls hl => ?_)
    refine lv_goto (tgt := 18) hx hb dL_law_1165 (by decide) ?_
    exact kk (va_up F 3 o1) (va_up (va_up G 0 o2) 1 o3) I (va_up (va_up (va_up (va_up (va_up J 0 o4) 1 o5) 2 o6) 3 o7) 4 o8) Z (va_up (va_up (va_up (va_up (va_up (va_up (va_up F2 1 q1) 2 q2) 3 q3) 4 q4) 5 q5) 6 q6) 8 q7) (va_up G2 0 q8) (va_up (va_up (va_up (va_up (va_up I2 6 q9) 7 q10) 8 q11) 9 q12) 10 q13) (va_up (va_up J2 0 q14) 1 q15) hRel H locs ls hP hP2 hS (lv_sub hl [1, 2, 3, 0] rfl)
  · exact absurd (by simp [lg_cmp]) h
set_option maxHeartbeats 4000000 in
set_option maxRecDepth 100000 in
theorem lawc_7 {p : Program} {l : Launch} {e : Env} {s : State} {m : MethodId} {below : List Frame} {meth : Method} {c : Code} {b L : Nat} {xs : Nat → Int32} {D : va_G} {a : Nat → Nat} {kc : Nat → ClassId} {a2 : Nat → Nat} {kc2 : Nat → ClassId} {cells slots : Nat} {Rel : RelT} (X : lwX p s m meth c b L xs D a kc a2 kc2) (hL : L ≤ 384) (hcs : cells ≤ room_1.cells ∧ slots ≤ room_1.slots) (hs : Sp_wrong Rel) {i : Nat} (hi : i + 6 ≤ L) (kk : ∀ (F : Nat → Int32) (G : Nat → Int64) (I : Nat → Nat → Int32) (J : Nat → Nat → Int64) (Z : Nat → Nat → Nat → Int32) (F2 : Nat → Int32) (G2 : Nat → Int64) (I2 : Nat → Nat → Int32) (J2 : Nat → Nat → Int64), Rel F G I J Z F2 G2 I2 J2 → ∀ (H : Heap) (locs : List Loc) (ls : Array Slot), va_P D vwCl (wC a kc F G I J Z) H → va_P D vwCl (wM a2 kc2 F2 G2 I2 J2) H → va_S (fun q : Nat => s.heap.size ≤ q) s.heap H locs → lv_has ls 4 [(0, .ref b), (1, .ref (a 34)), (2, .ref (a2 0)), (3, .int (nI (i + 6)))] → W p l e room_1 s m #[Value.ref b] below meth c H locs cells slots (lw_Z below #[Value.ref b] s) (F0 m 18 ls [])) :
    ∀ (F : Nat → Int32) (G : Nat → Int64) (I : Nat → Nat → Int32) (J : Nat → Nat → Int64) (Z : Nat → Nat → Nat → Int32) (F2 : Nat → Int32) (G2 : Nat → Int64) (I2 : Nat → Nat → Int32) (J2 : Nat → Nat → Int64), Rel F G I J Z F2 G2 I2 J2 → ∀ (H : Heap) (locs : List Loc) (ls : Array Slot), va_P D vwCl (wC a kc F G I J Z) H → va_P D vwCl (wM a2 kc2 F2 G2 I2 J2) H → va_S (fun q : Nat => s.heap.size ≤ q) s.heap H locs → lv_has ls 4 [(0, .ref b), (1, .ref (a 34)), (2, .ref (a2 0)), (3, .int (nI i))] → W p l e room_1 s m #[Value.ref b] below meth c H locs cells slots (lw_Z below #[Value.ref b] s) (F0 m 409 ls []) := by
  intro F G I J Z F2 G2 I2 J2 hRel H locs ls hP hP2 hS hl
  obtain ⟨⟨hx, hb, hr, hml, hown, hT, hX, hbl, hlk⟩, hK, hK2, hi1, hi2, hap, hge, hge2⟩ := X
  have hbA : ¬ (fun q : Nat => s.heap.size ≤ q) b := Nat.not_le.mpr hbl
  obtain ⟨r, o1, o2, o3, o4, o5, o6, o7, o8, q1, q2, q3, q4, q5, q6, q7, q8, q9, q10, q11, q12, q13, q14, q15, q16, q17, q18, ho, hq, hRel⟩ := hs F G I J Z F2 G2 I2 J2 hRel (xs (nI i + 1).toNatClampNeg) (xs (nI i + 2).toNatClampNeg)
  refine lv_aload_n hx hb dL_law_409 rfl (lv_at hl 1 rfl) ?_
  refine lv_aload_n hx hb dL_law_410 rfl (lv_at hl 0 rfl) ?_
  refine lv_iload_n hx hb dL_law_411 rfl (lv_at hl 3 rfl) ?_
  refine lv_iconst (v := 1) hx hb dL_law_412 (by decide) ?_
  refine lv_iadd hx hb dL_law_413 ?_
  refine va_sld hx hb hX hbl hbA hS (i := nI i + 1) (li_in (k := 1) (by omega) hL) dL_law_414 ?_
  refine lv_aload_n hx hb dL_law_415 rfl (lv_at hl 0 rfl) ?_
  refine lv_iload_n hx hb dL_law_416 rfl (lv_at hl 3 rfl) ?_
  refine lv_iconst (v := 2) hx hb dL_law_417 (by decide) ?_
  refine lv_iadd hx hb dL_law_418 ?_
  refine va_sld hx hb hX hbl hbA hS (i := nI i + 2) (li_in (k := 2) (by omega) hL) dL_law_419 ?_
  refine lcall_l (rest := []) hx hb hml hown hT hK hap hge (ws2 := (wM a2 kc2 F2 G2 I2 J2)) rfl (c_X7_wrong F G I J Z hi1 (xs (nI i + 1).toNatClampNeg) (xs (nI i + 2).toNatClampNeg) ho) q_2_211 q_2_212 q_2_213 q_1_1 q_2_214 ok_X7_wrong rfl 34 rfl rfl ⟨Nat.le_of_ble_eq_true rfl, Nat.le_of_ble_eq_true rfl⟩ rfl rfl hl.1 rfl (Nat.le_of_ble_eq_true rfl) hcs dL_law_420 hP hP2 hS (fun H locs hP hP2 hS => ?_)
  refine lv_aload_n hx hb dL_law_423 rfl (lv_at hl 2 rfl) ?_
  refine lv_aload_n hx hb dL_law_424 rfl (lv_at hl 0 rfl) ?_
  refine lv_iload_n hx hb dL_law_425 rfl (lv_at hl 3 rfl) ?_
  refine lv_iconst (v := 1) hx hb dL_law_426 (by decide) ?_
  refine lv_iadd hx hb dL_law_427 ?_
  refine va_sld hx hb hX hbl hbA hS (i := nI i + 1) (li_in (k := 1) (by omega) hL) dL_law_428 ?_
  refine lv_aload_n hx hb dL_law_429 rfl (lv_at hl 0 rfl) ?_
  refine lv_iload_n hx hb dL_law_430 rfl (lv_at hl 3 rfl) ?_
  refine lv_iconst (v := 2) hx hb dL_law_431 (by decide) ?_
  refine lv_iadd hx hb dL_law_432 ?_
  refine va_sld hx hb hX hbl hbA hS (i := nI i + 2) (li_in (k := 2) (by omega) hL) dL_law_433 ?_
  refine lcall_l (rest := [.long r]) hx hb hml hown hT hK2 (fun i j hi hj h => hap j i hj hi h.symm) hge2 (ws2 := (wC a kc (va_up F 3 o1) (va_up (va_up G 0 o2) 1 o3) I (va_up (va_up (va_up (va_up (va_up J 0 o4) 1 o5) 2 o6) 3 o7) 4 o8) Z)) rfl (c_X8_wrong F2 G2 I2 J2 hi2 (xs (nI i + 1).toNatClampNeg) (xs (nI i + 2).toNatClampNeg) hq) q_5_170 q_5_171 q_5_172 q_1_10 q_5_173 ok_X8_wrong rfl 0 rfl rfl ⟨Nat.le_of_ble_eq_true rfl, Nat.le_of_ble_eq_true rfl⟩ rfl rfl hl.1 rfl (Nat.le_of_ble_eq_true rfl) hcs dL_law_434 hP2 hP hS (fun H locs hP2 hP hS => ?_)
  refine W.lcmp hx hb dL_law_437 ?_
  refine lv_if_eq (tgt := 1162) hx hb dL_law_438 (by decide) (fun _ => ?_) (fun h => ?_)
  · refine lv_iinc (v := nI (i + 6)) (lv' := [(3, .int (nI (i + 6))), (0, .ref b), (1, .ref (a 34)), (2, .ref (a2 0))]) hx hb dL_law_1162 hl (k := 3) rfl (nI_add i 6) (by decide) rfl (fun ls hl => ?_)
    refine lv_goto (tgt := 18) hx hb dL_law_1165 (by decide) ?_
    exact kk (va_up F 3 o1) (va_up (va_up G 0 o2) 1 o3) I (va_up (va_up (va_up (va_up (va_up J 0 o4) 1 o5) 2 o6) 3 o7) 4 o8) Z (va_up (va_up (va_up (va_up (va_up (va_up (va_up F2 1 q1) 2 q2) 3 q3) 4 q4) 5 q5) 6 q6) 8 q7) (va_up G2 0 q8) (va_up (va_up (va_up (va_up (va_up (va_up I2 6 q9) 7 q10) 8 q11) 9 q12) 10 q13) 11 q14) (va_up (va_up (va_up (va_up J2 0 q15) 1 q16) 2 q17) 3 q18) hRel H locs ls hP hP2 hS (lv_sub hl [1, 2, 3, 0] rfl)
  · exact absurd (by simp [lg_cmp]) h
set_option maxHeartbeats 4000000 in
set_option maxRecDepth 100000 in
theorem lawc_8 {p : Program} {l : Launch} {e : Env} {s : State} {m : MethodId} {below : List Frame} {meth : Method} {c : Code} {b L : Nat} {xs : Nat → Int32} {D : va_G} {a : Nat → Nat} {kc : Nat → ClassId} {a2 : Nat → Nat} {kc2 : Nat → ClassId} {cells slots : Nat} {Rel : RelT} (X : lwX p s m meth c b L xs D a kc a2 kc2) (hL : L ≤ 384) (hcs : cells ≤ room_1.cells ∧ slots ≤ room_1.slots) (hs : Sp_left Rel) {i : Nat} (hi : i + 6 ≤ L) (kk : ∀ (F : Nat → Int32) (G : Nat → Int64) (I : Nat → Nat → Int32) (J : Nat → Nat → Int64) (Z : Nat → Nat → Nat → Int32) (F2 : Nat → Int32) (G2 : Nat → Int64) (I2 : Nat → Nat → Int32) (J2 : Nat → Nat → Int64), Rel F G I J Z F2 G2 I2 J2 → ∀ (H : Heap) (locs : List Loc) (ls : Array Slot), va_P D vwCl (wC a kc F G I J Z) H → va_P D vwCl (wM a2 kc2 F2 G2 I2 J2) H → va_S (fun q : Nat => s.heap.size ≤ q) s.heap H locs → lv_has ls 4 [(0, .ref b), (1, .ref (a 34)), (2, .ref (a2 0)), (3, .int (nI (i + 6)))] → W p l e room_1 s m #[Value.ref b] below meth c H locs cells slots (lw_Z below #[Value.ref b] s) (F0 m 18 ls [])) :
    ∀ (F : Nat → Int32) (G : Nat → Int64) (I : Nat → Nat → Int32) (J : Nat → Nat → Int64) (Z : Nat → Nat → Nat → Int32) (F2 : Nat → Int32) (G2 : Nat → Int64) (I2 : Nat → Nat → Int32) (J2 : Nat → Nat → Int64), Rel F G I J Z F2 G2 I2 J2 → ∀ (H : Heap) (locs : List Loc) (ls : Array Slot), va_P D vwCl (wC a kc F G I J Z) H → va_P D vwCl (wM a2 kc2 F2 G2 I2 J2) H → va_S (fun q : Nat => s.heap.size ≤ q) s.heap H locs → lv_has ls 4 [(0, .ref b), (1, .ref (a 34)), (2, .ref (a2 0)), (3, .int (nI i))] → W p l e room_1 s m #[Value.ref b] below meth c H locs cells slots (lw_Z below #[Value.ref b] s) (F0 m 443 ls []) := by
  intro F G I J Z F2 G2 I2 J2 hRel H locs ls hP hP2 hS hl
  obtain ⟨⟨hx, hb, hr, hml, hown, hT, hX, hbl, hlk⟩, hK, hK2, hi1, hi2, hap, hge, hge2⟩ := X
  have hbA : ¬ (fun q : Nat => s.heap.size ≤ q) b := Nat.not_le.mpr hbl
  obtain ⟨r, o1, o2, o3, o4, o5, o6, o7, o8, q1, q2, q3, q4, q5, q6, q7, q8, q9, q10, q11, q12, q13, q14, q15, ho, hq, hRel⟩ := hs F G I J Z F2 G2 I2 J2 hRel (xs (nI i + 1).toNatClampNeg) (xs (nI i + 2).toNatClampNeg)
  refine lv_aload_n hx hb dL_law_443 rfl (lv_at hl 1 rfl) ?_
  refine lv_aload_n hx hb dL_law_444 rfl (lv_at hl 0 rfl) ?_
  refine lv_iload_n hx hb dL_law_445 rfl (lv_at hl 3 rfl) ?_
  refine lv_iconst (v := 1) hx hb dL_law_446 (by decide) ?_
  refine lv_iadd hx hb dL_law_447 ?_
  refine va_sld hx hb hX hbl hbA hS (i := nI i + 1) (li_in (k := 1) (by omega) hL) dL_law_448 ?_
  refine lv_aload_n hx hb dL_law_449 rfl (lv_at hl 0 rfl) ?_
  refine lv_iload_n hx hb dL_law_450 rfl (lv_at hl 3 rfl) ?_
  refine lv_iconst (v := 2) hx hb dL_law_451 (by decide) ?_
  refine lv_iadd hx hb dL_law_452 ?_
  refine va_sld hx hb hX hbl hbA hS (i := nI i + 2) (li_in (k := 2) (by omega) hL) dL_law_453 ?_
  refine lcall_l (rest := []) hx hb hml hown hT hK hap hge (ws2 := (wM a2 kc2 F2 G2 I2 J2)) rfl (c_X7_left F G I J Z hi1 (xs (nI i + 1).toNatClampNeg) (xs (nI i + 2).toNatClampNeg) ho) q_2_215 q_2_216 q_2_217 q_1_1 q_2_218 ok_X7_left rfl 34 rfl rfl ⟨Nat.le_of_ble_eq_true rfl, Nat.le_of_ble_eq_true rfl⟩ rfl rfl hl.1 rfl (Nat.le_of_ble_eq_true rfl) hcs dL_law_454 hP hP2 hS (fun H locs hP hP2 hS => ?_)
  refine lv_aload_n hx hb dL_law_457 rfl (lv_at hl 2 rfl) ?_
  refine lv_aload_n hx hb dL_law_458 rfl (lv_at hl 0 rfl) ?_
  refine lv_iload_n hx hb dL_law_459 rfl (lv_at hl 3 rfl) ?_
  refine lv_iconst (v := 1) hx hb dL_law_460 (by decide) ?_
  refine lv_iadd hx hb dL_law_461 ?_
  refine va_sld hx hb hX hbl hbA hS (i := nI i + 1) (li_in (k := 1) (by omega) hL) dL_law_462 ?_
  refine lv_aload_n hx hb dL_law_463 rfl (lv_at hl 0 rfl) ?_
  refine lv_iload_n hx hb dL_law_464 rfl (lv_at hl 3 rfl) ?_
  refine lv_iconst (v := 2) hx hb dL_law_465 (by decide) ?_
  refine lv_iadd hx hb dL_law_466 ?_
  refine va_sld hx hb hX hbl hbA hS (i := nI i + 2) (li_in (k := 2) (by omega) hL) dL_law_467 ?_
  refine lcall_l (rest := [.long r]) hx hb hml hown hT hK2 (fun i j hi hj h => hap j i hj hi h.symm) hge2 (ws2 := (wC a kc (va_up F 3 o1) (va_up (va_up G 0 o2) 1 o3) I (va_up (va_up (va_up (va_up (va_up J 0 o4) 1 o5) 2 o6) 3 o7) 4 o8) Z)) rfl (c_X8_left F2 G2 I2 J2 hi2 (xs (nI i + 1).toNatClampNeg) (xs (nI i + 2).toNatClampNeg) hq) q_5_191 q_5_192 q_5_193 q_1_10 q_5_194 ok_X8_left rfl 0 rfl rfl ⟨Nat.le_of_ble_eq_true rfl, Nat.le_of_ble_eq_true rfl⟩ rfl rfl hl.1 rfl (Nat.le_of_ble_eq_true rfl) hcs dL_law_468 hP2 hP hS (fun H locs hP2 hP hS => ?_)
  refine W.lcmp hx hb dL_law_471 ?_
  refine lv_if_eq (tgt := 1162) hx hb dL_law_472 (by decide) (fun _ => ?_) (fun h => ?_)
  · refine lv_iinc (v := nI (i + 6)) (lv' := [(3, .int (nI (i + 6))), (0, .ref b), (1, .ref (a 34)), (2, .ref (a2 0))]) hx hb dL_law_1162 hl (k := 3) rfl (nI_add i 6) (by decide) rfl (fun ls hl => ?_)
    refine lv_goto (tgt := 18) hx hb dL_law_1165 (by decide) ?_
    exact kk (va_up F 3 o1) (va_up (va_up G 0 o2) 1 o3) I (va_up (va_up (va_up (va_up (va_up J 0 o4) 1 o5) 2 o6) 3 o7) 4 o8) Z (va_up (va_up (va_up (va_up (va_up (va_up (va_up F2 1 q1) 2 q2) 3 q3) 4 q4) 5 q5) 6 q6) 8 q7) (va_up G2 0 q8) (va_up (va_up (va_up (va_up (va_up I2 6 q9) 7 q10) 8 q11) 9 q12) 10 q13) (va_up (va_up J2 0 q14) 1 q15) hRel H locs ls hP hP2 hS (lv_sub hl [1, 2, 3, 0] rfl)
  · exact absurd (by simp [lg_cmp]) h
set_option maxHeartbeats 4000000 in
set_option maxRecDepth 100000 in
theorem lawc_9 {p : Program} {l : Launch} {e : Env} {s : State} {m : MethodId} {below : List Frame} {meth : Method} {c : Code} {b L : Nat} {xs : Nat → Int32} {D : va_G} {a : Nat → Nat} {kc : Nat → ClassId} {a2 : Nat → Nat} {kc2 : Nat → ClassId} {cells slots : Nat} {Rel : RelT} (X : lwX p s m meth c b L xs D a kc a2 kc2) (hL : L ≤ 384) (hcs : cells ≤ room_1.cells ∧ slots ≤ room_1.slots) (hs : Sp_looks Rel) {i : Nat} (hi : i + 6 ≤ L) (kk : ∀ (F : Nat → Int32) (G : Nat → Int64) (I : Nat → Nat → Int32) (J : Nat → Nat → Int64) (Z : Nat → Nat → Nat → Int32) (F2 : Nat → Int32) (G2 : Nat → Int64) (I2 : Nat → Nat → Int32) (J2 : Nat → Nat → Int64), Rel F G I J Z F2 G2 I2 J2 → ∀ (H : Heap) (locs : List Loc) (ls : Array Slot), va_P D vwCl (wC a kc F G I J Z) H → va_P D vwCl (wM a2 kc2 F2 G2 I2 J2) H → va_S (fun q : Nat => s.heap.size ≤ q) s.heap H locs → lv_has ls 4 [(0, .ref b), (1, .ref (a 34)), (2, .ref (a2 0)), (3, .int (nI (i + 6)))] → W p l e room_1 s m #[Value.ref b] below meth c H locs cells slots (lw_Z below #[Value.ref b] s) (F0 m 18 ls [])) :
    ∀ (F : Nat → Int32) (G : Nat → Int64) (I : Nat → Nat → Int32) (J : Nat → Nat → Int64) (Z : Nat → Nat → Nat → Int32) (F2 : Nat → Int32) (G2 : Nat → Int64) (I2 : Nat → Nat → Int32) (J2 : Nat → Nat → Int64), Rel F G I J Z F2 G2 I2 J2 → ∀ (H : Heap) (locs : List Loc) (ls : Array Slot), va_P D vwCl (wC a kc F G I J Z) H → va_P D vwCl (wM a2 kc2 F2 G2 I2 J2) H → va_S (fun q : Nat => s.heap.size ≤ q) s.heap H locs → lv_has ls 4 [(0, .ref b), (1, .ref (a 34)), (2, .ref (a2 0)), (3, .int (nI i))] → W p l e room_1 s m #[Value.ref b] below meth c H locs cells slots (lw_Z below #[Value.ref b] s) (F0 m 477 ls []) := by
  intro F G I J Z F2 G2 I2 J2 hRel H locs ls hP hP2 hS hl
  obtain ⟨⟨hx, hb, hr, hml, hown, hT, hX, hbl, hlk⟩, hK, hK2, hi1, hi2, hap, hge, hge2⟩ := X
  have hbA : ¬ (fun q : Nat => s.heap.size ≤ q) b := Nat.not_le.mpr hbl
  obtain ⟨r, o1, o2, o3, o4, o5, o6, o7, o8, q1, q2, q3, q4, q5, q6, q7, q8, q9, q10, q11, q12, q13, q14, q15, ho, hq, hRel⟩ := hs F G I J Z F2 G2 I2 J2 hRel (xs (nI i + 1).toNatClampNeg)
  refine lv_aload_n hx hb dL_law_477 rfl (lv_at hl 1 rfl) ?_
  refine lv_aload_n hx hb dL_law_478 rfl (lv_at hl 0 rfl) ?_
  refine lv_iload_n hx hb dL_law_479 rfl (lv_at hl 3 rfl) ?_
  refine lv_iconst (v := 1) hx hb dL_law_480 (by decide) ?_
  refine lv_iadd hx hb dL_law_481 ?_
  refine va_sld hx hb hX hbl hbA hS (i := nI i + 1) (li_in (k := 1) (by omega) hL) dL_law_482 ?_
  refine lcall_l (rest := []) hx hb hml hown hT hK hap hge (ws2 := (wM a2 kc2 F2 G2 I2 J2)) rfl (c_X7_looks F G I J Z hi1 (xs (nI i + 1).toNatClampNeg) ho) q_2_219 q_2_220 q_2_221 q_1_1 q_2_222 ok_X7_looks rfl 34 rfl rfl ⟨Nat.le_of_ble_eq_true rfl, Nat.le_of_ble_eq_true rfl⟩ rfl rfl hl.1 rfl (Nat.le_of_ble_eq_true rfl) hcs dL_law_483 hP hP2 hS (fun H locs hP hP2 hS => ?_)
  refine lv_aload_n hx hb dL_law_486 rfl (lv_at hl 2 rfl) ?_
  refine lv_aload_n hx hb dL_law_487 rfl (lv_at hl 0 rfl) ?_
  refine lv_iload_n hx hb dL_law_488 rfl (lv_at hl 3 rfl) ?_
  refine lv_iconst (v := 1) hx hb dL_law_489 (by decide) ?_
  refine lv_iadd hx hb dL_law_490 ?_
  refine va_sld hx hb hX hbl hbA hS (i := nI i + 1) (li_in (k := 1) (by omega) hL) dL_law_491 ?_
  refine lcall_l (rest := [.long r]) hx hb hml hown hT hK2 (fun i j hi hj h => hap j i hj hi h.symm) hge2 (ws2 := (wC a kc (va_up F 3 o1) (va_up (va_up G 0 o2) 1 o3) I (va_up (va_up (va_up (va_up (va_up J 0 o4) 1 o5) 2 o6) 3 o7) 4 o8) Z)) rfl (c_X8_looks F2 G2 I2 J2 hi2 (xs (nI i + 1).toNatClampNeg) hq) q_5_199 q_5_200 q_5_201 q_1_10 q_5_202 ok_X8_looks rfl 0 rfl rfl ⟨Nat.le_of_ble_eq_true rfl, Nat.le_of_ble_eq_true rfl⟩ rfl rfl hl.1 rfl (Nat.le_of_ble_eq_true rfl) hcs dL_law_492 hP2 hP hS (fun H locs hP2 hP hS => ?_)
  refine W.lcmp hx hb dL_law_495 ?_
  refine lv_if_eq (tgt := 1162) hx hb dL_law_496 (by decide) (fun _ => ?_) (fun h => ?_)
  · refine lv_iinc (v := nI (i + 6)) (lv' := [(3, .int (nI (i + 6))), (0, .ref b), (1, .ref (a 34)), (2, .ref (a2 0))]) hx hb dL_law_1162 hl (k := 3) rfl (nI_add i 6) (by decide) rfl (fun ls hl => ?_)
    refine lv_goto (tgt := 18) hx hb dL_law_1165 (by decide) ?_
    exact kk (va_up F 3 o1) (va_up (va_up G 0 o2) 1 o3) I (va_up (va_up (va_up (va_up (va_up J 0 o4) 1 o5) 2 o6) 3 o7) 4 o8) Z (va_up (va_up (va_up (va_up (va_up (va_up (va_up F2 1 q1) 2 q2) 3 q3) 4 q4) 5 q5) 6 q6) 8 q7) (va_up G2 0 q8) (va_up (va_up (va_up (va_up (va_up I2 6 q9) 7 q10) 8 q11) 9 q12) 10 q13) (va_up (va_up J2 0 q14) 1 q15) hRel H locs ls hP hP2 hS (lv_sub hl [1, 2, 3, 0] rfl)
  · exact absurd (by simp [lg_cmp]) h
set_option maxHeartbeats 4000000 in
set_option maxRecDepth 100000 in
theorem lawc_10 {p : Program} {l : Launch} {e : Env} {s : State} {m : MethodId} {below : List Frame} {meth : Method} {c : Code} {b L : Nat} {xs : Nat → Int32} {D : va_G} {a : Nat → Nat} {kc : Nat → ClassId} {a2 : Nat → Nat} {kc2 : Nat → ClassId} {cells slots : Nat} {Rel : RelT} (X : lwX p s m meth c b L xs D a kc a2 kc2) (hL : L ≤ 384) (hcs : cells ≤ room_1.cells ∧ slots ≤ room_1.slots) (hs : Sp_judged Rel) {i : Nat} (hi : i + 6 ≤ L) (kk : ∀ (F : Nat → Int32) (G : Nat → Int64) (I : Nat → Nat → Int32) (J : Nat → Nat → Int64) (Z : Nat → Nat → Nat → Int32) (F2 : Nat → Int32) (G2 : Nat → Int64) (I2 : Nat → Nat → Int32) (J2 : Nat → Nat → Int64), Rel F G I J Z F2 G2 I2 J2 → ∀ (H : Heap) (locs : List Loc) (ls : Array Slot), va_P D vwCl (wC a kc F G I J Z) H → va_P D vwCl (wM a2 kc2 F2 G2 I2 J2) H → va_S (fun q : Nat => s.heap.size ≤ q) s.heap H locs → lv_has ls 4 [(0, .ref b), (1, .ref (a 34)), (2, .ref (a2 0)), (3, .int (nI (i + 6)))] → W p l e room_1 s m #[Value.ref b] below meth c H locs cells slots (lw_Z below #[Value.ref b] s) (F0 m 18 ls [])) :
    ∀ (F : Nat → Int32) (G : Nat → Int64) (I : Nat → Nat → Int32) (J : Nat → Nat → Int64) (Z : Nat → Nat → Nat → Int32) (F2 : Nat → Int32) (G2 : Nat → Int64) (I2 : Nat → Nat → Int32) (J2 : Nat → Nat → Int64), Rel F G I J Z F2 G2 I2 J2 → ∀ (H : Heap) (locs : List Loc) (ls : Array Slot), va_P D vwCl (wC a kc F G I J Z) H → va_P D vwCl (wM a2 kc2 F2 G2 I2 J2) H → va_S (fun q : Nat => s.heap.size ≤ q) s.heap H locs → lv_has ls 4 [(0, .ref b), (1, .ref (a 34)), (2, .ref (a2 0)), (3, .int (nI i))] → W p l e room_1 s m #[Value.ref b] below meth c H locs cells slots (lw_Z below #[Value.ref b] s) (F0 m 501 ls []) := by
  intro F G I J Z F2 G2 I2 J2 hRel H locs ls hP hP2 hS hl
  obtain ⟨⟨hx, hb, hr, hml, hown, hT, hX, hbl, hlk⟩, hK, hK2, hi1, hi2, hap, hge, hge2⟩ := X
  have hbA : ¬ (fun q : Nat => s.heap.size ≤ q) b := Nat.not_le.mpr hbl
  obtain ⟨r, o1, q1, q2, q3, q4, q5, q6, q7, q8, q9, ho, hq, hRel⟩ := hs F G I J Z F2 G2 I2 J2 hRel (xs (nI i + 1).toNatClampNeg)
  refine lv_aload_n hx hb dL_law_501 rfl (lv_at hl 1 rfl) ?_
  refine lv_aload_n hx hb dL_law_502 rfl (lv_at hl 0 rfl) ?_
  refine lv_iload_n hx hb dL_law_503 rfl (lv_at hl 3 rfl) ?_
  refine lv_iconst (v := 1) hx hb dL_law_504 (by decide) ?_
  refine lv_iadd hx hb dL_law_505 ?_
  refine va_sld hx hb hX hbl hbA hS (i := nI i + 1) (li_in (k := 1) (by omega) hL) dL_law_506 ?_
  refine lcall_i (rest := []) hx hb hml hown hT hK hap hge (ws2 := (wM a2 kc2 F2 G2 I2 J2)) rfl (c_X7_judged F G I J Z hi1 (xs (nI i + 1).toNatClampNeg) ho) q_2_223 q_2_224 q_2_225 q_1_1 q_2_226 ok_X7_judged rfl 34 rfl rfl ⟨Nat.le_of_ble_eq_true rfl, Nat.le_of_ble_eq_true rfl⟩ rfl rfl hl.1 rfl (Nat.le_of_ble_eq_true rfl) hcs dL_law_507 hP hP2 hS (fun H locs hP hP2 hS => ?_)
  refine lv_aload_n hx hb dL_law_510 rfl (lv_at hl 2 rfl) ?_
  refine lv_aload_n hx hb dL_law_511 rfl (lv_at hl 0 rfl) ?_
  refine lv_iload_n hx hb dL_law_512 rfl (lv_at hl 3 rfl) ?_
  refine lv_iconst (v := 1) hx hb dL_law_513 (by decide) ?_
  refine lv_iadd hx hb dL_law_514 ?_
  refine va_sld hx hb hX hbl hbA hS (i := nI i + 1) (li_in (k := 1) (by omega) hL) dL_law_515 ?_
  refine lcall_i (rest := [.int r]) hx hb hml hown hT hK2 (fun i j hi hj h => hap j i hj hi h.symm) hge2 (ws2 := (wC a kc (va_up F 13 o1) G I J Z)) rfl (c_X8_judged F2 G2 I2 J2 hi2 (xs (nI i + 1).toNatClampNeg) hq) q_5_207 q_5_208 q_5_209 q_1_10 q_5_210 ok_X8_judged rfl 0 rfl rfl ⟨Nat.le_of_ble_eq_true rfl, Nat.le_of_ble_eq_true rfl⟩ rfl rfl hl.1 rfl (Nat.le_of_ble_eq_true rfl) hcs dL_law_516 hP2 hP hS (fun H locs hP2 hP hS => ?_)
  refine lv_icmp_eq (tgt := 1162) hx hb dL_law_519 (by decide) (fun _ => ?_) (fun h => ?_)
  · refine lv_iinc (v := nI (i + 6)) (lv' := [(3, .int (nI (i + 6))), (0, .ref b), (1, .ref (a 34)), (2, .ref (a2 0))]) hx hb dL_law_1162 hl (k := 3) rfl (nI_add i 6) (by decide) rfl (fun ls hl => ?_)
    refine lv_goto (tgt := 18) hx hb dL_law_1165 (by decide) ?_
    exact kk (va_up F 13 o1) G I J Z (va_up (va_up (va_up (va_up (va_up F2 0 q1) 1 q2) 2 q3) 3 q4) 4 q5) G2 (va_up (va_up (va_up (va_up I2 6 q6) 7 q7) 8 q8) 9 q9) J2 hRel H locs ls hP hP2 hS (lv_sub hl [1, 2, 3, 0] rfl)
  · exact absurd rfl h
set_option maxHeartbeats 4000000 in
set_option maxRecDepth 100000 in
theorem lawc_11 {p : Program} {l : Launch} {e : Env} {s : State} {m : MethodId} {below : List Frame} {meth : Method} {c : Code} {b L : Nat} {xs : Nat → Int32} {D : va_G} {a : Nat → Nat} {kc : Nat → ClassId} {a2 : Nat → Nat} {kc2 : Nat → ClassId} {cells slots : Nat} {Rel : RelT} (X : lwX p s m meth c b L xs D a kc a2 kc2) (hL : L ≤ 384) (hcs : cells ≤ room_1.cells ∧ slots ≤ room_1.slots) (hs : Sp_sitting Rel) {i : Nat} (hi : i + 6 ≤ L) (kk : ∀ (F : Nat → Int32) (G : Nat → Int64) (I : Nat → Nat → Int32) (J : Nat → Nat → Int64) (Z : Nat → Nat → Nat → Int32) (F2 : Nat → Int32) (G2 : Nat → Int64) (I2 : Nat → Nat → Int32) (J2 : Nat → Nat → Int64), Rel F G I J Z F2 G2 I2 J2 → ∀ (H : Heap) (locs : List Loc) (ls : Array Slot), va_P D vwCl (wC a kc F G I J Z) H → va_P D vwCl (wM a2 kc2 F2 G2 I2 J2) H → va_S (fun q : Nat => s.heap.size ≤ q) s.heap H locs → lv_has ls 4 [(0, .ref b), (1, .ref (a 34)), (2, .ref (a2 0)), (3, .int (nI (i + 6)))] → W p l e room_1 s m #[Value.ref b] below meth c H locs cells slots (lw_Z below #[Value.ref b] s) (F0 m 18 ls [])) :
    ∀ (F : Nat → Int32) (G : Nat → Int64) (I : Nat → Nat → Int32) (J : Nat → Nat → Int64) (Z : Nat → Nat → Nat → Int32) (F2 : Nat → Int32) (G2 : Nat → Int64) (I2 : Nat → Nat → Int32) (J2 : Nat → Nat → Int64), Rel F G I J Z F2 G2 I2 J2 → ∀ (H : Heap) (locs : List Loc) (ls : Array Slot), va_P D vwCl (wC a kc F G I J Z) H → va_P D vwCl (wM a2 kc2 F2 G2 I2 J2) H → va_S (fun q : Nat => s.heap.size ≤ q) s.heap H locs → lv_has ls 4 [(0, .ref b), (1, .ref (a 34)), (2, .ref (a2 0)), (3, .int (nI i))] → W p l e room_1 s m #[Value.ref b] below meth c H locs cells slots (lw_Z below #[Value.ref b] s) (F0 m 524 ls []) := by
  intro F G I J Z F2 G2 I2 J2 hRel H locs ls hP hP2 hS hl
  obtain ⟨⟨hx, hb, hr, hml, hown, hT, hX, hbl, hlk⟩, hK, hK2, hi1, hi2, hap, hge, hge2⟩ := X
  have hbA : ¬ (fun q : Nat => s.heap.size ≤ q) b := Nat.not_le.mpr hbl
  obtain ⟨r, o1, q1, q2, q3, q4, q5, q6, q7, q8, q9, ho, hq, hRel⟩ := hs F G I J Z F2 G2 I2 J2 hRel (xs (nI i + 1).toNatClampNeg) (xs (nI i + 2).toNatClampNeg)
  refine lv_aload_n hx hb dL_law_524 rfl (lv_at hl 1 rfl) ?_
  refine lv_aload_n hx hb dL_law_525 rfl (lv_at hl 0 rfl) ?_
  refine lv_iload_n hx hb dL_law_526 rfl (lv_at hl 3 rfl) ?_
  refine lv_iconst (v := 1) hx hb dL_law_527 (by decide) ?_
  refine lv_iadd hx hb dL_law_528 ?_
  refine va_sld hx hb hX hbl hbA hS (i := nI i + 1) (li_in (k := 1) (by omega) hL) dL_law_529 ?_
  refine lv_aload_n hx hb dL_law_530 rfl (lv_at hl 0 rfl) ?_
  refine lv_iload_n hx hb dL_law_531 rfl (lv_at hl 3 rfl) ?_
  refine lv_iconst (v := 2) hx hb dL_law_532 (by decide) ?_
  refine lv_iadd hx hb dL_law_533 ?_
  refine va_sld hx hb hX hbl hbA hS (i := nI i + 2) (li_in (k := 2) (by omega) hL) dL_law_534 ?_
  refine lcall_l (rest := []) hx hb hml hown hT hK hap hge (ws2 := (wM a2 kc2 F2 G2 I2 J2)) rfl (c_X7_sitting F G I J Z hi1 (xs (nI i + 1).toNatClampNeg) (xs (nI i + 2).toNatClampNeg) ho) q_3_11 q_3_12 q_3_13 q_1_1 q_3_14 ok_X7_sitting rfl 34 rfl rfl ⟨Nat.le_of_ble_eq_true rfl, Nat.le_of_ble_eq_true rfl⟩ rfl rfl hl.1 rfl (Nat.le_of_ble_eq_true rfl) hcs dL_law_535 hP hP2 hS (fun H locs hP hP2 hS => ?_)
  refine lv_aload_n hx hb dL_law_538 rfl (lv_at hl 2 rfl) ?_
  refine lv_aload_n hx hb dL_law_539 rfl (lv_at hl 0 rfl) ?_
  refine lv_iload_n hx hb dL_law_540 rfl (lv_at hl 3 rfl) ?_
  refine lv_iconst (v := 1) hx hb dL_law_541 (by decide) ?_
  refine lv_iadd hx hb dL_law_542 ?_
  refine va_sld hx hb hX hbl hbA hS (i := nI i + 1) (li_in (k := 1) (by omega) hL) dL_law_543 ?_
  refine lv_aload_n hx hb dL_law_544 rfl (lv_at hl 0 rfl) ?_
  refine lv_iload_n hx hb dL_law_545 rfl (lv_at hl 3 rfl) ?_
  refine lv_iconst (v := 2) hx hb dL_law_546 (by decide) ?_
  refine lv_iadd hx hb dL_law_547 ?_
  refine va_sld hx hb hX hbl hbA hS (i := nI i + 2) (li_in (k := 2) (by omega) hL) dL_law_548 ?_
  refine lcall_l (rest := [.long r]) hx hb hml hown hT hK2 (fun i j hi hj h => hap j i hj hi h.symm) hge2 (ws2 := (wC a kc (va_up F 13 o1) G I J Z)) rfl (c_X8_sitting F2 G2 I2 J2 hi2 (xs (nI i + 1).toNatClampNeg) (xs (nI i + 2).toNatClampNeg) hq) q_5_219 q_5_220 q_5_221 q_1_10 q_5_222 ok_X8_sitting rfl 0 rfl rfl ⟨Nat.le_of_ble_eq_true rfl, Nat.le_of_ble_eq_true rfl⟩ rfl rfl hl.1 rfl (Nat.le_of_ble_eq_true rfl) hcs dL_law_549 hP2 hP hS (fun H locs hP2 hP hS => ?_)
  refine W.lcmp hx hb dL_law_552 ?_
  refine lv_if_eq (tgt := 1162) hx hb dL_law_553 (by decide) (fun _ => ?_) (fun h => ?_)
  · refine lv_iinc (v := nI (i + 6)) (lv' := [(3, .int (nI (i + 6))), (0, .ref b), (1, .ref (a 34)), (2, .ref (a2 0))]) hx hb dL_law_1162 hl (k := 3) rfl (nI_add i 6) (by decide) rfl (fun ls hl => ?_)
    refine lv_goto (tgt := 18) hx hb dL_law_1165 (by decide) ?_
    exact kk (va_up F 13 o1) G I J Z (va_up (va_up (va_up (va_up (va_up F2 0 q1) 1 q2) 2 q3) 3 q4) 4 q5) G2 (va_up (va_up (va_up (va_up I2 6 q6) 7 q7) 8 q8) 9 q9) J2 hRel H locs ls hP hP2 hS (lv_sub hl [1, 2, 3, 0] rfl)
  · exact absurd (by simp [lg_cmp]) h
set_option maxHeartbeats 4000000 in
set_option maxRecDepth 100000 in
theorem lawc_12 {p : Program} {l : Launch} {e : Env} {s : State} {m : MethodId} {below : List Frame} {meth : Method} {c : Code} {b L : Nat} {xs : Nat → Int32} {D : va_G} {a : Nat → Nat} {kc : Nat → ClassId} {a2 : Nat → Nat} {kc2 : Nat → ClassId} {cells slots : Nat} {Rel : RelT} (X : lwX p s m meth c b L xs D a kc a2 kc2) (hL : L ≤ 384) (hcs : cells ≤ room_1.cells ∧ slots ≤ room_1.slots) (hs : Sp_order Rel) {i : Nat} (hi : i + 6 ≤ L) (kk : ∀ (F : Nat → Int32) (G : Nat → Int64) (I : Nat → Nat → Int32) (J : Nat → Nat → Int64) (Z : Nat → Nat → Nat → Int32) (F2 : Nat → Int32) (G2 : Nat → Int64) (I2 : Nat → Nat → Int32) (J2 : Nat → Nat → Int64), Rel F G I J Z F2 G2 I2 J2 → ∀ (H : Heap) (locs : List Loc) (ls : Array Slot), va_P D vwCl (wC a kc F G I J Z) H → va_P D vwCl (wM a2 kc2 F2 G2 I2 J2) H → va_S (fun q : Nat => s.heap.size ≤ q) s.heap H locs → lv_has ls 4 [(0, .ref b), (1, .ref (a 34)), (2, .ref (a2 0)), (3, .int (nI (i + 6)))] → W p l e room_1 s m #[Value.ref b] below meth c H locs cells slots (lw_Z below #[Value.ref b] s) (F0 m 18 ls [])) :
    ∀ (F : Nat → Int32) (G : Nat → Int64) (I : Nat → Nat → Int32) (J : Nat → Nat → Int64) (Z : Nat → Nat → Nat → Int32) (F2 : Nat → Int32) (G2 : Nat → Int64) (I2 : Nat → Nat → Int32) (J2 : Nat → Nat → Int64), Rel F G I J Z F2 G2 I2 J2 → ∀ (H : Heap) (locs : List Loc) (ls : Array Slot), va_P D vwCl (wC a kc F G I J Z) H → va_P D vwCl (wM a2 kc2 F2 G2 I2 J2) H → va_S (fun q : Nat => s.heap.size ≤ q) s.heap H locs → lv_has ls 4 [(0, .ref b), (1, .ref (a 34)), (2, .ref (a2 0)), (3, .int (nI i))] → W p l e room_1 s m #[Value.ref b] below meth c H locs cells slots (lw_Z below #[Value.ref b] s) (F0 m 558 ls []) := by
  intro F G I J Z F2 G2 I2 J2 hRel H locs ls hP hP2 hS hl
  obtain ⟨⟨hx, hb, hr, hml, hown, hT, hX, hbl, hlk⟩, hK, hK2, hi1, hi2, hap, hge, hge2⟩ := X
  have hbA : ¬ (fun q : Nat => s.heap.size ≤ q) b := Nat.not_le.mpr hbl
  obtain ⟨r, o1, o2, o3, o4, o5, o6, q1, q2, q3, q4, q5, q6, q7, q8, q9, q10, q11, q12, q13, q14, q15, q16, q17, q18, ho, hq, hRel⟩ := hs F G I J Z F2 G2 I2 J2 hRel (xs (nI i + 1).toNatClampNeg)
  refine lv_aload_n hx hb dL_law_558 rfl (lv_at hl 1 rfl) ?_
  refine lv_aload_n hx hb dL_law_559 rfl (lv_at hl 0 rfl) ?_
  refine lv_iload_n hx hb dL_law_560 rfl (lv_at hl 3 rfl) ?_
  refine lv_iconst (v := 1) hx hb dL_law_561 (by decide) ?_
  refine lv_iadd hx hb dL_law_562 ?_
  refine va_sld hx hb hX hbl hbA hS (i := nI i + 1) (li_in (k := 1) (by omega) hL) dL_law_563 ?_
  refine lcall_i (rest := []) hx hb hml hown hT hK hap hge (ws2 := (wM a2 kc2 F2 G2 I2 J2)) rfl (c_X7_order F G I J Z hi1 (xs (nI i + 1).toNatClampNeg) ho) q_3_21 q_3_22 q_3_23 q_1_1 q_3_24 ok_X7_order rfl 34 rfl rfl ⟨Nat.le_of_ble_eq_true rfl, Nat.le_of_ble_eq_true rfl⟩ rfl rfl hl.1 rfl (Nat.le_of_ble_eq_true rfl) hcs dL_law_564 hP hP2 hS (fun H locs hP hP2 hS => ?_)
  refine lv_aload_n hx hb dL_law_567 rfl (lv_at hl 2 rfl) ?_
  refine lv_aload_n hx hb dL_law_568 rfl (lv_at hl 0 rfl) ?_
  refine lv_iload_n hx hb dL_law_569 rfl (lv_at hl 3 rfl) ?_
  refine lv_iconst (v := 1) hx hb dL_law_570 (by decide) ?_
  refine lv_iadd hx hb dL_law_571 ?_
  refine va_sld hx hb hX hbl hbA hS (i := nI i + 1) (li_in (k := 1) (by omega) hL) dL_law_572 ?_
  refine lcall_i (rest := [.int r]) hx hb hml hown hT hK2 (fun i j hi hj h => hap j i hj hi h.symm) hge2 (ws2 := (wC a kc (va_up F 4 o1) (va_up G 2 o2) (va_up (va_up I 7 o3) 8 o4) (va_up (va_up J 5 o5) 6 o6) Z)) rfl (c_X8_order F2 G2 I2 J2 hi2 (xs (nI i + 1).toNatClampNeg) hq) q_5_227 q_5_228 q_5_229 q_1_10 q_5_230 ok_X8_order rfl 0 rfl rfl ⟨Nat.le_of_ble_eq_true rfl, Nat.le_of_ble_eq_true rfl⟩ rfl rfl hl.1 rfl (Nat.le_of_ble_eq_true rfl) hcs dL_law_573 hP2 hP hS (fun H locs hP2 hP hS => ?_)
  refine lv_icmp_eq (tgt := 1162) hx hb dL_law_576 (by decide) (fun _ => ?_) (fun h => ?_)
  · refine lv_iinc (v := nI (i + 6)) (lv' := [(3, .int (nI (i + 6))), (0, .ref b), (1, .ref (a 34)), (2, .ref (a2 0))]) hx hb dL_law_1162 hl (k := 3) rfl (nI_add i 6) (by decide) rfl (fun ls hl => ?_)
    refine lv_goto (tgt := 18) hx hb dL_law_1165 (by decide) ?_
    exact kk (va_up F 4 o1) (va_up G 2 o2) (va_up (va_up I 7 o3) 8 o4) (va_up (va_up J 5 o5) 6 o6) Z (va_up (va_up (va_up (va_up (va_up (va_up (va_up F2 1 q1) 2 q2) 3 q3) 4 q4) 5 q5) 6 q6) 8 q7) (va_up (va_up G2 0 q8) 1 q9) (va_up (va_up (va_up (va_up (va_up (va_up (va_up I2 6 q10) 7 q11) 8 q12) 9 q13) 10 q14) 11 q15) 12 q16) (va_up (va_up J2 0 q17) 1 q18) hRel H locs ls hP hP2 hS (lv_sub hl [1, 2, 3, 0] rfl)
  · exact absurd rfl h
set_option maxHeartbeats 4000000 in
set_option maxRecDepth 100000 in
theorem lawc_13 {p : Program} {l : Launch} {e : Env} {s : State} {m : MethodId} {below : List Frame} {meth : Method} {c : Code} {b L : Nat} {xs : Nat → Int32} {D : va_G} {a : Nat → Nat} {kc : Nat → ClassId} {a2 : Nat → Nat} {kc2 : Nat → ClassId} {cells slots : Nat} {Rel : RelT} (X : lwX p s m meth c b L xs D a kc a2 kc2) (hL : L ≤ 384) (hcs : cells ≤ room_1.cells ∧ slots ≤ room_1.slots) (hs : Sp_best Rel) {i : Nat} (hi : i + 6 ≤ L) (kk : ∀ (F : Nat → Int32) (G : Nat → Int64) (I : Nat → Nat → Int32) (J : Nat → Nat → Int64) (Z : Nat → Nat → Nat → Int32) (F2 : Nat → Int32) (G2 : Nat → Int64) (I2 : Nat → Nat → Int32) (J2 : Nat → Nat → Int64), Rel F G I J Z F2 G2 I2 J2 → ∀ (H : Heap) (locs : List Loc) (ls : Array Slot), va_P D vwCl (wC a kc F G I J Z) H → va_P D vwCl (wM a2 kc2 F2 G2 I2 J2) H → va_S (fun q : Nat => s.heap.size ≤ q) s.heap H locs → lv_has ls 4 [(0, .ref b), (1, .ref (a 34)), (2, .ref (a2 0)), (3, .int (nI (i + 6)))] → W p l e room_1 s m #[Value.ref b] below meth c H locs cells slots (lw_Z below #[Value.ref b] s) (F0 m 18 ls [])) :
    ∀ (F : Nat → Int32) (G : Nat → Int64) (I : Nat → Nat → Int32) (J : Nat → Nat → Int64) (Z : Nat → Nat → Nat → Int32) (F2 : Nat → Int32) (G2 : Nat → Int64) (I2 : Nat → Nat → Int32) (J2 : Nat → Nat → Int64), Rel F G I J Z F2 G2 I2 J2 → ∀ (H : Heap) (locs : List Loc) (ls : Array Slot), va_P D vwCl (wC a kc F G I J Z) H → va_P D vwCl (wM a2 kc2 F2 G2 I2 J2) H → va_S (fun q : Nat => s.heap.size ≤ q) s.heap H locs → lv_has ls 4 [(0, .ref b), (1, .ref (a 34)), (2, .ref (a2 0)), (3, .int (nI i))] → W p l e room_1 s m #[Value.ref b] below meth c H locs cells slots (lw_Z below #[Value.ref b] s) (F0 m 581 ls []) := by
  intro F G I J Z F2 G2 I2 J2 hRel H locs ls hP hP2 hS hl
  obtain ⟨⟨hx, hb, hr, hml, hown, hT, hX, hbl, hlk⟩, hK, hK2, hi1, hi2, hap, hge, hge2⟩ := X
  have hbA : ¬ (fun q : Nat => s.heap.size ≤ q) b := Nat.not_le.mpr hbl
  obtain ⟨r, o1, o2, o3, o4, o5, o6, q1, q2, q3, q4, q5, q6, q7, q8, q9, q10, q11, q12, q13, q14, q15, q16, q17, q18, ho, hq, hRel⟩ := hs F G I J Z F2 G2 I2 J2 hRel (xs (nI i + 1).toNatClampNeg)
  refine lv_aload_n hx hb dL_law_581 rfl (lv_at hl 1 rfl) ?_
  refine lv_aload_n hx hb dL_law_582 rfl (lv_at hl 0 rfl) ?_
  refine lv_iload_n hx hb dL_law_583 rfl (lv_at hl 3 rfl) ?_
  refine lv_iconst (v := 1) hx hb dL_law_584 (by decide) ?_
  refine lv_iadd hx hb dL_law_585 ?_
  refine va_sld hx hb hX hbl hbA hS (i := nI i + 1) (li_in (k := 1) (by omega) hL) dL_law_586 ?_
  refine lcall_l (rest := []) hx hb hml hown hT hK hap hge (ws2 := (wM a2 kc2 F2 G2 I2 J2)) rfl (c_X7_best F G I J Z hi1 (xs (nI i + 1).toNatClampNeg) ho) q_3_89 q_3_90 q_3_91 q_1_1 q_3_92 ok_X7_best rfl 34 rfl rfl ⟨Nat.le_of_ble_eq_true rfl, Nat.le_of_ble_eq_true rfl⟩ rfl rfl hl.1 rfl (Nat.le_of_ble_eq_true rfl) hcs dL_law_587 hP hP2 hS (fun H locs hP hP2 hS => ?_)
  refine lv_aload_n hx hb dL_law_590 rfl (lv_at hl 2 rfl) ?_
  refine lv_aload_n hx hb dL_law_591 rfl (lv_at hl 0 rfl) ?_
  refine lv_iload_n hx hb dL_law_592 rfl (lv_at hl 3 rfl) ?_
  refine lv_iconst (v := 1) hx hb dL_law_593 (by decide) ?_
  refine lv_iadd hx hb dL_law_594 ?_
  refine va_sld hx hb hX hbl hbA hS (i := nI i + 1) (li_in (k := 1) (by omega) hL) dL_law_595 ?_
  refine lcall_l (rest := [.long r]) hx hb hml hown hT hK2 (fun i j hi hj h => hap j i hj hi h.symm) hge2 (ws2 := (wC a kc (va_up F 4 o1) (va_up G 2 o2) (va_up (va_up I 7 o3) 8 o4) (va_up (va_up J 5 o5) 6 o6) Z)) rfl (c_X8_best F2 G2 I2 J2 hi2 (xs (nI i + 1).toNatClampNeg) hq) q_6_3 q_6_4 q_6_5 q_1_10 q_6_6 ok_X8_best rfl 0 rfl rfl ⟨Nat.le_of_ble_eq_true rfl, Nat.le_of_ble_eq_true rfl⟩ rfl rfl hl.1 rfl (Nat.le_of_ble_eq_true rfl) hcs dL_law_596 hP2 hP hS (fun H locs hP2 hP hS => ?_)
  refine W.lcmp hx hb dL_law_599 ?_
  refine lv_if_eq (tgt := 1162) hx hb dL_law_600 (by decide) (fun _ => ?_) (fun h => ?_)
  · refine lv_iinc (v := nI (i + 6)) (lv' := [(3, .int (nI (i + 6))), (0, .ref b), (1, .ref (a 34)), (2, .ref (a2 0))]) hx hb dL_law_1162 hl (k := 3) rfl (nI_add i 6) (by decide) rfl (fun ls hl => ?_)
    refine lv_goto (tgt := 18) hx hb dL_law_1165 (by decide) ?_
    exact kk (va_up F 4 o1) (va_up G 2 o2) (va_up (va_up I 7 o3) 8 o4) (va_up (va_up J 5 o5) 6 o6) Z (va_up (va_up (va_up (va_up (va_up (va_up (va_up F2 1 q1) 2 q2) 3 q3) 4 q4) 5 q5) 6 q6) 8 q7) (va_up (va_up G2 0 q8) 1 q9) (va_up (va_up (va_up (va_up (va_up (va_up (va_up I2 6 q10) 7 q11) 8 q12) 9 q13) 10 q14) 11 q15) 12 q16) (va_up (va_up J2 0 q17) 1 q18) hRel H locs ls hP hP2 hS (lv_sub hl [1, 2, 3, 0] rfl)
  · exact absurd (by simp [lg_cmp]) h
set_option maxHeartbeats 4000000 in
set_option maxRecDepth 100000 in
theorem lawc_14 {p : Program} {l : Launch} {e : Env} {s : State} {m : MethodId} {below : List Frame} {meth : Method} {c : Code} {b L : Nat} {xs : Nat → Int32} {D : va_G} {a : Nat → Nat} {kc : Nat → ClassId} {a2 : Nat → Nat} {kc2 : Nat → ClassId} {cells slots : Nat} {Rel : RelT} (X : lwX p s m meth c b L xs D a kc a2 kc2) (hL : L ≤ 384) (hcs : cells ≤ room_1.cells ∧ slots ≤ room_1.slots) (hs : Sp_back Rel) {i : Nat} (hi : i + 6 ≤ L) (kk : ∀ (F : Nat → Int32) (G : Nat → Int64) (I : Nat → Nat → Int32) (J : Nat → Nat → Int64) (Z : Nat → Nat → Nat → Int32) (F2 : Nat → Int32) (G2 : Nat → Int64) (I2 : Nat → Nat → Int32) (J2 : Nat → Nat → Int64), Rel F G I J Z F2 G2 I2 J2 → ∀ (H : Heap) (locs : List Loc) (ls : Array Slot), va_P D vwCl (wC a kc F G I J Z) H → va_P D vwCl (wM a2 kc2 F2 G2 I2 J2) H → va_S (fun q : Nat => s.heap.size ≤ q) s.heap H locs → lv_has ls 4 [(0, .ref b), (1, .ref (a 34)), (2, .ref (a2 0)), (3, .int (nI (i + 6)))] → W p l e room_1 s m #[Value.ref b] below meth c H locs cells slots (lw_Z below #[Value.ref b] s) (F0 m 18 ls [])) :
    ∀ (F : Nat → Int32) (G : Nat → Int64) (I : Nat → Nat → Int32) (J : Nat → Nat → Int64) (Z : Nat → Nat → Nat → Int32) (F2 : Nat → Int32) (G2 : Nat → Int64) (I2 : Nat → Nat → Int32) (J2 : Nat → Nat → Int64), Rel F G I J Z F2 G2 I2 J2 → ∀ (H : Heap) (locs : List Loc) (ls : Array Slot), va_P D vwCl (wC a kc F G I J Z) H → va_P D vwCl (wM a2 kc2 F2 G2 I2 J2) H → va_S (fun q : Nat => s.heap.size ≤ q) s.heap H locs → lv_has ls 4 [(0, .ref b), (1, .ref (a 34)), (2, .ref (a2 0)), (3, .int (nI i))] → W p l e room_1 s m #[Value.ref b] below meth c H locs cells slots (lw_Z below #[Value.ref b] s) (F0 m 605 ls []) := by
  intro F G I J Z F2 G2 I2 J2 hRel H locs ls hP hP2 hS hl
  obtain ⟨⟨hx, hb, hr, hml, hown, hT, hX, hbl, hlk⟩, hK, hK2, hi1, hi2, hap, hge, hge2⟩ := X
  have hbA : ¬ (fun q : Nat => s.heap.size ≤ q) b := Nat.not_le.mpr hbl
  obtain ⟨r, o1, o2, o3, o4, o5, q1, q2, q3, q4, q5, q6, q7, q8, q9, q10, q11, q12, ho, hq, hRel⟩ := hs F G I J Z F2 G2 I2 J2 hRel (xs (nI i + 1).toNatClampNeg) (xs (nI i + 2).toNatClampNeg)
  refine lv_aload_n hx hb dL_law_605 rfl (lv_at hl 1 rfl) ?_
  refine lv_aload_n hx hb dL_law_606 rfl (lv_at hl 0 rfl) ?_
  refine lv_iload_n hx hb dL_law_607 rfl (lv_at hl 3 rfl) ?_
  refine lv_iconst (v := 1) hx hb dL_law_608 (by decide) ?_
  refine lv_iadd hx hb dL_law_609 ?_
  refine va_sld hx hb hX hbl hbA hS (i := nI i + 1) (li_in (k := 1) (by omega) hL) dL_law_610 ?_
  refine lv_aload_n hx hb dL_law_611 rfl (lv_at hl 0 rfl) ?_
  refine lv_iload_n hx hb dL_law_612 rfl (lv_at hl 3 rfl) ?_
  refine lv_iconst (v := 2) hx hb dL_law_613 (by decide) ?_
  refine lv_iadd hx hb dL_law_614 ?_
  refine va_sld hx hb hX hbl hbA hS (i := nI i + 2) (li_in (k := 2) (by omega) hL) dL_law_615 ?_
  refine lcall_i (rest := []) hx hb hml hown hT hK hap hge (ws2 := (wM a2 kc2 F2 G2 I2 J2)) rfl (c_X7_back F G I J Z hi1 (xs (nI i + 1).toNatClampNeg) (xs (nI i + 2).toNatClampNeg) ho) q_3_93 q_3_94 q_3_95 q_1_1 q_3_96 ok_X7_back rfl 34 rfl rfl ⟨Nat.le_of_ble_eq_true rfl, Nat.le_of_ble_eq_true rfl⟩ rfl rfl hl.1 rfl (Nat.le_of_ble_eq_true rfl) hcs dL_law_616 hP hP2 hS (fun H locs hP hP2 hS => ?_)
  refine lv_aload_n hx hb dL_law_619 rfl (lv_at hl 2 rfl) ?_
  refine lv_aload_n hx hb dL_law_620 rfl (lv_at hl 0 rfl) ?_
  refine lv_iload_n hx hb dL_law_621 rfl (lv_at hl 3 rfl) ?_
  refine lv_iconst (v := 1) hx hb dL_law_622 (by decide) ?_
  refine lv_iadd hx hb dL_law_623 ?_
  refine va_sld hx hb hX hbl hbA hS (i := nI i + 1) (li_in (k := 1) (by omega) hL) dL_law_624 ?_
  refine lv_aload_n hx hb dL_law_625 rfl (lv_at hl 0 rfl) ?_
  refine lv_iload_n hx hb dL_law_626 rfl (lv_at hl 3 rfl) ?_
  refine lv_iconst (v := 2) hx hb dL_law_627 (by decide) ?_
  refine lv_iadd hx hb dL_law_628 ?_
  refine va_sld hx hb hX hbl hbA hS (i := nI i + 2) (li_in (k := 2) (by omega) hL) dL_law_629 ?_
  refine lcall_i (rest := [.int r]) hx hb hml hown hT hK2 (fun i j hi hj h => hap j i hj hi h.symm) hge2 (ws2 := (wC a kc (va_up (va_up (va_up (va_up F 10 o1) 11 o2) 12 o3) 13 o4) G (va_up I 15 o5) J Z)) rfl (c_X8_back F2 G2 I2 J2 hi2 (xs (nI i + 1).toNatClampNeg) (xs (nI i + 2).toNatClampNeg) hq) q_6_11 q_6_12 q_6_13 q_1_10 q_6_14 ok_X8_back rfl 0 rfl rfl ⟨Nat.le_of_ble_eq_true rfl, Nat.le_of_ble_eq_true rfl⟩ rfl rfl hl.1 rfl (Nat.le_of_ble_eq_true rfl) hcs dL_law_630 hP2 hP hS (fun H locs hP2 hP hS => ?_)
  refine lv_icmp_eq (tgt := 1162) hx hb dL_law_633 (by decide) (fun _ => ?_) (fun h => ?_)
  · refine lv_iinc (v := nI (i + 6)) (lv' := [(3, .int (nI (i + 6))), (0, .ref b), (1, .ref (a 34)), (2, .ref (a2 0))]) hx hb dL_law_1162 hl (k := 3) rfl (nI_add i 6) (by decide) rfl (fun ls hl => ?_)
    refine lv_goto (tgt := 18) hx hb dL_law_1165 (by decide) ?_
    exact kk (va_up (va_up (va_up (va_up F 10 o1) 11 o2) 12 o3) 13 o4) G (va_up I 15 o5) J Z (va_up (va_up (va_up (va_up (va_up (va_up (va_up (va_up F2 0 q1) 1 q2) 2 q3) 3 q4) 4 q5) 9 q6) 10 q7) 11 q8) G2 (va_up (va_up (va_up (va_up I2 6 q9) 7 q10) 8 q11) 9 q12) J2 hRel H locs ls hP hP2 hS (lv_sub hl [1, 2, 3, 0] rfl)
  · exact absurd rfl h
set_option maxHeartbeats 4000000 in
set_option maxRecDepth 100000 in
theorem lawc_15 {p : Program} {l : Launch} {e : Env} {s : State} {m : MethodId} {below : List Frame} {meth : Method} {c : Code} {b L : Nat} {xs : Nat → Int32} {D : va_G} {a : Nat → Nat} {kc : Nat → ClassId} {a2 : Nat → Nat} {kc2 : Nat → ClassId} {cells slots : Nat} {Rel : RelT} (X : lwX p s m meth c b L xs D a kc a2 kc2) (hL : L ≤ 384) (hcs : cells ≤ room_1.cells ∧ slots ≤ room_1.slots) (hs : Sp_seen Rel) {i : Nat} (hi : i + 6 ≤ L) (kk : ∀ (F : Nat → Int32) (G : Nat → Int64) (I : Nat → Nat → Int32) (J : Nat → Nat → Int64) (Z : Nat → Nat → Nat → Int32) (F2 : Nat → Int32) (G2 : Nat → Int64) (I2 : Nat → Nat → Int32) (J2 : Nat → Nat → Int64), Rel F G I J Z F2 G2 I2 J2 → ∀ (H : Heap) (locs : List Loc) (ls : Array Slot), va_P D vwCl (wC a kc F G I J Z) H → va_P D vwCl (wM a2 kc2 F2 G2 I2 J2) H → va_S (fun q : Nat => s.heap.size ≤ q) s.heap H locs → lv_has ls 4 [(0, .ref b), (1, .ref (a 34)), (2, .ref (a2 0)), (3, .int (nI (i + 6)))] → W p l e room_1 s m #[Value.ref b] below meth c H locs cells slots (lw_Z below #[Value.ref b] s) (F0 m 18 ls [])) :
    ∀ (F : Nat → Int32) (G : Nat → Int64) (I : Nat → Nat → Int32) (J : Nat → Nat → Int64) (Z : Nat → Nat → Nat → Int32) (F2 : Nat → Int32) (G2 : Nat → Int64) (I2 : Nat → Nat → Int32) (J2 : Nat → Nat → Int64), Rel F G I J Z F2 G2 I2 J2 → ∀ (H : Heap) (locs : List Loc) (ls : Array Slot), va_P D vwCl (wC a kc F G I J Z) H → va_P D vwCl (wM a2 kc2 F2 G2 I2 J2) H → va_S (fun q : Nat => s.heap.size ≤ q) s.heap H locs → lv_has ls 4 [(0, .ref b), (1, .ref (a 34)), (2, .ref (a2 0)), (3, .int (nI i))] → W p l e room_1 s m #[Value.ref b] below meth c H locs cells slots (lw_Z below #[Value.ref b] s) (F0 m 638 ls []) := by
  intro F G I J Z F2 G2 I2 J2 hRel H locs ls hP hP2 hS hl
  obtain ⟨⟨hx, hb, hr, hml, hown, hT, hX, hbl, hlk⟩, hK, hK2, hi1, hi2, hap, hge, hge2⟩ := X
  have hbA : ¬ (fun q : Nat => s.heap.size ≤ q) b := Nat.not_le.mpr hbl
  obtain ⟨r, o1, o2, o3, o4, q1, q2, q3, ho, hq, hRel⟩ := hs F G I J Z F2 G2 I2 J2 hRel (xs (nI i + 1).toNatClampNeg) (xs (nI i + 2).toNatClampNeg)
  refine lv_aload_n hx hb dL_law_638 rfl (lv_at hl 1 rfl) ?_
  refine lv_aload_n hx hb dL_law_639 rfl (lv_at hl 0 rfl) ?_
  refine lv_iload_n hx hb dL_law_640 rfl (lv_at hl 3 rfl) ?_
  refine lv_iconst (v := 1) hx hb dL_law_641 (by decide) ?_
  refine lv_iadd hx hb dL_law_642 ?_
  refine va_sld hx hb hX hbl hbA hS (i := nI i + 1) (li_in (k := 1) (by omega) hL) dL_law_643 ?_
  refine lv_aload_n hx hb dL_law_644 rfl (lv_at hl 0 rfl) ?_
  refine lv_iload_n hx hb dL_law_645 rfl (lv_at hl 3 rfl) ?_
  refine lv_iconst (v := 2) hx hb dL_law_646 (by decide) ?_
  refine lv_iadd hx hb dL_law_647 ?_
  refine va_sld hx hb hX hbl hbA hS (i := nI i + 2) (li_in (k := 2) (by omega) hL) dL_law_648 ?_
  refine lcall_i (rest := []) hx hb hml hown hT hK hap hge (ws2 := (wM a2 kc2 F2 G2 I2 J2)) rfl (c_X7_seen F G I J Z hi1 (xs (nI i + 1).toNatClampNeg) (xs (nI i + 2).toNatClampNeg) ho) q_3_118 q_3_119 q_3_120 q_1_1 q_3_121 ok_X7_seen rfl 34 rfl rfl ⟨Nat.le_of_ble_eq_true rfl, Nat.le_of_ble_eq_true rfl⟩ rfl rfl hl.1 rfl (Nat.le_of_ble_eq_true rfl) hcs dL_law_649 hP hP2 hS (fun H locs hP hP2 hS => ?_)
  refine lv_aload_n hx hb dL_law_652 rfl (lv_at hl 2 rfl) ?_
  refine lv_aload_n hx hb dL_law_653 rfl (lv_at hl 0 rfl) ?_
  refine lv_iload_n hx hb dL_law_654 rfl (lv_at hl 3 rfl) ?_
  refine lv_iconst (v := 1) hx hb dL_law_655 (by decide) ?_
  refine lv_iadd hx hb dL_law_656 ?_
  refine va_sld hx hb hX hbl hbA hS (i := nI i + 1) (li_in (k := 1) (by omega) hL) dL_law_657 ?_
  refine lv_aload_n hx hb dL_law_658 rfl (lv_at hl 0 rfl) ?_
  refine lv_iload_n hx hb dL_law_659 rfl (lv_at hl 3 rfl) ?_
  refine lv_iconst (v := 2) hx hb dL_law_660 (by decide) ?_
  refine lv_iadd hx hb dL_law_661 ?_
  refine va_sld hx hb hX hbl hbA hS (i := nI i + 2) (li_in (k := 2) (by omega) hL) dL_law_662 ?_
  refine lcall_i (rest := [.int r]) hx hb hml hown hT hK2 (fun i j hi hj h => hap j i hj hi h.symm) hge2 (ws2 := (wC a kc (va_up (va_up F 5 o1) 7 o2) G (va_up (va_up I 9 o3) 10 o4) J Z)) rfl (c_X8_seen F2 G2 I2 J2 hi2 (xs (nI i + 1).toNatClampNeg) (xs (nI i + 2).toNatClampNeg) hq) q_6_23 q_6_24 q_6_25 q_1_10 q_6_26 ok_X8_seen rfl 0 rfl rfl ⟨Nat.le_of_ble_eq_true rfl, Nat.le_of_ble_eq_true rfl⟩ rfl rfl hl.1 rfl (Nat.le_of_ble_eq_true rfl) hcs dL_law_663 hP2 hP hS (fun H locs hP2 hP hS => ?_)
  refine lv_icmp_eq (tgt := 1162) hx hb dL_law_666 (by decide) (fun _ => ?_) (fun h => ?_)
  · refine lv_iinc (v := nI (i + 6)) (lv' := [(3, .int (nI (i + 6))), (0, .ref b), (1, .ref (a 34)), (2, .ref (a2 0))]) hx hb dL_law_1162 hl (k := 3) rfl (nI_add i 6) (by decide) rfl (fun ls hl => ?_)
    refine lv_goto (tgt := 18) hx hb dL_law_1165 (by decide) ?_
    exact kk (va_up (va_up F 5 o1) 7 o2) G (va_up (va_up I 9 o3) 10 o4) J Z (va_up F2 12 q1) G2 (va_up (va_up I2 13 q2) 14 q3) J2 hRel H locs ls hP hP2 hS (lv_sub hl [1, 2, 3, 0] rfl)
  · exact absurd rfl h
set_option maxHeartbeats 4000000 in
set_option maxRecDepth 100000 in
theorem lawc_16 {p : Program} {l : Launch} {e : Env} {s : State} {m : MethodId} {below : List Frame} {meth : Method} {c : Code} {b L : Nat} {xs : Nat → Int32} {D : va_G} {a : Nat → Nat} {kc : Nat → ClassId} {a2 : Nat → Nat} {kc2 : Nat → ClassId} {cells slots : Nat} {Rel : RelT} (X : lwX p s m meth c b L xs D a kc a2 kc2) (hL : L ≤ 384) (hcs : cells ≤ room_1.cells ∧ slots ≤ room_1.slots) (hs : Sp_read Rel) {i : Nat} (hi : i + 6 ≤ L) (kk : ∀ (F : Nat → Int32) (G : Nat → Int64) (I : Nat → Nat → Int32) (J : Nat → Nat → Int64) (Z : Nat → Nat → Nat → Int32) (F2 : Nat → Int32) (G2 : Nat → Int64) (I2 : Nat → Nat → Int32) (J2 : Nat → Nat → Int64), Rel F G I J Z F2 G2 I2 J2 → ∀ (H : Heap) (locs : List Loc) (ls : Array Slot), va_P D vwCl (wC a kc F G I J Z) H → va_P D vwCl (wM a2 kc2 F2 G2 I2 J2) H → va_S (fun q : Nat => s.heap.size ≤ q) s.heap H locs → lv_has ls 4 [(0, .ref b), (1, .ref (a 34)), (2, .ref (a2 0)), (3, .int (nI (i + 6)))] → W p l e room_1 s m #[Value.ref b] below meth c H locs cells slots (lw_Z below #[Value.ref b] s) (F0 m 18 ls [])) :
    ∀ (F : Nat → Int32) (G : Nat → Int64) (I : Nat → Nat → Int32) (J : Nat → Nat → Int64) (Z : Nat → Nat → Nat → Int32) (F2 : Nat → Int32) (G2 : Nat → Int64) (I2 : Nat → Nat → Int32) (J2 : Nat → Nat → Int64), Rel F G I J Z F2 G2 I2 J2 → ∀ (H : Heap) (locs : List Loc) (ls : Array Slot), va_P D vwCl (wC a kc F G I J Z) H → va_P D vwCl (wM a2 kc2 F2 G2 I2 J2) H → va_S (fun q : Nat => s.heap.size ≤ q) s.heap H locs → lv_has ls 4 [(0, .ref b), (1, .ref (a 34)), (2, .ref (a2 0)), (3, .int (nI i))] → W p l e room_1 s m #[Value.ref b] below meth c H locs cells slots (lw_Z below #[Value.ref b] s) (F0 m 671 ls []) := by
  intro F G I J Z F2 G2 I2 J2 hRel H locs ls hP hP2 hS hl
  obtain ⟨⟨hx, hb, hr, hml, hown, hT, hX, hbl, hlk⟩, hK, hK2, hi1, hi2, hap, hge, hge2⟩ := X
  have hbA : ¬ (fun q : Nat => s.heap.size ≤ q) b := Nat.not_le.mpr hbl
  obtain ⟨r, o1, o2, o3, o4, o5, q1, q2, q3, q4, ho, hq, hRel⟩ := hs F G I J Z F2 G2 I2 J2 hRel (xs (nI i + 1).toNatClampNeg)
  refine lv_aload_n hx hb dL_law_671 rfl (lv_at hl 1 rfl) ?_
  refine lv_aload_n hx hb dL_law_672 rfl (lv_at hl 0 rfl) ?_
  refine lv_iload_n hx hb dL_law_673 rfl (lv_at hl 3 rfl) ?_
  refine lv_iconst (v := 1) hx hb dL_law_674 (by decide) ?_
  refine lv_iadd hx hb dL_law_675 ?_
  refine va_sld hx hb hX hbl hbA hS (i := nI i + 1) (li_in (k := 1) (by omega) hL) dL_law_676 ?_
  refine lcall_i (rest := []) hx hb hml hown hT hK hap hge (ws2 := (wM a2 kc2 F2 G2 I2 J2)) rfl (c_X7_read F G I J Z hi1 (xs (nI i + 1).toNatClampNeg) ho) q_3_130 q_3_131 q_3_132 q_1_1 q_3_133 ok_X7_read rfl 34 rfl rfl ⟨Nat.le_of_ble_eq_true rfl, Nat.le_of_ble_eq_true rfl⟩ rfl rfl hl.1 rfl (Nat.le_of_ble_eq_true rfl) hcs dL_law_677 hP hP2 hS (fun H locs hP hP2 hS => ?_)
  refine lv_aload_n hx hb dL_law_680 rfl (lv_at hl 2 rfl) ?_
  refine lv_aload_n hx hb dL_law_681 rfl (lv_at hl 0 rfl) ?_
  refine lv_iload_n hx hb dL_law_682 rfl (lv_at hl 3 rfl) ?_
  refine lv_iconst (v := 1) hx hb dL_law_683 (by decide) ?_
  refine lv_iadd hx hb dL_law_684 ?_
  refine va_sld hx hb hX hbl hbA hS (i := nI i + 1) (li_in (k := 1) (by omega) hL) dL_law_685 ?_
  refine lcall_i (rest := [.int r]) hx hb hml hown hT hK2 (fun i j hi hj h => hap j i hj hi h.symm) hge2 (ws2 := (wC a kc (va_up (va_up (va_up F 5 o1) 7 o2) 13 o3) G (va_up (va_up I 9 o4) 10 o5) J Z)) rfl (c_X8_read F2 G2 I2 J2 hi2 (xs (nI i + 1).toNatClampNeg) hq) q_6_28 q_6_29 q_6_30 q_1_10 q_6_31 ok_X8_read rfl 0 rfl rfl ⟨Nat.le_of_ble_eq_true rfl, Nat.le_of_ble_eq_true rfl⟩ rfl rfl hl.1 rfl (Nat.le_of_ble_eq_true rfl) hcs dL_law_686 hP2 hP hS (fun H locs hP2 hP hS => ?_)
  refine lv_icmp_eq (tgt := 1162) hx hb dL_law_689 (by decide) (fun _ => ?_) (fun h => ?_)
  · refine lv_iinc (v := nI (i + 6)) (lv' := [(3, .int (nI (i + 6))), (0, .ref b), (1, .ref (a 34)), (2, .ref (a2 0))]) hx hb dL_law_1162 hl (k := 3) rfl (nI_add i 6) (by decide) rfl (fun ls hl => ?_)
    refine lv_goto (tgt := 18) hx hb dL_law_1165 (by decide) ?_
    exact kk (va_up (va_up (va_up F 5 o1) 7 o2) 13 o3) G (va_up (va_up I 9 o4) 10 o5) J Z (va_up (va_up F2 0 q1) 12 q2) G2 (va_up (va_up I2 13 q3) 14 q4) J2 hRel H locs ls hP hP2 hS (lv_sub hl [1, 2, 3, 0] rfl)
  · exact absurd rfl h
set_option maxHeartbeats 4000000 in
set_option maxRecDepth 100000 in
theorem lawc_17 {p : Program} {l : Launch} {e : Env} {s : State} {m : MethodId} {below : List Frame} {meth : Method} {c : Code} {b L : Nat} {xs : Nat → Int32} {D : va_G} {a : Nat → Nat} {kc : Nat → ClassId} {a2 : Nat → Nat} {kc2 : Nat → ClassId} {cells slots : Nat} {Rel : RelT} (X : lwX p s m meth c b L xs D a kc a2 kc2) (hL : L ≤ 384) (hcs : cells ≤ room_1.cells ∧ slots ≤ room_1.slots) (hs : Sp_forget Rel) {i : Nat} (hi : i + 6 ≤ L) (kk : ∀ (F : Nat → Int32) (G : Nat → Int64) (I : Nat → Nat → Int32) (J : Nat → Nat → Int64) (Z : Nat → Nat → Nat → Int32) (F2 : Nat → Int32) (G2 : Nat → Int64) (I2 : Nat → Nat → Int32) (J2 : Nat → Nat → Int64), Rel F G I J Z F2 G2 I2 J2 → ∀ (H : Heap) (locs : List Loc) (ls : Array Slot), va_P D vwCl (wC a kc F G I J Z) H → va_P D vwCl (wM a2 kc2 F2 G2 I2 J2) H → va_S (fun q : Nat => s.heap.size ≤ q) s.heap H locs → lv_has ls 4 [(0, .ref b), (1, .ref (a 34)), (2, .ref (a2 0)), (3, .int (nI (i + 6)))] → W p l e room_1 s m #[Value.ref b] below meth c H locs cells slots (lw_Z below #[Value.ref b] s) (F0 m 18 ls [])) :
    ∀ (F : Nat → Int32) (G : Nat → Int64) (I : Nat → Nat → Int32) (J : Nat → Nat → Int64) (Z : Nat → Nat → Nat → Int32) (F2 : Nat → Int32) (G2 : Nat → Int64) (I2 : Nat → Nat → Int32) (J2 : Nat → Nat → Int64), Rel F G I J Z F2 G2 I2 J2 → ∀ (H : Heap) (locs : List Loc) (ls : Array Slot), va_P D vwCl (wC a kc F G I J Z) H → va_P D vwCl (wM a2 kc2 F2 G2 I2 J2) H → va_S (fun q : Nat => s.heap.size ≤ q) s.heap H locs → lv_has ls 4 [(0, .ref b), (1, .ref (a 34)), (2, .ref (a2 0)), (3, .int (nI i))] → W p l e room_1 s m #[Value.ref b] below meth c H locs cells slots (lw_Z below #[Value.ref b] s) (F0 m 694 ls []) := by
  intro F G I J Z F2 G2 I2 J2 hRel H locs ls hP hP2 hS hl
  obtain ⟨⟨hx, hb, hr, hml, hown, hT, hX, hbl, hlk⟩, hK, hK2, hi1, hi2, hap, hge, hge2⟩ := X
  have hbA : ¬ (fun q : Nat => s.heap.size ≤ q) b := Nat.not_le.mpr hbl
  obtain ⟨r, o1, o2, q1, ho, hq, hRel⟩ := hs F G I J Z F2 G2 I2 J2 hRel
  refine lv_aload_n hx hb dL_law_694 rfl (lv_at hl 1 rfl) ?_
  refine lcall_i (rest := []) hx hb hml hown hT hK hap hge (ws2 := (wM a2 kc2 F2 G2 I2 J2)) rfl (c_X7_forget F G I J Z hi1  ho) q_3_134 q_3_135 q_3_136 q_1_1 q_3_137 ok_X7_forget rfl 34 rfl rfl ⟨Nat.le_of_ble_eq_true rfl, Nat.le_of_ble_eq_true rfl⟩ rfl rfl hl.1 rfl (Nat.le_of_ble_eq_true rfl) hcs dL_law_695 hP hP2 hS (fun H locs hP hP2 hS => ?_)
  refine lv_aload_n hx hb dL_law_698 rfl (lv_at hl 2 rfl) ?_
  refine lcall_i (rest := [.int r]) hx hb hml hown hT hK2 (fun i j hi hj h => hap j i hj hi h.symm) hge2 (ws2 := (wC a kc (va_up (va_up F 5 o1) 7 o2) G I J Z)) rfl (c_X8_forget F2 G2 I2 J2 hi2  hq) q_6_33 q_6_34 q_6_35 q_1_10 q_6_36 ok_X8_forget rfl 0 rfl rfl ⟨Nat.le_of_ble_eq_true rfl, Nat.le_of_ble_eq_true rfl⟩ rfl rfl hl.1 rfl (Nat.le_of_ble_eq_true rfl) hcs dL_law_699 hP2 hP hS (fun H locs hP2 hP hS => ?_)
  refine lv_icmp_eq (tgt := 1162) hx hb dL_law_702 (by decide) (fun _ => ?_) (fun h => ?_)
  · refine lv_iinc (v := nI (i + 6)) (lv' := [(3, .int (nI (i + 6))), (0, .ref b), (1, .ref (a 34)), (2, .ref (a2 0))]) hx hb dL_law_1162 hl (k := 3) rfl (nI_add i 6) (by decide) rfl (fun ls hl => ?_)
    refine lv_goto (tgt := 18) hx hb dL_law_1165 (by decide) ?_
    exact kk (va_up (va_up F 5 o1) 7 o2) G I J Z (va_up F2 12 q1) G2 I2 J2 hRel H locs ls hP hP2 hS (lv_sub hl [1, 2, 3, 0] rfl)
  · exact absurd rfl h
set_option maxHeartbeats 4000000 in
set_option maxRecDepth 100000 in
theorem lawc_18 {p : Program} {l : Launch} {e : Env} {s : State} {m : MethodId} {below : List Frame} {meth : Method} {c : Code} {b L : Nat} {xs : Nat → Int32} {D : va_G} {a : Nat → Nat} {kc : Nat → ClassId} {a2 : Nat → Nat} {kc2 : Nat → ClassId} {cells slots : Nat} {Rel : RelT} (X : lwX p s m meth c b L xs D a kc a2 kc2) (hL : L ≤ 384) (hcs : cells ≤ room_1.cells ∧ slots ≤ room_1.slots) (hs : Sp_losers Rel) {i : Nat} (hi : i + 6 ≤ L) (kk : ∀ (F : Nat → Int32) (G : Nat → Int64) (I : Nat → Nat → Int32) (J : Nat → Nat → Int64) (Z : Nat → Nat → Nat → Int32) (F2 : Nat → Int32) (G2 : Nat → Int64) (I2 : Nat → Nat → Int32) (J2 : Nat → Nat → Int64), Rel F G I J Z F2 G2 I2 J2 → ∀ (H : Heap) (locs : List Loc) (ls : Array Slot), va_P D vwCl (wC a kc F G I J Z) H → va_P D vwCl (wM a2 kc2 F2 G2 I2 J2) H → va_S (fun q : Nat => s.heap.size ≤ q) s.heap H locs → lv_has ls 4 [(0, .ref b), (1, .ref (a 34)), (2, .ref (a2 0)), (3, .int (nI (i + 6)))] → W p l e room_1 s m #[Value.ref b] below meth c H locs cells slots (lw_Z below #[Value.ref b] s) (F0 m 18 ls [])) :
    ∀ (F : Nat → Int32) (G : Nat → Int64) (I : Nat → Nat → Int32) (J : Nat → Nat → Int64) (Z : Nat → Nat → Nat → Int32) (F2 : Nat → Int32) (G2 : Nat → Int64) (I2 : Nat → Nat → Int32) (J2 : Nat → Nat → Int64), Rel F G I J Z F2 G2 I2 J2 → ∀ (H : Heap) (locs : List Loc) (ls : Array Slot), va_P D vwCl (wC a kc F G I J Z) H → va_P D vwCl (wM a2 kc2 F2 G2 I2 J2) H → va_S (fun q : Nat => s.heap.size ≤ q) s.heap H locs → lv_has ls 4 [(0, .ref b), (1, .ref (a 34)), (2, .ref (a2 0)), (3, .int (nI i))] → W p l e room_1 s m #[Value.ref b] below meth c H locs cells slots (lw_Z below #[Value.ref b] s) (F0 m 707 ls []) := by
  intro F G I J Z F2 G2 I2 J2 hRel H locs ls hP hP2 hS hl
  obtain ⟨⟨hx, hb, hr, hml, hown, hT, hX, hbl, hlk⟩, hK, hK2, hi1, hi2, hap, hge, hge2⟩ := X
  have hbA : ¬ (fun q : Nat => s.heap.size ≤ q) b := Nat.not_le.mpr hbl
  obtain ⟨r, o1, o2, o3, o4, o5, o6, o7, o8, q1, q2, q3, q4, q5, q6, q7, q8, q9, q10, q11, q12, q13, q14, q15, q16, ho, hq, hRel⟩ := hs F G I J Z F2 G2 I2 J2 hRel
  refine lv_aload_n hx hb dL_law_707 rfl (lv_at hl 1 rfl) ?_
  refine lcall_i (rest := []) hx hb hml hown hT hK hap hge (ws2 := (wM a2 kc2 F2 G2 I2 J2)) rfl (c_X7_losers F G I J Z hi1  ho) q_3_142 q_3_143 q_3_144 q_1_1 q_3_145 ok_X7_losers rfl 34 rfl rfl ⟨Nat.le_of_ble_eq_true rfl, Nat.le_of_ble_eq_true rfl⟩ rfl rfl hl.1 rfl (Nat.le_of_ble_eq_true rfl) hcs dL_law_708 hP hP2 hS (fun H locs hP hP2 hS => ?_)
  refine lv_aload_n hx hb dL_law_711 rfl (lv_at hl 2 rfl) ?_
  refine lcall_i (rest := [.int r]) hx hb hml hown hT hK2 (fun i j hi hj h => hap j i hj hi h.symm) hge2 (ws2 := (wC a kc (va_up (va_up F 6 o1) 7 o2) (va_up G 3 o3) (va_up (va_up (va_up I 11 o4) 12 o5) 13 o6) (va_up (va_up J 7 o7) 8 o8) Z)) rfl (c_X8_losers F2 G2 I2 J2 hi2  hq) q_6_37 q_6_38 q_6_39 q_1_10 q_6_40 ok_X8_losers rfl 0 rfl rfl ⟨Nat.le_of_ble_eq_true rfl, Nat.le_of_ble_eq_true rfl⟩ rfl rfl hl.1 rfl (Nat.le_of_ble_eq_true rfl) hcs dL_law_712 hP2 hP hS (fun H locs hP2 hP hS => ?_)
  refine lv_icmp_eq (tgt := 1162) hx hb dL_law_715 (by decide) (fun _ => ?_) (fun h => ?_)
  · refine lv_iinc (v := nI (i + 6)) (lv' := [(3, .int (nI (i + 6))), (0, .ref b), (1, .ref (a 34)), (2, .ref (a2 0))]) hx hb dL_law_1162 hl (k := 3) rfl (nI_add i 6) (by decide) rfl (fun ls hl => ?_)
    refine lv_goto (tgt := 18) hx hb dL_law_1165 (by decide) ?_
    exact kk (va_up (va_up F 6 o1) 7 o2) (va_up G 3 o3) (va_up (va_up (va_up I 11 o4) 12 o5) 13 o6) (va_up (va_up J 7 o7) 8 o8) Z (va_up (va_up (va_up (va_up (va_up (va_up (va_up (va_up F2 1 q1) 2 q2) 3 q3) 4 q4) 5 q5) 6 q6) 7 q7) 8 q8) (va_up G2 0 q9) (va_up (va_up (va_up (va_up (va_up I2 6 q10) 7 q11) 8 q12) 9 q13) 10 q14) (va_up (va_up J2 0 q15) 1 q16) hRel H locs ls hP hP2 hS (lv_sub hl [1, 2, 3, 0] rfl)
  · exact absurd rfl h
set_option maxHeartbeats 4000000 in
set_option maxRecDepth 100000 in
theorem lawc_19 {p : Program} {l : Launch} {e : Env} {s : State} {m : MethodId} {below : List Frame} {meth : Method} {c : Code} {b L : Nat} {xs : Nat → Int32} {D : va_G} {a : Nat → Nat} {kc : Nat → ClassId} {a2 : Nat → Nat} {kc2 : Nat → ClassId} {cells slots : Nat} {Rel : RelT} (X : lwX p s m meth c b L xs D a kc a2 kc2) (hL : L ≤ 384) (hcs : cells ≤ room_1.cells ∧ slots ≤ room_1.slots) (hs : Sp_share Rel) {i : Nat} (hi : i + 6 ≤ L) (kk : ∀ (F : Nat → Int32) (G : Nat → Int64) (I : Nat → Nat → Int32) (J : Nat → Nat → Int64) (Z : Nat → Nat → Nat → Int32) (F2 : Nat → Int32) (G2 : Nat → Int64) (I2 : Nat → Nat → Int32) (J2 : Nat → Nat → Int64), Rel F G I J Z F2 G2 I2 J2 → ∀ (H : Heap) (locs : List Loc) (ls : Array Slot), va_P D vwCl (wC a kc F G I J Z) H → va_P D vwCl (wM a2 kc2 F2 G2 I2 J2) H → va_S (fun q : Nat => s.heap.size ≤ q) s.heap H locs → lv_has ls 4 [(0, .ref b), (1, .ref (a 34)), (2, .ref (a2 0)), (3, .int (nI (i + 6)))] → W p l e room_1 s m #[Value.ref b] below meth c H locs cells slots (lw_Z below #[Value.ref b] s) (F0 m 18 ls [])) :
    ∀ (F : Nat → Int32) (G : Nat → Int64) (I : Nat → Nat → Int32) (J : Nat → Nat → Int64) (Z : Nat → Nat → Nat → Int32) (F2 : Nat → Int32) (G2 : Nat → Int64) (I2 : Nat → Nat → Int32) (J2 : Nat → Nat → Int64), Rel F G I J Z F2 G2 I2 J2 → ∀ (H : Heap) (locs : List Loc) (ls : Array Slot), va_P D vwCl (wC a kc F G I J Z) H → va_P D vwCl (wM a2 kc2 F2 G2 I2 J2) H → va_S (fun q : Nat => s.heap.size ≤ q) s.heap H locs → lv_has ls 4 [(0, .ref b), (1, .ref (a 34)), (2, .ref (a2 0)), (3, .int (nI i))] → W p l e room_1 s m #[Value.ref b] below meth c H locs cells slots (lw_Z below #[Value.ref b] s) (F0 m 720 ls []) := by
  intro F G I J Z F2 G2 I2 J2 hRel H locs ls hP hP2 hS hl
  obtain ⟨⟨hx, hb, hr, hml, hown, hT, hX, hbl, hlk⟩, hK, hK2, hi1, hi2, hap, hge, hge2⟩ := X
  have hbA : ¬ (fun q : Nat => s.heap.size ≤ q) b := Nat.not_le.mpr hbl
  obtain ⟨r, o1, o2, o3, o4, o5, o6, o7, o8, q1, q2, q3, q4, q5, q6, q7, q8, q9, q10, q11, q12, q13, q14, q15, q16, ho, hq, hRel⟩ := hs F G I J Z F2 G2 I2 J2 hRel (xs (nI i + 1).toNatClampNeg) (xs (nI i + 2).toNatClampNeg)
  refine lv_aload_n hx hb dL_law_720 rfl (lv_at hl 1 rfl) ?_
  refine lv_aload_n hx hb dL_law_721 rfl (lv_at hl 0 rfl) ?_
  refine lv_iload_n hx hb dL_law_722 rfl (lv_at hl 3 rfl) ?_
  refine lv_iconst (v := 1) hx hb dL_law_723 (by decide) ?_
  refine lv_iadd hx hb dL_law_724 ?_
  refine va_sld hx hb hX hbl hbA hS (i := nI i + 1) (li_in (k := 1) (by omega) hL) dL_law_725 ?_
  refine lv_aload_n hx hb dL_law_726 rfl (lv_at hl 0 rfl) ?_
  refine lv_iload_n hx hb dL_law_727 rfl (lv_at hl 3 rfl) ?_
  refine lv_iconst (v := 2) hx hb dL_law_728 (by decide) ?_
  refine lv_iadd hx hb dL_law_729 ?_
  refine va_sld hx hb hX hbl hbA hS (i := nI i + 2) (li_in (k := 2) (by omega) hL) dL_law_730 ?_
  refine lcall_l (rest := []) hx hb hml hown hT hK hap hge (ws2 := (wM a2 kc2 F2 G2 I2 J2)) rfl (c_X7_share F G I J Z hi1 (xs (nI i + 1).toNatClampNeg) (xs (nI i + 2).toNatClampNeg) ho) q_3_190 q_3_191 q_3_192 q_1_1 q_3_193 ok_X7_share rfl 34 rfl rfl ⟨Nat.le_of_ble_eq_true rfl, Nat.le_of_ble_eq_true rfl⟩ rfl rfl hl.1 rfl (Nat.le_of_ble_eq_true rfl) hcs dL_law_731 hP hP2 hS (fun H locs hP hP2 hS => ?_)
  refine lv_aload_n hx hb dL_law_734 rfl (lv_at hl 2 rfl) ?_
  refine lv_aload_n hx hb dL_law_735 rfl (lv_at hl 0 rfl) ?_
  refine lv_iload_n hx hb dL_law_736 rfl (lv_at hl 3 rfl) ?_
  refine lv_iconst (v := 1) hx hb dL_law_737 (by decide) ?_
  refine lv_iadd hx hb dL_law_738 ?_
  refine va_sld hx hb hX hbl hbA hS (i := nI i + 1) (li_in (k := 1) (by omega) hL) dL_law_739 ?_
  refine lv_aload_n hx hb dL_law_740 rfl (lv_at hl 0 rfl) ?_
  refine lv_iload_n hx hb dL_law_741 rfl (lv_at hl 3 rfl) ?_
  refine lv_iconst (v := 2) hx hb dL_law_742 (by decide) ?_
  refine lv_iadd hx hb dL_law_743 ?_
  refine va_sld hx hb hX hbl hbA hS (i := nI i + 2) (li_in (k := 2) (by omega) hL) dL_law_744 ?_
  refine lcall_l (rest := [.long r]) hx hb hml hown hT hK2 (fun i j hi hj h => hap j i hj hi h.symm) hge2 (ws2 := (wC a kc (va_up (va_up F 6 o1) 7 o2) (va_up G 3 o3) (va_up (va_up (va_up I 11 o4) 12 o5) 13 o6) (va_up (va_up J 7 o7) 8 o8) Z)) rfl (c_X8_share F2 G2 I2 J2 hi2 (xs (nI i + 1).toNatClampNeg) (xs (nI i + 2).toNatClampNeg) hq) q_6_53 q_6_54 q_6_55 q_1_10 q_6_56 ok_X8_share rfl 0 rfl rfl ⟨Nat.le_of_ble_eq_true rfl, Nat.le_of_ble_eq_true rfl⟩ rfl rfl hl.1 rfl (Nat.le_of_ble_eq_true rfl) hcs dL_law_745 hP2 hP hS (fun H locs hP2 hP hS => ?_)
  refine W.lcmp hx hb dL_law_748 ?_
  refine lv_if_eq (tgt := 1162) hx hb dL_law_749 (by decide) (fun _ => ?_) (fun h => ?_)
  · refine lv_iinc (v := nI (i + 6)) (lv' := [(3, .int (nI (i + 6))), (0, .ref b), (1, .ref (a 34)), (2, .ref (a2 0))]) hx hb dL_law_1162 hl (k := 3) rfl (nI_add i 6) (by decide) rfl (fun ls hl => ?_)
    refine lv_goto (tgt := 18) hx hb dL_law_1165 (by decide) ?_
    exact kk (va_up (va_up F 6 o1) 7 o2) (va_up G 3 o3) (va_up (va_up (va_up I 11 o4) 12 o5) 13 o6) (va_up (va_up J 7 o7) 8 o8) Z (va_up (va_up (va_up (va_up (va_up (va_up (va_up (va_up F2 1 q1) 2 q2) 3 q3) 4 q4) 5 q5) 6 q6) 7 q7) 8 q8) (va_up G2 0 q9) (va_up (va_up (va_up (va_up (va_up I2 6 q10) 7 q11) 8 q12) 9 q13) 10 q14) (va_up (va_up J2 0 q15) 1 q16) hRel H locs ls hP hP2 hS (lv_sub hl [1, 2, 3, 0] rfl)
  · exact absurd (by simp [lg_cmp]) h
set_option maxHeartbeats 4000000 in
set_option maxRecDepth 100000 in
theorem lawc_20 {p : Program} {l : Launch} {e : Env} {s : State} {m : MethodId} {below : List Frame} {meth : Method} {c : Code} {b L : Nat} {xs : Nat → Int32} {D : va_G} {a : Nat → Nat} {kc : Nat → ClassId} {a2 : Nat → Nat} {kc2 : Nat → ClassId} {cells slots : Nat} {Rel : RelT} (X : lwX p s m meth c b L xs D a kc a2 kc2) (hL : L ≤ 384) (hcs : cells ≤ room_1.cells ∧ slots ≤ room_1.slots) (hs : Sp_likeliest Rel) {i : Nat} (hi : i + 6 ≤ L) (kk : ∀ (F : Nat → Int32) (G : Nat → Int64) (I : Nat → Nat → Int32) (J : Nat → Nat → Int64) (Z : Nat → Nat → Nat → Int32) (F2 : Nat → Int32) (G2 : Nat → Int64) (I2 : Nat → Nat → Int32) (J2 : Nat → Nat → Int64), Rel F G I J Z F2 G2 I2 J2 → ∀ (H : Heap) (locs : List Loc) (ls : Array Slot), va_P D vwCl (wC a kc F G I J Z) H → va_P D vwCl (wM a2 kc2 F2 G2 I2 J2) H → va_S (fun q : Nat => s.heap.size ≤ q) s.heap H locs → lv_has ls 4 [(0, .ref b), (1, .ref (a 34)), (2, .ref (a2 0)), (3, .int (nI (i + 6)))] → W p l e room_1 s m #[Value.ref b] below meth c H locs cells slots (lw_Z below #[Value.ref b] s) (F0 m 18 ls [])) :
    ∀ (F : Nat → Int32) (G : Nat → Int64) (I : Nat → Nat → Int32) (J : Nat → Nat → Int64) (Z : Nat → Nat → Nat → Int32) (F2 : Nat → Int32) (G2 : Nat → Int64) (I2 : Nat → Nat → Int32) (J2 : Nat → Nat → Int64), Rel F G I J Z F2 G2 I2 J2 → ∀ (H : Heap) (locs : List Loc) (ls : Array Slot), va_P D vwCl (wC a kc F G I J Z) H → va_P D vwCl (wM a2 kc2 F2 G2 I2 J2) H → va_S (fun q : Nat => s.heap.size ≤ q) s.heap H locs → lv_has ls 4 [(0, .ref b), (1, .ref (a 34)), (2, .ref (a2 0)), (3, .int (nI i))] → W p l e room_1 s m #[Value.ref b] below meth c H locs cells slots (lw_Z below #[Value.ref b] s) (F0 m 754 ls []) := by
  intro F G I J Z F2 G2 I2 J2 hRel H locs ls hP hP2 hS hl
  obtain ⟨⟨hx, hb, hr, hml, hown, hT, hX, hbl, hlk⟩, hK, hK2, hi1, hi2, hap, hge, hge2⟩ := X
  have hbA : ¬ (fun q : Nat => s.heap.size ≤ q) b := Nat.not_le.mpr hbl
  obtain ⟨r, o1, o2, o3, o4, o5, o6, o7, o8, q1, q2, q3, q4, q5, q6, q7, q8, q9, q10, q11, q12, q13, q14, q15, q16, ho, hq, hRel⟩ := hs F G I J Z F2 G2 I2 J2 hRel
  refine lv_aload_n hx hb dL_law_754 rfl (lv_at hl 1 rfl) ?_
  refine lcall_i (rest := []) hx hb hml hown hT hK hap hge (ws2 := (wM a2 kc2 F2 G2 I2 J2)) rfl (c_X7_likeliest F G I J Z hi1  ho) q_3_194 q_3_195 q_3_196 q_1_1 q_3_197 ok_X7_likeliest rfl 34 rfl rfl ⟨Nat.le_of_ble_eq_true rfl, Nat.le_of_ble_eq_true rfl⟩ rfl rfl hl.1 rfl (Nat.le_of_ble_eq_true rfl) hcs dL_law_755 hP hP2 hS (fun H locs hP hP2 hS => ?_)
  refine lv_aload_n hx hb dL_law_758 rfl (lv_at hl 2 rfl) ?_
  refine lcall_i (rest := [.int r]) hx hb hml hown hT hK2 (fun i j hi hj h => hap j i hj hi h.symm) hge2 (ws2 := (wC a kc (va_up (va_up F 6 o1) 7 o2) (va_up G 3 o3) (va_up (va_up (va_up I 11 o4) 12 o5) 13 o6) (va_up (va_up J 7 o7) 8 o8) Z)) rfl (c_X8_likeliest F2 G2 I2 J2 hi2  hq) q_6_57 q_6_58 q_6_59 q_1_10 q_6_60 ok_X8_likeliest rfl 0 rfl rfl ⟨Nat.le_of_ble_eq_true rfl, Nat.le_of_ble_eq_true rfl⟩ rfl rfl hl.1 rfl (Nat.le_of_ble_eq_true rfl) hcs dL_law_759 hP2 hP hS (fun H locs hP2 hP hS => ?_)
  refine lv_icmp_eq (tgt := 1162) hx hb dL_law_762 (by decide) (fun _ => ?_) (fun h => ?_)
  · refine lv_iinc (v := nI (i + 6)) (lv' := [(3, .int (nI (i + 6))), (0, .ref b), (1, .ref (a 34)), (2, .ref (a2 0))]) hx hb dL_law_1162 hl (k := 3) rfl (nI_add i 6) (by decide) rfl (fun ls hl => ?_)
    refine lv_goto (tgt := 18) hx hb dL_law_1165 (by decide) ?_
    exact kk (va_up (va_up F 6 o1) 7 o2) (va_up G 3 o3) (va_up (va_up (va_up I 11 o4) 12 o5) 13 o6) (va_up (va_up J 7 o7) 8 o8) Z (va_up (va_up (va_up (va_up (va_up (va_up (va_up (va_up F2 1 q1) 2 q2) 3 q3) 4 q4) 5 q5) 6 q6) 7 q7) 8 q8) (va_up G2 0 q9) (va_up (va_up (va_up (va_up (va_up I2 6 q10) 7 q11) 8 q12) 9 q13) 10 q14) (va_up (va_up J2 0 q15) 1 q16) hRel H locs ls hP hP2 hS (lv_sub hl [1, 2, 3, 0] rfl)
  · exact absurd rfl h
set_option maxHeartbeats 4000000 in
set_option maxRecDepth 100000 in
theorem lawc_21 {p : Program} {l : Launch} {e : Env} {s : State} {m : MethodId} {below : List Frame} {meth : Method} {c : Code} {b L : Nat} {xs : Nat → Int32} {D : va_G} {a : Nat → Nat} {kc : Nat → ClassId} {a2 : Nat → Nat} {kc2 : Nat → ClassId} {cells slots : Nat} {Rel : RelT} (X : lwX p s m meth c b L xs D a kc a2 kc2) (hL : L ≤ 384) (hcs : cells ≤ room_1.cells ∧ slots ≤ room_1.slots) (hs : Sp_ask Rel) {i : Nat} (hi : i + 6 ≤ L) (kk : ∀ (F : Nat → Int32) (G : Nat → Int64) (I : Nat → Nat → Int32) (J : Nat → Nat → Int64) (Z : Nat → Nat → Nat → Int32) (F2 : Nat → Int32) (G2 : Nat → Int64) (I2 : Nat → Nat → Int32) (J2 : Nat → Nat → Int64), Rel F G I J Z F2 G2 I2 J2 → ∀ (H : Heap) (locs : List Loc) (ls : Array Slot), va_P D vwCl (wC a kc F G I J Z) H → va_P D vwCl (wM a2 kc2 F2 G2 I2 J2) H → va_S (fun q : Nat => s.heap.size ≤ q) s.heap H locs → lv_has ls 4 [(0, .ref b), (1, .ref (a 34)), (2, .ref (a2 0)), (3, .int (nI (i + 6)))] → W p l e room_1 s m #[Value.ref b] below meth c H locs cells slots (lw_Z below #[Value.ref b] s) (F0 m 18 ls [])) :
    ∀ (F : Nat → Int32) (G : Nat → Int64) (I : Nat → Nat → Int32) (J : Nat → Nat → Int64) (Z : Nat → Nat → Nat → Int32) (F2 : Nat → Int32) (G2 : Nat → Int64) (I2 : Nat → Nat → Int32) (J2 : Nat → Nat → Int64), Rel F G I J Z F2 G2 I2 J2 → ∀ (H : Heap) (locs : List Loc) (ls : Array Slot), va_P D vwCl (wC a kc F G I J Z) H → va_P D vwCl (wM a2 kc2 F2 G2 I2 J2) H → va_S (fun q : Nat => s.heap.size ≤ q) s.heap H locs → lv_has ls 4 [(0, .ref b), (1, .ref (a 34)), (2, .ref (a2 0)), (3, .int (nI i))] → W p l e room_1 s m #[Value.ref b] below meth c H locs cells slots (lw_Z below #[Value.ref b] s) (F0 m 767 ls []) := by
  intro F G I J Z F2 G2 I2 J2 hRel H locs ls hP hP2 hS hl
  obtain ⟨⟨hx, hb, hr, hml, hown, hT, hX, hbl, hlk⟩, hK, hK2, hi1, hi2, hap, hge, hge2⟩ := X
  have hbA : ¬ (fun q : Nat => s.heap.size ≤ q) b := Nat.not_le.mpr hbl
  obtain ⟨r, o1, o2, o3, o4, o5, o6, o7, o8, q1, q2, q3, q4, q5, q6, q7, q8, q9, q10, q11, q12, q13, q14, q15, q16, ho, hq, hRel⟩ := hs F G I J Z F2 G2 I2 J2 hRel (xs (nI i + 1).toNatClampNeg)
  refine lv_aload_n hx hb dL_law_767 rfl (lv_at hl 1 rfl) ?_
  refine lv_aload_n hx hb dL_law_768 rfl (lv_at hl 0 rfl) ?_
  refine lv_iload_n hx hb dL_law_769 rfl (lv_at hl 3 rfl) ?_
  refine lv_iconst (v := 1) hx hb dL_law_770 (by decide) ?_
  refine lv_iadd hx hb dL_law_771 ?_
  refine va_sld hx hb hX hbl hbA hS (i := nI i + 1) (li_in (k := 1) (by omega) hL) dL_law_772 ?_
  refine lcall_i (rest := []) hx hb hml hown hT hK hap hge (ws2 := (wM a2 kc2 F2 G2 I2 J2)) rfl (c_X7_ask F G I J Z hi1 (xs (nI i + 1).toNatClampNeg) ho) q_3_202 q_3_203 q_3_204 q_1_1 q_3_205 ok_X7_ask rfl 34 rfl rfl ⟨Nat.le_of_ble_eq_true rfl, Nat.le_of_ble_eq_true rfl⟩ rfl rfl hl.1 rfl (Nat.le_of_ble_eq_true rfl) hcs dL_law_773 hP hP2 hS (fun H locs hP hP2 hS => ?_)
  refine lv_aload_n hx hb dL_law_776 rfl (lv_at hl 2 rfl) ?_
  refine lv_aload_n hx hb dL_law_777 rfl (lv_at hl 0 rfl) ?_
  refine lv_iload_n hx hb dL_law_778 rfl (lv_at hl 3 rfl) ?_
  refine lv_iconst (v := 1) hx hb dL_law_779 (by decide) ?_
  refine lv_iadd hx hb dL_law_780 ?_
  refine va_sld hx hb hX hbl hbA hS (i := nI i + 1) (li_in (k := 1) (by omega) hL) dL_law_781 ?_
  refine lcall_i (rest := [.int r]) hx hb hml hown hT hK2 (fun i j hi hj h => hap j i hj hi h.symm) hge2 (ws2 := (wC a kc (va_up (va_up F 6 o1) 7 o2) (va_up G 3 o3) (va_up (va_up (va_up I 11 o4) 12 o5) 13 o6) (va_up (va_up J 7 o7) 8 o8) Z)) rfl (c_X8_ask F2 G2 I2 J2 hi2 (xs (nI i + 1).toNatClampNeg) hq) q_6_65 q_6_66 q_6_67 q_1_10 q_6_68 ok_X8_ask rfl 0 rfl rfl ⟨Nat.le_of_ble_eq_true rfl, Nat.le_of_ble_eq_true rfl⟩ rfl rfl hl.1 rfl (Nat.le_of_ble_eq_true rfl) hcs dL_law_782 hP2 hP hS (fun H locs hP2 hP hS => ?_)
  refine lv_icmp_eq (tgt := 1162) hx hb dL_law_785 (by decide) (fun _ => ?_) (fun h => ?_)
  · refine lv_iinc (v := nI (i + 6)) (lv' := [(3, .int (nI (i + 6))), (0, .ref b), (1, .ref (a 34)), (2, .ref (a2 0))]) hx hb dL_law_1162 hl (k := 3) rfl (nI_add i 6) (by decide) rfl (fun ls hl => ?_)
    refine lv_goto (tgt := 18) hx hb dL_law_1165 (by decide) ?_
    exact kk (va_up (va_up F 6 o1) 7 o2) (va_up G 3 o3) (va_up (va_up (va_up I 11 o4) 12 o5) 13 o6) (va_up (va_up J 7 o7) 8 o8) Z (va_up (va_up (va_up (va_up (va_up (va_up (va_up (va_up F2 1 q1) 2 q2) 3 q3) 4 q4) 5 q5) 6 q6) 7 q7) 8 q8) (va_up G2 0 q9) (va_up (va_up (va_up (va_up (va_up I2 6 q10) 7 q11) 8 q12) 9 q13) 10 q14) (va_up (va_up J2 0 q15) 1 q16) hRel H locs ls hP hP2 hS (lv_sub hl [1, 2, 3, 0] rfl)
  · exact absurd rfl h
set_option maxHeartbeats 4000000 in
set_option maxRecDepth 100000 in
theorem lawc_22 {p : Program} {l : Launch} {e : Env} {s : State} {m : MethodId} {below : List Frame} {meth : Method} {c : Code} {b L : Nat} {xs : Nat → Int32} {D : va_G} {a : Nat → Nat} {kc : Nat → ClassId} {a2 : Nat → Nat} {kc2 : Nat → ClassId} {cells slots : Nat} {Rel : RelT} (X : lwX p s m meth c b L xs D a kc a2 kc2) (hL : L ≤ 384) (hcs : cells ≤ room_1.cells ∧ slots ≤ room_1.slots) (hs : Sp_turned Rel) {i : Nat} (hi : i + 6 ≤ L) (kk : ∀ (F : Nat → Int32) (G : Nat → Int64) (I : Nat → Nat → Int32) (J : Nat → Nat → Int64) (Z : Nat → Nat → Nat → Int32) (F2 : Nat → Int32) (G2 : Nat → Int64) (I2 : Nat → Nat → Int32) (J2 : Nat → Nat → Int64), Rel F G I J Z F2 G2 I2 J2 → ∀ (H : Heap) (locs : List Loc) (ls : Array Slot), va_P D vwCl (wC a kc F G I J Z) H → va_P D vwCl (wM a2 kc2 F2 G2 I2 J2) H → va_S (fun q : Nat => s.heap.size ≤ q) s.heap H locs → lv_has ls 4 [(0, .ref b), (1, .ref (a 34)), (2, .ref (a2 0)), (3, .int (nI (i + 6)))] → W p l e room_1 s m #[Value.ref b] below meth c H locs cells slots (lw_Z below #[Value.ref b] s) (F0 m 18 ls [])) :
    ∀ (F : Nat → Int32) (G : Nat → Int64) (I : Nat → Nat → Int32) (J : Nat → Nat → Int64) (Z : Nat → Nat → Nat → Int32) (F2 : Nat → Int32) (G2 : Nat → Int64) (I2 : Nat → Nat → Int32) (J2 : Nat → Nat → Int64), Rel F G I J Z F2 G2 I2 J2 → ∀ (H : Heap) (locs : List Loc) (ls : Array Slot), va_P D vwCl (wC a kc F G I J Z) H → va_P D vwCl (wM a2 kc2 F2 G2 I2 J2) H → va_S (fun q : Nat => s.heap.size ≤ q) s.heap H locs → lv_has ls 4 [(0, .ref b), (1, .ref (a 34)), (2, .ref (a2 0)), (3, .int (nI i))] → W p l e room_1 s m #[Value.ref b] below meth c H locs cells slots (lw_Z below #[Value.ref b] s) (F0 m 790 ls []) := by
  intro F G I J Z F2 G2 I2 J2 hRel H locs ls hP hP2 hS hl
  obtain ⟨⟨hx, hb, hr, hml, hown, hT, hX, hbl, hlk⟩, hK, hK2, hi1, hi2, hap, hge, hge2⟩ := X
  have hbA : ¬ (fun q : Nat => s.heap.size ≤ q) b := Nat.not_le.mpr hbl
  obtain ⟨r, ho, hq, hRel⟩ := hs F G I J Z F2 G2 I2 J2 hRel (xs (nI i + 1).toNatClampNeg) (xs (nI i + 2).toNatClampNeg) (xs (nI i + 3).toNatClampNeg)
  refine lv_aload_n hx hb dL_law_790 rfl (lv_at hl 1 rfl) ?_
  refine lv_aload_n hx hb dL_law_791 rfl (lv_at hl 0 rfl) ?_
  refine lv_iload_n hx hb dL_law_792 rfl (lv_at hl 3 rfl) ?_
  refine lv_iconst (v := 1) hx hb dL_law_793 (by decide) ?_
  refine lv_iadd hx hb dL_law_794 ?_
  refine va_sld hx hb hX hbl hbA hS (i := nI i + 1) (li_in (k := 1) (by omega) hL) dL_law_795 ?_
  refine lv_aload_n hx hb dL_law_796 rfl (lv_at hl 0 rfl) ?_
  refine lv_iload_n hx hb dL_law_797 rfl (lv_at hl 3 rfl) ?_
  refine lv_iconst (v := 2) hx hb dL_law_798 (by decide) ?_
  refine lv_iadd hx hb dL_law_799 ?_
  refine va_sld hx hb hX hbl hbA hS (i := nI i + 2) (li_in (k := 2) (by omega) hL) dL_law_800 ?_
  refine lv_aload_n hx hb dL_law_801 rfl (lv_at hl 0 rfl) ?_
  refine lv_iload_n hx hb dL_law_802 rfl (lv_at hl 3 rfl) ?_
  refine lv_iconst (v := 3) hx hb dL_law_803 (by decide) ?_
  refine lv_iadd hx hb dL_law_804 ?_
  refine va_sld hx hb hX hbl hbA hS (i := nI i + 3) (li_in (k := 3) (by omega) hL) dL_law_805 ?_
  refine lcall_l (rest := []) hx hb hml hown hT hK hap hge (ws2 := (wM a2 kc2 F2 G2 I2 J2)) rfl (c_X7_turned F G I J Z hi1 (xs (nI i + 1).toNatClampNeg) (xs (nI i + 2).toNatClampNeg) (xs (nI i + 3).toNatClampNeg) ho) q_3_220 q_3_221 q_3_222 q_1_1 q_3_223 ok_X7_turned rfl 34 rfl rfl ⟨Nat.le_of_ble_eq_true rfl, Nat.le_of_ble_eq_true rfl⟩ rfl rfl hl.1 rfl (Nat.le_of_ble_eq_true rfl) hcs dL_law_806 hP hP2 hS (fun H locs hP hP2 hS => ?_)
  refine lv_aload_n hx hb dL_law_809 rfl (lv_at hl 2 rfl) ?_
  refine lv_aload_n hx hb dL_law_810 rfl (lv_at hl 0 rfl) ?_
  refine lv_iload_n hx hb dL_law_811 rfl (lv_at hl 3 rfl) ?_
  refine lv_iconst (v := 1) hx hb dL_law_812 (by decide) ?_
  refine lv_iadd hx hb dL_law_813 ?_
  refine va_sld hx hb hX hbl hbA hS (i := nI i + 1) (li_in (k := 1) (by omega) hL) dL_law_814 ?_
  refine lv_aload_n hx hb dL_law_815 rfl (lv_at hl 0 rfl) ?_
  refine lv_iload_n hx hb dL_law_816 rfl (lv_at hl 3 rfl) ?_
  refine lv_iconst (v := 2) hx hb dL_law_817 (by decide) ?_
  refine lv_iadd hx hb dL_law_818 ?_
  refine va_sld hx hb hX hbl hbA hS (i := nI i + 2) (li_in (k := 2) (by omega) hL) dL_law_819 ?_
  refine lv_aload_n hx hb dL_law_820 rfl (lv_at hl 0 rfl) ?_
  refine lv_iload_n hx hb dL_law_821 rfl (lv_at hl 3 rfl) ?_
  refine lv_iconst (v := 3) hx hb dL_law_822 (by decide) ?_
  refine lv_iadd hx hb dL_law_823 ?_
  refine va_sld hx hb hX hbl hbA hS (i := nI i + 3) (li_in (k := 3) (by omega) hL) dL_law_824 ?_
  refine lcall_l (rest := [.long r]) hx hb hml hown hT hK2 (fun i j hi hj h => hap j i hj hi h.symm) hge2 (ws2 := (wC a kc F G I J Z)) rfl (c_X8_turned F2 G2 I2 J2 hi2 (xs (nI i + 1).toNatClampNeg) (xs (nI i + 2).toNatClampNeg) (xs (nI i + 3).toNatClampNeg) hq) q_6_81 q_6_82 q_6_83 q_1_10 q_6_84 ok_X8_turned rfl 0 rfl rfl ⟨Nat.le_of_ble_eq_true rfl, Nat.le_of_ble_eq_true rfl⟩ rfl rfl hl.1 rfl (Nat.le_of_ble_eq_true rfl) hcs dL_law_825 hP2 hP hS (fun H locs hP2 hP hS => ?_)
  refine W.lcmp hx hb dL_law_828 ?_
  refine lv_if_eq (tgt := 1162) hx hb dL_law_829 (by decide) (fun _ => ?_) (fun h => ?_)
  · refine lv_iinc (v := nI (i + 6)) (lv' := [(3, .int (nI (i + 6))), (0, .ref b), (1, .ref (a 34)), (2, .ref (a2 0))]) hx hb dL_law_1162 hl (k := 3) rfl (nI_add i 6) (by decide) rfl (fun ls hl => ?_)
    refine lv_goto (tgt := 18) hx hb dL_law_1165 (by decide) ?_
    exact kk F G I J Z F2 G2 I2 J2 hRel H locs ls hP hP2 hS (lv_sub hl [1, 2, 3, 0] rfl)
  · exact absurd (by simp [lg_cmp]) h
set_option maxHeartbeats 4000000 in
set_option maxRecDepth 100000 in
theorem lawc_23 {p : Program} {l : Launch} {e : Env} {s : State} {m : MethodId} {below : List Frame} {meth : Method} {c : Code} {b L : Nat} {xs : Nat → Int32} {D : va_G} {a : Nat → Nat} {kc : Nat → ClassId} {a2 : Nat → Nat} {kc2 : Nat → ClassId} {cells slots : Nat} {Rel : RelT} (X : lwX p s m meth c b L xs D a kc a2 kc2) (hL : L ≤ 384) (hcs : cells ≤ room_1.cells ∧ slots ≤ room_1.slots) (hs : Sp_evening Rel) {i : Nat} (hi : i + 6 ≤ L) (kk : ∀ (F : Nat → Int32) (G : Nat → Int64) (I : Nat → Nat → Int32) (J : Nat → Nat → Int64) (Z : Nat → Nat → Nat → Int32) (F2 : Nat → Int32) (G2 : Nat → Int64) (I2 : Nat → Nat → Int32) (J2 : Nat → Nat → Int64), Rel F G I J Z F2 G2 I2 J2 → ∀ (H : Heap) (locs : List Loc) (ls : Array Slot), va_P D vwCl (wC a kc F G I J Z) H → va_P D vwCl (wM a2 kc2 F2 G2 I2 J2) H → va_S (fun q : Nat => s.heap.size ≤ q) s.heap H locs → lv_has ls 4 [(0, .ref b), (1, .ref (a 34)), (2, .ref (a2 0)), (3, .int (nI (i + 6)))] → W p l e room_1 s m #[Value.ref b] below meth c H locs cells slots (lw_Z below #[Value.ref b] s) (F0 m 18 ls [])) :
    ∀ (F : Nat → Int32) (G : Nat → Int64) (I : Nat → Nat → Int32) (J : Nat → Nat → Int64) (Z : Nat → Nat → Nat → Int32) (F2 : Nat → Int32) (G2 : Nat → Int64) (I2 : Nat → Nat → Int32) (J2 : Nat → Nat → Int64), Rel F G I J Z F2 G2 I2 J2 → ∀ (H : Heap) (locs : List Loc) (ls : Array Slot), va_P D vwCl (wC a kc F G I J Z) H → va_P D vwCl (wM a2 kc2 F2 G2 I2 J2) H → va_S (fun q : Nat => s.heap.size ≤ q) s.heap H locs → lv_has ls 4 [(0, .ref b), (1, .ref (a 34)), (2, .ref (a2 0)), (3, .int (nI i))] → W p l e room_1 s m #[Value.ref b] below meth c H locs cells slots (lw_Z below #[Value.ref b] s) (F0 m 834 ls []) := by
  intro F G I J Z F2 G2 I2 J2 hRel H locs ls hP hP2 hS hl
  obtain ⟨⟨hx, hb, hr, hml, hown, hT, hX, hbl, hlk⟩, hK, hK2, hi1, hi2, hap, hge, hge2⟩ := X
  have hbA : ¬ (fun q : Nat => s.heap.size ≤ q) b := Nat.not_le.mpr hbl
  obtain ⟨r, o1, o2, o3, q1, q2, q3, q4, q5, q6, q7, q8, q9, q10, ho, hq, hRel⟩ := hs F G I J Z F2 G2 I2 J2 hRel (xs (nI i + 1).toNatClampNeg) (xs (nI i + 2).toNatClampNeg)
  refine lv_aload_n hx hb dL_law_834 rfl (lv_at hl 1 rfl) ?_
  refine lv_aload_n hx hb dL_law_835 rfl (lv_at hl 0 rfl) ?_
  refine lv_iload_n hx hb dL_law_836 rfl (lv_at hl 3 rfl) ?_
  refine lv_iconst (v := 1) hx hb dL_law_837 (by decide) ?_
  refine lv_iadd hx hb dL_law_838 ?_
  refine va_sld hx hb hX hbl hbA hS (i := nI i + 1) (li_in (k := 1) (by omega) hL) dL_law_839 ?_
  refine lv_aload_n hx hb dL_law_840 rfl (lv_at hl 0 rfl) ?_
  refine lv_iload_n hx hb dL_law_841 rfl (lv_at hl 3 rfl) ?_
  refine lv_iconst (v := 2) hx hb dL_law_842 (by decide) ?_
  refine lv_iadd hx hb dL_law_843 ?_
  refine va_sld hx hb hX hbl hbA hS (i := nI i + 2) (li_in (k := 2) (by omega) hL) dL_law_844 ?_
  refine lcall_i (rest := []) hx hb hml hown hT hK hap hge (ws2 := (wM a2 kc2 F2 G2 I2 J2)) rfl (c_X7_evening F G I J Z hi1 (xs (nI i + 1).toNatClampNeg) (xs (nI i + 2).toNatClampNeg) ho) q_3_225 q_3_226 q_3_227 q_1_1 q_3_228 ok_X7_evening rfl 34 rfl rfl ⟨Nat.le_of_ble_eq_true rfl, Nat.le_of_ble_eq_true rfl⟩ rfl rfl hl.1 rfl (Nat.le_of_ble_eq_true rfl) hcs dL_law_845 hP hP2 hS (fun H locs hP hP2 hS => ?_)
  refine lv_aload_n hx hb dL_law_848 rfl (lv_at hl 2 rfl) ?_
  refine lv_aload_n hx hb dL_law_849 rfl (lv_at hl 0 rfl) ?_
  refine lv_iload_n hx hb dL_law_850 rfl (lv_at hl 3 rfl) ?_
  refine lv_iconst (v := 1) hx hb dL_law_851 (by decide) ?_
  refine lv_iadd hx hb dL_law_852 ?_
  refine va_sld hx hb hX hbl hbA hS (i := nI i + 1) (li_in (k := 1) (by omega) hL) dL_law_853 ?_
  refine lv_aload_n hx hb dL_law_854 rfl (lv_at hl 0 rfl) ?_
  refine lv_iload_n hx hb dL_law_855 rfl (lv_at hl 3 rfl) ?_
  refine lv_iconst (v := 2) hx hb dL_law_856 (by decide) ?_
  refine lv_iadd hx hb dL_law_857 ?_
  refine va_sld hx hb hX hbl hbA hS (i := nI i + 2) (li_in (k := 2) (by omega) hL) dL_law_858 ?_
  refine lcall_i (rest := [.int r]) hx hb hml hown hT hK2 (fun i j hi hj h => hap j i hj hi h.symm) hge2 (ws2 := (wC a kc (va_up (va_up F 8 o1) 9 o2) G (va_up I 14 o3) J Z)) rfl (c_X8_evening F2 G2 I2 J2 hi2 (xs (nI i + 1).toNatClampNeg) (xs (nI i + 2).toNatClampNeg) hq) q_6_90 q_6_91 q_6_92 q_1_10 q_6_93 ok_X8_evening rfl 0 rfl rfl ⟨Nat.le_of_ble_eq_true rfl, Nat.le_of_ble_eq_true rfl⟩ rfl rfl hl.1 rfl (Nat.le_of_ble_eq_true rfl) hcs dL_law_859 hP2 hP hS (fun H locs hP2 hP hS => ?_)
  refine lv_icmp_eq (tgt := 1162) hx hb dL_law_862 (by decide) (fun _ => ?_) (fun h => ?_)
  · refine lv_iinc (v := nI (i + 6)) (lv' := [(3, .int (nI (i + 6))), (0, .ref b), (1, .ref (a 34)), (2, .ref (a2 0))]) hx hb dL_law_1162 hl (k := 3) rfl (nI_add i 6) (by decide) rfl (fun ls hl => ?_)
    refine lv_goto (tgt := 18) hx hb dL_law_1165 (by decide) ?_
    exact kk (va_up (va_up F 8 o1) 9 o2) G (va_up I 14 o3) J Z (va_up (va_up (va_up (va_up (va_up F2 1 q1) 2 q2) 3 q3) 4 q4) 13 q5) G2 (va_up (va_up (va_up (va_up (va_up I2 6 q6) 7 q7) 8 q8) 9 q9) 15 q10) J2 hRel H locs ls hP hP2 hS (lv_sub hl [1, 2, 3, 0] rfl)
  · exact absurd rfl h
set_option maxHeartbeats 4000000 in
set_option maxRecDepth 100000 in
theorem lawc_24 {p : Program} {l : Launch} {e : Env} {s : State} {m : MethodId} {below : List Frame} {meth : Method} {c : Code} {b L : Nat} {xs : Nat → Int32} {D : va_G} {a : Nat → Nat} {kc : Nat → ClassId} {a2 : Nat → Nat} {kc2 : Nat → ClassId} {cells slots : Nat} {Rel : RelT} (X : lwX p s m meth c b L xs D a kc a2 kc2) (hL : L ≤ 384) (hcs : cells ≤ room_1.cells ∧ slots ≤ room_1.slots) (hs : Sp_sheet Rel) {i : Nat} (hi : i + 6 ≤ L) (kk : ∀ (F : Nat → Int32) (G : Nat → Int64) (I : Nat → Nat → Int32) (J : Nat → Nat → Int64) (Z : Nat → Nat → Nat → Int32) (F2 : Nat → Int32) (G2 : Nat → Int64) (I2 : Nat → Nat → Int32) (J2 : Nat → Nat → Int64), Rel F G I J Z F2 G2 I2 J2 → ∀ (H : Heap) (locs : List Loc) (ls : Array Slot), va_P D vwCl (wC a kc F G I J Z) H → va_P D vwCl (wM a2 kc2 F2 G2 I2 J2) H → va_S (fun q : Nat => s.heap.size ≤ q) s.heap H locs → lv_has ls 4 [(0, .ref b), (1, .ref (a 34)), (2, .ref (a2 0)), (3, .int (nI (i + 6)))] → W p l e room_1 s m #[Value.ref b] below meth c H locs cells slots (lw_Z below #[Value.ref b] s) (F0 m 18 ls [])) :
    ∀ (F : Nat → Int32) (G : Nat → Int64) (I : Nat → Nat → Int32) (J : Nat → Nat → Int64) (Z : Nat → Nat → Nat → Int32) (F2 : Nat → Int32) (G2 : Nat → Int64) (I2 : Nat → Nat → Int32) (J2 : Nat → Nat → Int64), Rel F G I J Z F2 G2 I2 J2 → ∀ (H : Heap) (locs : List Loc) (ls : Array Slot), va_P D vwCl (wC a kc F G I J Z) H → va_P D vwCl (wM a2 kc2 F2 G2 I2 J2) H → va_S (fun q : Nat => s.heap.size ≤ q) s.heap H locs → lv_has ls 4 [(0, .ref b), (1, .ref (a 34)), (2, .ref (a2 0)), (3, .int (nI i))] → W p l e room_1 s m #[Value.ref b] below meth c H locs cells slots (lw_Z below #[Value.ref b] s) (F0 m 867 ls []) := by
  intro F G I J Z F2 G2 I2 J2 hRel H locs ls hP hP2 hS hl
  obtain ⟨⟨hx, hb, hr, hml, hown, hT, hX, hbl, hlk⟩, hK, hK2, hi1, hi2, hap, hge, hge2⟩ := X
  have hbA : ¬ (fun q : Nat => s.heap.size ≤ q) b := Nat.not_le.mpr hbl
  obtain ⟨r, o1, o2, o3, o4, q1, q2, q3, q4, ho, hq, hRel⟩ := hs F G I J Z F2 G2 I2 J2 hRel (xs (nI i + 1).toNatClampNeg) (xs (nI i + 2).toNatClampNeg) (xs (nI i + 3).toNatClampNeg)
  refine lv_aload_n hx hb dL_law_867 rfl (lv_at hl 1 rfl) ?_
  refine lv_aload_n hx hb dL_law_868 rfl (lv_at hl 0 rfl) ?_
  refine lv_iload_n hx hb dL_law_869 rfl (lv_at hl 3 rfl) ?_
  refine lv_iconst (v := 1) hx hb dL_law_870 (by decide) ?_
  refine lv_iadd hx hb dL_law_871 ?_
  refine va_sld hx hb hX hbl hbA hS (i := nI i + 1) (li_in (k := 1) (by omega) hL) dL_law_872 ?_
  refine lv_aload_n hx hb dL_law_873 rfl (lv_at hl 0 rfl) ?_
  refine lv_iload_n hx hb dL_law_874 rfl (lv_at hl 3 rfl) ?_
  refine lv_iconst (v := 2) hx hb dL_law_875 (by decide) ?_
  refine lv_iadd hx hb dL_law_876 ?_
  refine va_sld hx hb hX hbl hbA hS (i := nI i + 2) (li_in (k := 2) (by omega) hL) dL_law_877 ?_
  refine lv_aload_n hx hb dL_law_878 rfl (lv_at hl 0 rfl) ?_
  refine lv_iload_n hx hb dL_law_879 rfl (lv_at hl 3 rfl) ?_
  refine lv_iconst (v := 3) hx hb dL_law_880 (by decide) ?_
  refine lv_iadd hx hb dL_law_881 ?_
  refine va_sld hx hb hX hbl hbA hS (i := nI i + 3) (li_in (k := 3) (by omega) hL) dL_law_882 ?_
  refine lcall_i (rest := []) hx hb hml hown hT hK hap hge (ws2 := (wM a2 kc2 F2 G2 I2 J2)) rfl (c_X7_sheet F G I J Z hi1 (xs (nI i + 1).toNatClampNeg) (xs (nI i + 2).toNatClampNeg) (xs (nI i + 3).toNatClampNeg) ho) q_4_9 q_4_10 q_4_11 q_1_1 q_4_12 ok_X7_sheet rfl 34 rfl rfl ⟨Nat.le_of_ble_eq_true rfl, Nat.le_of_ble_eq_true rfl⟩ rfl rfl hl.1 rfl (Nat.le_of_ble_eq_true rfl) hcs dL_law_883 hP hP2 hS (fun H locs hP hP2 hS => ?_)
  refine lv_aload_n hx hb dL_law_886 rfl (lv_at hl 2 rfl) ?_
  refine lv_aload_n hx hb dL_law_887 rfl (lv_at hl 0 rfl) ?_
  refine lv_iload_n hx hb dL_law_888 rfl (lv_at hl 3 rfl) ?_
  refine lv_iconst (v := 1) hx hb dL_law_889 (by decide) ?_
  refine lv_iadd hx hb dL_law_890 ?_
  refine va_sld hx hb hX hbl hbA hS (i := nI i + 1) (li_in (k := 1) (by omega) hL) dL_law_891 ?_
  refine lv_aload_n hx hb dL_law_892 rfl (lv_at hl 0 rfl) ?_
  refine lv_iload_n hx hb dL_law_893 rfl (lv_at hl 3 rfl) ?_
  refine lv_iconst (v := 2) hx hb dL_law_894 (by decide) ?_
  refine lv_iadd hx hb dL_law_895 ?_
  refine va_sld hx hb hX hbl hbA hS (i := nI i + 2) (li_in (k := 2) (by omega) hL) dL_law_896 ?_
  refine lv_aload_n hx hb dL_law_897 rfl (lv_at hl 0 rfl) ?_
  refine lv_iload_n hx hb dL_law_898 rfl (lv_at hl 3 rfl) ?_
  refine lv_iconst (v := 3) hx hb dL_law_899 (by decide) ?_
  refine lv_iadd hx hb dL_law_900 ?_
  refine va_sld hx hb hX hbl hbA hS (i := nI i + 3) (li_in (k := 3) (by omega) hL) dL_law_901 ?_
  refine lcall_i (rest := [.int r]) hx hb hml hown hT hK2 (fun i j hi hj h => hap j i hj hi h.symm) hge2 (ws2 := (wC a kc (va_up F 13 o1) G (va_up (va_up I 16 o2) 17 o3) J (va_up Z 1 o4))) rfl (c_X8_sheet F2 G2 I2 J2 hi2 (xs (nI i + 1).toNatClampNeg) (xs (nI i + 2).toNatClampNeg) (xs (nI i + 3).toNatClampNeg) hq) q_4_218 q_4_219 q_4_220 q_1_10 q_4_221 ok_X8_sheet rfl 0 rfl rfl ⟨Nat.le_of_ble_eq_true rfl, Nat.le_of_ble_eq_true rfl⟩ rfl rfl hl.1 rfl (Nat.le_of_ble_eq_true rfl) hcs dL_law_902 hP2 hP hS (fun H locs hP2 hP hS => ?_)
  refine lv_icmp_eq (tgt := 1162) hx hb dL_law_905 (by decide) (fun _ => ?_) (fun h => ?_)
  · refine lv_iinc (v := nI (i + 6)) (lv' := [(3, .int (nI (i + 6))), (0, .ref b), (1, .ref (a 34)), (2, .ref (a2 0))]) hx hb dL_law_1162 hl (k := 3) rfl (nI_add i 6) (by decide) rfl (fun ls hl => ?_)
    refine lv_goto (tgt := 18) hx hb dL_law_1165 (by decide) ?_
    exact kk (va_up F 13 o1) G (va_up (va_up I 16 o2) 17 o3) J (va_up Z 1 o4) (va_up F2 0 q1) G2 (va_up (va_up (va_up I2 0 q2) 1 q3) 2 q4) J2 hRel H locs ls hP hP2 hS (lv_sub hl [1, 2, 3, 0] rfl)
  · exact absurd rfl h
set_option maxHeartbeats 4000000 in
set_option maxRecDepth 100000 in
theorem lawc_25 {p : Program} {l : Launch} {e : Env} {s : State} {m : MethodId} {below : List Frame} {meth : Method} {c : Code} {b L : Nat} {xs : Nat → Int32} {D : va_G} {a : Nat → Nat} {kc : Nat → ClassId} {a2 : Nat → Nat} {kc2 : Nat → ClassId} {cells slots : Nat} {Rel : RelT} (X : lwX p s m meth c b L xs D a kc a2 kc2) (hL : L ≤ 384) (hcs : cells ≤ room_1.cells ∧ slots ≤ room_1.slots) (hs : Sp_lose Rel) {i : Nat} (hi : i + 6 ≤ L) (kk : ∀ (F : Nat → Int32) (G : Nat → Int64) (I : Nat → Nat → Int32) (J : Nat → Nat → Int64) (Z : Nat → Nat → Nat → Int32) (F2 : Nat → Int32) (G2 : Nat → Int64) (I2 : Nat → Nat → Int32) (J2 : Nat → Nat → Int64), Rel F G I J Z F2 G2 I2 J2 → ∀ (H : Heap) (locs : List Loc) (ls : Array Slot), va_P D vwCl (wC a kc F G I J Z) H → va_P D vwCl (wM a2 kc2 F2 G2 I2 J2) H → va_S (fun q : Nat => s.heap.size ≤ q) s.heap H locs → lv_has ls 4 [(0, .ref b), (1, .ref (a 34)), (2, .ref (a2 0)), (3, .int (nI (i + 6)))] → W p l e room_1 s m #[Value.ref b] below meth c H locs cells slots (lw_Z below #[Value.ref b] s) (F0 m 18 ls [])) :
    ∀ (F : Nat → Int32) (G : Nat → Int64) (I : Nat → Nat → Int32) (J : Nat → Nat → Int64) (Z : Nat → Nat → Nat → Int32) (F2 : Nat → Int32) (G2 : Nat → Int64) (I2 : Nat → Nat → Int32) (J2 : Nat → Nat → Int64), Rel F G I J Z F2 G2 I2 J2 → ∀ (H : Heap) (locs : List Loc) (ls : Array Slot), va_P D vwCl (wC a kc F G I J Z) H → va_P D vwCl (wM a2 kc2 F2 G2 I2 J2) H → va_S (fun q : Nat => s.heap.size ≤ q) s.heap H locs → lv_has ls 4 [(0, .ref b), (1, .ref (a 34)), (2, .ref (a2 0)), (3, .int (nI i))] → W p l e room_1 s m #[Value.ref b] below meth c H locs cells slots (lw_Z below #[Value.ref b] s) (F0 m 910 ls []) := by
  intro F G I J Z F2 G2 I2 J2 hRel H locs ls hP hP2 hS hl
  obtain ⟨⟨hx, hb, hr, hml, hown, hT, hX, hbl, hlk⟩, hK, hK2, hi1, hi2, hap, hge, hge2⟩ := X
  have hbA : ¬ (fun q : Nat => s.heap.size ≤ q) b := Nat.not_le.mpr hbl
  obtain ⟨r, o1, o2, q1, q2, ho, hq, hRel⟩ := hs F G I J Z F2 G2 I2 J2 hRel (xs (nI i + 1).toNatClampNeg)
  refine lv_aload_n hx hb dL_law_910 rfl (lv_at hl 1 rfl) ?_
  refine lv_aload_n hx hb dL_law_911 rfl (lv_at hl 0 rfl) ?_
  refine lv_iload_n hx hb dL_law_912 rfl (lv_at hl 3 rfl) ?_
  refine lv_iconst (v := 1) hx hb dL_law_913 (by decide) ?_
  refine lv_iadd hx hb dL_law_914 ?_
  refine va_sld hx hb hX hbl hbA hS (i := nI i + 1) (li_in (k := 1) (by omega) hL) dL_law_915 ?_
  refine lcall_i (rest := []) hx hb hml hown hT hK hap hge (ws2 := (wM a2 kc2 F2 G2 I2 J2)) rfl (c_X7_lose F G I J Z hi1 (xs (nI i + 1).toNatClampNeg) ho) q_4_21 q_4_22 q_4_23 q_1_1 q_4_24 ok_X7_lose rfl 34 rfl rfl ⟨Nat.le_of_ble_eq_true rfl, Nat.le_of_ble_eq_true rfl⟩ rfl rfl hl.1 rfl (Nat.le_of_ble_eq_true rfl) hcs dL_law_916 hP hP2 hS (fun H locs hP hP2 hS => ?_)
  refine lv_aload_n hx hb dL_law_919 rfl (lv_at hl 2 rfl) ?_
  refine lv_aload_n hx hb dL_law_920 rfl (lv_at hl 0 rfl) ?_
  refine lv_iload_n hx hb dL_law_921 rfl (lv_at hl 3 rfl) ?_
  refine lv_iconst (v := 1) hx hb dL_law_922 (by decide) ?_
  refine lv_iadd hx hb dL_law_923 ?_
  refine va_sld hx hb hX hbl hbA hS (i := nI i + 1) (li_in (k := 1) (by omega) hL) dL_law_924 ?_
  refine lcall_i (rest := [.int r]) hx hb hml hown hT hK2 (fun i j hi hj h => hap j i hj hi h.symm) hge2 (ws2 := (wC a kc (va_up F 13 o1) G (va_up I 17 o2) J Z)) rfl (c_X8_lose F2 G2 I2 J2 hi2 (xs (nI i + 1).toNatClampNeg) hq) q_4_234 q_4_235 q_4_236 q_1_10 q_4_237 ok_X8_lose rfl 0 rfl rfl ⟨Nat.le_of_ble_eq_true rfl, Nat.le_of_ble_eq_true rfl⟩ rfl rfl hl.1 rfl (Nat.le_of_ble_eq_true rfl) hcs dL_law_925 hP2 hP hS (fun H locs hP2 hP hS => ?_)
  refine lv_icmp_eq (tgt := 1162) hx hb dL_law_928 (by decide) (fun _ => ?_) (fun h => ?_)
  · refine lv_iinc (v := nI (i + 6)) (lv' := [(3, .int (nI (i + 6))), (0, .ref b), (1, .ref (a 34)), (2, .ref (a2 0))]) hx hb dL_law_1162 hl (k := 3) rfl (nI_add i 6) (by decide) rfl (fun ls hl => ?_)
    refine lv_goto (tgt := 18) hx hb dL_law_1165 (by decide) ?_
    exact kk (va_up F 13 o1) G (va_up I 17 o2) J Z (va_up F2 0 q1) G2 (va_up I2 0 q2) J2 hRel H locs ls hP hP2 hS (lv_sub hl [1, 2, 3, 0] rfl)
  · exact absurd rfl h
set_option maxHeartbeats 4000000 in
set_option maxRecDepth 100000 in
theorem lawc_26 {p : Program} {l : Launch} {e : Env} {s : State} {m : MethodId} {below : List Frame} {meth : Method} {c : Code} {b L : Nat} {xs : Nat → Int32} {D : va_G} {a : Nat → Nat} {kc : Nat → ClassId} {a2 : Nat → Nat} {kc2 : Nat → ClassId} {cells slots : Nat} {Rel : RelT} (X : lwX p s m meth c b L xs D a kc a2 kc2) (hL : L ≤ 384) (hcs : cells ≤ room_1.cells ∧ slots ≤ room_1.slots) (hs : Sp_lay Rel) {i : Nat} (hi : i + 6 ≤ L) (kk : ∀ (F : Nat → Int32) (G : Nat → Int64) (I : Nat → Nat → Int32) (J : Nat → Nat → Int64) (Z : Nat → Nat → Nat → Int32) (F2 : Nat → Int32) (G2 : Nat → Int64) (I2 : Nat → Nat → Int32) (J2 : Nat → Nat → Int64), Rel F G I J Z F2 G2 I2 J2 → ∀ (H : Heap) (locs : List Loc) (ls : Array Slot), va_P D vwCl (wC a kc F G I J Z) H → va_P D vwCl (wM a2 kc2 F2 G2 I2 J2) H → va_S (fun q : Nat => s.heap.size ≤ q) s.heap H locs → lv_has ls 4 [(0, .ref b), (1, .ref (a 34)), (2, .ref (a2 0)), (3, .int (nI (i + 6)))] → W p l e room_1 s m #[Value.ref b] below meth c H locs cells slots (lw_Z below #[Value.ref b] s) (F0 m 18 ls [])) :
    ∀ (F : Nat → Int32) (G : Nat → Int64) (I : Nat → Nat → Int32) (J : Nat → Nat → Int64) (Z : Nat → Nat → Nat → Int32) (F2 : Nat → Int32) (G2 : Nat → Int64) (I2 : Nat → Nat → Int32) (J2 : Nat → Nat → Int64), Rel F G I J Z F2 G2 I2 J2 → ∀ (H : Heap) (locs : List Loc) (ls : Array Slot), va_P D vwCl (wC a kc F G I J Z) H → va_P D vwCl (wM a2 kc2 F2 G2 I2 J2) H → va_S (fun q : Nat => s.heap.size ≤ q) s.heap H locs → lv_has ls 4 [(0, .ref b), (1, .ref (a 34)), (2, .ref (a2 0)), (3, .int (nI i))] → W p l e room_1 s m #[Value.ref b] below meth c H locs cells slots (lw_Z below #[Value.ref b] s) (F0 m 933 ls []) := by
  intro F G I J Z F2 G2 I2 J2 hRel H locs ls hP hP2 hS hl
  obtain ⟨⟨hx, hb, hr, hml, hown, hT, hX, hbl, hlk⟩, hK, hK2, hi1, hi2, hap, hge, hge2⟩ := X
  have hbA : ¬ (fun q : Nat => s.heap.size ≤ q) b := Nat.not_le.mpr hbl
  obtain ⟨r, o1, o2, q1, q2, ho, hq, hRel⟩ := hs F G I J Z F2 G2 I2 J2 hRel (xs (nI i + 1).toNatClampNeg) (xs (nI i + 2).toNatClampNeg) (xs (nI i + 3).toNatClampNeg) (xs (nI i + 4).toNatClampNeg)
  refine lv_aload_n hx hb dL_law_933 rfl (lv_at hl 1 rfl) ?_
  refine lv_aload_n hx hb dL_law_934 rfl (lv_at hl 0 rfl) ?_
  refine lv_iload_n hx hb dL_law_935 rfl (lv_at hl 3 rfl) ?_
  refine lv_iconst (v := 1) hx hb dL_law_936 (by decide) ?_
  refine lv_iadd hx hb dL_law_937 ?_
  refine va_sld hx hb hX hbl hbA hS (i := nI i + 1) (li_in (k := 1) (by omega) hL) dL_law_938 ?_
  refine lv_aload_n hx hb dL_law_939 rfl (lv_at hl 0 rfl) ?_
  refine lv_iload_n hx hb dL_law_940 rfl (lv_at hl 3 rfl) ?_
  refine lv_iconst (v := 2) hx hb dL_law_941 (by decide) ?_
  refine lv_iadd hx hb dL_law_942 ?_
  refine va_sld hx hb hX hbl hbA hS (i := nI i + 2) (li_in (k := 2) (by omega) hL) dL_law_943 ?_
  refine lv_aload_n hx hb dL_law_944 rfl (lv_at hl 0 rfl) ?_
  refine lv_iload_n hx hb dL_law_945 rfl (lv_at hl 3 rfl) ?_
  refine lv_iconst (v := 3) hx hb dL_law_946 (by decide) ?_
  refine lv_iadd hx hb dL_law_947 ?_
  refine va_sld hx hb hX hbl hbA hS (i := nI i + 3) (li_in (k := 3) (by omega) hL) dL_law_948 ?_
  refine lv_aload_n hx hb dL_law_949 rfl (lv_at hl 0 rfl) ?_
  refine lv_iload_n hx hb dL_law_950 rfl (lv_at hl 3 rfl) ?_
  refine lv_iconst (v := 4) hx hb dL_law_951 (by decide) ?_
  refine lv_iadd hx hb dL_law_952 ?_
  refine va_sld hx hb hX hbl hbA hS (i := nI i + 4) (li_in (k := 4) (by omega) hL) dL_law_953 ?_
  refine lcall_i (rest := []) hx hb hml hown hT hK hap hge (ws2 := (wM a2 kc2 F2 G2 I2 J2)) rfl (c_X7_lay F G I J Z hi1 (xs (nI i + 1).toNatClampNeg) (xs (nI i + 2).toNatClampNeg) (xs (nI i + 3).toNatClampNeg) (xs (nI i + 4).toNatClampNeg) ho) q_4_25 q_4_26 q_4_27 q_1_1 q_4_28 ok_X7_lay rfl 34 rfl rfl ⟨Nat.le_of_ble_eq_true rfl, Nat.le_of_ble_eq_true rfl⟩ rfl rfl hl.1 rfl (Nat.le_of_ble_eq_true rfl) hcs dL_law_954 hP hP2 hS (fun H locs hP hP2 hS => ?_)
  refine lv_aload_n hx hb dL_law_957 rfl (lv_at hl 2 rfl) ?_
  refine lv_aload_n hx hb dL_law_958 rfl (lv_at hl 0 rfl) ?_
  refine lv_iload_n hx hb dL_law_959 rfl (lv_at hl 3 rfl) ?_
  refine lv_iconst (v := 1) hx hb dL_law_960 (by decide) ?_
  refine lv_iadd hx hb dL_law_961 ?_
  refine va_sld hx hb hX hbl hbA hS (i := nI i + 1) (li_in (k := 1) (by omega) hL) dL_law_962 ?_
  refine lv_aload_n hx hb dL_law_963 rfl (lv_at hl 0 rfl) ?_
  refine lv_iload_n hx hb dL_law_964 rfl (lv_at hl 3 rfl) ?_
  refine lv_iconst (v := 2) hx hb dL_law_965 (by decide) ?_
  refine lv_iadd hx hb dL_law_966 ?_
  refine va_sld hx hb hX hbl hbA hS (i := nI i + 2) (li_in (k := 2) (by omega) hL) dL_law_967 ?_
  refine lv_aload_n hx hb dL_law_968 rfl (lv_at hl 0 rfl) ?_
  refine lv_iload_n hx hb dL_law_969 rfl (lv_at hl 3 rfl) ?_
  refine lv_iconst (v := 3) hx hb dL_law_970 (by decide) ?_
  refine lv_iadd hx hb dL_law_971 ?_
  refine va_sld hx hb hX hbl hbA hS (i := nI i + 3) (li_in (k := 3) (by omega) hL) dL_law_972 ?_
  refine lv_aload_n hx hb dL_law_973 rfl (lv_at hl 0 rfl) ?_
  refine lv_iload_n hx hb dL_law_974 rfl (lv_at hl 3 rfl) ?_
  refine lv_iconst (v := 4) hx hb dL_law_975 (by decide) ?_
  refine lv_iadd hx hb dL_law_976 ?_
  refine va_sld hx hb hX hbl hbA hS (i := nI i + 4) (li_in (k := 4) (by omega) hL) dL_law_977 ?_
  refine lcall_i (rest := [.int r]) hx hb hml hown hT hK2 (fun i j hi hj h => hap j i hj hi h.symm) hge2 (ws2 := (wC a kc (va_up F 13 o1) G I J (va_up Z 1 o2))) rfl (c_X8_lay F2 G2 I2 J2 hi2 (xs (nI i + 1).toNatClampNeg) (xs (nI i + 2).toNatClampNeg) (xs (nI i + 3).toNatClampNeg) (xs (nI i + 4).toNatClampNeg) hq) q_4_238 q_4_239 q_5_0 q_1_10 q_5_1 ok_X8_lay rfl 0 rfl rfl ⟨Nat.le_of_ble_eq_true rfl, Nat.le_of_ble_eq_true rfl⟩ rfl rfl hl.1 rfl (Nat.le_of_ble_eq_true rfl) hcs dL_law_978 hP2 hP hS (fun H locs hP2 hP hS => ?_)
  refine lv_icmp_eq (tgt := 1162) hx hb dL_law_981 (by decide) (fun _ => ?_) (fun h => ?_)
  · refine lv_iinc (v := nI (i + 6)) (lv' := [(3, .int (nI (i + 6))), (0, .ref b), (1, .ref (a 34)), (2, .ref (a2 0))]) hx hb dL_law_1162 hl (k := 3) rfl (nI_add i 6) (by decide) rfl (fun ls hl => ?_)
    refine lv_goto (tgt := 18) hx hb dL_law_1165 (by decide) ?_
    exact kk (va_up F 13 o1) G I J (va_up Z 1 o2) (va_up F2 0 q1) G2 (va_up I2 2 q2) J2 hRel H locs ls hP hP2 hS (lv_sub hl [1, 2, 3, 0] rfl)
  · exact absurd rfl h
set_option maxHeartbeats 4000000 in
set_option maxRecDepth 100000 in
theorem lawc_27 {p : Program} {l : Launch} {e : Env} {s : State} {m : MethodId} {below : List Frame} {meth : Method} {c : Code} {b L : Nat} {xs : Nat → Int32} {D : va_G} {a : Nat → Nat} {kc : Nat → ClassId} {a2 : Nat → Nat} {kc2 : Nat → ClassId} {cells slots : Nat} {Rel : RelT} (X : lwX p s m meth c b L xs D a kc a2 kc2) (hL : L ≤ 384) (hcs : cells ≤ room_1.cells ∧ slots ≤ room_1.slots) (hs : Sp_get Rel) {i : Nat} (hi : i + 6 ≤ L) (kk : ∀ (F : Nat → Int32) (G : Nat → Int64) (I : Nat → Nat → Int32) (J : Nat → Nat → Int64) (Z : Nat → Nat → Nat → Int32) (F2 : Nat → Int32) (G2 : Nat → Int64) (I2 : Nat → Nat → Int32) (J2 : Nat → Nat → Int64), Rel F G I J Z F2 G2 I2 J2 → ∀ (H : Heap) (locs : List Loc) (ls : Array Slot), va_P D vwCl (wC a kc F G I J Z) H → va_P D vwCl (wM a2 kc2 F2 G2 I2 J2) H → va_S (fun q : Nat => s.heap.size ≤ q) s.heap H locs → lv_has ls 4 [(0, .ref b), (1, .ref (a 34)), (2, .ref (a2 0)), (3, .int (nI (i + 6)))] → W p l e room_1 s m #[Value.ref b] below meth c H locs cells slots (lw_Z below #[Value.ref b] s) (F0 m 18 ls [])) :
    ∀ (F : Nat → Int32) (G : Nat → Int64) (I : Nat → Nat → Int32) (J : Nat → Nat → Int64) (Z : Nat → Nat → Nat → Int32) (F2 : Nat → Int32) (G2 : Nat → Int64) (I2 : Nat → Nat → Int32) (J2 : Nat → Nat → Int64), Rel F G I J Z F2 G2 I2 J2 → ∀ (H : Heap) (locs : List Loc) (ls : Array Slot), va_P D vwCl (wC a kc F G I J Z) H → va_P D vwCl (wM a2 kc2 F2 G2 I2 J2) H → va_S (fun q : Nat => s.heap.size ≤ q) s.heap H locs → lv_has ls 4 [(0, .ref b), (1, .ref (a 34)), (2, .ref (a2 0)), (3, .int (nI i))] → W p l e room_1 s m #[Value.ref b] below meth c H locs cells slots (lw_Z below #[Value.ref b] s) (F0 m 986 ls []) := by
  intro F G I J Z F2 G2 I2 J2 hRel H locs ls hP hP2 hS hl
  obtain ⟨⟨hx, hb, hr, hml, hown, hT, hX, hbl, hlk⟩, hK, hK2, hi1, hi2, hap, hge, hge2⟩ := X
  have hbA : ¬ (fun q : Nat => s.heap.size ≤ q) b := Nat.not_le.mpr hbl
  obtain ⟨r, o1, q1, ho, hq, hRel⟩ := hs F G I J Z F2 G2 I2 J2 hRel (xs (nI i + 1).toNatClampNeg) (xs (nI i + 2).toNatClampNeg) (xs (nI i + 3).toNatClampNeg)
  refine lv_aload_n hx hb dL_law_986 rfl (lv_at hl 1 rfl) ?_
  refine lv_aload_n hx hb dL_law_987 rfl (lv_at hl 0 rfl) ?_
  refine lv_iload_n hx hb dL_law_988 rfl (lv_at hl 3 rfl) ?_
  refine lv_iconst (v := 1) hx hb dL_law_989 (by decide) ?_
  refine lv_iadd hx hb dL_law_990 ?_
  refine va_sld hx hb hX hbl hbA hS (i := nI i + 1) (li_in (k := 1) (by omega) hL) dL_law_991 ?_
  refine lv_aload_n hx hb dL_law_992 rfl (lv_at hl 0 rfl) ?_
  refine lv_iload_n hx hb dL_law_993 rfl (lv_at hl 3 rfl) ?_
  refine lv_iconst (v := 2) hx hb dL_law_994 (by decide) ?_
  refine lv_iadd hx hb dL_law_995 ?_
  refine va_sld hx hb hX hbl hbA hS (i := nI i + 2) (li_in (k := 2) (by omega) hL) dL_law_996 ?_
  refine lv_aload_n hx hb dL_law_997 rfl (lv_at hl 0 rfl) ?_
  refine lv_iload_n hx hb dL_law_998 rfl (lv_at hl 3 rfl) ?_
  refine lv_iconst (v := 3) hx hb dL_law_999 (by decide) ?_
  refine lv_iadd hx hb dL_law_1000 ?_
  refine va_sld hx hb hX hbl hbA hS (i := nI i + 3) (li_in (k := 3) (by omega) hL) dL_law_1001 ?_
  refine lcall_i (rest := []) hx hb hml hown hT hK hap hge (ws2 := (wM a2 kc2 F2 G2 I2 J2)) rfl (c_X7_get F G I J Z hi1 (xs (nI i + 1).toNatClampNeg) (xs (nI i + 2).toNatClampNeg) (xs (nI i + 3).toNatClampNeg) ho) q_4_41 q_4_42 q_4_43 q_1_1 q_4_44 ok_X7_get rfl 34 rfl rfl ⟨Nat.le_of_ble_eq_true rfl, Nat.le_of_ble_eq_true rfl⟩ rfl rfl hl.1 rfl (Nat.le_of_ble_eq_true rfl) hcs dL_law_1002 hP hP2 hS (fun H locs hP hP2 hS => ?_)
  refine lv_aload_n hx hb dL_law_1005 rfl (lv_at hl 2 rfl) ?_
  refine lv_aload_n hx hb dL_law_1006 rfl (lv_at hl 0 rfl) ?_
  refine lv_iload_n hx hb dL_law_1007 rfl (lv_at hl 3 rfl) ?_
  refine lv_iconst (v := 1) hx hb dL_law_1008 (by decide) ?_
  refine lv_iadd hx hb dL_law_1009 ?_
  refine va_sld hx hb hX hbl hbA hS (i := nI i + 1) (li_in (k := 1) (by omega) hL) dL_law_1010 ?_
  refine lv_aload_n hx hb dL_law_1011 rfl (lv_at hl 0 rfl) ?_
  refine lv_iload_n hx hb dL_law_1012 rfl (lv_at hl 3 rfl) ?_
  refine lv_iconst (v := 2) hx hb dL_law_1013 (by decide) ?_
  refine lv_iadd hx hb dL_law_1014 ?_
  refine va_sld hx hb hX hbl hbA hS (i := nI i + 2) (li_in (k := 2) (by omega) hL) dL_law_1015 ?_
  refine lv_aload_n hx hb dL_law_1016 rfl (lv_at hl 0 rfl) ?_
  refine lv_iload_n hx hb dL_law_1017 rfl (lv_at hl 3 rfl) ?_
  refine lv_iconst (v := 3) hx hb dL_law_1018 (by decide) ?_
  refine lv_iadd hx hb dL_law_1019 ?_
  refine va_sld hx hb hX hbl hbA hS (i := nI i + 3) (li_in (k := 3) (by omega) hL) dL_law_1020 ?_
  refine lcall_i (rest := [.int r]) hx hb hml hown hT hK2 (fun i j hi hj h => hap j i hj hi h.symm) hge2 (ws2 := (wC a kc (va_up F 13 o1) G I J Z)) rfl (c_X8_get F2 G2 I2 J2 hi2 (xs (nI i + 1).toNatClampNeg) (xs (nI i + 2).toNatClampNeg) (xs (nI i + 3).toNatClampNeg) hq) q_5_9 q_5_10 q_5_11 q_1_10 q_5_12 ok_X8_get rfl 0 rfl rfl ⟨Nat.le_of_ble_eq_true rfl, Nat.le_of_ble_eq_true rfl⟩ rfl rfl hl.1 rfl (Nat.le_of_ble_eq_true rfl) hcs dL_law_1021 hP2 hP hS (fun H locs hP2 hP hS => ?_)
  refine lv_icmp_eq (tgt := 1162) hx hb dL_law_1024 (by decide) (fun _ => ?_) (fun h => ?_)
  · refine lv_iinc (v := nI (i + 6)) (lv' := [(3, .int (nI (i + 6))), (0, .ref b), (1, .ref (a 34)), (2, .ref (a2 0))]) hx hb dL_law_1162 hl (k := 3) rfl (nI_add i 6) (by decide) rfl (fun ls hl => ?_)
    refine lv_goto (tgt := 18) hx hb dL_law_1165 (by decide) ?_
    exact kk (va_up F 13 o1) G I J Z (va_up F2 0 q1) G2 I2 J2 hRel H locs ls hP hP2 hS (lv_sub hl [1, 2, 3, 0] rfl)
  · exact absurd rfl h
set_option maxHeartbeats 4000000 in
set_option maxRecDepth 100000 in
theorem lawc_28 {p : Program} {l : Launch} {e : Env} {s : State} {m : MethodId} {below : List Frame} {meth : Method} {c : Code} {b L : Nat} {xs : Nat → Int32} {D : va_G} {a : Nat → Nat} {kc : Nat → ClassId} {a2 : Nat → Nat} {kc2 : Nat → ClassId} {cells slots : Nat} {Rel : RelT} (X : lwX p s m meth c b L xs D a kc a2 kc2) (hL : L ≤ 384) (hcs : cells ≤ room_1.cells ∧ slots ≤ room_1.slots) (hs : Sp_copy Rel) {i : Nat} (hi : i + 6 ≤ L) (kk : ∀ (F : Nat → Int32) (G : Nat → Int64) (I : Nat → Nat → Int32) (J : Nat → Nat → Int64) (Z : Nat → Nat → Nat → Int32) (F2 : Nat → Int32) (G2 : Nat → Int64) (I2 : Nat → Nat → Int32) (J2 : Nat → Nat → Int64), Rel F G I J Z F2 G2 I2 J2 → ∀ (H : Heap) (locs : List Loc) (ls : Array Slot), va_P D vwCl (wC a kc F G I J Z) H → va_P D vwCl (wM a2 kc2 F2 G2 I2 J2) H → va_S (fun q : Nat => s.heap.size ≤ q) s.heap H locs → lv_has ls 4 [(0, .ref b), (1, .ref (a 34)), (2, .ref (a2 0)), (3, .int (nI (i + 6)))] → W p l e room_1 s m #[Value.ref b] below meth c H locs cells slots (lw_Z below #[Value.ref b] s) (F0 m 18 ls [])) :
    ∀ (F : Nat → Int32) (G : Nat → Int64) (I : Nat → Nat → Int32) (J : Nat → Nat → Int64) (Z : Nat → Nat → Nat → Int32) (F2 : Nat → Int32) (G2 : Nat → Int64) (I2 : Nat → Nat → Int32) (J2 : Nat → Nat → Int64), Rel F G I J Z F2 G2 I2 J2 → ∀ (H : Heap) (locs : List Loc) (ls : Array Slot), va_P D vwCl (wC a kc F G I J Z) H → va_P D vwCl (wM a2 kc2 F2 G2 I2 J2) H → va_S (fun q : Nat => s.heap.size ≤ q) s.heap H locs → lv_has ls 4 [(0, .ref b), (1, .ref (a 34)), (2, .ref (a2 0)), (3, .int (nI i))] → W p l e room_1 s m #[Value.ref b] below meth c H locs cells slots (lw_Z below #[Value.ref b] s) (F0 m 1029 ls []) := by
  intro F G I J Z F2 G2 I2 J2 hRel H locs ls hP hP2 hS hl
  obtain ⟨⟨hx, hb, hr, hml, hown, hT, hX, hbl, hlk⟩, hK, hK2, hi1, hi2, hap, hge, hge2⟩ := X
  have hbA : ¬ (fun q : Nat => s.heap.size ≤ q) b := Nat.not_le.mpr hbl
  obtain ⟨r, o1, o2, q1, q2, q3, ho, hq, hRel⟩ := hs F G I J Z F2 G2 I2 J2 hRel (xs (nI i + 1).toNatClampNeg) (xs (nI i + 2).toNatClampNeg) (xs (nI i + 3).toNatClampNeg) (xs (nI i + 4).toNatClampNeg) (xs (nI i + 5).toNatClampNeg)
  refine lv_aload_n hx hb dL_law_1029 rfl (lv_at hl 1 rfl) ?_
  refine lv_aload_n hx hb dL_law_1030 rfl (lv_at hl 0 rfl) ?_
  refine lv_iload_n hx hb dL_law_1031 rfl (lv_at hl 3 rfl) ?_
  refine lv_iconst (v := 1) hx hb dL_law_1032 (by decide) ?_
  refine lv_iadd hx hb dL_law_1033 ?_
  refine va_sld hx hb hX hbl hbA hS (i := nI i + 1) (li_in (k := 1) (by omega) hL) dL_law_1034 ?_
  refine lv_aload_n hx hb dL_law_1035 rfl (lv_at hl 0 rfl) ?_
  refine lv_iload_n hx hb dL_law_1036 rfl (lv_at hl 3 rfl) ?_
  refine lv_iconst (v := 2) hx hb dL_law_1037 (by decide) ?_
  refine lv_iadd hx hb dL_law_1038 ?_
  refine va_sld hx hb hX hbl hbA hS (i := nI i + 2) (li_in (k := 2) (by omega) hL) dL_law_1039 ?_
  refine lv_aload_n hx hb dL_law_1040 rfl (lv_at hl 0 rfl) ?_
  refine lv_iload_n hx hb dL_law_1041 rfl (lv_at hl 3 rfl) ?_
  refine lv_iconst (v := 3) hx hb dL_law_1042 (by decide) ?_
  refine lv_iadd hx hb dL_law_1043 ?_
  refine va_sld hx hb hX hbl hbA hS (i := nI i + 3) (li_in (k := 3) (by omega) hL) dL_law_1044 ?_
  refine lv_aload_n hx hb dL_law_1045 rfl (lv_at hl 0 rfl) ?_
  refine lv_iload_n hx hb dL_law_1046 rfl (lv_at hl 3 rfl) ?_
  refine lv_iconst (v := 4) hx hb dL_law_1047 (by decide) ?_
  refine lv_iadd hx hb dL_law_1048 ?_
  refine va_sld hx hb hX hbl hbA hS (i := nI i + 4) (li_in (k := 4) (by omega) hL) dL_law_1049 ?_
  refine lv_aload_n hx hb dL_law_1050 rfl (lv_at hl 0 rfl) ?_
  refine lv_iload_n hx hb dL_law_1051 rfl (lv_at hl 3 rfl) ?_
  refine lv_iconst (v := 5) hx hb dL_law_1052 (by decide) ?_
  refine lv_iadd hx hb dL_law_1053 ?_
  refine va_sld hx hb hX hbl hbA hS (i := nI i + 5) (li_in (k := 5) (by omega) hL) dL_law_1054 ?_
  refine lcall_i (rest := []) hx hb hml hown hT hK hap hge (ws2 := (wM a2 kc2 F2 G2 I2 J2)) rfl (c_X7_copy F G I J Z hi1 (xs (nI i + 1).toNatClampNeg) (xs (nI i + 2).toNatClampNeg) (xs (nI i + 3).toNatClampNeg) (xs (nI i + 4).toNatClampNeg) (xs (nI i + 5).toNatClampNeg) ho) q_4_46 q_4_47 q_4_48 q_1_1 q_4_49 ok_X7_copy rfl 34 rfl rfl ⟨Nat.le_of_ble_eq_true rfl, Nat.le_of_ble_eq_true rfl⟩ rfl rfl hl.1 rfl (Nat.le_of_ble_eq_true rfl) hcs dL_law_1055 hP hP2 hS (fun H locs hP hP2 hS => ?_)
  refine lv_aload_n hx hb dL_law_1058 rfl (lv_at hl 2 rfl) ?_
  refine lv_aload_n hx hb dL_law_1059 rfl (lv_at hl 0 rfl) ?_
  refine lv_iload_n hx hb dL_law_1060 rfl (lv_at hl 3 rfl) ?_
  refine lv_iconst (v := 1) hx hb dL_law_1061 (by decide) ?_
  refine lv_iadd hx hb dL_law_1062 ?_
  refine va_sld hx hb hX hbl hbA hS (i := nI i + 1) (li_in (k := 1) (by omega) hL) dL_law_1063 ?_
  refine lv_aload_n hx hb dL_law_1064 rfl (lv_at hl 0 rfl) ?_
  refine lv_iload_n hx hb dL_law_1065 rfl (lv_at hl 3 rfl) ?_
  refine lv_iconst (v := 2) hx hb dL_law_1066 (by decide) ?_
  refine lv_iadd hx hb dL_law_1067 ?_
  refine va_sld hx hb hX hbl hbA hS (i := nI i + 2) (li_in (k := 2) (by omega) hL) dL_law_1068 ?_
  refine lv_aload_n hx hb dL_law_1069 rfl (lv_at hl 0 rfl) ?_
  refine lv_iload_n hx hb dL_law_1070 rfl (lv_at hl 3 rfl) ?_
  refine lv_iconst (v := 3) hx hb dL_law_1071 (by decide) ?_
  refine lv_iadd hx hb dL_law_1072 ?_
  refine va_sld hx hb hX hbl hbA hS (i := nI i + 3) (li_in (k := 3) (by omega) hL) dL_law_1073 ?_
  refine lv_aload_n hx hb dL_law_1074 rfl (lv_at hl 0 rfl) ?_
  refine lv_iload_n hx hb dL_law_1075 rfl (lv_at hl 3 rfl) ?_
  refine lv_iconst (v := 4) hx hb dL_law_1076 (by decide) ?_
  refine lv_iadd hx hb dL_law_1077 ?_
  refine va_sld hx hb hX hbl hbA hS (i := nI i + 4) (li_in (k := 4) (by omega) hL) dL_law_1078 ?_
  refine lv_aload_n hx hb dL_law_1079 rfl (lv_at hl 0 rfl) ?_
  refine lv_iload_n hx hb dL_law_1080 rfl (lv_at hl 3 rfl) ?_
  refine lv_iconst (v := 5) hx hb dL_law_1081 (by decide) ?_
  refine lv_iadd hx hb dL_law_1082 ?_
  refine va_sld hx hb hX hbl hbA hS (i := nI i + 5) (li_in (k := 5) (by omega) hL) dL_law_1083 ?_
  refine lcall_i (rest := [.int r]) hx hb hml hown hT hK2 (fun i j hi hj h => hap j i hj hi h.symm) hge2 (ws2 := (wC a kc (va_up F 13 o1) G I J (va_up Z 1 o2))) rfl (c_X8_copy F2 G2 I2 J2 hi2 (xs (nI i + 1).toNatClampNeg) (xs (nI i + 2).toNatClampNeg) (xs (nI i + 3).toNatClampNeg) (xs (nI i + 4).toNatClampNeg) (xs (nI i + 5).toNatClampNeg) hq) q_5_14 q_5_15 q_5_16 q_1_10 q_5_17 ok_X8_copy rfl 0 rfl rfl ⟨Nat.le_of_ble_eq_true rfl, Nat.le_of_ble_eq_true rfl⟩ rfl rfl hl.1 rfl (Nat.le_of_ble_eq_true rfl) hcs dL_law_1084 hP2 hP hS (fun H locs hP2 hP hS => ?_)
  refine lv_icmp_eq (tgt := 1162) hx hb dL_law_1087 (by decide) (fun _ => ?_) (fun h => ?_)
  · refine lv_iinc (v := nI (i + 6)) (lv' := [(3, .int (nI (i + 6))), (0, .ref b), (1, .ref (a 34)), (2, .ref (a2 0))]) hx hb dL_law_1162 hl (k := 3) rfl (nI_add i 6) (by decide) rfl (fun ls hl => ?_)
    refine lv_goto (tgt := 18) hx hb dL_law_1165 (by decide) ?_
    exact kk (va_up F 13 o1) G I J (va_up Z 1 o2) (va_up F2 0 q1) G2 (va_up (va_up I2 2 q2) 3 q3) J2 hRel H locs ls hP hP2 hS (lv_sub hl [1, 2, 3, 0] rfl)
  · exact absurd rfl h
set_option maxHeartbeats 4000000 in
set_option maxRecDepth 100000 in
theorem lawc_29 {p : Program} {l : Launch} {e : Env} {s : State} {m : MethodId} {below : List Frame} {meth : Method} {c : Code} {b L : Nat} {xs : Nat → Int32} {D : va_G} {a : Nat → Nat} {kc : Nat → ClassId} {a2 : Nat → Nat} {kc2 : Nat → ClassId} {cells slots : Nat} {Rel : RelT} (X : lwX p s m meth c b L xs D a kc a2 kc2) (hL : L ≤ 384) (hcs : cells ≤ room_1.cells ∧ slots ≤ room_1.slots) (hs : Sp_write Rel) {i : Nat} (hi : i + 6 ≤ L) (kk : ∀ (F : Nat → Int32) (G : Nat → Int64) (I : Nat → Nat → Int32) (J : Nat → Nat → Int64) (Z : Nat → Nat → Nat → Int32) (F2 : Nat → Int32) (G2 : Nat → Int64) (I2 : Nat → Nat → Int32) (J2 : Nat → Nat → Int64), Rel F G I J Z F2 G2 I2 J2 → ∀ (H : Heap) (locs : List Loc) (ls : Array Slot), va_P D vwCl (wC a kc F G I J Z) H → va_P D vwCl (wM a2 kc2 F2 G2 I2 J2) H → va_S (fun q : Nat => s.heap.size ≤ q) s.heap H locs → lv_has ls 4 [(0, .ref b), (1, .ref (a 34)), (2, .ref (a2 0)), (3, .int (nI (i + 6)))] → W p l e room_1 s m #[Value.ref b] below meth c H locs cells slots (lw_Z below #[Value.ref b] s) (F0 m 18 ls [])) :
    ∀ (F : Nat → Int32) (G : Nat → Int64) (I : Nat → Nat → Int32) (J : Nat → Nat → Int64) (Z : Nat → Nat → Nat → Int32) (F2 : Nat → Int32) (G2 : Nat → Int64) (I2 : Nat → Nat → Int32) (J2 : Nat → Nat → Int64), Rel F G I J Z F2 G2 I2 J2 → ∀ (H : Heap) (locs : List Loc) (ls : Array Slot), va_P D vwCl (wC a kc F G I J Z) H → va_P D vwCl (wM a2 kc2 F2 G2 I2 J2) H → va_S (fun q : Nat => s.heap.size ≤ q) s.heap H locs → lv_has ls 4 [(0, .ref b), (1, .ref (a 34)), (2, .ref (a2 0)), (3, .int (nI i))] → W p l e room_1 s m #[Value.ref b] below meth c H locs cells slots (lw_Z below #[Value.ref b] s) (F0 m 1092 ls []) := by
  intro F G I J Z F2 G2 I2 J2 hRel H locs ls hP hP2 hS hl
  obtain ⟨⟨hx, hb, hr, hml, hown, hT, hX, hbl, hlk⟩, hK, hK2, hi1, hi2, hap, hge, hge2⟩ := X
  have hbA : ¬ (fun q : Nat => s.heap.size ≤ q) b := Nat.not_le.mpr hbl
  obtain ⟨r, o1, o2, o3, o4, o5, q1, q2, q3, q4, q5, q6, q7, q8, q9, q10, q11, q12, ho, hq, hRel⟩ := hs F G I J Z F2 G2 I2 J2 hRel (xs (nI i + 1).toNatClampNeg) (xs (nI i + 2).toNatClampNeg)
  refine lv_aload_n hx hb dL_law_1092 rfl (lv_at hl 1 rfl) ?_
  refine lv_aload_n hx hb dL_law_1093 rfl (lv_at hl 0 rfl) ?_
  refine lv_iload_n hx hb dL_law_1094 rfl (lv_at hl 3 rfl) ?_
  refine lv_iconst (v := 1) hx hb dL_law_1095 (by decide) ?_
  refine lv_iadd hx hb dL_law_1096 ?_
  refine va_sld hx hb hX hbl hbA hS (i := nI i + 1) (li_in (k := 1) (by omega) hL) dL_law_1097 ?_
  refine lv_aload_n hx hb dL_law_1098 rfl (lv_at hl 0 rfl) ?_
  refine lv_iload_n hx hb dL_law_1099 rfl (lv_at hl 3 rfl) ?_
  refine lv_iconst (v := 2) hx hb dL_law_1100 (by decide) ?_
  refine lv_iadd hx hb dL_law_1101 ?_
  refine va_sld hx hb hX hbl hbA hS (i := nI i + 2) (li_in (k := 2) (by omega) hL) dL_law_1102 ?_
  refine lcall_i (rest := []) hx hb hml hown hT hK hap hge (ws2 := (wM a2 kc2 F2 G2 I2 J2)) rfl (c_X7_write F G I J Z hi1 (xs (nI i + 1).toNatClampNeg) (xs (nI i + 2).toNatClampNeg) ho) q_4_51 q_4_52 q_4_53 q_1_1 q_4_54 ok_X7_write rfl 34 rfl rfl ⟨Nat.le_of_ble_eq_true rfl, Nat.le_of_ble_eq_true rfl⟩ rfl rfl hl.1 rfl (Nat.le_of_ble_eq_true rfl) hcs dL_law_1103 hP hP2 hS (fun H locs hP hP2 hS => ?_)
  refine lv_aload_n hx hb dL_law_1106 rfl (lv_at hl 2 rfl) ?_
  refine lv_aload_n hx hb dL_law_1107 rfl (lv_at hl 0 rfl) ?_
  refine lv_iload_n hx hb dL_law_1108 rfl (lv_at hl 3 rfl) ?_
  refine lv_iconst (v := 1) hx hb dL_law_1109 (by decide) ?_
  refine lv_iadd hx hb dL_law_1110 ?_
  refine va_sld hx hb hX hbl hbA hS (i := nI i + 1) (li_in (k := 1) (by omega) hL) dL_law_1111 ?_
  refine lv_aload_n hx hb dL_law_1112 rfl (lv_at hl 0 rfl) ?_
  refine lv_iload_n hx hb dL_law_1113 rfl (lv_at hl 3 rfl) ?_
  refine lv_iconst (v := 2) hx hb dL_law_1114 (by decide) ?_
  refine lv_iadd hx hb dL_law_1115 ?_
  refine va_sld hx hb hX hbl hbA hS (i := nI i + 2) (li_in (k := 2) (by omega) hL) dL_law_1116 ?_
  refine lcall_i (rest := [.int r]) hx hb hml hown hT hK2 (fun i j hi hj h => hap j i hj hi h.symm) hge2 (ws2 := (wC a kc (va_up (va_up (va_up F 8 o1) 9 o2) 13 o3) G (va_up I 14 o4) J (va_up Z 1 o5))) rfl (c_X8_write F2 G2 I2 J2 hi2 (xs (nI i + 1).toNatClampNeg) (xs (nI i + 2).toNatClampNeg) hq) q_6_107 q_6_108 q_6_109 q_1_10 q_6_110 ok_X8_write rfl 0 rfl rfl ⟨Nat.le_of_ble_eq_true rfl, Nat.le_of_ble_eq_true rfl⟩ rfl rfl hl.1 rfl (Nat.le_of_ble_eq_true rfl) hcs dL_law_1117 hP2 hP hS (fun H locs hP2 hP hS => ?_)
  refine lv_icmp_eq (tgt := 1162) hx hb dL_law_1120 (by decide) (fun _ => ?_) (fun h => ?_)
  · refine lv_iinc (v := nI (i + 6)) (lv' := [(3, .int (nI (i + 6))), (0, .ref b), (1, .ref (a 34)), (2, .ref (a2 0))]) hx hb dL_law_1162 hl (k := 3) rfl (nI_add i 6) (by decide) rfl (fun ls hl => ?_)
    refine lv_goto (tgt := 18) hx hb dL_law_1165 (by decide) ?_
    exact kk (va_up (va_up (va_up F 8 o1) 9 o2) 13 o3) G (va_up I 14 o4) J (va_up Z 1 o5) (va_up (va_up (va_up (va_up (va_up (va_up F2 0 q1) 1 q2) 2 q3) 3 q4) 4 q5) 13 q6) G2 (va_up (va_up (va_up (va_up (va_up (va_up I2 2 q7) 6 q8) 7 q9) 8 q10) 9 q11) 15 q12) J2 hRel H locs ls hP hP2 hS (lv_sub hl [1, 2, 3, 0] rfl)
  · exact absurd rfl h
set_option maxHeartbeats 4000000 in
set_option maxRecDepth 100000 in
theorem lawc_30 {p : Program} {l : Launch} {e : Env} {s : State} {m : MethodId} {below : List Frame} {meth : Method} {c : Code} {b L : Nat} {xs : Nat → Int32} {D : va_G} {a : Nat → Nat} {kc : Nat → ClassId} {a2 : Nat → Nat} {kc2 : Nat → ClassId} {cells slots : Nat} {Rel : RelT} (X : lwX p s m meth c b L xs D a kc a2 kc2) (hL : L ≤ 384) (hcs : cells ≤ room_1.cells ∧ slots ≤ room_1.slots) (hs : Sp_count Rel) {i : Nat} (hi : i + 6 ≤ L) (kk : ∀ (F : Nat → Int32) (G : Nat → Int64) (I : Nat → Nat → Int32) (J : Nat → Nat → Int64) (Z : Nat → Nat → Nat → Int32) (F2 : Nat → Int32) (G2 : Nat → Int64) (I2 : Nat → Nat → Int32) (J2 : Nat → Nat → Int64), Rel F G I J Z F2 G2 I2 J2 → ∀ (H : Heap) (locs : List Loc) (ls : Array Slot), va_P D vwCl (wC a kc F G I J Z) H → va_P D vwCl (wM a2 kc2 F2 G2 I2 J2) H → va_S (fun q : Nat => s.heap.size ≤ q) s.heap H locs → lv_has ls 4 [(0, .ref b), (1, .ref (a 34)), (2, .ref (a2 0)), (3, .int (nI (i + 6)))] → W p l e room_1 s m #[Value.ref b] below meth c H locs cells slots (lw_Z below #[Value.ref b] s) (F0 m 18 ls [])) :
    ∀ (F : Nat → Int32) (G : Nat → Int64) (I : Nat → Nat → Int32) (J : Nat → Nat → Int64) (Z : Nat → Nat → Nat → Int32) (F2 : Nat → Int32) (G2 : Nat → Int64) (I2 : Nat → Nat → Int32) (J2 : Nat → Nat → Int64), Rel F G I J Z F2 G2 I2 J2 → ∀ (H : Heap) (locs : List Loc) (ls : Array Slot), va_P D vwCl (wC a kc F G I J Z) H → va_P D vwCl (wM a2 kc2 F2 G2 I2 J2) H → va_S (fun q : Nat => s.heap.size ≤ q) s.heap H locs → lv_has ls 4 [(0, .ref b), (1, .ref (a 34)), (2, .ref (a2 0)), (3, .int (nI i))] → W p l e room_1 s m #[Value.ref b] below meth c H locs cells slots (lw_Z below #[Value.ref b] s) (F0 m 1125 ls []) := by
  intro F G I J Z F2 G2 I2 J2 hRel H locs ls hP hP2 hS hl
  obtain ⟨⟨hx, hb, hr, hml, hown, hT, hX, hbl, hlk⟩, hK, hK2, hi1, hi2, hap, hge, hge2⟩ := X
  have hbA : ¬ (fun q : Nat => s.heap.size ≤ q) b := Nat.not_le.mpr hbl
  obtain ⟨r, q1, q2, q3, q4, q5, q6, q7, q8, ho, hq, hRel⟩ := hs F G I J Z F2 G2 I2 J2 hRel (xs (nI i + 1).toNatClampNeg)
  refine lv_aload_n hx hb dL_law_1125 rfl (lv_at hl 1 rfl) ?_
  refine lv_aload_n hx hb dL_law_1126 rfl (lv_at hl 0 rfl) ?_
  refine lv_iload_n hx hb dL_law_1127 rfl (lv_at hl 3 rfl) ?_
  refine lv_iconst (v := 1) hx hb dL_law_1128 (by decide) ?_
  refine lv_iadd hx hb dL_law_1129 ?_
  refine va_sld hx hb hX hbl hbA hS (i := nI i + 1) (li_in (k := 1) (by omega) hL) dL_law_1130 ?_
  refine lcall_i (rest := []) hx hb hml hown hT hK hap hge (ws2 := (wM a2 kc2 F2 G2 I2 J2)) rfl (c_X7_count F G I J Z hi1 (xs (nI i + 1).toNatClampNeg) ho) q_4_58 q_4_59 q_4_60 q_1_1 q_4_61 ok_X7_count rfl 34 rfl rfl ⟨Nat.le_of_ble_eq_true rfl, Nat.le_of_ble_eq_true rfl⟩ rfl rfl hl.1 rfl (Nat.le_of_ble_eq_true rfl) hcs dL_law_1131 hP hP2 hS (fun H locs hP hP2 hS => ?_)
  refine lv_aload_n hx hb dL_law_1134 rfl (lv_at hl 2 rfl) ?_
  refine lv_aload_n hx hb dL_law_1135 rfl (lv_at hl 0 rfl) ?_
  refine lv_iload_n hx hb dL_law_1136 rfl (lv_at hl 3 rfl) ?_
  refine lv_iconst (v := 1) hx hb dL_law_1137 (by decide) ?_
  refine lv_iadd hx hb dL_law_1138 ?_
  refine va_sld hx hb hX hbl hbA hS (i := nI i + 1) (li_in (k := 1) (by omega) hL) dL_law_1139 ?_
  refine lcall_i (rest := [.int r]) hx hb hml hown hT hK2 (fun i j hi hj h => hap j i hj hi h.symm) hge2 (ws2 := (wC a kc F G I J Z)) rfl (c_X8_count F2 G2 I2 J2 hi2 (xs (nI i + 1).toNatClampNeg) hq) q_6_111 q_6_112 q_6_113 q_1_10 q_6_114 ok_X8_count rfl 0 rfl rfl ⟨Nat.le_of_ble_eq_true rfl, Nat.le_of_ble_eq_true rfl⟩ rfl rfl hl.1 rfl (Nat.le_of_ble_eq_true rfl) hcs dL_law_1140 hP2 hP hS (fun H locs hP2 hP hS => ?_)
  refine lv_icmp_eq (tgt := 1162) hx hb dL_law_1143 (by decide) (fun _ => ?_) (fun h => ?_)
  · refine lv_iinc (v := nI (i + 6)) (lv' := [(3, .int (nI (i + 6))), (0, .ref b), (1, .ref (a 34)), (2, .ref (a2 0))]) hx hb dL_law_1162 hl (k := 3) rfl (nI_add i 6) (by decide) rfl (fun ls hl => ?_)
    refine lv_goto (tgt := 18) hx hb dL_law_1165 (by decide) ?_
    exact kk F G I J Z (va_up (va_up (va_up (va_up F2 1 q1) 2 q2) 3 q3) 4 q4) G2 (va_up (va_up (va_up (va_up I2 6 q5) 7 q6) 8 q7) 9 q8) J2 hRel H locs ls hP hP2 hS (lv_sub hl [1, 2, 3, 0] rfl)
  · exact absurd rfl h
set_option maxHeartbeats 4000000 in
set_option maxRecDepth 100000 in
theorem lawc_31 {p : Program} {l : Launch} {e : Env} {s : State} {m : MethodId} {below : List Frame} {meth : Method} {c : Code} {b L : Nat} {xs : Nat → Int32} {D : va_G} {a : Nat → Nat} {kc : Nat → ClassId} {a2 : Nat → Nat} {kc2 : Nat → ClassId} {cells slots : Nat} {Rel : RelT} (X : lwX p s m meth c b L xs D a kc a2 kc2) (hL : L ≤ 384) (hcs : cells ≤ room_1.cells ∧ slots ≤ room_1.slots) (hs : Sp_digest Rel) {i : Nat} (hi : i + 6 ≤ L) (kk : ∀ (F : Nat → Int32) (G : Nat → Int64) (I : Nat → Nat → Int32) (J : Nat → Nat → Int64) (Z : Nat → Nat → Nat → Int32) (F2 : Nat → Int32) (G2 : Nat → Int64) (I2 : Nat → Nat → Int32) (J2 : Nat → Nat → Int64), Rel F G I J Z F2 G2 I2 J2 → ∀ (H : Heap) (locs : List Loc) (ls : Array Slot), va_P D vwCl (wC a kc F G I J Z) H → va_P D vwCl (wM a2 kc2 F2 G2 I2 J2) H → va_S (fun q : Nat => s.heap.size ≤ q) s.heap H locs → lv_has ls 4 [(0, .ref b), (1, .ref (a 34)), (2, .ref (a2 0)), (3, .int (nI (i + 6)))] → W p l e room_1 s m #[Value.ref b] below meth c H locs cells slots (lw_Z below #[Value.ref b] s) (F0 m 18 ls [])) :
    ∀ (F : Nat → Int32) (G : Nat → Int64) (I : Nat → Nat → Int32) (J : Nat → Nat → Int64) (Z : Nat → Nat → Nat → Int32) (F2 : Nat → Int32) (G2 : Nat → Int64) (I2 : Nat → Nat → Int32) (J2 : Nat → Nat → Int64), Rel F G I J Z F2 G2 I2 J2 → ∀ (H : Heap) (locs : List Loc) (ls : Array Slot), va_P D vwCl (wC a kc F G I J Z) H → va_P D vwCl (wM a2 kc2 F2 G2 I2 J2) H → va_S (fun q : Nat => s.heap.size ≤ q) s.heap H locs → lv_has ls 4 [(0, .ref b), (1, .ref (a 34)), (2, .ref (a2 0)), (3, .int (nI i))] → W p l e room_1 s m #[Value.ref b] below meth c H locs cells slots (lw_Z below #[Value.ref b] s) (F0 m 1148 ls []) := by
  intro F G I J Z F2 G2 I2 J2 hRel H locs ls hP hP2 hS hl
  obtain ⟨⟨hx, hb, hr, hml, hown, hT, hX, hbl, hlk⟩, hK, hK2, hi1, hi2, hap, hge, hge2⟩ := X
  have hbA : ¬ (fun q : Nat => s.heap.size ≤ q) b := Nat.not_le.mpr hbl
  obtain ⟨r, o1, o2, o3, o4, o5, o6, o7, o8, o9, o10, o11, o12, o13, o14, o15, o16, o17, o18, o19, o20, o21, o22, o23, o24, o25, q1, q2, q3, q4, q5, q6, q7, q8, q9, q10, q11, q12, q13, q14, q15, q16, q17, q18, q19, q20, q21, ho, hq, hRel⟩ := hs F G I J Z F2 G2 I2 J2 hRel
  refine lv_aload_n hx hb dL_law_1148 rfl (lv_at hl 1 rfl) ?_
  refine lcall_l (rest := []) hx hb hml hown hT hK hap hge (ws2 := (wM a2 kc2 F2 G2 I2 J2)) rfl (c_X7_digest F G I J Z hi1  ho) q_4_71 q_4_72 q_4_73 q_1_1 q_4_74 ok_X7_digest rfl 34 rfl rfl ⟨Nat.le_of_ble_eq_true rfl, Nat.le_of_ble_eq_true rfl⟩ rfl rfl hl.1 rfl (Nat.le_of_ble_eq_true rfl) hcs dL_law_1149 hP hP2 hS (fun H locs hP hP2 hS => ?_)
  refine lv_aload_n hx hb dL_law_1152 rfl (lv_at hl 2 rfl) ?_
  refine lcall_l (rest := [.long r]) hx hb hml hown hT hK2 (fun i j hi hj h => hap j i hj hi h.symm) hge2 (ws2 := (wC a kc (va_up (va_up (va_up (va_up (va_up (va_up F 3 o1) 4 o2) 6 o3) 7 o4) 8 o5) 9 o6) (va_up (va_up (va_up (va_up G 0 o7) 1 o8) 2 o9) 3 o10) (va_up (va_up (va_up (va_up (va_up (va_up I 7 o11) 8 o12) 11 o13) 12 o14) 13 o15) 14 o16) (va_up (va_up (va_up (va_up (va_up (va_up (va_up (va_up (va_up J 0 o17) 1 o18) 2 o19) 3 o20) 4 o21) 5 o22) 6 o23) 7 o24) 8 o25) Z)) rfl (c_X8_digest F2 G2 I2 J2 hi2  hq) q_6_115 q_6_116 q_6_117 q_1_10 q_6_118 ok_X8_digest rfl 0 rfl rfl ⟨Nat.le_of_ble_eq_true rfl, Nat.le_of_ble_eq_true rfl⟩ rfl rfl hl.1 rfl (Nat.le_of_ble_eq_true rfl) hcs dL_law_1153 hP2 hP hS (fun H locs hP2 hP hS => ?_)
  refine W.lcmp hx hb dL_law_1156 ?_
  refine lv_if_eq (tgt := 1162) hx hb dL_law_1157 (by decide) (fun _ => ?_) (fun h => ?_)
  · refine lv_iinc (v := nI (i + 6)) (lv' := [(3, .int (nI (i + 6))), (0, .ref b), (1, .ref (a 34)), (2, .ref (a2 0))]) hx hb dL_law_1162 hl (k := 3) rfl (nI_add i 6) (by decide) rfl (fun ls hl => ?_)
    refine lv_goto (tgt := 18) hx hb dL_law_1165 (by decide) ?_
    exact kk (va_up (va_up (va_up (va_up (va_up (va_up F 3 o1) 4 o2) 6 o3) 7 o4) 8 o5) 9 o6) (va_up (va_up (va_up (va_up G 0 o7) 1 o8) 2 o9) 3 o10) (va_up (va_up (va_up (va_up (va_up (va_up I 7 o11) 8 o12) 11 o13) 12 o14) 13 o15) 14 o16) (va_up (va_up (va_up (va_up (va_up (va_up (va_up (va_up (va_up J 0 o17) 1 o18) 2 o19) 3 o20) 4 o21) 5 o22) 6 o23) 7 o24) 8 o25) Z (va_up (va_up (va_up (va_up (va_up (va_up (va_up (va_up (va_up F2 1 q1) 2 q2) 3 q3) 4 q4) 5 q5) 6 q6) 7 q7) 8 q8) 13 q9) (va_up (va_up G2 0 q10) 1 q11) (va_up (va_up (va_up (va_up (va_up (va_up (va_up (va_up I2 6 q12) 7 q13) 8 q14) 9 q15) 10 q16) 11 q17) 12 q18) 15 q19) (va_up (va_up J2 0 q20) 1 q21) hRel H locs ls hP hP2 hS (lv_sub hl [1, 2, 3, 0] rfl)
  · exact absurd (by simp [lg_cmp]) h
theorem law_j {x : Int32} : ∃ j : Nat, j < 32 ∧ x &&& 31 = nI j := pk_andE x 5 (by decide)
theorem law_go {i L : Nat} (hL : L ≤ 384) (hi : i ≤ L) (h : ¬ (Int32.ofNat L - 6) < nI i) : i + 6 ≤ L := by
  have e : (Int32.ofNat L - 6).toInt = (L : Int) - 6 := pk_sub_toInt (a := L) (b := 6) (by omega) (by omega)
  have e2 : (nI i).toInt = i := nI_toInt (by omega)
  rw [Int32.lt_iff_toInt_lt, e, e2] at h
  omega
set_option maxHeartbeats 4000000 in
set_option maxRecDepth 100000 in
theorem law_loop {p : Program} {l : Launch} {e : Env} {s : State} {m : MethodId} {below : List Frame} {meth : Method} {c : Code} {b L : Nat} {xs : Nat → Int32} {D : va_G} {a : Nat → Nat} {kc : Nat → ClassId} {a2 : Nat → Nat} {kc2 : Nat → ClassId} {cells slots : Nat} {Rel : RelT} (X : lwX p s m meth c b L xs D a kc a2 kc2) (hL : L ≤ 384) (hcs : cells ≤ room_1.cells ∧ slots ≤ room_1.slots) (hs0 : Sp_type Rel) (hs1 : Sp_wipe Rel) (hs2 : Sp_fault Rel) (hs3 : Sp_seat Rel) (hs4 : Sp_person Rel) (hs5 : Sp_likely Rel) (hs6 : Sp_taken Rel) (hs7 : Sp_wrong Rel) (hs8 : Sp_left Rel) (hs9 : Sp_looks Rel) (hs10 : Sp_judged Rel) (hs11 : Sp_sitting Rel) (hs12 : Sp_order Rel) (hs13 : Sp_best Rel) (hs14 : Sp_back Rel) (hs15 : Sp_seen Rel) (hs16 : Sp_read Rel) (hs17 : Sp_forget Rel) (hs18 : Sp_losers Rel) (hs19 : Sp_share Rel) (hs20 : Sp_likeliest Rel) (hs21 : Sp_ask Rel) (hs22 : Sp_turned Rel) (hs23 : Sp_evening Rel) (hs24 : Sp_sheet Rel) (hs25 : Sp_lose Rel) (hs26 : Sp_lay Rel) (hs27 : Sp_get Rel) (hs28 : Sp_copy Rel) (hs29 : Sp_write Rel) (hs30 : Sp_count Rel) (hs31 : Sp_digest Rel) :
    ∀ (n i : Nat), i ≤ L → L + 1 ≤ i + n → ∀ (F : Nat → Int32) (G : Nat → Int64) (I : Nat → Nat → Int32) (J : Nat → Nat → Int64) (Z : Nat → Nat → Nat → Int32) (F2 : Nat → Int32) (G2 : Nat → Int64) (I2 : Nat → Nat → Int32) (J2 : Nat → Nat → Int64), Rel F G I J Z F2 G2 I2 J2 → ∀ (H : Heap) (locs : List Loc) (ls : Array Slot), va_P D vwCl (wC a kc F G I J Z) H → va_P D vwCl (wM a2 kc2 F2 G2 I2 J2) H → va_S (fun q : Nat => s.heap.size ≤ q) s.heap H locs → lv_has ls 4 [(0, .ref b), (1, .ref (a 34)), (2, .ref (a2 0)), (3, .int (nI i))] → W p l e room_1 s m #[Value.ref b] below meth c H locs cells slots (lw_Z below #[Value.ref b] s) (F0 m 18 ls []) := by
  intro n
  induction n with
  | zero => intro i h1 h2; exact absurd h2 (by omega)
  | succ n ih =>
    intro i hi hin F G I J Z F2 G2 I2 J2 hRel H locs ls hP hP2 hS hl
    obtain ⟨⟨hx, hb, hr, hml, hown, hT, hX, hbl, hlk⟩, hK, hK2, hi1, hi2, hap, hge, hge2⟩ := id X
    have hbA : ¬ (fun q : Nat => s.heap.size ≤ q) b := Nat.not_le.mpr hbl
    refine lv_iload_n hx hb dL_law_18 rfl (lv_at hl 3 rfl) ?_
    refine lv_aload_n hx hb dL_law_19 rfl (lv_at hl 0 rfl) ?_
    refine va_slen hx hb hX hbl hbA hS dL_law_20 ?_
    refine lv_bipush (v := 6) hx hb dL_law_21 (by decide) ?_
    refine lv_isub hx hb dL_law_23 ?_
    refine lv_icmp_gt (tgt := 1168) hx hb dL_law_24 (by decide) (fun _ => ?_) (fun h => ?_)
    · refine lv_iconst (v := 1) hx hb dL_law_1168 (by decide) ?_
      refine va_forget (fun q hq => hS.2.2 q hq) ?_
      refine W.widen (k := 600000) (n := 7302249) hcs.1 hcs.2 ?_
      exact lw_ret hx hb hr hlk dL_law_1169
    · have h6 : i + 6 ≤ L := law_go hL hi h
      have kk := ih (i + 6) h6 (by omega)
      refine lv_aload_n hx hb dL_law_27 rfl (lv_at hl 0 rfl) ?_
      refine lv_iload_n hx hb dL_law_28 rfl (lv_at hl 3 rfl) ?_
      refine va_sld hx hb hX hbl hbA hS (vp_in_nI (show i < L by omega) (by omega)) dL_law_29 ?_
      refine lv_bipush (v := 31) hx hb dL_law_30 (by decide) ?_
      refine lv_iand hx hb dL_law_32 ?_
      obtain ⟨j, hj, ej⟩ := law_j (x := xs (nI i).toNatClampNeg)
      rw [ej]
      match j, hj with
      | 0, _ => exact lv_tableIn (off := 143) (tgt := 176) hx hb dL_law_33 (by decide +kernel) (by decide +kernel) (by decide +kernel) (by decide) (lawc_0 X hL hcs hs0 h6 kk F G I J Z F2 G2 I2 J2 hRel H locs ls hP hP2 hS hl)
      | 1, _ => exact lv_tableIn (off := 176) (tgt := 209) hx hb dL_law_33 (by decide +kernel) (by decide +kernel) (by decide +kernel) (by decide) (lawc_1 X hL hcs hs1 h6 kk F G I J Z F2 G2 I2 J2 hRel H locs ls hP hP2 hS hl)
      | 2, _ => exact lv_tableIn (off := 199) (tgt := 232) hx hb dL_law_33 (by decide +kernel) (by decide +kernel) (by decide +kernel) (by decide) (lawc_2 X hL hcs hs2 h6 kk F G I J Z F2 G2 I2 J2 hRel H locs ls hP hP2 hS hl)
      | 3, _ => exact lv_tableIn (off := 222) (tgt := 255) hx hb dL_law_33 (by decide +kernel) (by decide +kernel) (by decide +kernel) (by decide) (lawc_3 X hL hcs hs3 h6 kk F G I J Z F2 G2 I2 J2 hRel H locs ls hP hP2 hS hl)
      | 4, _ => exact lv_tableIn (off := 255) (tgt := 288) hx hb dL_law_33 (by decide +kernel) (by decide +kernel) (by decide +kernel) (by decide) (lawc_4 X hL hcs hs4 h6 kk F G I J Z F2 G2 I2 J2 hRel H locs ls hP hP2 hS hl)
      | 5, _ => exact lv_tableIn (off := 288) (tgt := 321) hx hb dL_law_33 (by decide +kernel) (by decide +kernel) (by decide +kernel) (by decide) (lawc_5 X hL hcs hs5 h6 kk F G I J Z F2 G2 I2 J2 hRel H locs ls hP hP2 hS hl)
      | 6, _ => exact lv_tableIn (off := 332) (tgt := 365) hx hb dL_law_33 (by decide +kernel) (by decide +kernel) (by decide +kernel) (by decide) (lawc_6 X hL hcs hs6 h6 kk F G I J Z F2 G2 I2 J2 hRel H locs ls hP hP2 hS hl)
      | 7, _ => exact lv_tableIn (off := 376) (tgt := 409) hx hb dL_law_33 (by decide +kernel) (by decide +kernel) (by decide +kernel) (by decide) (lawc_7 X hL hcs hs7 h6 kk F G I J Z F2 G2 I2 J2 hRel H locs ls hP hP2 hS hl)
      | 8, _ => exact lv_tableIn (off := 410) (tgt := 443) hx hb dL_law_33 (by decide +kernel) (by decide +kernel) (by decide +kernel) (by decide) (lawc_8 X hL hcs hs8 h6 kk F G I J Z F2 G2 I2 J2 hRel H locs ls hP hP2 hS hl)
      | 9, _ => exact lv_tableIn (off := 444) (tgt := 477) hx hb dL_law_33 (by decide +kernel) (by decide +kernel) (by decide +kernel) (by decide) (lawc_9 X hL hcs hs9 h6 kk F G I J Z F2 G2 I2 J2 hRel H locs ls hP hP2 hS hl)
      | 10, _ => exact lv_tableIn (off := 468) (tgt := 501) hx hb dL_law_33 (by decide +kernel) (by decide +kernel) (by decide +kernel) (by decide) (lawc_10 X hL hcs hs10 h6 kk F G I J Z F2 G2 I2 J2 hRel H locs ls hP hP2 hS hl)
      | 11, _ => exact lv_tableIn (off := 491) (tgt := 524) hx hb dL_law_33 (by decide +kernel) (by decide +kernel) (by decide +kernel) (by decide) (lawc_11 X hL hcs hs11 h6 kk F G I J Z F2 G2 I2 J2 hRel H locs ls hP hP2 hS hl)
      | 12, _ => exact lv_tableIn (off := 525) (tgt := 558) hx hb dL_law_33 (by decide +kernel) (by decide +kernel) (by decide +kernel) (by decide) (lawc_12 X hL hcs hs12 h6 kk F G I J Z F2 G2 I2 J2 hRel H locs ls hP hP2 hS hl)
      | 13, _ => exact lv_tableIn (off := 548) (tgt := 581) hx hb dL_law_33 (by decide +kernel) (by decide +kernel) (by decide +kernel) (by decide) (lawc_13 X hL hcs hs13 h6 kk F G I J Z F2 G2 I2 J2 hRel H locs ls hP hP2 hS hl)
      | 14, _ => exact lv_tableIn (off := 572) (tgt := 605) hx hb dL_law_33 (by decide +kernel) (by decide +kernel) (by decide +kernel) (by decide) (lawc_14 X hL hcs hs14 h6 kk F G I J Z F2 G2 I2 J2 hRel H locs ls hP hP2 hS hl)
      | 15, _ => exact lv_tableIn (off := 605) (tgt := 638) hx hb dL_law_33 (by decide +kernel) (by decide +kernel) (by decide +kernel) (by decide) (lawc_15 X hL hcs hs15 h6 kk F G I J Z F2 G2 I2 J2 hRel H locs ls hP hP2 hS hl)
      | 16, _ => exact lv_tableIn (off := 638) (tgt := 671) hx hb dL_law_33 (by decide +kernel) (by decide +kernel) (by decide +kernel) (by decide) (lawc_16 X hL hcs hs16 h6 kk F G I J Z F2 G2 I2 J2 hRel H locs ls hP hP2 hS hl)
      | 17, _ => exact lv_tableIn (off := 661) (tgt := 694) hx hb dL_law_33 (by decide +kernel) (by decide +kernel) (by decide +kernel) (by decide) (lawc_17 X hL hcs hs17 h6 kk F G I J Z F2 G2 I2 J2 hRel H locs ls hP hP2 hS hl)
      | 18, _ => exact lv_tableIn (off := 674) (tgt := 707) hx hb dL_law_33 (by decide +kernel) (by decide +kernel) (by decide +kernel) (by decide) (lawc_18 X hL hcs hs18 h6 kk F G I J Z F2 G2 I2 J2 hRel H locs ls hP hP2 hS hl)
      | 19, _ => exact lv_tableIn (off := 687) (tgt := 720) hx hb dL_law_33 (by decide +kernel) (by decide +kernel) (by decide +kernel) (by decide) (lawc_19 X hL hcs hs19 h6 kk F G I J Z F2 G2 I2 J2 hRel H locs ls hP hP2 hS hl)
      | 20, _ => exact lv_tableIn (off := 721) (tgt := 754) hx hb dL_law_33 (by decide +kernel) (by decide +kernel) (by decide +kernel) (by decide) (lawc_20 X hL hcs hs20 h6 kk F G I J Z F2 G2 I2 J2 hRel H locs ls hP hP2 hS hl)
      | 21, _ => exact lv_tableIn (off := 734) (tgt := 767) hx hb dL_law_33 (by decide +kernel) (by decide +kernel) (by decide +kernel) (by decide) (lawc_21 X hL hcs hs21 h6 kk F G I J Z F2 G2 I2 J2 hRel H locs ls hP hP2 hS hl)
      | 22, _ => exact lv_tableIn (off := 757) (tgt := 790) hx hb dL_law_33 (by decide +kernel) (by decide +kernel) (by decide +kernel) (by decide) (lawc_22 X hL hcs hs22 h6 kk F G I J Z F2 G2 I2 J2 hRel H locs ls hP hP2 hS hl)
      | 23, _ => exact lv_tableIn (off := 801) (tgt := 834) hx hb dL_law_33 (by decide +kernel) (by decide +kernel) (by decide +kernel) (by decide) (lawc_23 X hL hcs hs23 h6 kk F G I J Z F2 G2 I2 J2 hRel H locs ls hP hP2 hS hl)
      | 24, _ => exact lv_tableIn (off := 834) (tgt := 867) hx hb dL_law_33 (by decide +kernel) (by decide +kernel) (by decide +kernel) (by decide) (lawc_24 X hL hcs hs24 h6 kk F G I J Z F2 G2 I2 J2 hRel H locs ls hP hP2 hS hl)
      | 25, _ => exact lv_tableIn (off := 877) (tgt := 910) hx hb dL_law_33 (by decide +kernel) (by decide +kernel) (by decide +kernel) (by decide) (lawc_25 X hL hcs hs25 h6 kk F G I J Z F2 G2 I2 J2 hRel H locs ls hP hP2 hS hl)
      | 26, _ => exact lv_tableIn (off := 900) (tgt := 933) hx hb dL_law_33 (by decide +kernel) (by decide +kernel) (by decide +kernel) (by decide) (lawc_26 X hL hcs hs26 h6 kk F G I J Z F2 G2 I2 J2 hRel H locs ls hP hP2 hS hl)
      | 27, _ => exact lv_tableIn (off := 953) (tgt := 986) hx hb dL_law_33 (by decide +kernel) (by decide +kernel) (by decide +kernel) (by decide) (lawc_27 X hL hcs hs27 h6 kk F G I J Z F2 G2 I2 J2 hRel H locs ls hP hP2 hS hl)
      | 28, _ => exact lv_tableIn (off := 996) (tgt := 1029) hx hb dL_law_33 (by decide +kernel) (by decide +kernel) (by decide +kernel) (by decide) (lawc_28 X hL hcs hs28 h6 kk F G I J Z F2 G2 I2 J2 hRel H locs ls hP hP2 hS hl)
      | 29, _ => exact lv_tableIn (off := 1059) (tgt := 1092) hx hb dL_law_33 (by decide +kernel) (by decide +kernel) (by decide +kernel) (by decide) (lawc_29 X hL hcs hs29 h6 kk F G I J Z F2 G2 I2 J2 hRel H locs ls hP hP2 hS hl)
      | 30, _ => exact lv_tableIn (off := 1092) (tgt := 1125) hx hb dL_law_33 (by decide +kernel) (by decide +kernel) (by decide +kernel) (by decide) (lawc_30 X hL hcs hs30 h6 kk F G I J Z F2 G2 I2 J2 hRel H locs ls hP hP2 hS hl)
      | 31, _ => exact lv_tableIn (off := 1115) (tgt := 1148) hx hb dL_law_33 (by decide +kernel) (by decide +kernel) (by decide +kernel) (by decide) (lawc_31 X hL hcs hs31 h6 kk F G I J Z F2 G2 I2 J2 hRel H locs ls hP hP2 hS hl)
      | j + 32, hj => exact absurd hj (by omega)
