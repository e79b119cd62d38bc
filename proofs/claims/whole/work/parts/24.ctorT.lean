theorem wso_in {y : MethodName} {cc : ByteArray} {n : Nat} {ret : Option FieldType} (h : Cond.code y cc n ret ∈ gw) : GoodIn gw (wso y cc n ret) := gw_good fun w hw => by
  rcases List.mem_cons.mp hw with rfl | hw
  · exact h
  · exact hw
def PkT (D : va_G) (h0 : Nat) (e0 : va_E) (sz : Nat) (av : List Value) : Array Value → State → Prop := va_Pc av (fun U => U.heap.size = sz ∧ va_P D vwCl [(h0, e0)] U.heap ∧ va_K D vwCl [] U ∧ va_AOA .int U ∧ va_AO "LostTicket$Sheet" U ∧ va_Nw (Cond.methodLinkNest "LostTicket" 59 yX5_init "LostTicket") U)
theorem PkT_blind {D : va_G} {h0 : Nat} {e0 : va_E} {sz : Nat} {av : List Value} : FrameBlind (PkT D h0 e0 sz av) := fun a U g mk q => by
  obtain ⟨q0, q1, qP, qK, qA, qB, qC⟩ := q
  exact ⟨q0, q1, qP, va_K.moved (u := U) (U := U.calling g mk a) (Vm.Alike.refl U.vm) qK, va_AOA.moved (u := U) (U := U.calling g mk a) (Vm.Alike.refl U.vm) qA, va_AO.moved (u := U) (U := U.calling g mk a) (Vm.Alike.refl U.vm) qB, va_Nw.same (u := U) (U := U.calling g mk a) rfl rfl qC⟩
def QkT (D : va_G) (h0 : Nat) (cs : (Nat → Nat) → (Nat → ClassId) → va_W) (ts : (Nat → ClassId) → List (ClassId × FieldType)) (A : Nat → Prop) : Array Value → State → Outcome → State → Prop := va_Qv (fun (u : (Nat → Nat) × (Nat → ClassId)) => u.1 34 = h0) (fun u t => va_P D vwCl (cs u.1 u.2) t.heap ∧ va_K D vwCl (ts u.2) t ∧ va_D A (cs u.1 u.2)) A

def wH2 (a : Nat → Nat) (kc : Nat → ClassId) (b : Nat → Nat) (F : Nat → Int32) (I : Nat → Nat → Int32) (Z : Nat → Nat → Nat → Int32) : va_W := [
  (a 0, .inr (3, [.ref (a 1), .ref (a 4), .ref (a 5), .ref (a 6), .ref (a 7), .ref (a 8), .ref (a 9), .ref (a 10), .int (F 0), .int (F 1), .int (F 2)])),
  (a 1, .inl (kc 1, 2, .inr (.inr (.inr (.inr (fun i => if i < 2 then some (b (2 + i)) else none)))))),
  (a 2, .inl (kc 2, 20, .inl (Z 0 0))),
  (a 3, .inl (kc 3, 20, .inl (Z 0 1))),
  (a 4, .inl (kc 4, 2, .inl (I 0))),
  (a 5, .inl (kc 5, 2, .inl (I 1))),
  (a 6, .inl (kc 6, 8, .inl (I 2))),
  (a 7, .inl (kc 7, 8, .inl (I 3))),
  (a 8, .inl (kc 8, 3, .inl (I 4))),
  (a 9, .inl (kc 9, 8, .inl (I 5))),
  (a 10, .inl (kc 10, 8, .inl (I 6)))]
abbrev rm_X7_init : Room := { frames := 6, cells := 43, slots := 3726, locals := 140 }
set_option maxHeartbeats 16000000 in
set_option maxRecDepth 100000 in
theorem c_X7_init {l : Launch} {D : va_G} (h0 : Nat) {o0 : Int32} {o1 : Int32} {o2 : Int32} {o3 : Nat → Int32} {o4 : Nat → Int32} {o5 : Nat → Int32} {o6 : Nat → Int32} {o7 : Nat → Int32} {o8 : Nat → Int32} (hf : p_X3_parse (0 : Int32) (0 : Int32) (0 : Int32) (fun _ => (0 : Int32)) (fun _ => (0 : Int32)) (fun _ => (0 : Int32)) (fun _ => (0 : Int32)) (fun _ => (0 : Int32)) (fun _ => (0 : Int32)) (fun _ => (0 : Int32)) (fun _ _ => (0 : Int32)) = some (o0, o1, o2, o3, o4, o5, o6, o7, o8)) (sz : Nat) : Met l yX7_init (wso yX7_init cX7_init 2 none) rm_X7_init (PkT D h0 (.inr (7, [.null, .null, .null, .null, .null, .null, .null, .int 0])) sz [.ref h0]) (QkT D h0 (fun u k => wC u k (va_up (va_up (va_up (fun _ => (0 : Int32)) 0 o0) 1 o1) 2 o2) (fun _ => (0 : Int64)) (va_up (va_up (va_up (va_up (va_up (va_up (va_up (fun _ _ => (0 : Int32)) 1 o3) 2 o4) 3 o5) 4 o6) 5 o7) 6 o8) 17 (fun _ => (-1 : Int32))) (fun _ _ => (0 : Int64)) (fun _ _ _ => (0 : Int32))) tyC (va_A [(h0, .inr (7, [.null, .null, .null, .null, .null, .null, .null, .int 0]))] sz)) 43 3726 (va_A [(h0, .inr (7, [.null, .null, .null, .null, .null, .null, .null, .int 0]))] sz) := by
  refine Met.ofW (cc := cX7_init) (maxL := 2) (ret := none) (by decide) rfl ?_
  intro p e s m args below meth c s₁ B hml hv
  obtain ⟨rfl, hsz, hP, hK, hAO, hAOs, hNw⟩ := hv
  have hx := B.exec
  have hb := B.bytes
  have hr := B.returns
  have hts := atoms_spec (ws := wso yX7_init cX7_init 2 none) B.pre
  have hT : ∀ w ∈ gw, w.before _ s = true := fun w hw => hts w (List.mem_cons_of_mem _ hw)
  have hown : s.vm.findClass RX7 = some m.cls := findClass_of_methodNamed B.named
  have hlocks := B.notSynchronized
  have hin : meth.name = "<init>" := (name_of_methodNamed B.named B.method).1
  subst hsz
  have hD : va_D (va_A [(h0, .inr (7, [.null, .null, .null, .null, .null, .null, .null, .int 0]))] s.heap.size) [(h0, .inr (7, [.null, .null, .null, .null, .null, .null, .null, .int 0]))] := va_D1
  generalize hAe : va_A [(h0, .inr (7, [.null, .null, .null, .null, .null, .null, .null, .int 0]))] s.heap.size = A at hD ⊢
  have hA : ∀ q : Nat, s.heap.size ≤ q → A q := fun q h => by rw [← hAe]; exact Or.inr h
  have hS : va_S A s.heap s.heap [] := va_S.rf
  have hl := lv_entry ([.ref h0]) (n := 2) (Nat.le_of_ble_eq_true rfl)
  rw [lg_entry_eq]
  generalize (lg_sl ([.ref h0]) ++ List.replicate (2 - (lg_sl ([.ref h0])).length) Slot.unset).toArray = ls at hl ⊢
  have hl : lv_has ls 2 [(0, .ref h0)] := hl
  refine lv_aload_n hx hb dX7_init_0 rfl (lv_at hl 0 rfl) ?_
  refine W.objInit hx hb hown (hT _ q_1_19) (hT _ q_1_20) (hT _ q_1_21) rfl (by rw [hml]; exact hl.1) rfl dX7_init_1 (Nat.le_of_ble_eq_true rfl) (Nat.le_of_ble_eq_true rfl) ?_
  refine W.eq (g2 := F0 m 4 ls []) rfl ?_
  refine lv_aload_n hx hb dX7_init_4 rfl (lv_at hl 0 rfl) ?_
  refine va_new (ci := 3) (fs := [.null, .null, .null, .null, .null, .null, .null, .null, .int 0, .int 0, .int 0]) (C := RX3) (T := TX3) (N := 11) hx hb hT inX3 tyX3 tyX3_ok hown (hT _ q_1_22) (hT _ q_1_23) (hT _ q_1_2) hK hP hD hS hA rfl (fun j hj => by rcases (show j = 0 ∨ j = 1 ∨ j = 2 ∨ j = 3 ∨ j = 4 ∨ j = 5 ∨ j = 6 ∨ j = 7 ∨ j = 8 ∨ j = 9 ∨ j = 10 by omega) with rfl | rfl | rfl | rfl | rfl | rfl | rfl | rfl | rfl | rfl | rfl <;> rfl) (Nat.le_of_ble_eq_true rfl) (Nat.le_of_ble_eq_true rfl) dX7_init_5 (fun q5 H hP hD hS => ?_)
  refine W.widen (k := 1) (n := 11) (Nat.le_of_ble_eq_true rfl) (Nat.le_of_ble_eq_true rfl) ?_
  refine lv_dup hx hb dX7_init_8 rfl ?_
  have hFc := free_last hD hS hA
  refine va_callv (va_runI (As := []) (rest := [.ref q5, .ref h0]) ⟨hx, hb, hml, hown, hT⟩ (c_X3_init q5 hf H.size) (cwI 0 hT (wso_in q_1_26) rfl rfl rfl (hT _ q_1_2) (hT _ q_1_24) (hT _ q_1_25) rfl ⟨by decide +kernel, by decide +kernel, by decide +kernel⟩ ⟨Nat.le_of_ble_eq_true rfl, Nat.le_of_ble_eq_true rfl⟩) ⟨PkH_blind, fun U hU hW => ⟨rfl, by rw [hU], by rw [hU]; exact P_last hP, va_K.moved hW.alike (hK.sub (tys' := []) [] rfl), va_AOA.moved hW.alike hAO⟩⟩ rfl rfl hl.1 rfl (lv_room (Nat.le_of_ble_eq_true rfl)) dX7_init_9 ⟨Nat.le_of_ble_eq_true rfl, Nat.le_of_ble_eq_true rfl⟩) hS (fun q _ h => hFc q h) hFc (fun u t H1 locs ht hvm hw hB hz1 hk1 hS => ?_)
  obtain ⟨u9, k9⟩ := u
  obtain rfl : u9 0 = q5 := hw
  obtain ⟨hP1, hK1, hD1⟩ := hB
  rw [ht] at hP1
  have hK1 := va_K.moved hvm.symm hK1
  obtain ⟨hP, hD⟩ := join_last hP hD hk1 hFc hP1 hD1
  have hK := hK.app hK1
  generalize H1 = H at hP hS ⊢
  have hP : va_P D vwCl ([(h0, .inr (7, [.null, .null, .null, .null, .null, .null, .null, .int 0]))] ++ wH u9 k9 (va_up (va_up (va_up (fun _ => (0 : Int32)) 0 o0) 1 o1) 2 o2) (va_up (va_up (va_up (va_up (va_up (va_up (fun _ _ => (0 : Int32)) 1 o3) 2 o4) 3 o5) 4 o6) 5 o7) 6 o8) (fun _ _ _ => (0 : Int32))) H := hP
  have hD : va_D A ([(h0, .inr (7, [.null, .null, .null, .null, .null, .null, .null, .int 0]))] ++ wH u9 k9 (va_up (va_up (va_up (fun _ => (0 : Int32)) 0 o0) 1 o1) 2 o2) (va_up (va_up (va_up (va_up (va_up (va_up (fun _ _ => (0 : Int32)) 1 o3) 2 o4) 3 o5) 4 o6) 5 o7) 6 o8) (fun _ _ _ => (0 : Int32))) := hD
  have hK : va_K D vwCl (tyH k9) s := hK
  refine W.widen (k := 11) (n := 92) (Nat.le_of_ble_eq_true rfl) (Nat.le_of_ble_eq_true rfl) ?_
  refine va_putF (ci := 7) (v := .ref (u9 0)) (ty := .object "LostTicket$House") (C := RX7) (T := TX7) (N := 8) hx hb hT inX7 tyX7 tyX7_ok nmX7 hown hK hP hD hS 0 rfl rfl 0 (by decide) (hT _ q_2_64) (fun _ h9 => h9) rfl hin rfl (by decide +kernel) rfl rfl (Nat.le_of_ble_eq_true rfl) dX7_init_12 (fun H locs hP hD hS => ?_)
  have hP : va_P D vwCl ([(h0, .inr (7, [.ref (u9 0), .null, .null, .null, .null, .null, .null, .int 0]))] ++ wH u9 k9 (va_up (va_up (va_up (fun _ => (0 : Int32)) 0 o0) 1 o1) 2 o2) (va_up (va_up (va_up (va_up (va_up (va_up (fun _ _ => (0 : Int32)) 1 o3) 2 o4) 3 o5) 4 o6) 5 o7) 6 o8) (fun _ _ _ => (0 : Int32))) H := hP
  have hD : va_D A ([(h0, .inr (7, [.ref (u9 0), .null, .null, .null, .null, .null, .null, .int 0]))] ++ wH u9 k9 (va_up (va_up (va_up (fun _ => (0 : Int32)) 0 o0) 1 o1) 2 o2) (va_up (va_up (va_up (va_up (va_up (va_up (fun _ _ => (0 : Int32)) 1 o3) 2 o4) 3 o5) 4 o6) 5 o7) 6 o8) (fun _ _ _ => (0 : Int32))) := hD
  refine lv_aload_n hx hb dX7_init_15 rfl (lv_at hl 0 rfl) ?_
  refine va_new (ci := 0) (fs := [.null, .null, .null, .null, .long 0, .long 0, .int 0, .null, .null]) (C := RX0) (T := TX0) (N := 9) hx hb hT inX0 tyX0 tyX0_ok hown (hT _ q_1_118) (hT _ q_1_119) (hT _ q_1_4) hK hP hD hS hA rfl (fun j hj => by rcases (show j = 0 ∨ j = 1 ∨ j = 2 ∨ j = 3 ∨ j = 4 ∨ j = 5 ∨ j = 6 ∨ j = 7 ∨ j = 8 by omega) with rfl | rfl | rfl | rfl | rfl | rfl | rfl | rfl | rfl <;> rfl) (Nat.le_of_ble_eq_true rfl) (Nat.le_of_ble_eq_true rfl) dX7_init_16 (fun q16 H hP hD hS => ?_)
  refine W.widen (k := 12) (n := 101) (Nat.le_of_ble_eq_true rfl) (Nat.le_of_ble_eq_true rfl) ?_
  refine lv_dup hx hb dX7_init_19 rfl ?_
  refine lv_aload_n hx hb dX7_init_20 rfl (lv_at hl 0 rfl) ?_
  refine va_get (ci := 7) (v := .ref (u9 0)) (C := RX7) (T := TX7) (N := 8) hx hb hT inX7 hown hK hP 0 rfl rfl 0 (by decide) (hT _ q_2_64) (fun _ h9 => h9) rfl dX7_init_21 ?_
  have hFc := free_last hD hS hA
  refine va_callv (va_runI (As := [.ref (u9 0)]) (rest := [.ref q16, .ref h0]) ⟨hx, hb, hml, hown, hT⟩ (c_X0_init q16 (u9 0) H.size) (cwI 1 hT (wso_in q_1_122) rfl rfl rfl (hT _ q_1_4) (hT _ q_1_120) (hT _ q_1_121) rfl ⟨by decide +kernel, by decide +kernel, by decide +kernel⟩ ⟨Nat.le_of_ble_eq_true rfl, Nat.le_of_ble_eq_true rfl⟩) ⟨Pk_blind, fun U hU hW => ⟨rfl, by rw [hU], by rw [hU]; exact P_last hP, va_K.moved hW.alike (hK.sub (tys' := []) [] rfl)⟩⟩ rfl rfl hl.1 rfl (lv_room (Nat.le_of_ble_eq_true rfl)) dX7_init_24 ⟨Nat.le_of_ble_eq_true rfl, Nat.le_of_ble_eq_true rfl⟩) hS (fun q _ h => hFc q h) hFc (fun u t H1 locs ht hvm hw hB hz1 hk1 hS => ?_)
  obtain ⟨u24, k24⟩ := u
  obtain ⟨hP1, hK1, hD1⟩ := hB
  rw [ht] at hP1
  have hK1 := va_K.moved hvm.symm hK1
  obtain ⟨hP, hD⟩ := join_last hP hD hk1 hFc hP1 hD1
  have hK := hK.app hK1
  generalize H1 = H at hP hS ⊢
  have hP : va_P D vwCl (([(h0, .inr (7, [.ref (u9 0), .null, .null, .null, .null, .null, .null, .int 0]))] ++ wH u9 k9 (va_up (va_up (va_up (fun _ => (0 : Int32)) 0 o0) 1 o1) 2 o2) (va_up (va_up (va_up (va_up (va_up (va_up (fun _ _ => (0 : Int32)) 1 o3) 2 o4) 3 o5) 4 o6) 5 o7) 6 o8) (fun _ _ _ => (0 : Int32))) ++ cs_X0 q16 (u9 0) u24 k24) H := hP
  have hD : va_D A (([(h0, .inr (7, [.ref (u9 0), .null, .null, .null, .null, .null, .null, .int 0]))] ++ wH u9 k9 (va_up (va_up (va_up (fun _ => (0 : Int32)) 0 o0) 1 o1) 2 o2) (va_up (va_up (va_up (va_up (va_up (va_up (fun _ _ => (0 : Int32)) 1 o3) 2 o4) 3 o5) 4 o6) 5 o7) 6 o8) (fun _ _ _ => (0 : Int32))) ++ cs_X0 q16 (u9 0) u24 k24) := hD
  have hK : va_K D vwCl ((tyH k9) ++ ts_X0 k24) s := hK
  refine W.widen (k := 17) (n := 2742) (Nat.le_of_ble_eq_true rfl) (Nat.le_of_ble_eq_true rfl) ?_
  refine va_putF (ci := 7) (v := .ref q16) (ty := .object "LostTicket$Chances") (C := RX7) (T := TX7) (N := 8) hx hb hT inX7 tyX7 tyX7_ok nmX7 hown hK hP hD hS 0 rfl rfl 1 (by decide) (hT _ q_2_65) (fun _ h9 => h9) rfl hin rfl (by decide +kernel) rfl rfl (Nat.le_of_ble_eq_true rfl) dX7_init_27 (fun H locs hP hD hS => ?_)
  have hP : va_P D vwCl (([(h0, .inr (7, [.ref (u9 0), .ref q16, .null, .null, .null, .null, .null, .int 0]))] ++ wH u9 k9 (va_up (va_up (va_up (fun _ => (0 : Int32)) 0 o0) 1 o1) 2 o2) (va_up (va_up (va_up (va_up (va_up (va_up (fun _ _ => (0 : Int32)) 1 o3) 2 o4) 3 o5) 4 o6) 5 o7) 6 o8) (fun _ _ _ => (0 : Int32))) ++ cs_X0 q16 (u9 0) u24 k24) H := hP
  have hD : va_D A (([(h0, .inr (7, [.ref (u9 0), .ref q16, .null, .null, .null, .null, .null, .int 0]))] ++ wH u9 k9 (va_up (va_up (va_up (fun _ => (0 : Int32)) 0 o0) 1 o1) 2 o2) (va_up (va_up (va_up (va_up (va_up (va_up (fun _ _ => (0 : Int32)) 1 o3) 2 o4) 3 o5) 4 o6) 5 o7) 6 o8) (fun _ _ _ => (0 : Int32))) ++ cs_X0 q16 (u9 0) u24 k24) := hD
  refine lv_aload_n hx hb dX7_init_30 rfl (lv_at hl 0 rfl) ?_
  refine va_new (ci := 1) (fs := [.null, .long 0, .int 0, .null, .null, .null, .null]) (C := RX1) (T := TX1) (N := 7) hx hb hT inX1 tyX1 tyX1_ok hown (hT _ q_1_160) (hT _ q_1_161) (hT _ q_1_5) hK hP hD hS hA rfl (fun j hj => by rcases (show j = 0 ∨ j = 1 ∨ j = 2 ∨ j = 3 ∨ j = 4 ∨ j = 5 ∨ j = 6 by omega) with rfl | rfl | rfl | rfl | rfl | rfl | rfl <;> rfl) (Nat.le_of_ble_eq_true rfl) (Nat.le_of_ble_eq_true rfl) dX7_init_31 (fun q31 H hP hD hS => ?_)
  refine W.widen (k := 18) (n := 2749) (Nat.le_of_ble_eq_true rfl) (Nat.le_of_ble_eq_true rfl) ?_
  refine lv_dup hx hb dX7_init_34 rfl ?_
  refine lv_aload_n hx hb dX7_init_35 rfl (lv_at hl 0 rfl) ?_
  refine va_get (ci := 7) (v := .ref (u9 0)) (C := RX7) (T := TX7) (N := 8) hx hb hT inX7 hown hK hP 0 rfl rfl 0 (by decide) (hT _ q_2_64) (fun _ h9 => h9) rfl dX7_init_36 ?_
  have hFc := free_last hD hS hA
  refine va_callv (va_runI (As := [.ref (u9 0)]) (rest := [.ref q31, .ref h0]) ⟨hx, hb, hml, hown, hT⟩ (c_X1_init q31 (u9 0) H.size) (cwI 1 hT (wso_in q_1_164) rfl rfl rfl (hT _ q_1_5) (hT _ q_1_162) (hT _ q_1_163) rfl ⟨by decide +kernel, by decide +kernel, by decide +kernel⟩ ⟨Nat.le_of_ble_eq_true rfl, Nat.le_of_ble_eq_true rfl⟩) ⟨Pk_blind, fun U hU hW => ⟨rfl, by rw [hU], by rw [hU]; exact P_last hP, va_K.moved hW.alike (hK.sub (tys' := []) [] rfl)⟩⟩ rfl rfl hl.1 rfl (lv_room (Nat.le_of_ble_eq_true rfl)) dX7_init_39 ⟨Nat.le_of_ble_eq_true rfl, Nat.le_of_ble_eq_true rfl⟩) hS (fun q _ h => hFc q h) hFc (fun u t H1 locs ht hvm hw hB hz1 hk1 hS => ?_)
  obtain ⟨u39, k39⟩ := u
  obtain ⟨hP1, hK1, hD1⟩ := hB
  rw [ht] at hP1
  have hK1 := va_K.moved hvm.symm hK1
  obtain ⟨hP, hD⟩ := join_last hP hD hk1 hFc hP1 hD1
  have hK := hK.app hK1
  generalize H1 = H at hP hS ⊢
  have hP : va_P D vwCl ((([(h0, .inr (7, [.ref (u9 0), .ref q16, .null, .null, .null, .null, .null, .int 0]))] ++ wH u9 k9 (va_up (va_up (va_up (fun _ => (0 : Int32)) 0 o0) 1 o1) 2 o2) (va_up (va_up (va_up (va_up (va_up (va_up (fun _ _ => (0 : Int32)) 1 o3) 2 o4) 3 o5) 4 o6) 5 o7) 6 o8) (fun _ _ _ => (0 : Int32))) ++ cs_X0 q16 (u9 0) u24 k24) ++ cs_X1 q31 (u9 0) u39 k39) H := hP
  have hD : va_D A ((([(h0, .inr (7, [.ref (u9 0), .ref q16, .null, .null, .null, .null, .null, .int 0]))] ++ wH u9 k9 (va_up (va_up (va_up (fun _ => (0 : Int32)) 0 o0) 1 o1) 2 o2) (va_up (va_up (va_up (va_up (va_up (va_up (fun _ _ => (0 : Int32)) 1 o3) 2 o4) 3 o5) 4 o6) 5 o7) 6 o8) (fun _ _ _ => (0 : Int32))) ++ cs_X0 q16 (u9 0) u24 k24) ++ cs_X1 q31 (u9 0) u39 k39) := hD
  have hK : va_K D vwCl (((tyH k9) ++ ts_X0 k24) ++ ts_X1 k39) s := hK
  refine W.widen (k := 22) (n := 3073) (Nat.le_of_ble_eq_true rfl) (Nat.le_of_ble_eq_true rfl) ?_
  refine va_putF (ci := 7) (v := .ref q31) (ty := .object "LostTicket$Doors") (C := RX7) (T := TX7) (N := 8) hx hb hT inX7 tyX7 tyX7_ok nmX7 hown hK hP hD hS 0 rfl rfl 2 (by decide) (hT _ q_2_66) (fun _ h9 => h9) rfl hin rfl (by decide +kernel) rfl rfl (Nat.le_of_ble_eq_true rfl) dX7_init_42 (fun H locs hP hD hS => ?_)
  have hP : va_P D vwCl ((([(h0, .inr (7, [.ref (u9 0), .ref q16, .ref q31, .null, .null, .null, .null, .int 0]))] ++ wH u9 k9 (va_up (va_up (va_up (fun _ => (0 : Int32)) 0 o0) 1 o1) 2 o2) (va_up (va_up (va_up (va_up (va_up (va_up (fun _ _ => (0 : Int32)) 1 o3) 2 o4) 3 o5) 4 o6) 5 o7) 6 o8) (fun _ _ _ => (0 : Int32))) ++ cs_X0 q16 (u9 0) u24 k24) ++ cs_X1 q31 (u9 0) u39 k39) H := hP
  have hD : va_D A ((([(h0, .inr (7, [.ref (u9 0), .ref q16, .ref q31, .null, .null, .null, .null, .int 0]))] ++ wH u9 k9 (va_up (va_up (va_up (fun _ => (0 : Int32)) 0 o0) 1 o1) 2 o2) (va_up (va_up (va_up (va_up (va_up (va_up (fun _ _ => (0 : Int32)) 1 o3) 2 o4) 3 o5) 4 o6) 5 o7) 6 o8) (fun _ _ _ => (0 : Int32))) ++ cs_X0 q16 (u9 0) u24 k24) ++ cs_X1 q31 (u9 0) u39 k39) := hD
  refine lv_aload_n hx hb dX7_init_45 rfl (lv_at hl 0 rfl) ?_
  refine va_new (ci := 6) (fs := [.null, .int 0, .int 0, .long 0, .int 0, .null, .null, .null, .null, .null, .null, .null]) (C := RX6) (T := TX6) (N := 12) hx hb hT inX6 tyX6 tyX6_ok hown (hT _ q_1_191) (hT _ q_1_192) (hT _ q_1_6) hK hP hD hS hA rfl (fun j hj => by rcases (show j = 0 ∨ j = 1 ∨ j = 2 ∨ j = 3 ∨ j = 4 ∨ j = 5 ∨ j = 6 ∨ j = 7 ∨ j = 8 ∨ j = 9 ∨ j = 10 ∨ j = 11 by omega) with rfl | rfl | rfl | rfl | rfl | rfl | rfl | rfl | rfl | rfl | rfl | rfl <;> rfl) (Nat.le_of_ble_eq_true rfl) (Nat.le_of_ble_eq_true rfl) dX7_init_46 (fun q46 H hP hD hS => ?_)
  refine W.widen (k := 23) (n := 3085) (Nat.le_of_ble_eq_true rfl) (Nat.le_of_ble_eq_true rfl) ?_
  refine lv_dup hx hb dX7_init_49 rfl ?_
  refine lv_aload_n hx hb dX7_init_50 rfl (lv_at hl 0 rfl) ?_
  refine va_get (ci := 7) (v := .ref (u9 0)) (C := RX7) (T := TX7) (N := 8) hx hb hT inX7 hown hK hP 0 rfl rfl 0 (by decide) (hT _ q_2_64) (fun _ h9 => h9) rfl dX7_init_51 ?_
  have hFc := free_last hD hS hA
  refine va_callv (va_runI (As := [.ref (u9 0)]) (rest := [.ref q46, .ref h0]) ⟨hx, hb, hml, hown, hT⟩ (c_X6_init q46 (u9 0) H.size) (cwI 1 hT (wso_in q_1_195) rfl rfl rfl (hT _ q_1_6) (hT _ q_1_193) (hT _ q_1_194) rfl ⟨by decide +kernel, by decide +kernel, by decide +kernel⟩ ⟨Nat.le_of_ble_eq_true rfl, Nat.le_of_ble_eq_true rfl⟩) ⟨Pk_blind, fun U hU hW => ⟨rfl, by rw [hU], by rw [hU]; exact P_last hP, va_K.moved hW.alike (hK.sub (tys' := []) [] rfl)⟩⟩ rfl rfl hl.1 rfl (lv_room (Nat.le_of_ble_eq_true rfl)) dX7_init_54 ⟨Nat.le_of_ble_eq_true rfl, Nat.le_of_ble_eq_true rfl⟩) hS (fun q _ h => hFc q h) hFc (fun u t H1 locs ht hvm hw hB hz1 hk1 hS => ?_)
  obtain ⟨u54, k54⟩ := u
  obtain ⟨hP1, hK1, hD1⟩ := hB
  rw [ht] at hP1
  have hK1 := va_K.moved hvm.symm hK1
  obtain ⟨hP, hD⟩ := join_last hP hD hk1 hFc hP1 hD1
  have hK := hK.app hK1
  generalize H1 = H at hP hS ⊢
  have hP : va_P D vwCl (((([(h0, .inr (7, [.ref (u9 0), .ref q16, .ref q31, .null, .null, .null, .null, .int 0]))] ++ wH u9 k9 (va_up (va_up (va_up (fun _ => (0 : Int32)) 0 o0) 1 o1) 2 o2) (va_up (va_up (va_up (va_up (va_up (va_up (fun _ _ => (0 : Int32)) 1 o3) 2 o4) 3 o5) 4 o6) 5 o7) 6 o8) (fun _ _ _ => (0 : Int32))) ++ cs_X0 q16 (u9 0) u24 k24) ++ cs_X1 q31 (u9 0) u39 k39) ++ cs_X6 q46 (u9 0) u54 k54) H := hP
  have hD : va_D A (((([(h0, .inr (7, [.ref (u9 0), .ref q16, .ref q31, .null, .null, .null, .null, .int 0]))] ++ wH u9 k9 (va_up (va_up (va_up (fun _ => (0 : Int32)) 0 o0) 1 o1) 2 o2) (va_up (va_up (va_up (va_up (va_up (va_up (fun _ _ => (0 : Int32)) 1 o3) 2 o4) 3 o5) 4 o6) 5 o7) 6 o8) (fun _ _ _ => (0 : Int32))) ++ cs_X0 q16 (u9 0) u24 k24) ++ cs_X1 q31 (u9 0) u39 k39) ++ cs_X6 q46 (u9 0) u54 k54) := hD
  have hK : va_K D vwCl ((((tyH k9) ++ ts_X0 k24) ++ ts_X1 k39) ++ ts_X6 k54) s := hK
  refine W.widen (k := 30) (n := 3445) (Nat.le_of_ble_eq_true rfl) (Nat.le_of_ble_eq_true rfl) ?_
  refine va_putF (ci := 7) (v := .ref q46) (ty := .object "LostTicket$Witness") (C := RX7) (T := TX7) (N := 8) hx hb hT inX7 tyX7 tyX7_ok nmX7 hown hK hP hD hS 0 rfl rfl 3 (by decide) (hT _ q_2_67) (fun _ h9 => h9) rfl hin rfl (by decide +kernel) rfl rfl (Nat.le_of_ble_eq_true rfl) dX7_init_57 (fun H locs hP hD hS => ?_)
  have hP : va_P D vwCl (((([(h0, .inr (7, [.ref (u9 0), .ref q16, .ref q31, .ref q46, .null, .null, .null, .int 0]))] ++ wH u9 k9 (va_up (va_up (va_up (fun _ => (0 : Int32)) 0 o0) 1 o1) 2 o2) (va_up (va_up (va_up (va_up (va_up (va_up (fun _ _ => (0 : Int32)) 1 o3) 2 o4) 3 o5) 4 o6) 5 o7) 6 o8) (fun _ _ _ => (0 : Int32))) ++ cs_X0 q16 (u9 0) u24 k24) ++ cs_X1 q31 (u9 0) u39 k39) ++ cs_X6 q46 (u9 0) u54 k54) H := hP
  have hD : va_D A (((([(h0, .inr (7, [.ref (u9 0), .ref q16, .ref q31, .ref q46, .null, .null, .null, .int 0]))] ++ wH u9 k9 (va_up (va_up (va_up (fun _ => (0 : Int32)) 0 o0) 1 o1) 2 o2) (va_up (va_up (va_up (va_up (va_up (va_up (fun _ _ => (0 : Int32)) 1 o3) 2 o4) 3 o5) 4 o6) 5 o7) 6 o8) (fun _ _ _ => (0 : Int32))) ++ cs_X0 q16 (u9 0) u24 k24) ++ cs_X1 q31 (u9 0) u39 k39) ++ cs_X6 q46 (u9 0) u54 k54) := hD
  refine lv_aload_n hx hb dX7_init_60 rfl (lv_at hl 0 rfl) ?_
  refine va_new (ci := 2) (fs := [.null, .int 0, .null, .int 0]) (C := RX2) (T := TX2) (N := 4) hx hb hT inX2 tyX2 tyX2_ok hown (hT _ q_1_239) (hT _ q_2_0) (hT _ q_1_7) hK hP hD hS hA rfl (fun j hj => by rcases (show j = 0 ∨ j = 1 ∨ j = 2 ∨ j = 3 by omega) with rfl | rfl | rfl | rfl <;> rfl) (Nat.le_of_ble_eq_true rfl) (Nat.le_of_ble_eq_true rfl) dX7_init_61 (fun q61 H hP hD hS => ?_)
  refine W.widen (k := 31) (n := 3449) (Nat.le_of_ble_eq_true rfl) (Nat.le_of_ble_eq_true rfl) ?_
  refine lv_dup hx hb dX7_init_64 rfl ?_
  refine lv_aload_n hx hb dX7_init_65 rfl (lv_at hl 0 rfl) ?_
  refine va_get (ci := 7) (v := .ref (u9 0)) (C := RX7) (T := TX7) (N := 8) hx hb hT inX7 hown hK hP 0 rfl rfl 0 (by decide) (hT _ q_2_64) (fun _ h9 => h9) rfl dX7_init_66 ?_
  have hFc := free_last hD hS hA
  refine va_callv (va_runI (As := [.ref (u9 0)]) (rest := [.ref q61, .ref h0]) ⟨hx, hb, hml, hown, hT⟩ (c_X2_init q61 (u9 0) H.size) (cwI 1 hT (wso_in q_2_3) rfl rfl rfl (hT _ q_1_7) (hT _ q_2_1) (hT _ q_2_2) rfl ⟨by decide +kernel, by decide +kernel, by decide +kernel⟩ ⟨Nat.le_of_ble_eq_true rfl, Nat.le_of_ble_eq_true rfl⟩) ⟨Pk_blind, fun U hU hW => ⟨rfl, by rw [hU], by rw [hU]; exact P_last hP, va_K.moved hW.alike (hK.sub (tys' := []) [] rfl)⟩⟩ rfl rfl hl.1 rfl (lv_room (Nat.le_of_ble_eq_true rfl)) dX7_init_69 ⟨Nat.le_of_ble_eq_true rfl, Nat.le_of_ble_eq_true rfl⟩) hS (fun q _ h => hFc q h) hFc (fun u t H1 locs ht hvm hw hB hz1 hk1 hS => ?_)
  obtain ⟨u69, k69⟩ := u
  obtain ⟨hP1, hK1, hD1⟩ := hB
  rw [ht] at hP1
  have hK1 := va_K.moved hvm.symm hK1
  obtain ⟨hP, hD⟩ := join_last hP hD hk1 hFc hP1 hD1
  have hK := hK.app hK1
  generalize H1 = H at hP hS ⊢
  have hP : va_P D vwCl ((((([(h0, .inr (7, [.ref (u9 0), .ref q16, .ref q31, .ref q46, .null, .null, .null, .int 0]))] ++ wH u9 k9 (va_up (va_up (va_up (fun _ => (0 : Int32)) 0 o0) 1 o1) 2 o2) (va_up (va_up (va_up (va_up (va_up (va_up (fun _ _ => (0 : Int32)) 1 o3) 2 o4) 3 o5) 4 o6) 5 o7) 6 o8) (fun _ _ _ => (0 : Int32))) ++ cs_X0 q16 (u9 0) u24 k24) ++ cs_X1 q31 (u9 0) u39 k39) ++ cs_X6 q46 (u9 0) u54 k54) ++ cs_X2 q61 (u9 0) u69 k69) H := hP
  have hD : va_D A ((((([(h0, .inr (7, [.ref (u9 0), .ref q16, .ref q31, .ref q46, .null, .null, .null, .int 0]))] ++ wH u9 k9 (va_up (va_up (va_up (fun _ => (0 : Int32)) 0 o0) 1 o1) 2 o2) (va_up (va_up (va_up (va_up (va_up (va_up (fun _ _ => (0 : Int32)) 1 o3) 2 o4) 3 o5) 4 o6) 5 o7) 6 o8) (fun _ _ _ => (0 : Int32))) ++ cs_X0 q16 (u9 0) u24 k24) ++ cs_X1 q31 (u9 0) u39 k39) ++ cs_X6 q46 (u9 0) u54 k54) ++ cs_X2 q61 (u9 0) u69 k69) := hD
  have hK : va_K D vwCl (((((tyH k9) ++ ts_X0 k24) ++ ts_X1 k39) ++ ts_X6 k54) ++ ts_X2 k69) s := hK
  refine W.widen (k := 32) (n := 3457) (Nat.le_of_ble_eq_true rfl) (Nat.le_of_ble_eq_true rfl) ?_
  refine va_putF (ci := 7) (v := .ref q61) (ty := .object "LostTicket$Evening") (C := RX7) (T := TX7) (N := 8) hx hb hT inX7 tyX7 tyX7_ok nmX7 hown hK hP hD hS 0 rfl rfl 4 (by decide) (hT _ q_2_68) (fun _ h9 => h9) rfl hin rfl (by decide +kernel) rfl rfl (Nat.le_of_ble_eq_true rfl) dX7_init_72 (fun H locs hP hD hS => ?_)
  have hP : va_P D vwCl ((((([(h0, .inr (7, [.ref (u9 0), .ref q16, .ref q31, .ref q46, .ref q61, .null, .null, .int 0]))] ++ wH u9 k9 (va_up (va_up (va_up (fun _ => (0 : Int32)) 0 o0) 1 o1) 2 o2) (va_up (va_up (va_up (va_up (va_up (va_up (fun _ _ => (0 : Int32)) 1 o3) 2 o4) 3 o5) 4 o6) 5 o7) 6 o8) (fun _ _ _ => (0 : Int32))) ++ cs_X0 q16 (u9 0) u24 k24) ++ cs_X1 q31 (u9 0) u39 k39) ++ cs_X6 q46 (u9 0) u54 k54) ++ cs_X2 q61 (u9 0) u69 k69) H := hP
  have hD : va_D A ((((([(h0, .inr (7, [.ref (u9 0), .ref q16, .ref q31, .ref q46, .ref q61, .null, .null, .int 0]))] ++ wH u9 k9 (va_up (va_up (va_up (fun _ => (0 : Int32)) 0 o0) 1 o1) 2 o2) (va_up (va_up (va_up (va_up (va_up (va_up (fun _ _ => (0 : Int32)) 1 o3) 2 o4) 3 o5) 4 o6) 5 o7) 6 o8) (fun _ _ _ => (0 : Int32))) ++ cs_X0 q16 (u9 0) u24 k24) ++ cs_X1 q31 (u9 0) u39 k39) ++ cs_X6 q46 (u9 0) u54 k54) ++ cs_X2 q61 (u9 0) u69 k69) := hD
  refine lv_aload_n hx hb dX7_init_75 rfl (lv_at hl 0 rfl) ?_
  refine va_new (ci := 4) (fs := [.int 0, .int 0, .int 0, .null, .null]) (C := RX4) (T := TX4) (N := 5) hx hb hT inX4 tyX4 tyX4_ok hown (hT _ q_2_20) (hT _ q_2_21) (hT _ q_1_8) hK hP hD hS hA rfl (fun j hj => by rcases (show j = 0 ∨ j = 1 ∨ j = 2 ∨ j = 3 ∨ j = 4 by omega) with rfl | rfl | rfl | rfl | rfl <;> rfl) (Nat.le_of_ble_eq_true rfl) (Nat.le_of_ble_eq_true rfl) dX7_init_76 (fun q76 H hP hD hS => ?_)
  refine W.widen (k := 33) (n := 3462) (Nat.le_of_ble_eq_true rfl) (Nat.le_of_ble_eq_true rfl) ?_
  refine lv_dup hx hb dX7_init_79 rfl ?_
  refine lv_aload_n hx hb dX7_init_80 rfl (lv_at hl 0 rfl) ?_
  refine va_get (ci := 7) (v := .ref (u9 0)) (C := RX7) (T := TX7) (N := 8) hx hb hT inX7 hown hK hP 0 rfl rfl 0 (by decide) (hT _ q_2_64) (fun _ h9 => h9) rfl dX7_init_81 ?_
  have hFc := free_last hD hS hA
  refine va_callv (va_runI (As := [.ref (u9 0)]) (rest := [.ref q76, .ref h0]) ⟨hx, hb, hml, hown, hT⟩ (c_X4_init q76 (u9 0) H.size) (cwI 1 hT (wso_in q_2_24) rfl rfl rfl (hT _ q_1_8) (hT _ q_2_22) (hT _ q_2_23) rfl ⟨by decide +kernel, by decide +kernel, by decide +kernel⟩ ⟨Nat.le_of_ble_eq_true rfl, Nat.le_of_ble_eq_true rfl⟩) ⟨Pk_blind, fun U hU hW => ⟨rfl, by rw [hU], by rw [hU]; exact P_last hP, va_K.moved hW.alike (hK.sub (tys' := []) [] rfl)⟩⟩ rfl rfl hl.1 rfl (lv_room (Nat.le_of_ble_eq_true rfl)) dX7_init_84 ⟨Nat.le_of_ble_eq_true rfl, Nat.le_of_ble_eq_true rfl⟩) hS (fun q _ h => hFc q h) hFc (fun u t H1 locs ht hvm hw hB hz1 hk1 hS => ?_)
  obtain ⟨u84, k84⟩ := u
  obtain ⟨hP1, hK1, hD1⟩ := hB
  rw [ht] at hP1
  have hK1 := va_K.moved hvm.symm hK1
  obtain ⟨hP, hD⟩ := join_last hP hD hk1 hFc hP1 hD1
  have hK := hK.app hK1
  generalize H1 = H at hP hS ⊢
  have hP : va_P D vwCl (((((([(h0, .inr (7, [.ref (u9 0), .ref q16, .ref q31, .ref q46, .ref q61, .null, .null, .int 0]))] ++ wH u9 k9 (va_up (va_up (va_up (fun _ => (0 : Int32)) 0 o0) 1 o1) 2 o2) (va_up (va_up (va_up (va_up (va_up (va_up (fun _ _ => (0 : Int32)) 1 o3) 2 o4) 3 o5) 4 o6) 5 o7) 6 o8) (fun _ _ _ => (0 : Int32))) ++ cs_X0 q16 (u9 0) u24 k24) ++ cs_X1 q31 (u9 0) u39 k39) ++ cs_X6 q46 (u9 0) u54 k54) ++ cs_X2 q61 (u9 0) u69 k69) ++ cs_X4 q76 (u9 0) u84 k84) H := hP
  have hD : va_D A (((((([(h0, .inr (7, [.ref (u9 0), .ref q16, .ref q31, .ref q46, .ref q61, .null, .null, .int 0]))] ++ wH u9 k9 (va_up (va_up (va_up (fun _ => (0 : Int32)) 0 o0) 1 o1) 2 o2) (va_up (va_up (va_up (va_up (va_up (va_up (fun _ _ => (0 : Int32)) 1 o3) 2 o4) 3 o5) 4 o6) 5 o7) 6 o8) (fun _ _ _ => (0 : Int32))) ++ cs_X0 q16 (u9 0) u24 k24) ++ cs_X1 q31 (u9 0) u39 k39) ++ cs_X6 q46 (u9 0) u54 k54) ++ cs_X2 q61 (u9 0) u69 k69) ++ cs_X4 q76 (u9 0) u84 k84) := hD
  have hK : va_K D vwCl ((((((tyH k9) ++ ts_X0 k24) ++ ts_X1 k39) ++ ts_X6 k54) ++ ts_X2 k69) ++ ts_X4 k84) s := hK
  refine W.widen (k := 34) (n := 3470) (Nat.le_of_ble_eq_true rfl) (Nat.le_of_ble_eq_true rfl) ?_
  refine va_putF (ci := 7) (v := .ref q76) (ty := .object "LostTicket$Rings") (C := RX7) (T := TX7) (N := 8) hx hb hT inX7 tyX7 tyX7_ok nmX7 hown hK hP hD hS 0 rfl rfl 5 (by decide) (hT _ q_2_69) (fun _ h9 => h9) rfl hin rfl (by decide +kernel) rfl rfl (Nat.le_of_ble_eq_true rfl) dX7_init_87 (fun H locs hP hD hS => ?_)
  have hP : va_P D vwCl (((((([(h0, .inr (7, [.ref (u9 0), .ref q16, .ref q31, .ref q46, .ref q61, .ref q76, .null, .int 0]))] ++ wH u9 k9 (va_up (va_up (va_up (fun _ => (0 : Int32)) 0 o0) 1 o1) 2 o2) (va_up (va_up (va_up (va_up (va_up (va_up (fun _ _ => (0 : Int32)) 1 o3) 2 o4) 3 o5) 4 o6) 5 o7) 6 o8) (fun _ _ _ => (0 : Int32))) ++ cs_X0 q16 (u9 0) u24 k24) ++ cs_X1 q31 (u9 0) u39 k39) ++ cs_X6 q46 (u9 0) u54 k54) ++ cs_X2 q61 (u9 0) u69 k69) ++ cs_X4 q76 (u9 0) u84 k84) H := hP
  have hD : va_D A (((((([(h0, .inr (7, [.ref (u9 0), .ref q16, .ref q31, .ref q46, .ref q61, .ref q76, .null, .int 0]))] ++ wH u9 k9 (va_up (va_up (va_up (fun _ => (0 : Int32)) 0 o0) 1 o1) 2 o2) (va_up (va_up (va_up (va_up (va_up (va_up (fun _ _ => (0 : Int32)) 1 o3) 2 o4) 3 o5) 4 o6) 5 o7) 6 o8) (fun _ _ _ => (0 : Int32))) ++ cs_X0 q16 (u9 0) u24 k24) ++ cs_X1 q31 (u9 0) u39 k39) ++ cs_X6 q46 (u9 0) u54 k54) ++ cs_X2 q61 (u9 0) u69 k69) ++ cs_X4 q76 (u9 0) u84 k84) := hD
  refine lv_aload_n hx hb dX7_init_90 rfl (lv_at hl 0 rfl) ?_
  refine lv_iconst (v := 4) hx hb dX7_init_91 (by decide) ?_
  refine va_newq (C := "LostTicket$Sheet") (N' := 4) hx hb hown (hT _ q_2_44) hAOs hK hP hD hS hA (by decide) (by decide +kernel) (Nat.le_of_ble_eq_true rfl) (Nat.le_of_ble_eq_true rfl) (Nat.le_of_ble_eq_true rfl) dX7_init_92 (fun q92 k92 H hK hP hD hS => ?_)
  refine W.widen (k := 35) (n := 3474) (Nat.le_of_ble_eq_true rfl) (Nat.le_of_ble_eq_true rfl) ?_
  have hP : va_P D vwCl ((((((([(h0, .inr (7, [.ref (u9 0), .ref q16, .ref q31, .ref q46, .ref q61, .ref q76, .null, .int 0]))] ++ wH u9 k9 (va_up (va_up (va_up (fun _ => (0 : Int32)) 0 o0) 1 o1) 2 o2) (va_up (va_up (va_up (va_up (va_up (va_up (fun _ _ => (0 : Int32)) 1 o3) 2 o4) 3 o5) 4 o6) 5 o7) 6 o8) (fun _ _ _ => (0 : Int32))) ++ cs_X0 q16 (u9 0) u24 k24) ++ cs_X1 q31 (u9 0) u39 k39) ++ cs_X6 q46 (u9 0) u54 k54) ++ cs_X2 q61 (u9 0) u69 k69) ++ cs_X4 q76 (u9 0) u84 k84) ++ [(q92, .inl (k92, 4, .inr (.inr (.inr (.inr (fun _ => none))))))]) H := hP
  have hD : va_D A ((((((([(h0, .inr (7, [.ref (u9 0), .ref q16, .ref q31, .ref q46, .ref q61, .ref q76, .null, .int 0]))] ++ wH u9 k9 (va_up (va_up (va_up (fun _ => (0 : Int32)) 0 o0) 1 o1) 2 o2) (va_up (va_up (va_up (va_up (va_up (va_up (fun _ _ => (0 : Int32)) 1 o3) 2 o4) 3 o5) 4 o6) 5 o7) 6 o8) (fun _ _ _ => (0 : Int32))) ++ cs_X0 q16 (u9 0) u24 k24) ++ cs_X1 q31 (u9 0) u39 k39) ++ cs_X6 q46 (u9 0) u54 k54) ++ cs_X2 q61 (u9 0) u69 k69) ++ cs_X4 q76 (u9 0) u84 k84) ++ [(q92, .inl (k92, 4, .inr (.inr (.inr (.inr (fun _ => none))))))]) := hD
  have hK : va_K D vwCl (((((((tyH k9) ++ ts_X0 k24) ++ ts_X1 k39) ++ ts_X6 k54) ++ ts_X2 k69) ++ ts_X4 k84) ++ [(k92, .object "LostTicket$Sheet")]) s := hK
  refine va_putF (ci := 7) (v := .ref q92) (ty := .array (.object "LostTicket$Sheet")) (C := RX7) (T := TX7) (N := 8) hx hb hT inX7 tyX7 tyX7_ok nmX7 hown hK hP hD hS 0 rfl rfl 6 (by decide) (hT _ q_2_70) (fun _ h9 => h9) rfl hin rfl (by decide +kernel) rfl rfl (Nat.le_of_ble_eq_true rfl) dX7_init_95 (fun H locs hP hD hS => ?_)
  have hP : va_P D vwCl ((((((([(h0, .inr (7, [.ref (u9 0), .ref q16, .ref q31, .ref q46, .ref q61, .ref q76, .ref q92, .int 0]))] ++ wH u9 k9 (va_up (va_up (va_up (fun _ => (0 : Int32)) 0 o0) 1 o1) 2 o2) (va_up (va_up (va_up (va_up (va_up (va_up (fun _ _ => (0 : Int32)) 1 o3) 2 o4) 3 o5) 4 o6) 5 o7) 6 o8) (fun _ _ _ => (0 : Int32))) ++ cs_X0 q16 (u9 0) u24 k24) ++ cs_X1 q31 (u9 0) u39 k39) ++ cs_X6 q46 (u9 0) u54 k54) ++ cs_X2 q61 (u9 0) u69 k69) ++ cs_X4 q76 (u9 0) u84 k84) ++ [(q92, .inl (k92, 4, .inr (.inr (.inr (.inr (fun _ => none))))))]) H := hP
  have hD : va_D A ((((((([(h0, .inr (7, [.ref (u9 0), .ref q16, .ref q31, .ref q46, .ref q61, .ref q76, .ref q92, .int 0]))] ++ wH u9 k9 (va_up (va_up (va_up (fun _ => (0 : Int32)) 0 o0) 1 o1) 2 o2) (va_up (va_up (va_up (va_up (va_up (va_up (fun _ _ => (0 : Int32)) 1 o3) 2 o4) 3 o5) 4 o6) 5 o7) 6 o8) (fun _ _ _ => (0 : Int32))) ++ cs_X0 q16 (u9 0) u24 k24) ++ cs_X1 q31 (u9 0) u39 k39) ++ cs_X6 q46 (u9 0) u54 k54) ++ cs_X2 q61 (u9 0) u69 k69) ++ cs_X4 q76 (u9 0) u84 k84) ++ [(q92, .inl (k92, 4, .inr (.inr (.inr (.inr (fun _ => none))))))]) := hD
  refine lv_iconst (v := 0) hx hb dX7_init_98 (by decide) ?_
  refine lv_istore_n (lv' := [(1, .int 0), (0, .ref h0)]) hx hb dX7_init_99 rfl hl (by decide) rfl (fun ls hl => ?_)
  refine lv_iload_n hx hb dX7_init_100 rfl (lv_at hl 0 rfl) ?_
  refine lv_iconst (v := 4) hx hb dX7_init_101 (by decide) ?_
  refine lv_icmp_ge (tgt := 124) hx hb dX7_init_102 (by decide) (fun h => absurd h (by decide)) (fun _ => ?_)
  refine lv_aload_n hx hb dX7_init_105 rfl (lv_at hl 1 rfl) ?_
  refine va_get (ci := 7) (v := .ref q92) (C := RX7) (T := TX7) (N := 8) hx hb hT inX7 hown hK hP 0 rfl rfl 6 (by decide) (hT _ q_2_70) (fun _ h9 => h9) rfl dX7_init_106 ?_
  refine lv_iload_n hx hb dX7_init_109 rfl (lv_at hl 0 rfl) ?_
  refine va_new (ci := 5) (fs := [.null, .int 0, .int 0]) (C := RX5) (T := TX5) (N := 3) hx hb hT inX5 tyX5 tyX5_ok hown (hT _ q_2_44) (hT _ q_2_46) (hT _ q_1_9) hK hP hD hS hA rfl (fun j hj => by rcases (show j = 0 ∨ j = 1 ∨ j = 2 by omega) with rfl | rfl | rfl <;> rfl) (Nat.le_of_ble_eq_true rfl) (Nat.le_of_ble_eq_true rfl) dX7_init_110 (fun q110_0 H hP hD hS => ?_)
  refine W.widen (k := 36) (n := 3477) (Nat.le_of_ble_eq_true rfl) (Nat.le_of_ble_eq_true rfl) ?_
  refine lv_dup hx hb dX7_init_113 rfl ?_
  have hFc := free_last hD hS hA
  refine va_callv (va_runIN (As := []) (rest := [.ref q110_0, .int 0, .ref q92]) ⟨hx, hb, hml, hown, hT⟩ (c_X5_init q110_0 H.size) ⟨va_cnB 0 hT (wso_in q_2_49) rfl rfl rfl hNw (hT _ q_1_9) ⟨by decide +kernel, by decide +kernel, by decide +kernel⟩ ⟨Nat.le_of_ble_eq_true rfl, Nat.le_of_ble_eq_true rfl⟩, rfl, hT _ q_2_48⟩ ⟨Pk_blind, fun U hU hW => ⟨rfl, by rw [hU], by rw [hU]; exact P_last hP, va_K.moved hW.alike (hK.sub (tys' := []) [] rfl)⟩⟩ rfl rfl hl.1 rfl (lv_room (Nat.le_of_ble_eq_true rfl)) dX7_init_114 ⟨Nat.le_of_ble_eq_true rfl, Nat.le_of_ble_eq_true rfl⟩) hS (fun q _ h => hFc q h) hFc (fun u t H1 locs ht hvm hw hB hz1 hk1 hS => ?_)
  obtain ⟨u114_0, k114_0⟩ := u
  obtain ⟨hP1, hK1, hD1⟩ := hB
  rw [ht] at hP1
  have hK1 := va_K.moved hvm.symm hK1
  obtain ⟨hP, hD⟩ := join_last hP hD hk1 hFc hP1 hD1
  have hK := hK.app hK1
  generalize H1 = H at hP hS ⊢
  have hP : va_P D vwCl (((((((([(h0, .inr (7, [.ref (u9 0), .ref q16, .ref q31, .ref q46, .ref q61, .ref q76, .ref q92, .int 0]))] ++ wH u9 k9 (va_up (va_up (va_up (fun _ => (0 : Int32)) 0 o0) 1 o1) 2 o2) (va_up (va_up (va_up (va_up (va_up (va_up (fun _ _ => (0 : Int32)) 1 o3) 2 o4) 3 o5) 4 o6) 5 o7) 6 o8) (fun _ _ _ => (0 : Int32))) ++ cs_X0 q16 (u9 0) u24 k24) ++ cs_X1 q31 (u9 0) u39 k39) ++ cs_X6 q46 (u9 0) u54 k54) ++ cs_X2 q61 (u9 0) u69 k69) ++ cs_X4 q76 (u9 0) u84 k84) ++ [(q92, .inl (k92, 4, .inr (.inr (.inr (.inr (fun _ => none))))))]) ++ cs_X5 q110_0 u114_0 k114_0) H := hP
  have hD : va_D A (((((((([(h0, .inr (7, [.ref (u9 0), .ref q16, .ref q31, .ref q46, .ref q61, .ref q76, .ref q92, .int 0]))] ++ wH u9 k9 (va_up (va_up (va_up (fun _ => (0 : Int32)) 0 o0) 1 o1) 2 o2) (va_up (va_up (va_up (va_up (va_up (va_up (fun _ _ => (0 : Int32)) 1 o3) 2 o4) 3 o5) 4 o6) 5 o7) 6 o8) (fun _ _ _ => (0 : Int32))) ++ cs_X0 q16 (u9 0) u24 k24) ++ cs_X1 q31 (u9 0) u39 k39) ++ cs_X6 q46 (u9 0) u54 k54) ++ cs_X2 q61 (u9 0) u69 k69) ++ cs_X4 q76 (u9 0) u84 k84) ++ [(q92, .inl (k92, 4, .inr (.inr (.inr (.inr (fun _ => none))))))]) ++ cs_X5 q110_0 u114_0 k114_0) := hD
  have hK : va_K D vwCl ((((((((tyH k9) ++ ts_X0 k24) ++ ts_X1 k39) ++ ts_X6 k54) ++ ts_X2 k69) ++ ts_X4 k84) ++ [(k92, .object "LostTicket$Sheet")]) ++ ts_X5 k114_0) s := hK
  refine W.widen (k := 37) (n := 3537) (Nat.le_of_ble_eq_true rfl) (Nat.le_of_ble_eq_true rfl) ?_
  refine va_astq hx hb hK hP hD hS 35 28 36 5 rfl rfl rfl rfl (i := 0) (inB_in (by decide)) dX7_init_117 (fun H locs hP hD hS => ?_)
  have hP : va_P D vwCl (((((((([(h0, .inr (7, [.ref (u9 0), .ref q16, .ref q31, .ref q46, .ref q61, .ref q76, .ref q92, .int 0]))] ++ wH u9 k9 (va_up (va_up (va_up (fun _ => (0 : Int32)) 0 o0) 1 o1) 2 o2) (va_up (va_up (va_up (va_up (va_up (va_up (fun _ _ => (0 : Int32)) 1 o3) 2 o4) 3 o5) 4 o6) 5 o7) 6 o8) (fun _ _ _ => (0 : Int32))) ++ cs_X0 q16 (u9 0) u24 k24) ++ cs_X1 q31 (u9 0) u39 k39) ++ cs_X6 q46 (u9 0) u54 k54) ++ cs_X2 q61 (u9 0) u69 k69) ++ cs_X4 q76 (u9 0) u84 k84) ++ [(q92, .inl (k92, 4, .inr (.inr (.inr (.inr (va_up (fun _ => none) 0 (some q110_0)))))))]) ++ cs_X5 q110_0 u114_0 k114_0) H := hP
  have hD : va_D A (((((((([(h0, .inr (7, [.ref (u9 0), .ref q16, .ref q31, .ref q46, .ref q61, .ref q76, .ref q92, .int 0]))] ++ wH u9 k9 (va_up (va_up (va_up (fun _ => (0 : Int32)) 0 o0) 1 o1) 2 o2) (va_up (va_up (va_up (va_up (va_up (va_up (fun _ _ => (0 : Int32)) 1 o3) 2 o4) 3 o5) 4 o6) 5 o7) 6 o8) (fun _ _ _ => (0 : Int32))) ++ cs_X0 q16 (u9 0) u24 k24) ++ cs_X1 q31 (u9 0) u39 k39) ++ cs_X6 q46 (u9 0) u54 k54) ++ cs_X2 q61 (u9 0) u69 k69) ++ cs_X4 q76 (u9 0) u84 k84) ++ [(q92, .inl (k92, 4, .inr (.inr (.inr (.inr (va_up (fun _ => none) 0 (some q110_0)))))))]) ++ cs_X5 q110_0 u114_0 k114_0) := hD
  refine lv_iinc (v := 1) (lv' := [(1, .int 1), (0, .ref h0)]) hx hb dX7_init_118 hl (k := 0) rfl (by decide) (by decide) rfl (fun ls hl => ?_)
  refine lv_goto (tgt := 100) hx hb dX7_init_121 (by decide) ?_
  refine lv_iload_n hx hb dX7_init_100 rfl (lv_at hl 0 rfl) ?_
  refine lv_iconst (v := 4) hx hb dX7_init_101 (by decide) ?_
  refine lv_icmp_ge (tgt := 124) hx hb dX7_init_102 (by decide) (fun h => absurd h (by decide)) (fun _ => ?_)
  refine lv_aload_n hx hb dX7_init_105 rfl (lv_at hl 1 rfl) ?_
  refine va_get (ci := 7) (v := .ref q92) (C := RX7) (T := TX7) (N := 8) hx hb hT inX7 hown hK hP 0 rfl rfl 6 (by decide) (hT _ q_2_70) (fun _ h9 => h9) rfl dX7_init_106 ?_
  refine lv_iload_n hx hb dX7_init_109 rfl (lv_at hl 0 rfl) ?_
  refine va_new (ci := 5) (fs := [.null, .int 0, .int 0]) (C := RX5) (T := TX5) (N := 3) hx hb hT inX5 tyX5 tyX5_ok hown (hT _ q_2_44) (hT _ q_2_46) (hT _ q_1_9) hK hP hD hS hA rfl (fun j hj => by rcases (show j = 0 ∨ j = 1 ∨ j = 2 by omega) with rfl | rfl | rfl <;> rfl) (Nat.le_of_ble_eq_true rfl) (Nat.le_of_ble_eq_true rfl) dX7_init_110 (fun q110_1 H hP hD hS => ?_)
  refine W.widen (k := 38) (n := 3540) (Nat.le_of_ble_eq_true rfl) (Nat.le_of_ble_eq_true rfl) ?_
  refine lv_dup hx hb dX7_init_113 rfl ?_
  have hFc := free_last hD hS hA
  refine va_callv (va_runIN (As := []) (rest := [.ref q110_1, .int 1, .ref q92]) ⟨hx, hb, hml, hown, hT⟩ (c_X5_init q110_1 H.size) ⟨va_cnB 0 hT (wso_in q_2_49) rfl rfl rfl hNw (hT _ q_1_9) ⟨by decide +kernel, by decide +kernel, by decide +kernel⟩ ⟨Nat.le_of_ble_eq_true rfl, Nat.le_of_ble_eq_true rfl⟩, rfl, hT _ q_2_48⟩ ⟨Pk_blind, fun U hU hW => ⟨rfl, by rw [hU], by rw [hU]; exact P_last hP, va_K.moved hW.alike (hK.sub (tys' := []) [] rfl)⟩⟩ rfl rfl hl.1 rfl (lv_room (Nat.le_of_ble_eq_true rfl)) dX7_init_114 ⟨Nat.le_of_ble_eq_true rfl, Nat.le_of_ble_eq_true rfl⟩) hS (fun q _ h => hFc q h) hFc (fun u t H1 locs ht hvm hw hB hz1 hk1 hS => ?_)
  obtain ⟨u114_1, k114_1⟩ := u
  obtain ⟨hP1, hK1, hD1⟩ := hB
  rw [ht] at hP1
  have hK1 := va_K.moved hvm.symm hK1
  obtain ⟨hP, hD⟩ := join_last hP hD hk1 hFc hP1 hD1
  have hK := hK.app hK1
  generalize H1 = H at hP hS ⊢
  have hP : va_P D vwCl ((((((((([(h0, .inr (7, [.ref (u9 0), .ref q16, .ref q31, .ref q46, .ref q61, .ref q76, .ref q92, .int 0]))] ++ wH u9 k9 (va_up (va_up (va_up (fun _ => (0 : Int32)) 0 o0) 1 o1) 2 o2) (va_up (va_up (va_up (va_up (va_up (va_up (fun _ _ => (0 : Int32)) 1 o3) 2 o4) 3 o5) 4 o6) 5 o7) 6 o8) (fun _ _ _ => (0 : Int32))) ++ cs_X0 q16 (u9 0) u24 k24) ++ cs_X1 q31 (u9 0) u39 k39) ++ cs_X6 q46 (u9 0) u54 k54) ++ cs_X2 q61 (u9 0) u69 k69) ++ cs_X4 q76 (u9 0) u84 k84) ++ [(q92, .inl (k92, 4, .inr (.inr (.inr (.inr (va_up (fun _ => none) 0 (some q110_0)))))))]) ++ cs_X5 q110_0 u114_0 k114_0) ++ cs_X5 q110_1 u114_1 k114_1) H := hP
  have hD : va_D A ((((((((([(h0, .inr (7, [.ref (u9 0), .ref q16, .ref q31, .ref q46, .ref q61, .ref q76, .ref q92, .int 0]))] ++ wH u9 k9 (va_up (va_up (va_up (fun _ => (0 : Int32)) 0 o0) 1 o1) 2 o2) (va_up (va_up (va_up (va_up (va_up (va_up (fun _ _ => (0 : Int32)) 1 o3) 2 o4) 3 o5) 4 o6) 5 o7) 6 o8) (fun _ _ _ => (0 : Int32))) ++ cs_X0 q16 (u9 0) u24 k24) ++ cs_X1 q31 (u9 0) u39 k39) ++ cs_X6 q46 (u9 0) u54 k54) ++ cs_X2 q61 (u9 0) u69 k69) ++ cs_X4 q76 (u9 0) u84 k84) ++ [(q92, .inl (k92, 4, .inr (.inr (.inr (.inr (va_up (fun _ => none) 0 (some q110_0)))))))]) ++ cs_X5 q110_0 u114_0 k114_0) ++ cs_X5 q110_1 u114_1 k114_1) := hD
  have hK : va_K D vwCl (((((((((tyH k9) ++ ts_X0 k24) ++ ts_X1 k39) ++ ts_X6 k54) ++ ts_X2 k69) ++ ts_X4 k84) ++ [(k92, .object "LostTicket$Sheet")]) ++ ts_X5 k114_0) ++ ts_X5 k114_1) s := hK
  refine W.widen (k := 39) (n := 3600) (Nat.le_of_ble_eq_true rfl) (Nat.le_of_ble_eq_true rfl) ?_
  refine va_astq hx hb hK hP hD hS 35 28 38 5 rfl rfl rfl rfl (i := 1) (inB_in (by decide)) dX7_init_117 (fun H locs hP hD hS => ?_)
  have hP : va_P D vwCl ((((((((([(h0, .inr (7, [.ref (u9 0), .ref q16, .ref q31, .ref q46, .ref q61, .ref q76, .ref q92, .int 0]))] ++ wH u9 k9 (va_up (va_up (va_up (fun _ => (0 : Int32)) 0 o0) 1 o1) 2 o2) (va_up (va_up (va_up (va_up (va_up (va_up (fun _ _ => (0 : Int32)) 1 o3) 2 o4) 3 o5) 4 o6) 5 o7) 6 o8) (fun _ _ _ => (0 : Int32))) ++ cs_X0 q16 (u9 0) u24 k24) ++ cs_X1 q31 (u9 0) u39 k39) ++ cs_X6 q46 (u9 0) u54 k54) ++ cs_X2 q61 (u9 0) u69 k69) ++ cs_X4 q76 (u9 0) u84 k84) ++ [(q92, .inl (k92, 4, .inr (.inr (.inr (.inr (va_up (va_up (fun _ => none) 0 (some q110_0)) 1 (some q110_1)))))))]) ++ cs_X5 q110_0 u114_0 k114_0) ++ cs_X5 q110_1 u114_1 k114_1) H := hP
  have hD : va_D A ((((((((([(h0, .inr (7, [.ref (u9 0), .ref q16, .ref q31, .ref q46, .ref q61, .ref q76, .ref q92, .int 0]))] ++ wH u9 k9 (va_up (va_up (va_up (fun _ => (0 : Int32)) 0 o0) 1 o1) 2 o2) (va_up (va_up (va_up (va_up (va_up (va_up (fun _ _ => (0 : Int32)) 1 o3) 2 o4) 3 o5) 4 o6) 5 o7) 6 o8) (fun _ _ _ => (0 : Int32))) ++ cs_X0 q16 (u9 0) u24 k24) ++ cs_X1 q31 (u9 0) u39 k39) ++ cs_X6 q46 (u9 0) u54 k54) ++ cs_X2 q61 (u9 0) u69 k69) ++ cs_X4 q76 (u9 0) u84 k84) ++ [(q92, .inl (k92, 4, .inr (.inr (.inr (.inr (va_up (va_up (fun _ => none) 0 (some q110_0)) 1 (some q110_1)))))))]) ++ cs_X5 q110_0 u114_0 k114_0) ++ cs_X5 q110_1 u114_1 k114_1) := hD
  refine lv_iinc (v := 2) (lv' := [(1, .int 2), (0, .ref h0)]) hx hb dX7_init_118 hl (k := 0) rfl (by decide) (by decide) rfl (fun ls hl => ?_)
  refine lv_goto (tgt := 100) hx hb dX7_init_121 (by decide) ?_
  refine lv_iload_n hx hb dX7_init_100 rfl (lv_at hl 0 rfl) ?_
  refine lv_iconst (v := 4) hx hb dX7_init_101 (by decide) ?_
  refine lv_icmp_ge (tgt := 124) hx hb dX7_init_102 (by decide) (fun h => absurd h (by decide)) (fun _ => ?_)
  refine lv_aload_n hx hb dX7_init_105 rfl (lv_at hl 1 rfl) ?_
  refine va_get (ci := 7) (v := .ref q92) (C := RX7) (T := TX7) (N := 8) hx hb hT inX7 hown hK hP 0 rfl rfl 6 (by decide) (hT _ q_2_70) (fun _ h9 => h9) rfl dX7_init_106 ?_
  refine lv_iload_n hx hb dX7_init_109 rfl (lv_at hl 0 rfl) ?_
  refine va_new (ci := 5) (fs := [.null, .int 0, .int 0]) (C := RX5) (T := TX5) (N := 3) hx hb hT inX5 tyX5 tyX5_ok hown (hT _ q_2_44) (hT _ q_2_46) (hT _ q_1_9) hK hP hD hS hA rfl (fun j hj => by rcases (show j = 0 ∨ j = 1 ∨ j = 2 by omega) with rfl | rfl | rfl <;> rfl) (Nat.le_of_ble_eq_true rfl) (Nat.le_of_ble_eq_true rfl) dX7_init_110 (fun q110_2 H hP hD hS => ?_)
  refine W.widen (k := 40) (n := 3603) (Nat.le_of_ble_eq_true rfl) (Nat.le_of_ble_eq_true rfl) ?_
  refine lv_dup hx hb dX7_init_113 rfl ?_
  have hFc := free_last hD hS hA
  refine va_callv (va_runIN (As := []) (rest := [.ref q110_2, .int 2, .ref q92]) ⟨hx, hb, hml, hown, hT⟩ (c_X5_init q110_2 H.size) ⟨va_cnB 0 hT (wso_in q_2_49) rfl rfl rfl hNw (hT _ q_1_9) ⟨by decide +kernel, by decide +kernel, by decide +kernel⟩ ⟨Nat.le_of_ble_eq_true rfl, Nat.le_of_ble_eq_true rfl⟩, rfl, hT _ q_2_48⟩ ⟨Pk_blind, fun U hU hW => ⟨rfl, by rw [hU], by rw [hU]; exact P_last hP, va_K.moved hW.alike (hK.sub (tys' := []) [] rfl)⟩⟩ rfl rfl hl.1 rfl (lv_room (Nat.le_of_ble_eq_true rfl)) dX7_init_114 ⟨Nat.le_of_ble_eq_true rfl, Nat.le_of_ble_eq_true rfl⟩) hS (fun q _ h => hFc q h) hFc (fun u t H1 locs ht hvm hw hB hz1 hk1 hS => ?_)
  obtain ⟨u114_2, k114_2⟩ := u
  obtain ⟨hP1, hK1, hD1⟩ := hB
  rw [ht] at hP1
  have hK1 := va_K.moved hvm.symm hK1
  obtain ⟨hP, hD⟩ := join_last hP hD hk1 hFc hP1 hD1
  have hK := hK.app hK1
  generalize H1 = H at hP hS ⊢
  have hP : va_P D vwCl (((((((((([(h0, .inr (7, [.ref (u9 0), .ref q16, .ref q31, .ref q46, .ref q61, .ref q76, .ref q92, .int 0]))] ++ wH u9 k9 (va_up (va_up (va_up (fun _ => (0 : Int32)) 0 o0) 1 o1) 2 o2) (va_up (va_up (va_up (va_up (va_up (va_up (fun _ _ => (0 : Int32)) 1 o3) 2 o4) 3 o5) 4 o6) 5 o7) 6 o8) (fun _ _ _ => (0 : Int32))) ++ cs_X0 q16 (u9 0) u24 k24) ++ cs_X1 q31 (u9 0) u39 k39) ++ cs_X6 q46 (u9 0) u54 k54) ++ cs_X2 q61 (u9 0) u69 k69) ++ cs_X4 q76 (u9 0) u84 k84) ++ [(q92, .inl (k92, 4, .inr (.inr (.inr (.inr (va_up (va_up (fun _ => none) 0 (some q110_0)) 1 (some q110_1)))))))]) ++ cs_X5 q110_0 u114_0 k114_0) ++ cs_X5 q110_1 u114_1 k114_1) ++ cs_X5 q110_2 u114_2 k114_2) H := hP
  have hD : va_D A (((((((((([(h0, .inr (7, [.ref (u9 0), .ref q16, .ref q31, .ref q46, .ref q61, .ref q76, .ref q92, .int 0]))] ++ wH u9 k9 (va_up (va_up (va_up (fun _ => (0 : Int32)) 0 o0) 1 o1) 2 o2) (va_up (va_up (va_up (va_up (va_up (va_up (fun _ _ => (0 : Int32)) 1 o3) 2 o4) 3 o5) 4 o6) 5 o7) 6 o8) (fun _ _ _ => (0 : Int32))) ++ cs_X0 q16 (u9 0) u24 k24) ++ cs_X1 q31 (u9 0) u39 k39) ++ cs_X6 q46 (u9 0) u54 k54) ++ cs_X2 q61 (u9 0) u69 k69) ++ cs_X4 q76 (u9 0) u84 k84) ++ [(q92, .inl (k92, 4, .inr (.inr (.inr (.inr (va_up (va_up (fun _ => none) 0 (some q110_0)) 1 (some q110_1)))))))]) ++ cs_X5 q110_0 u114_0 k114_0) ++ cs_X5 q110_1 u114_1 k114_1) ++ cs_X5 q110_2 u114_2 k114_2) := hD
  have hK : va_K D vwCl ((((((((((tyH k9) ++ ts_X0 k24) ++ ts_X1 k39) ++ ts_X6 k54) ++ ts_X2 k69) ++ ts_X4 k84) ++ [(k92, .object "LostTicket$Sheet")]) ++ ts_X5 k114_0) ++ ts_X5 k114_1) ++ ts_X5 k114_2) s := hK
  refine W.widen (k := 41) (n := 3663) (Nat.le_of_ble_eq_true rfl) (Nat.le_of_ble_eq_true rfl) ?_
  refine va_astq hx hb hK hP hD hS 35 28 40 5 rfl rfl rfl rfl (i := 2) (inB_in (by decide)) dX7_init_117 (fun H locs hP hD hS => ?_)
  have hP : va_P D vwCl (((((((((([(h0, .inr (7, [.ref (u9 0), .ref q16, .ref q31, .ref q46, .ref q61, .ref q76, .ref q92, .int 0]))] ++ wH u9 k9 (va_up (va_up (va_up (fun _ => (0 : Int32)) 0 o0) 1 o1) 2 o2) (va_up (va_up (va_up (va_up (va_up (va_up (fun _ _ => (0 : Int32)) 1 o3) 2 o4) 3 o5) 4 o6) 5 o7) 6 o8) (fun _ _ _ => (0 : Int32))) ++ cs_X0 q16 (u9 0) u24 k24) ++ cs_X1 q31 (u9 0) u39 k39) ++ cs_X6 q46 (u9 0) u54 k54) ++ cs_X2 q61 (u9 0) u69 k69) ++ cs_X4 q76 (u9 0) u84 k84) ++ [(q92, .inl (k92, 4, .inr (.inr (.inr (.inr (va_up (va_up (va_up (fun _ => none) 0 (some q110_0)) 1 (some q110_1)) 2 (some q110_2)))))))]) ++ cs_X5 q110_0 u114_0 k114_0) ++ cs_X5 q110_1 u114_1 k114_1) ++ cs_X5 q110_2 u114_2 k114_2) H := hP
  have hD : va_D A (((((((((([(h0, .inr (7, [.ref (u9 0), .ref q16, .ref q31, .ref q46, .ref q61, .ref q76, .ref q92, .int 0]))] ++ wH u9 k9 (va_up (va_up (va_up (fun _ => (0 : Int32)) 0 o0) 1 o1) 2 o2) (va_up (va_up (va_up (va_up (va_up (va_up (fun _ _ => (0 : Int32)) 1 o3) 2 o4) 3 o5) 4 o6) 5 o7) 6 o8) (fun _ _ _ => (0 : Int32))) ++ cs_X0 q16 (u9 0) u24 k24) ++ cs_X1 q31 (u9 0) u39 k39) ++ cs_X6 q46 (u9 0) u54 k54) ++ cs_X2 q61 (u9 0) u69 k69) ++ cs_X4 q76 (u9 0) u84 k84) ++ [(q92, .inl (k92, 4, .inr (.inr (.inr (.inr (va_up (va_up (va_up (fun _ => none) 0 (some q110_0)) 1 (some q110_1)) 2 (some q110_2)))))))]) ++ cs_X5 q110_0 u114_0 k114_0) ++ cs_X5 q110_1 u114_1 k114_1) ++ cs_X5 q110_2 u114_2 k114_2) := hD
  refine lv_iinc (v := 3) (lv' := [(1, .int 3), (0, .ref h0)]) hx hb dX7_init_118 hl (k := 0) rfl (by decide) (by decide) rfl (fun ls hl => ?_)
  refine lv_goto (tgt := 100) hx hb dX7_init_121 (by decide) ?_
  refine lv_iload_n hx hb dX7_init_100 rfl (lv_at hl 0 rfl) ?_
  refine lv_iconst (v := 4) hx hb dX7_init_101 (by decide) ?_
  refine lv_icmp_ge (tgt := 124) hx hb dX7_init_102 (by decide) (fun h => absurd h (by decide)) (fun _ => ?_)
  refine lv_aload_n hx hb dX7_init_105 rfl (lv_at hl 1 rfl) ?_
  refine va_get (ci := 7) (v := .ref q92) (C := RX7) (T := TX7) (N := 8) hx hb hT inX7 hown hK hP 0 rfl rfl 6 (by decide) (hT _ q_2_70) (fun _ h9 => h9) rfl dX7_init_106 ?_
  refine lv_iload_n hx hb dX7_init_109 rfl (lv_at hl 0 rfl) ?_
  refine va_new (ci := 5) (fs := [.null, .int 0, .int 0]) (C := RX5) (T := TX5) (N := 3) hx hb hT inX5 tyX5 tyX5_ok hown (hT _ q_2_44) (hT _ q_2_46) (hT _ q_1_9) hK hP hD hS hA rfl (fun j hj => by rcases (show j = 0 ∨ j = 1 ∨ j = 2 by omega) with rfl | rfl | rfl <;> rfl) (Nat.le_of_ble_eq_true rfl) (Nat.le_of_ble_eq_true rfl) dX7_init_110 (fun q110_3 H hP hD hS => ?_)
  refine W.widen (k := 42) (n := 3666) (Nat.le_of_ble_eq_true rfl) (Nat.le_of_ble_eq_true rfl) ?_
  refine lv_dup hx hb dX7_init_113 rfl ?_
  have hFc := free_last hD hS hA
  refine va_callv (va_runIN (As := []) (rest := [.ref q110_3, .int 3, .ref q92]) ⟨hx, hb, hml, hown, hT⟩ (c_X5_init q110_3 H.size) ⟨va_cnB 0 hT (wso_in q_2_49) rfl rfl rfl hNw (hT _ q_1_9) ⟨by decide +kernel, by decide +kernel, by decide +kernel⟩ ⟨Nat.le_of_ble_eq_true rfl, Nat.le_of_ble_eq_true rfl⟩, rfl, hT _ q_2_48⟩ ⟨Pk_blind, fun U hU hW => ⟨rfl, by rw [hU], by rw [hU]; exact P_last hP, va_K.moved hW.alike (hK.sub (tys' := []) [] rfl)⟩⟩ rfl rfl hl.1 rfl (lv_room (Nat.le_of_ble_eq_true rfl)) dX7_init_114 ⟨Nat.le_of_ble_eq_true rfl, Nat.le_of_ble_eq_true rfl⟩) hS (fun q _ h => hFc q h) hFc (fun u t H1 locs ht hvm hw hB hz1 hk1 hS => ?_)
  obtain ⟨u114_3, k114_3⟩ := u
  obtain ⟨hP1, hK1, hD1⟩ := hB
  rw [ht] at hP1
  have hK1 := va_K.moved hvm.symm hK1
  obtain ⟨hP, hD⟩ := join_last hP hD hk1 hFc hP1 hD1
  have hK := hK.app hK1
  generalize H1 = H at hP hS ⊢
  have hP : va_P D vwCl ((((((((((([(h0, .inr (7, [.ref (u9 0), .ref q16, .ref q31, .ref q46, .ref q61, .ref q76, .ref q92, .int 0]))] ++ wH u9 k9 (va_up (va_up (va_up (fun _ => (0 : Int32)) 0 o0) 1 o1) 2 o2) (va_up (va_up (va_up (va_up (va_up (va_up (fun _ _ => (0 : Int32)) 1 o3) 2 o4) 3 o5) 4 o6) 5 o7) 6 o8) (fun _ _ _ => (0 : Int32))) ++ cs_X0 q16 (u9 0) u24 k24) ++ cs_X1 q31 (u9 0) u39 k39) ++ cs_X6 q46 (u9 0) u54 k54) ++ cs_X2 q61 (u9 0) u69 k69) ++ cs_X4 q76 (u9 0) u84 k84) ++ [(q92, .inl (k92, 4, .inr (.inr (.inr (.inr (va_up (va_up (va_up (fun _ => none) 0 (some q110_0)) 1 (some q110_1)) 2 (some q110_2)))))))]) ++ cs_X5 q110_0 u114_0 k114_0) ++ cs_X5 q110_1 u114_1 k114_1) ++ cs_X5 q110_2 u114_2 k114_2) ++ cs_X5 q110_3 u114_3 k114_3) H := hP
  have hD : va_D A ((((((((((([(h0, .inr (7, [.ref (u9 0), .ref q16, .ref q31, .ref q46, .ref q61, .ref q76, .ref q92, .int 0]))] ++ wH u9 k9 (va_up (va_up (va_up (fun _ => (0 : Int32)) 0 o0) 1 o1) 2 o2) (va_up (va_up (va_up (va_up (va_up (va_up (fun _ _ => (0 : Int32)) 1 o3) 2 o4) 3 o5) 4 o6) 5 o7) 6 o8) (fun _ _ _ => (0 : Int32))) ++ cs_X0 q16 (u9 0) u24 k24) ++ cs_X1 q31 (u9 0) u39 k39) ++ cs_X6 q46 (u9 0) u54 k54) ++ cs_X2 q61 (u9 0) u69 k69) ++ cs_X4 q76 (u9 0) u84 k84) ++ [(q92, .inl (k92, 4, .inr (.inr (.inr (.inr (va_up (va_up (va_up (fun _ => none) 0 (some q110_0)) 1 (some q110_1)) 2 (some q110_2)))))))]) ++ cs_X5 q110_0 u114_0 k114_0) ++ cs_X5 q110_1 u114_1 k114_1) ++ cs_X5 q110_2 u114_2 k114_2) ++ cs_X5 q110_3 u114_3 k114_3) := hD
  have hK : va_K D vwCl (((((((((((tyH k9) ++ ts_X0 k24) ++ ts_X1 k39) ++ ts_X6 k54) ++ ts_X2 k69) ++ ts_X4 k84) ++ [(k92, .object "LostTicket$Sheet")]) ++ ts_X5 k114_0) ++ ts_X5 k114_1) ++ ts_X5 k114_2) ++ ts_X5 k114_3) s := hK
  refine W.widen (k := 43) (n := 3726) (Nat.le_of_ble_eq_true rfl) (Nat.le_of_ble_eq_true rfl) ?_
  refine va_astq hx hb hK hP hD hS 35 28 42 5 rfl rfl rfl rfl (i := 3) (inB_in (by decide)) dX7_init_117 (fun H locs hP hD hS => ?_)
  have hP : va_P D vwCl ((((((((((([(h0, .inr (7, [.ref (u9 0), .ref q16, .ref q31, .ref q46, .ref q61, .ref q76, .ref q92, .int 0]))] ++ wH u9 k9 (va_up (va_up (va_up (fun _ => (0 : Int32)) 0 o0) 1 o1) 2 o2) (va_up (va_up (va_up (va_up (va_up (va_up (fun _ _ => (0 : Int32)) 1 o3) 2 o4) 3 o5) 4 o6) 5 o7) 6 o8) (fun _ _ _ => (0 : Int32))) ++ cs_X0 q16 (u9 0) u24 k24) ++ cs_X1 q31 (u9 0) u39 k39) ++ cs_X6 q46 (u9 0) u54 k54) ++ cs_X2 q61 (u9 0) u69 k69) ++ cs_X4 q76 (u9 0) u84 k84) ++ [(q92, .inl (k92, 4, .inr (.inr (.inr (.inr (va_up (va_up (va_up (va_up (fun _ => none) 0 (some q110_0)) 1 (some q110_1)) 2 (some q110_2)) 3 (some q110_3)))))))]) ++ cs_X5 q110_0 u114_0 k114_0) ++ cs_X5 q110_1 u114_1 k114_1) ++ cs_X5 q110_2 u114_2 k114_2) ++ cs_X5 q110_3 u114_3 k114_3) H := hP
  have hD : va_D A ((((((((((([(h0, .inr (7, [.ref (u9 0), .ref q16, .ref q31, .ref q46, .ref q61, .ref q76, .ref q92, .int 0]))] ++ wH u9 k9 (va_up (va_up (va_up (fun _ => (0 : Int32)) 0 o0) 1 o1) 2 o2) (va_up (va_up (va_up (va_up (va_up (va_up (fun _ _ => (0 : Int32)) 1 o3) 2 o4) 3 o5) 4 o6) 5 o7) 6 o8) (fun _ _ _ => (0 : Int32))) ++ cs_X0 q16 (u9 0) u24 k24) ++ cs_X1 q31 (u9 0) u39 k39) ++ cs_X6 q46 (u9 0) u54 k54) ++ cs_X2 q61 (u9 0) u69 k69) ++ cs_X4 q76 (u9 0) u84 k84) ++ [(q92, .inl (k92, 4, .inr (.inr (.inr (.inr (va_up (va_up (va_up (va_up (fun _ => none) 0 (some q110_0)) 1 (some q110_1)) 2 (some q110_2)) 3 (some q110_3)))))))]) ++ cs_X5 q110_0 u114_0 k114_0) ++ cs_X5 q110_1 u114_1 k114_1) ++ cs_X5 q110_2 u114_2 k114_2) ++ cs_X5 q110_3 u114_3 k114_3) := hD
  refine lv_iinc (v := 4) (lv' := [(1, .int 4), (0, .ref h0)]) hx hb dX7_init_118 hl (k := 0) rfl (by decide) (by decide) rfl (fun ls hl => ?_)
  refine lv_goto (tgt := 100) hx hb dX7_init_121 (by decide) ?_
  refine lv_iload_n hx hb dX7_init_100 rfl (lv_at hl 0 rfl) ?_
  refine lv_iconst (v := 4) hx hb dX7_init_101 (by decide) ?_
  refine lv_icmp_ge (tgt := 124) hx hb dX7_init_102 (by decide) (fun _ => ?_) (fun h => absurd (by decide) h)
  refine lv_aload_n hx hb dX7_init_124 rfl (lv_at hl 1 rfl) ?_
  refine lv_iconst (v := 0) hx hb dX7_init_125 (by decide) ?_
  refine va_put (ci := 7) (v := .int 0) (ty := .int) (C := RX7) (T := TX7) (N := 8) hx hb hT inX7 tyX7 tyX7_ok nmX7 hown hK hP hD hS 0 rfl rfl 7 (by decide) (hT _ q_2_71) (fun _ h9 => h9) rfl (by decide +kernel) rfl rfl (Nat.le_of_ble_eq_true rfl) dX7_init_126 (fun H locs hP hD hS => ?_)
  have hP : va_P D vwCl ((((((((((([(h0, .inr (7, [.ref (u9 0), .ref q16, .ref q31, .ref q46, .ref q61, .ref q76, .ref q92, .int 0]))] ++ wH u9 k9 (va_up (va_up (va_up (fun _ => (0 : Int32)) 0 o0) 1 o1) 2 o2) (va_up (va_up (va_up (va_up (va_up (va_up (fun _ _ => (0 : Int32)) 1 o3) 2 o4) 3 o5) 4 o6) 5 o7) 6 o8) (fun _ _ _ => (0 : Int32))) ++ cs_X0 q16 (u9 0) u24 k24) ++ cs_X1 q31 (u9 0) u39 k39) ++ cs_X6 q46 (u9 0) u54 k54) ++ cs_X2 q61 (u9 0) u69 k69) ++ cs_X4 q76 (u9 0) u84 k84) ++ [(q92, .inl (k92, 4, .inr (.inr (.inr (.inr (va_up (va_up (va_up (va_up (fun _ => none) 0 (some q110_0)) 1 (some q110_1)) 2 (some q110_2)) 3 (some q110_3)))))))]) ++ cs_X5 q110_0 u114_0 k114_0) ++ cs_X5 q110_1 u114_1 k114_1) ++ cs_X5 q110_2 u114_2 k114_2) ++ cs_X5 q110_3 u114_3 k114_3) H := hP
  have hD : va_D A ((((((((((([(h0, .inr (7, [.ref (u9 0), .ref q16, .ref q31, .ref q46, .ref q61, .ref q76, .ref q92, .int 0]))] ++ wH u9 k9 (va_up (va_up (va_up (fun _ => (0 : Int32)) 0 o0) 1 o1) 2 o2) (va_up (va_up (va_up (va_up (va_up (va_up (fun _ _ => (0 : Int32)) 1 o3) 2 o4) 3 o5) 4 o6) 5 o7) 6 o8) (fun _ _ _ => (0 : Int32))) ++ cs_X0 q16 (u9 0) u24 k24) ++ cs_X1 q31 (u9 0) u39 k39) ++ cs_X6 q46 (u9 0) u54 k54) ++ cs_X2 q61 (u9 0) u69 k69) ++ cs_X4 q76 (u9 0) u84 k84) ++ [(q92, .inl (k92, 4, .inr (.inr (.inr (.inr (va_up (va_up (va_up (va_up (fun _ => none) 0 (some q110_0)) 1 (some q110_1)) 2 (some q110_2)) 3 (some q110_3)))))))]) ++ cs_X5 q110_0 u114_0 k114_0) ++ cs_X5 q110_1 u114_1 k114_1) ++ cs_X5 q110_2 u114_2 k114_2) ++ cs_X5 q110_3 u114_3 k114_3) := hD
  obtain ⟨a, ea⟩ : ∃ a : Nat → Nat, a = fun j => ([u9 0, u9 1, u9 2, u9 3, u9 4, u9 5, u9 6, u9 7, u9 8, u9 9, u9 10, q16, u24 0, u24 1, u24 2, u24 3, u24 4, q31, u39 0, u39 1, u39 2, u39 3, q46, u54 0, u54 1, u54 2, u54 3, u54 4, u54 5, u54 6, q61, u69 0, q76, u84 0, h0, q92, q110_0, q110_1, q110_2, q110_3, u114_0 0, u114_1 0, u114_2 0, u114_3 0] : List Nat).getD j 0 := ⟨_, rfl⟩
  obtain ⟨kc, ek⟩ : ∃ kc : Nat → ClassId, kc = fun j => ([k9 0, k9 1, k9 2, k9 3, k9 4, k9 5, k9 6, k9 7, k9 8, k9 9, k9 10, 0, k24 0, k24 1, k24 2, k24 3, k24 4, 0, k39 0, k39 1, k39 2, k39 3, 0, k54 0, k54 1, k54 2, k54 3, k54 4, k54 5, k54 6, 0, k69 0, 0, k84 0, 0, k92, 0, 0, 0, 0, k114_0 0, k114_1 0, k114_2 0, k114_3 0] : List Nat).getD j 0 := ⟨_, rfl⟩
  have eo : (va_up (va_up (va_up (va_up (fun _ => none) 0 (some q110_0)) 1 (some q110_1)) 2 (some q110_2)) 3 (some q110_3)) = (fun i => if i < 4 then some (a (36 + i)) else none) := by
    rw [ea]
    funext i
    by_cases h : i < 4
    · rcases (show i = 0 ∨ i = 1 ∨ i = 2 ∨ i = 3 by omega) with rfl | rfl | rfl | rfl <;> rfl
    · rw [if_neg h, va_up_ne _ _ (by omega), va_up_ne _ _ (by omega), va_up_ne _ _ (by omega), va_up_ne _ _ (by omega)]
  rw [eo] at hP hD
  have eb : (fun i => if i < 2 then some (u9 (2 + i)) else none) = (fun i => if i < 2 then some (a (2 + i)) else none) := by
    rw [ea]
    funext i
    by_cases h : i < 2
    · rcases (show i = 0 ∨ i = 1 by omega) with rfl | rfl <;> rfl
    · rw [if_neg h, if_neg h]
  have eH : wH u9 k9 (va_up (va_up (va_up (fun _ => (0 : Int32)) 0 o0) 1 o1) 2 o2) (va_up (va_up (va_up (va_up (va_up (va_up (fun _ _ => (0 : Int32)) 1 o3) 2 o4) 3 o5) 4 o6) 5 o7) 6 o8) (fun _ _ _ => (0 : Int32)) = wH2 u9 k9 a (va_up (va_up (va_up (fun _ => (0 : Int32)) 0 o0) 1 o1) 2 o2) (va_up (va_up (va_up (va_up (va_up (va_up (fun _ _ => (0 : Int32)) 1 o3) 2 o4) 3 o5) 4 o6) 5 o7) 6 o8) (fun _ _ _ => (0 : Int32)) := by unfold wH wH2; rw [eb]
  rw [eH] at hP hD
  have hPw : va_P D vwCl (wC a kc (va_up (va_up (va_up (fun _ => (0 : Int32)) 0 o0) 1 o1) 2 o2) (fun _ => (0 : Int64)) (va_up (va_up (va_up (va_up (va_up (va_up (va_up (fun _ _ => (0 : Int32)) 1 o3) 2 o4) 3 o5) 4 o6) 5 o7) 6 o8) 17 (fun _ => (-1 : Int32))) (fun _ _ => (0 : Int64)) (fun _ _ _ => (0 : Int32))) H := by subst ea; subst ek; exact hP.sub [1, 2, 3, 4, 5, 6, 7, 8, 9, 10, 11, 12, 13, 14, 15, 16, 17, 18, 19, 20, 21, 22, 23, 24, 25, 26, 27, 28, 29, 30, 31, 32, 33, 34, 0, 35, 36, 38, 40, 42, 37, 39, 41, 43] rfl
  have hDw : va_D A (wC a kc (va_up (va_up (va_up (fun _ => (0 : Int32)) 0 o0) 1 o1) 2 o2) (fun _ => (0 : Int64)) (va_up (va_up (va_up (va_up (va_up (va_up (va_up (fun _ _ => (0 : Int32)) 1 o3) 2 o4) 3 o5) 4 o6) 5 o7) 6 o8) 17 (fun _ => (-1 : Int32))) (fun _ _ => (0 : Int64)) (fun _ _ _ => (0 : Int32))) := by subst ea; subst ek; exact hD.sub [1, 2, 3, 4, 5, 6, 7, 8, 9, 10, 11, 12, 13, 14, 15, 16, 17, 18, 19, 20, 21, 22, 23, 24, 25, 26, 27, 28, 29, 30, 31, 32, 33, 34, 0, 35, 36, 38, 40, 42, 37, 39, 41, 43] (by decide) rfl
  have hKw : va_K D vwCl (tyC kc) s := by subst ek; exact hK
  have ea34 : a 34 = h0 := by rw [ea]; rfl
  exact W.vret hx hb hr (fun t ht hW => ⟨⟨(a, kc), rfl, ea34, by rw [ht]; exact hPw, va_K.moved hW.alike hKw, hDw⟩, hS.F ht⟩) hS.2.2 dX7_init_129
