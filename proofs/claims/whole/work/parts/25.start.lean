set_option maxHeartbeats 16000000 in
set_option maxRecDepth 100000 in
theorem whole_open {p : Program} {e : Env} {s : State} {m : MethodId} {below : List Frame} {meth : Method} {c : Code} (l : Launch) {b L : Nat} {xs : Nat → Int32} (hL : L ≤ 384) (C0 : lw_At p s m meth c b L xs) {o0 : Int32} {o1 : Int32} {o2 : Int32} {o3 : Nat → Int32} {o4 : Nat → Int32} {o5 : Nat → Int32} {o6 : Nat → Int32} {o7 : Nat → Int32} {o8 : Nat → Int32} (hf : p_X3_parse (0 : Int32) (0 : Int32) (0 : Int32) (fun _ => (0 : Int32)) (fun _ => (0 : Int32)) (fun _ => (0 : Int32)) (fun _ => (0 : Int32)) (fun _ => (0 : Int32)) (fun _ => (0 : Int32)) (fun _ => (0 : Int32)) (fun _ _ => (0 : Int32)) = some (o0, o1, o2, o3, o4, o5, o6, o7, o8)) {Rel : RelT} (hR0 : Rel (va_up (va_up (va_up (fun _ => (0 : Int32)) 0 o0) 1 o1) 2 o2) (fun _ => (0 : Int64)) (va_up (va_up (va_up (va_up (va_up (va_up (va_up (fun _ _ => (0 : Int32)) 1 o3) 2 o4) 3 o5) 4 o6) 5 o7) 6 o8) 17 (fun _ => (-1 : Int32))) (fun _ _ => (0 : Int64)) (fun _ _ _ => (0 : Int32)) (va_up (va_up (fun _ => (0 : Int32)) 5 (-1)) 6 (-1)) (fun _ => (0 : Int64)) (va_up (fun _ _ => (0 : Int32)) 0 (upd (upd (upd (upd (fun _ => 0) 0 (-1)) 1 (-1)) 2 (-1)) 3 (-1))) (fun _ _ => (0 : Int64))) (hs0 : Sp_type Rel) (hs1 : Sp_wipe Rel) (hs2 : Sp_fault Rel) (hs3 : Sp_seat Rel) (hs4 : Sp_person Rel) (hs5 : Sp_likely Rel) (hs6 : Sp_taken Rel) (hs7 : Sp_wrong Rel) (hs8 : Sp_left Rel) (hs9 : Sp_looks Rel) (hs10 : Sp_judged Rel) (hs11 : Sp_sitting Rel) (hs12 : Sp_order Rel) (hs13 : Sp_best Rel) (hs14 : Sp_back Rel) (hs15 : Sp_seen Rel) (hs16 : Sp_read Rel) (hs17 : Sp_forget Rel) (hs18 : Sp_losers Rel) (hs19 : Sp_share Rel) (hs20 : Sp_likeliest Rel) (hs21 : Sp_ask Rel) (hs22 : Sp_turned Rel) (hs23 : Sp_evening Rel) (hs24 : Sp_sheet Rel) (hs25 : Sp_lose Rel) (hs26 : Sp_lay Rel) (hs27 : Sp_get Rel) (hs28 : Sp_copy Rel) (hs29 : Sp_write Rel) (hs30 : Sp_count Rel) (hs31 : Sp_digest Rel) : W p l e room_1 s m #[Value.ref b] below meth c s.heap [] 0 0 (lw_Z below #[Value.ref b] s) (entryFrame m ([Value.ref b] : List Value).toArray 4) := by
  obtain ⟨hx, hb, hr, hml, hown, hts, hX, hbl, hlocks, hgv⟩ := id C0
  have hT := gw_of hts
  have hA : ∀ q : Nat, s.heap.size ≤ q → (fun q : Nat => s.heap.size ≤ q) q := fun _ h => h
  obtain ⟨c0, iS0, hKn0⟩ := u_known (C := RX0) (T := TX0) (N := 9) (n := 9) hT inX0 (hT _ q_1_119)
  obtain ⟨c1, iS1, hKn1⟩ := u_known (C := RX1) (T := TX1) (N := 7) (n := 7) hT inX1 (hT _ q_1_161)
  obtain ⟨c2, iS2, hKn2⟩ := u_known (C := RX2) (T := TX2) (N := 4) (n := 4) hT inX2 (hT _ q_2_0)
  obtain ⟨c3, iS3, hKn3⟩ := u_known (C := RX3) (T := TX3) (N := 11) (n := 11) hT inX3 (hT _ q_1_23)
  obtain ⟨c4, iS4, hKn4⟩ := u_known (C := RX4) (T := TX4) (N := 5) (n := 5) hT inX4 (hT _ q_2_21)
  obtain ⟨c5, iS5, hKn5⟩ := u_known (C := RX5) (T := TX5) (N := 3) (n := 3) hT inX5 (hT _ q_2_46)
  obtain ⟨c6, iS6, hKn6⟩ := u_known (C := RX6) (T := TX6) (N := 12) (n := 12) hT inX6 (hT _ q_1_192)
  obtain ⟨c7, iS7, hKn7⟩ := u_known (C := RX7) (T := TX7) (N := 8) (n := 8) hT inX7 (hT _ q_1_15)
  obtain ⟨c8, iS8, hKn8⟩ := u_known (C := RX8) (T := TX8) (N := 36) (n := 36) hT inX8 (hT _ q_4_104)
  obtain ⟨D, hKc⟩ : ∃ D : va_G, ∀ (k : Nat) (q : vw_C), vwCl[k]? = some q → u_Kn s q.1 q.2.1 q.2.2 (D.1 k) (D.2 k) := by
    refine ⟨(fun k => if k = 0 then c0 else if k = 1 then c1 else if k = 2 then c2 else if k = 3 then c3 else if k = 4 then c4 else if k = 5 then c5 else if k = 6 then c6 else if k = 7 then c7 else c8, fun k => if k = 0 then iS0 else if k = 1 then iS1 else if k = 2 then iS2 else if k = 3 then iS3 else if k = 4 then iS4 else if k = 5 then iS5 else if k = 6 then iS6 else if k = 7 then iS7 else iS8), ?_⟩
    intro k q hq
    match k, hq with
    | 0, hq => cases hq; exact hKn0
    | 1, hq => cases hq; exact hKn1
    | 2, hq => cases hq; exact hKn2
    | 3, hq => cases hq; exact hKn3
    | 4, hq => cases hq; exact hKn4
    | 5, hq => cases hq; exact hKn5
    | 6, hq => cases hq; exact hKn6
    | 7, hq => cases hq; exact hKn7
    | 8, hq => cases hq; exact hKn8
    | k + 9, hq => simp [vwCl] at hq
  have hS : va_S (fun q : Nat => s.heap.size ≤ q) s.heap s.heap [] := va_S.rf
  have hK : va_K D vwCl [] s := ⟨hKc, fun k q h => by simp at h⟩
  have hP : va_P D vwCl [] s.heap := fun k q h => by simp at h
  have hD : va_D (fun q : Nat => s.heap.size ≤ q) [] := ⟨fun i j p q h => by simp at h, fun k q h => by simp at h⟩
  have hl := lv_entry ([.ref b]) (n := 4) (Nat.le_of_ble_eq_true rfl)
  rw [lg_entry_eq]
  generalize (lg_sl ([.ref b]) ++ List.replicate (4 - (lg_sl ([.ref b])).length) Slot.unset).toArray = ls at hl ⊢
  have hl : lv_has ls 4 [(0, .ref b)] := hl
  refine va_new (ci := 7) (fs := [.null, .null, .null, .null, .null, .null, .null, .int 0]) (C := RX7) (T := TX7) (N := 8) hx hb hT inX7 tyX7 tyX7_ok hown (hT _ q_1_14) (hT _ q_1_15) (hT _ q_1_1) hK hP hD hS hA rfl (fun j hj => by rcases (show j = 0 ∨ j = 1 ∨ j = 2 ∨ j = 3 ∨ j = 4 ∨ j = 5 ∨ j = 6 ∨ j = 7 by omega) with rfl | rfl | rfl | rfl | rfl | rfl | rfl | rfl <;> rfl) (Nat.le_of_ble_eq_true rfl) (Nat.le_of_ble_eq_true rfl) dL_law_0 (fun q0 H hP hD hS => ?_)
  refine W.widen (k := 1) (n := 8) (Nat.le_of_ble_eq_true rfl) (Nat.le_of_ble_eq_true rfl) ?_
  refine lv_dup hx hb dL_law_3 rfl ?_
  have hFc := free_last hD hS hA
  refine va_callv (va_runI (As := []) (rest := [.ref q0]) ⟨hx, hb, hml, hown, hT⟩ (c_X7_init q0 hf H.size) (cwI 0 hT (wso_in q_1_18) rfl rfl rfl (hT _ q_1_1) (hT _ q_1_16) (hT _ q_1_17) rfl ⟨by decide +kernel, by decide +kernel, by decide +kernel⟩ ⟨Nat.le_of_ble_eq_true rfl, Nat.le_of_ble_eq_true rfl⟩) ⟨PkT_blind, fun U hU hW => ⟨rfl, by rw [hU], by rw [hU]; exact P_last hP, va_K.moved hW.alike (hK.sub (tys' := []) [] rfl), va_AOA.moved hW.alike (show va_AOA .int s from hts _ (tbl_1 (List.mem_of_getElem? (i := 29) rfl))), va_AO.moved hW.alike (va_AO.of (hts _ (tbl_2 (List.mem_of_getElem? (i := 45) rfl)))), va_Nw.warmM hW (va_Nw.of rfl (hts _ (tbl_2 (List.mem_of_getElem? (i := 47) rfl))))⟩⟩ rfl rfl hl.1 rfl (lv_room (Nat.le_of_ble_eq_true rfl)) dL_law_4 ⟨Nat.le_of_ble_eq_true rfl, Nat.le_of_ble_eq_true rfl⟩) hS (fun q _ h => hFc q h) hFc (fun u t H1 locs ht hvm hw hB hz1 hk1 hS => ?_)
  obtain ⟨a, kc⟩ := u
  obtain rfl : a 34 = q0 := hw
  obtain ⟨hP1, hK1, hD1⟩ := hB
  rw [ht] at hP1
  have hK1 := va_K.moved hvm.symm hK1
  obtain ⟨hP, hD⟩ := join_last hP hD hk1 hFc hP1 hD1
  have hK := hK.app hK1
  generalize H1 = H at hP hS ⊢
  refine W.widen (k := 44) (n := 3734) (Nat.le_of_ble_eq_true rfl) (Nat.le_of_ble_eq_true rfl) ?_
  have hP : va_P D vwCl (wC a kc (va_up (va_up (va_up (fun _ => (0 : Int32)) 0 o0) 1 o1) 2 o2) (fun _ => (0 : Int64)) (va_up (va_up (va_up (va_up (va_up (va_up (va_up (fun _ _ => (0 : Int32)) 1 o3) 2 o4) 3 o5) 4 o6) 5 o7) 6 o8) 17 (fun _ => (-1 : Int32))) (fun _ _ => (0 : Int64)) (fun _ _ _ => (0 : Int32))) H := hP
  have hD : va_D (fun q : Nat => s.heap.size ≤ q) (wC a kc (va_up (va_up (va_up (fun _ => (0 : Int32)) 0 o0) 1 o1) 2 o2) (fun _ => (0 : Int64)) (va_up (va_up (va_up (va_up (va_up (va_up (va_up (fun _ _ => (0 : Int32)) 1 o3) 2 o4) 3 o5) 4 o6) 5 o7) 6 o8) 17 (fun _ => (-1 : Int32))) (fun _ _ => (0 : Int64)) (fun _ _ _ => (0 : Int32))) := hD
  have hK : va_K D vwCl (tyC kc) s := hK
  refine lv_astore_n (lv' := [(1, .ref (a 34)), (0, .ref b)]) hx hb dL_law_7 rfl hl (by decide) rfl (fun ls hl => ?_)
  refine va_new (ci := 8) (fs := [.null, .null, .null, .null, .int 0, .null, .null, .int 0, .int 0, .int 0, .null, .null, .int 0, .null, .null, .null, .null, .long 0, .int 0, .int 0, .int 0, .int 0, .null, .null, .null, .null, .null, .long 0, .int 0, .int 0, .int 0, .int 0, .null, .null, .int 0, .null]) (C := RX8) (T := TX8) (N := 36) hx hb hT inX8 tyX8 tyX8_ok hown (hT _ q_4_103) (hT _ q_4_104) (hT _ q_1_10) hK hP hD hS hA rfl (fun j hj => by rcases (show j = 0 ∨ j = 1 ∨ j = 2 ∨ j = 3 ∨ j = 4 ∨ j = 5 ∨ j = 6 ∨ j = 7 ∨ j = 8 ∨ j = 9 ∨ j = 10 ∨ j = 11 ∨ j = 12 ∨ j = 13 ∨ j = 14 ∨ j = 15 ∨ j = 16 ∨ j = 17 ∨ j = 18 ∨ j = 19 ∨ j = 20 ∨ j = 21 ∨ j = 22 ∨ j = 23 ∨ j = 24 ∨ j = 25 ∨ j = 26 ∨ j = 27 ∨ j = 28 ∨ j = 29 ∨ j = 30 ∨ j = 31 ∨ j = 32 ∨ j = 33 ∨ j = 34 ∨ j = 35 by omega) with rfl | rfl | rfl | rfl | rfl | rfl | rfl | rfl | rfl | rfl | rfl | rfl | rfl | rfl | rfl | rfl | rfl | rfl | rfl | rfl | rfl | rfl | rfl | rfl | rfl | rfl | rfl | rfl | rfl | rfl | rfl | rfl | rfl | rfl | rfl | rfl <;> rfl) (Nat.le_of_ble_eq_true rfl) (Nat.le_of_ble_eq_true rfl) dL_law_8 (fun q8 H hP hD hS => ?_)
  refine W.widen (k := 45) (n := 3770) (Nat.le_of_ble_eq_true rfl) (Nat.le_of_ble_eq_true rfl) ?_
  refine lv_dup hx hb dL_law_11 rfl ?_
  have hFc := free_last hD hS hA
  refine va_callv (va_runI (As := []) (rest := [.ref q8]) ⟨hx, hb, hml, hown, hT⟩ (c_X8_init q8 H.size) (cwI 0 hT (wso_in q_4_107) rfl rfl rfl (hT _ q_1_10) (hT _ q_4_105) (hT _ q_4_106) rfl ⟨by decide +kernel, by decide +kernel, by decide +kernel⟩ ⟨Nat.le_of_ble_eq_true rfl, Nat.le_of_ble_eq_true rfl⟩) ⟨Pk_blind, fun U hU hW => ⟨rfl, by rw [hU], by rw [hU]; exact P_last hP, va_K.moved hW.alike (hK.sub (tys' := []) [] rfl)⟩⟩ rfl rfl hl.1 rfl (lv_room (Nat.le_of_ble_eq_true rfl)) dL_law_12 ⟨Nat.le_of_ble_eq_true rfl, Nat.le_of_ble_eq_true rfl⟩) hS (fun q _ h => hFc q h) hFc (fun u t H1 locs ht hvm hw hB hz1 hk1 hS => ?_)
  obtain ⟨u2, k2⟩ := u
  obtain ⟨hP1, hK1, hD1⟩ := hB
  rw [ht] at hP1
  have hK1 := va_K.moved hvm.symm hK1
  obtain ⟨hP, hD⟩ := join_last hP hD hk1 hFc hP1 hD1
  have hK := hK.app hK1
  generalize H1 = H at hP hS ⊢
  refine W.widen (k := 65) (n := 9320) (Nat.le_of_ble_eq_true rfl) (Nat.le_of_ble_eq_true rfl) ?_
  refine lv_astore_n (lv' := [(2, .ref q8), (1, .ref (a 34)), (0, .ref b)]) hx hb dL_law_15 rfl hl (by decide) rfl (fun ls hl => ?_)
  refine lv_iconst (v := 0) hx hb dL_law_16 (by decide) ?_
  refine lv_istore_n (lv' := [(3, .int 0), (2, .ref q8), (1, .ref (a 34)), (0, .ref b)]) hx hb dL_law_17 rfl hl (by decide) rfl (fun ls hl => ?_)
  obtain ⟨a2, ea⟩ : ∃ a : Nat → Nat, a = fun j => ([q8, u2 0, u2 1, u2 2, u2 3, u2 4, u2 5, u2 6, u2 7, u2 8, u2 9, u2 10, u2 11, u2 12, u2 13, u2 14, u2 15, u2 16, u2 17, u2 18, u2 19] : List Nat).getD j 0 := ⟨_, rfl⟩
  obtain ⟨kc2, ek⟩ : ∃ kc : Nat → ClassId, kc = fun j => ([0, k2 0, k2 1, k2 2, k2 3, k2 4, k2 5, k2 6, k2 7, k2 8, k2 9, k2 10, k2 11, k2 12, k2 13, k2 14, k2 15, k2 16, k2 17, k2 18, k2 19] : List Nat).getD j 0 := ⟨_, rfl⟩
  have eM : cs_X8 q8 u2 k2 = (wM a2 kc2 (va_up (va_up (fun _ => (0 : Int32)) 5 (-1)) 6 (-1)) (fun _ => (0 : Int64)) (va_up (fun _ _ => (0 : Int32)) 0 (upd (upd (upd (upd (fun _ => 0) 0 (-1)) 1 (-1)) 2 (-1)) 3 (-1))) (fun _ _ => (0 : Int64))) := by subst ea; subst ek; rfl
  rw [eM] at hP hD
  have hPC : va_P D vwCl (wC a kc (va_up (va_up (va_up (fun _ => (0 : Int32)) 0 o0) 1 o1) 2 o2) (fun _ => (0 : Int64)) (va_up (va_up (va_up (va_up (va_up (va_up (va_up (fun _ _ => (0 : Int32)) 1 o3) 2 o4) 3 o5) 4 o6) 5 o7) 6 o8) 17 (fun _ => (-1 : Int32))) (fun _ _ => (0 : Int64)) (fun _ _ _ => (0 : Int32))) H := hP.sub [0, 1, 2, 3, 4, 5, 6, 7, 8, 9, 10, 11, 12, 13, 14, 15, 16, 17, 18, 19, 20, 21, 22, 23, 24, 25, 26, 27, 28, 29, 30, 31, 32, 33, 34, 35, 36, 37, 38, 39, 40, 41, 42, 43] rfl
  have hPM : va_P D vwCl (wM a2 kc2 (va_up (va_up (fun _ => (0 : Int32)) 5 (-1)) 6 (-1)) (fun _ => (0 : Int64)) (va_up (fun _ _ => (0 : Int32)) 0 (upd (upd (upd (upd (fun _ => 0) 0 (-1)) 1 (-1)) 2 (-1)) 3 (-1))) (fun _ _ => (0 : Int64))) H := hP.sub [44, 45, 46, 47, 48, 49, 50, 51, 52, 53, 54, 55, 56, 57, 58, 59, 60, 61, 62, 63, 64] rfl
  have hKM : va_K D vwCl (tyM kc2) s := by subst ek; exact hK.sub [33, 34, 35, 36, 37, 38, 39, 40, 41, 42, 43, 44, 45, 46, 47, 48, 49, 50, 51, 52] rfl
  have hKC : va_K D vwCl (tyC kc) s := hK.sub [0, 1, 2, 3, 4, 5, 6, 7, 8, 9, 10, 11, 12, 13, 14, 15, 16, 17, 18, 19, 20, 21, 22, 23, 24, 25, 26, 27, 28, 29, 30, 31, 32] rfl
  have e0 : a2 0 = q8 := by rw [ea]; rfl
  have fa : ∀ k, k < 44 → ∃ e9, ((wC a kc (va_up (va_up (va_up (fun _ => (0 : Int32)) 0 o0) 1 o1) 2 o2) (fun _ => (0 : Int64)) (va_up (va_up (va_up (va_up (va_up (va_up (va_up (fun _ _ => (0 : Int32)) 1 o3) 2 o4) 3 o5) 4 o6) 5 o7) 6 o8) 17 (fun _ => (-1 : Int32))) (fun _ _ => (0 : Int64)) (fun _ _ _ => (0 : Int32))) ++ (wM a2 kc2 (va_up (va_up (fun _ => (0 : Int32)) 5 (-1)) 6 (-1)) (fun _ => (0 : Int64)) (va_up (fun _ _ => (0 : Int32)) 0 (upd (upd (upd (upd (fun _ => 0) 0 (-1)) 1 (-1)) 2 (-1)) 3 (-1))) (fun _ _ => (0 : Int64))))[k]? = some (a k, e9) := fun k hk => by
    match k, hk with
    | 0, _ => exact ⟨_, rfl⟩
    | 1, _ => exact ⟨_, rfl⟩
    | 2, _ => exact ⟨_, rfl⟩
    | 3, _ => exact ⟨_, rfl⟩
    | 4, _ => exact ⟨_, rfl⟩
    | 5, _ => exact ⟨_, rfl⟩
    | 6, _ => exact ⟨_, rfl⟩
    | 7, _ => exact ⟨_, rfl⟩
    | 8, _ => exact ⟨_, rfl⟩
    | 9, _ => exact ⟨_, rfl⟩
    | 10, _ => exact ⟨_, rfl⟩
    | 11, _ => exact ⟨_, rfl⟩
    | 12, _ => exact ⟨_, rfl⟩
    | 13, _ => exact ⟨_, rfl⟩
    | 14, _ => exact ⟨_, rfl⟩
    | 15, _ => exact ⟨_, rfl⟩
    | 16, _ => exact ⟨_, rfl⟩
    | 17, _ => exact ⟨_, rfl⟩
    | 18, _ => exact ⟨_, rfl⟩
    | 19, _ => exact ⟨_, rfl⟩
    | 20, _ => exact ⟨_, rfl⟩
    | 21, _ => exact ⟨_, rfl⟩
    | 22, _ => exact ⟨_, rfl⟩
    | 23, _ => exact ⟨_, rfl⟩
    | 24, _ => exact ⟨_, rfl⟩
    | 25, _ => exact ⟨_, rfl⟩
    | 26, _ => exact ⟨_, rfl⟩
    | 27, _ => exact ⟨_, rfl⟩
    | 28, _ => exact ⟨_, rfl⟩
    | 29, _ => exact ⟨_, rfl⟩
    | 30, _ => exact ⟨_, rfl⟩
    | 31, _ => exact ⟨_, rfl⟩
    | 32, _ => exact ⟨_, rfl⟩
    | 33, _ => exact ⟨_, rfl⟩
    | 34, _ => exact ⟨_, rfl⟩
    | 35, _ => exact ⟨_, rfl⟩
    | 36, _ => exact ⟨_, rfl⟩
    | 37, _ => exact ⟨_, rfl⟩
    | 38, _ => exact ⟨_, rfl⟩
    | 39, _ => exact ⟨_, rfl⟩
    | 40, _ => exact ⟨_, rfl⟩
    | 41, _ => exact ⟨_, rfl⟩
    | 42, _ => exact ⟨_, rfl⟩
    | 43, _ => exact ⟨_, rfl⟩
    | k + 44, hk => exact absurd hk (by omega)
  have fa2 : ∀ k, k < 21 → ∃ e9, ((wC a kc (va_up (va_up (va_up (fun _ => (0 : Int32)) 0 o0) 1 o1) 2 o2) (fun _ => (0 : Int64)) (va_up (va_up (va_up (va_up (va_up (va_up (va_up (fun _ _ => (0 : Int32)) 1 o3) 2 o4) 3 o5) 4 o6) 5 o7) 6 o8) 17 (fun _ => (-1 : Int32))) (fun _ _ => (0 : Int64)) (fun _ _ _ => (0 : Int32))) ++ (wM a2 kc2 (va_up (va_up (fun _ => (0 : Int32)) 5 (-1)) 6 (-1)) (fun _ => (0 : Int64)) (va_up (fun _ _ => (0 : Int32)) 0 (upd (upd (upd (upd (fun _ => 0) 0 (-1)) 1 (-1)) 2 (-1)) 3 (-1))) (fun _ _ => (0 : Int64))))[44 + k]? = some (a2 k, e9) := fun k hk => by
    match k, hk with
    | 0, _ => exact ⟨_, rfl⟩
    | 1, _ => exact ⟨_, rfl⟩
    | 2, _ => exact ⟨_, rfl⟩
    | 3, _ => exact ⟨_, rfl⟩
    | 4, _ => exact ⟨_, rfl⟩
    | 5, _ => exact ⟨_, rfl⟩
    | 6, _ => exact ⟨_, rfl⟩
    | 7, _ => exact ⟨_, rfl⟩
    | 8, _ => exact ⟨_, rfl⟩
    | 9, _ => exact ⟨_, rfl⟩
    | 10, _ => exact ⟨_, rfl⟩
    | 11, _ => exact ⟨_, rfl⟩
    | 12, _ => exact ⟨_, rfl⟩
    | 13, _ => exact ⟨_, rfl⟩
    | 14, _ => exact ⟨_, rfl⟩
    | 15, _ => exact ⟨_, rfl⟩
    | 16, _ => exact ⟨_, rfl⟩
    | 17, _ => exact ⟨_, rfl⟩
    | 18, _ => exact ⟨_, rfl⟩
    | 19, _ => exact ⟨_, rfl⟩
    | 20, _ => exact ⟨_, rfl⟩
    | k + 21, hk => exact absurd hk (by omega)
  have hD1 := hD.1
  have hD2 := hD.2
  have hi1 : ∀ i j, i < 44 → j < 44 → a i = a j → i = j := fun i j hi hj h => by
    obtain ⟨e1, g1⟩ := fa i hi
    obtain ⟨e2, g2⟩ := fa j hj
    exact hD1 i j _ _ g1 g2 h
  have hi2 : ∀ i j, i < 21 → j < 21 → a2 i = a2 j → i = j := fun i j hi hj h => by
    obtain ⟨e1, g1⟩ := fa2 i hi
    obtain ⟨e2, g2⟩ := fa2 j hj
    have := hD1 (44 + i) (44 + j) _ _ g1 g2 h
    omega
  have hap : ∀ i j, i < 44 → j < 21 → a i ≠ a2 j := fun i j hi hj h => by
    obtain ⟨e1, g1⟩ := fa i hi
    obtain ⟨e2, g2⟩ := fa2 j hj
    have := hD1 i (44 + j) _ _ g1 g2 h
    omega
  have hge : ∀ i, i < 44 → s.heap.size ≤ a i := fun i hi => by
    obtain ⟨e1, g1⟩ := fa i hi
    exact hD2 i _ g1
  have hge2 : ∀ i, i < 21 → s.heap.size ≤ a2 i := fun i hi => by
    obtain ⟨e1, g1⟩ := fa2 i hi
    exact hD2 (44 + i) _ g1
  exact law_loop ⟨⟨hx, hb, hr, hml, hown, hT, hX, hbl, hlocks⟩, hKC, hKM, hi1, hi2, hap, hge, hge2⟩ hL ⟨Nat.le_of_ble_eq_true rfl, Nat.le_of_ble_eq_true rfl⟩ hs0 hs1 hs2 hs3 hs4 hs5 hs6 hs7 hs8 hs9 hs10 hs11 hs12 hs13 hs14 hs15 hs16 hs17 hs18 hs19 hs20 hs21 hs22 hs23 hs24 hs25 hs26 hs27 hs28 hs29 hs30 hs31 (L + 1) 0 (Nat.zero_le L) (by omega) _ _ _ _ _ _ _ _ _ hR0 _ _ ls hPC hPM hS (by rw [e0]; exact lv_sub hl [3, 2, 1, 0] rfl)
