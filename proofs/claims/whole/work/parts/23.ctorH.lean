def va_AOA (ty : FieldType) (U : State) : Prop := (Cond.arrayOver (.array ty)).before #[] U = true
theorem va_AOA.use {ty : FieldType} {A : Array Value} {U : State} (h : va_AOA ty U) : (Cond.arrayOver (.array ty)).before A U = true := h
theorem va_AOA.moved {ty : FieldType} {u U : State} (hvm : u.vm.Alike U.vm) (h : va_AOA ty u) : va_AOA ty U := arrayOver_alikeB hvm h
/-- f, but v at every address of l -/
def vr_up {α : Type} (f : Nat → α) (l : List Nat) (v : α) : Nat → α := fun a => if a ∈ l then v else f a
theorem vr_up_in {α : Type} {f : Nat → α} {l : List Nat} {v : α} {a : Nat} (h : a ∈ l) : vr_up f l v a = v := if_pos h
theorem vr_up_ne {α : Type} {f : Nat → α} {l : List Nat} {v : α} {a : Nat} (h : a ∉ l) : vr_up f l v a = f a := if_neg h
theorem vr_rows {L l : List Nat} {f : Nat → va_E} {e : va_E} (h : ∀ a, a ∈ l → a ∉ L) : va_pl L f ++ l.map (fun a => (a, e)) = va_pl (L ++ l) (vr_up f l e) := by
  unfold va_pl
  rw [List.map_append]
  congr 1
  · apply List.map_congr_left
    intro a ha
    rw [vr_up_ne (fun q => h a q ha)]
  · apply List.map_congr_left
    intro a ha
    rw [vr_up_in ha]
theorem vr_lay {X rows : va_W} {x : Nat × va_E} {pl : va_W} {D : va_G} {cl : List vw_C} {H : Heap} (hP : va_P D cl (((X ++ pl) ++ [x]) ++ rows) H) : va_P D cl ((X ++ [x]) ++ (pl ++ rows)) H := by
  rw [List.append_assoc (X ++ pl)] at hP
  have h := va_P.swap hP
  rw [← List.append_assoc X] at h
  have h2 := va_P.swap h
  rw [List.append_assoc (X ++ [x])] at h2
  exact h2
theorem vr_layD {X rows : va_W} {x : Nat × va_E} {pl : va_W} {A : Nat → Prop} (hD : va_D A (((X ++ pl) ++ [x]) ++ rows)) : va_D A ((X ++ [x]) ++ (pl ++ rows)) := by
  rw [List.append_assoc (X ++ pl)] at hD
  have h := va_D.swap hD
  rw [← List.append_assoc X] at h
  have h2 := va_D.swap h
  rw [List.append_assoc (X ++ [x])] at h2
  exact h2
theorem vr_outer (c : ClassId) (N h0 : Nat) : ∀ i : Nat, Jvm.Free.Multi.outerC c N h0 i = arrV c N (fun j => va_rf (if j < i then some (h0 + 1 + j) else none))
  | 0 => by
    show ({ cls := c, slots := Array.replicate N .null, vm := .none } : Cell) = _
    rw [arrV_new]
    refine congrArg (arrV c N) (funext fun j => ?_)
    simp [va_rf]
  | i + 1 => by
    show (Jvm.Free.Multi.outerC c N h0 i).setSlot i (.ref (h0 + 1 + i)) = _
    rw [vr_outer c N h0 i, arrV_store]
    refine congrArg (arrV c N) (funext fun j => ?_)
    by_cases e : j = i
    · subst e
      simp [updV, va_rf]
    · by_cases h : j < i
      · simp [updV, e, h, Nat.lt_succ_of_lt h]
      · simp [updV, e, h, show ¬ j < i + 1 by omega]
section VGM
variable {p : Program} {l : Launch} {e : Env} {R : Room} {s : State} {m : MethodId} {args : Array Value} {below : List Frame} {meth : Method} {c : Code} {H : Heap} {locs : List Loc} {cells slots : Nat} {Q : State → Prop}
variable {cc : ByteArray} {pc : Nat} {ls : Array Slot} {rest : List Value} {D : va_G} {cl : List vw_C} {A : Nat → Prop} {a : Nat} {tys : List (ClassId × FieldType)} {ws : va_W} {H0 : Heap}
theorem va_mna {X : va_W} {L : List Nat} {f : Nat → va_E} {cc : ByteArray} (hexec : p.tables.exec = Jvm.exec) (hb : c.code = cc) {own : String} {index : Nat} {ty : FieldType} {cy : ClassId} (hown : s.vm.findClass own = some m.cls) (hclink : (Cond.classLink own index ("[" ++ (FieldType.array ty).toString)).before args s = true) (hover : va_AOA ty s) (harr : (Cond.arrayClass ty).before args s = true) (hcy : s.vm.findClass (FieldType.array ty).toString = some cy)
    (hK : va_K D cl tys s) (hP : va_P D cl (X ++ va_pl L f) H) (hD : va_D A (X ++ va_pl L f)) (hS : va_S A H0 H locs) (hA : ∀ q, H0.size ≤ q → A q) {n k : Int32} {N' K' : Nat} {z : vp_A} (hn : ¬ n < 0) (hk : ¬ k < 0) (hN : n.toNatClampNeg = N') (hM : k.toNatClampNeg = K')
    (hb1 : N' * 4 ≤ 536870912) (hb2 : K' * componentBytes ty ≤ 536870912) (hb3 : K' ≤ 536870912) (hdf : fits ty (defaultValue ty) = true) (hdd : (defaultValue ty).isDefault = true) (hcells : cells + (1 + N') ≤ R.cells) (hslots : slots + (N' + N' * K') ≤ R.slots) (hz : ∀ c : ClassId, Jvm.Free.Multi.innerC c K' (defaultValue ty) = vp_cell c z) (hdg : decode cc pc = .ok (.multianewarray index 2, 4))
    (kk : ∀ (q : Nat) (r : Nat → Nat) (cA : ClassId) (H1 : Heap), (∀ i j : Nat, i < N' → j < N' → r i = r j → i = j) → (∀ i : Nat, i < N' → r i ∉ L) → va_K D cl (tys ++ [(cA, .array ty)]) s →
      va_P D cl ((X ++ [(q, .inl (cA, N', .inr (.inr (.inr (.inr (fun i => if i < N' then some (r i) else none))))))]) ++ va_pl (L ++ (List.range N').map r) (vr_up f ((List.range N').map r) (.inl (cy, z)))) H1 → va_D A ((X ++ [(q, .inl (cA, N', .inr (.inr (.inr (.inr (fun i => if i < N' then some (r i) else none))))))]) ++ va_pl (L ++ (List.range N').map r) (vr_up f ((List.range N').map r) (.inl (cy, z)))) → va_S A H0 H1 locs →
      W p l e R s m args below meth c H1 locs (cells + 1 + N') (slots + N' + N' * K') Q (F0 m (pc + 4) ls (.ref q :: rest))) : W p l e R s m args below meth c H locs cells slots Q (F0 m pc ls (.int k :: .int n :: rest)) := by
  subst hN
  subst hM
  intro T hT Xs
  obtain ⟨vm₁, cA, comp, -, fA, fC, hO, -, X', step⟩ := Xs.multianewarray2F hexec hown hclink (va_AOA.use hover) harr (g := F0 m pc ls (.int k :: .int n :: rest)) rfl (by rw [hb]; exact hdg) rfl hn hk hb1 hb2 hb3 hdf hdd hcells hslots
  have ec : some cy = some comp := hcy.symm.trans fC
  cases ec
  generalize hF : Jvm.Free.Multi.fill (T.setVm vm₁) cA cy n.toNatClampNeg k.toNatClampNeg (defaultValue ty) n.toNatClampNeg = F at X' step
  have hTh : (T.setVm vm₁).heap = H := hT
  obtain ⟨f1, f2, -, -⟩ := Jvm.Free.Multi.fill_facts (T.setVm vm₁) cA cy n.toNatClampNeg k.toNatClampNeg (defaultValue ty) n.toNatClampNeg
  rw [hF, hTh] at f1 f2
  have hold : ∀ x : Nat, x < H.size → F.heap[x]? = H[x]? := fun x hx => by
    have := Jvm.Free.Multi.fill_old (T.setVm vm₁) cA cy n.toNatClampNeg k.toNatClampNeg (defaultValue ty) (a := x) (by rw [hTh]; exact hx) n.toNatClampNeg
    rw [hF, hTh] at this
    exact this
  have hrow : ∀ j : Nat, j < n.toNatClampNeg → F.heap[H.size + 1 + j]? = some (vp_cell cy z) := fun j hj => by
    have := Jvm.Free.Multi.fill_inner (T.setVm vm₁) cA cy n.toNatClampNeg k.toNatClampNeg (defaultValue ty) n.toNatClampNeg j hj
    rw [hF, hTh, hz] at this
    exact this
  have hout : Jvm.Free.Multi.outerC cA n.toNatClampNeg H.size n.toNatClampNeg = vp_cell cA (n.toNatClampNeg, .inr (.inr (.inr (.inr (fun i => if i < n.toNatClampNeg then some (H.size + 1 + i) else none))))) := by
    rw [vp_cell_q]
    exact vr_outer cA n.toNatClampNeg H.size n.toNatClampNeg
  rw [hout] at f2
  have hlt : ∀ a, a ∈ L → a < H.size := fun a ha => by
    obtain ⟨k9, hk9⟩ := va_pl_get (X := X) (f := f) ha
    exact (hP k9 _ hk9).lt
  have hnl : ∀ i : Nat, i < n.toNatClampNeg → H.size + 1 + i ∉ L := fun i _ h => by
    have := hlt _ h
    omega
  have hnm : ∀ a, a ∈ (List.range n.toNatClampNeg).map (fun i => H.size + 1 + i) → a ∉ L := fun a ha h => by
    obtain ⟨i, -, rfl⟩ := List.mem_map.mp ha
    have := hlt _ h
    omega
  have hP0 : va_P D cl (X ++ va_pl L f) F.heap := hP.kept (fun k9 x hx => hold x.1 ((hP k9 x hx).lt))
  have hP1 : va_P D cl ((X ++ va_pl L f) ++ [(H.size, .inl (cA, n.toNatClampNeg, .inr (.inr (.inr (.inr (fun i => if i < n.toNatClampNeg then some (H.size + 1 + i) else none))))))]) F.heap := hP0.app (fun k9 x hx => by
    have h0 : k9 < 1 := (List.getElem?_eq_some_iff.mp hx).1
    rw [show k9 = 0 by omega] at hx
    cases hx
    exact f2)
  have hP2 : va_P D cl (((X ++ va_pl L f) ++ [(H.size, .inl (cA, n.toNatClampNeg, .inr (.inr (.inr (.inr (fun i => if i < n.toNatClampNeg then some (H.size + 1 + i) else none))))))]) ++ ((List.range n.toNatClampNeg).map (fun i => H.size + 1 + i)).map (fun a => (a, .inl (cy, z)))) F.heap := hP1.app (fun k9 x hx => by
    obtain ⟨a, ha, rfl⟩ := List.mem_map.mp (List.mem_of_getElem? hx)
    obtain ⟨i, hi, rfl⟩ := List.mem_map.mp ha
    exact hrow i (List.mem_range.mp hi))
  have hD2 : va_D A (((X ++ va_pl L f) ++ [(H.size, .inl (cA, n.toNatClampNeg, .inr (.inr (.inr (.inr (fun i => if i < n.toNatClampNeg then some (H.size + 1 + i) else none))))))]) ++ ((List.range n.toNatClampNeg).map (fun i => H.size + 1 + i)).map (fun a => (a, .inl (cy, z)))) := by
    have hD1 := hD.push (e := .inl (cA, n.toNatClampNeg, .inr (.inr (.inr (.inr (fun i => if i < n.toNatClampNeg then some (H.size + 1 + i) else none)))))) hP rfl (hA _ hS.1)
    generalize hW1 : (X ++ va_pl L f) ++ [(H.size, .inl (cA, n.toNatClampNeg, .inr (.inr (.inr (.inr (fun i => if i < n.toNatClampNeg then some (H.size + 1 + i) else none))))))] = W1 at hD1 hP1 ⊢
    have hle : ∀ (k9 : Nat) (x : Nat × va_E), W1[k9]? = some x → x.1 ≤ H.size := fun k9 x hx => by
      rw [← hW1] at hx
      by_cases hl : k9 < (X ++ va_pl L f).length
      · rw [List.getElem?_append_left hl] at hx
        exact Nat.le_of_lt ((hP k9 x hx).lt)
      · rw [List.getElem?_append_right (by omega)] at hx
        have h0 : k9 - (X ++ va_pl L f).length < 1 := (List.getElem?_eq_some_iff.mp hx).1
        rw [show k9 - (X ++ va_pl L f).length = 0 by omega] at hx
        cases hx
        exact Nat.le_refl _
    have hr : ∀ (k9 : Nat) (x : Nat × va_E), (((List.range n.toNatClampNeg).map (fun i => H.size + 1 + i)).map (fun a => ((a, .inl (cy, z)) : Nat × va_E)))[k9]? = some x → x.1 = H.size + 1 + k9 := fun k9 x hx => by
      rw [List.getElem?_map, List.getElem?_map] at hx
      by_cases h9 : k9 < n.toNatClampNeg
      · rw [List.getElem?_range h9] at hx
        cases hx
        rfl
      · have hn0 : (List.range n.toNatClampNeg)[k9]? = none := List.getElem?_eq_none (by rw [List.length_range]; omega)
        rw [hn0] at hx
        cases hx
    refine ⟨fun i j x y hi hj hxy => ?_, fun k9 x hx => ?_⟩
    · by_cases h1 : i < W1.length <;> by_cases h2 : j < W1.length
      · rw [List.getElem?_append_left h1] at hi
        rw [List.getElem?_append_left h2] at hj
        exact hD1.1 i j x y hi hj hxy
      · rw [List.getElem?_append_left h1] at hi
        rw [List.getElem?_append_right (by omega)] at hj
        have := hle _ _ hi
        have := hr _ _ hj
        omega
      · rw [List.getElem?_append_right (by omega)] at hi
        rw [List.getElem?_append_left h2] at hj
        have := hle _ _ hj
        have := hr _ _ hi
        omega
      · rw [List.getElem?_append_right (by omega)] at hi hj
        have := hr _ _ hi
        have := hr _ _ hj
        omega
    · by_cases h1 : k9 < W1.length
      · rw [List.getElem?_append_left h1] at hx
        exact hD1.2 k9 x hx
      · rw [List.getElem?_append_right (by omega)] at hx
        have := hr _ _ hx
        exact hA _ (by have := hS.1; omega)
  have hAr : ArrOfT s cA (.array ty) := fun N9 z9 => by
    obtain ⟨-, k9, hk9, cm9, hkk9⟩ := (hO 0 0 0).1
    exact ⟨(fun q hq => by cases hq), k9, hk9, cm9, hkk9⟩
  have hK2 : va_K D cl (tys ++ [(cA, .array ty)]) s := ⟨hK.1, fun k9 x hx => by
    by_cases hl : k9 < tys.length
    · rw [List.getElem?_append_left hl] at hx
      exact hK.2 k9 x hx
    · rw [List.getElem?_append_right (by omega)] at hx
      have h0 : k9 - tys.length < 1 := (List.getElem?_eq_some_iff.mp hx).1
      rw [show k9 - tys.length = 0 by omega] at hx
      cases hx
      exact ⟨hAr, fA⟩⟩
  obtain ⟨t, a1, b1⟩ := kk H.size (fun i => H.size + 1 + i) cA F.heap (fun i j _ _ h => by have h9 : H.size + 1 + i = H.size + 1 + j := h; omega) hnl hK2 (by rw [← vr_rows hnm]; exact vr_lay hP2) (by rw [← vr_rows hnm]; exact vr_layD hD2) ⟨by rw [f1]; have := hS.1; omega, fun x h1 h2 => (hold x (Nat.lt_of_lt_of_le h1 hS.1)).trans (hS.2.1 x h1 h2), hS.2.2⟩ F rfl X'
  refine ⟨t, step t ?_, b1⟩
  have e : T.heap.size = H.size := by rw [hT]
  rw [e]
  exact a1
end VGM
theorem P_last {D : va_G} {cl : List vw_C} {wr : va_W} {x : Nat × va_E} {H : Heap} (hP : va_P D cl (wr ++ [x]) H) : va_P D cl [x] H := fun k y hy => by
  have h1 : k < 1 := (List.getElem?_eq_some_iff.mp hy).1
  have h0 : k = 0 := by omega
  subst h0
  exact hP wr.length y (by rw [List.getElem?_append_right (Nat.le_refl _), Nat.sub_self]; exact hy)
theorem nd_cons {x : Nat} {l : List Nat} : va_nd (x :: l) = (decide (x ∉ l) && va_nd l) := rfl
theorem rng_nd_aux : ∀ (n s : Nat), va_nd (List.range' s n) = true
  | 0, s => rfl
  | n + 1, s => by
    rw [List.range'_succ, nd_cons, rng_nd_aux n (s + 1)]
    simp [List.mem_range'_1]
theorem rng_nd (n : Nat) : va_nd (List.range n) = true := by rw [List.range_eq_range']; exact rng_nd_aux n 0
theorem join_last {A0 : Nat → Prop} {D : va_G} {cl : List vw_C} {wr w1 : va_W} {x : Nat × va_E} {H H1 : Heap} (hP : va_P D cl (wr ++ [x]) H) (hD : va_D A0 (wr ++ [x])) (hk : ∀ q : Nat, q < H.size → ¬ va_A [x] H.size q → H1[q]? = H[q]?) (hF : ∀ q, va_A [x] H.size q → A0 q) (hP1 : va_P D cl w1 H1) (hD1 : va_D (va_A [x] H.size) w1) : va_P D cl (wr ++ w1) H1 ∧ va_D A0 (wr ++ w1) := by
  refine va_join (wr := wr) (w1 := w1) (wc := [x]) hP hD [wr.length] (List.range wr.length) ?_ ?_ ?_ ?_ hk hF hP1 hD1
  · show [(wr ++ [x])[wr.length]?] = [some x]
    rw [List.getElem?_append_right (Nat.le_refl _), Nat.sub_self]
    rfl
  · apply List.ext_getElem?
    intro i
    rw [List.getElem?_map, List.getElem?_map]
    by_cases h : i < wr.length
    · rw [List.getElem?_range h]
      show some ((wr ++ [x])[i]?) = _
      rw [List.getElem?_append_left h, List.getElem?_eq_getElem h]
      rfl
    · rw [List.getElem?_eq_none (by rw [List.length_range]; omega), List.getElem?_eq_none (by omega)]
      rfl
  · exact rng_nd wr.length
  · intro i hi hc
    have := List.mem_range.mp hi
    have h2 : i = wr.length := by simpa using hc
    omega
theorem free_last {A0 : Nat → Prop} {wr : va_W} {x : Nat × va_E} {H0 H : Heap} {locs : List Loc} (hD : va_D A0 (wr ++ [x])) (hS : va_S A0 H0 H locs) (hA : ∀ q, H0.size ≤ q → A0 q) : ∀ q, va_A [x] H.size q → A0 q := by
  refine va_free (wc := [x]) hD hS hA [wr.length] ?_
  show [(wr ++ [x])[wr.length]?] = [some x]
  rw [List.getElem?_append_right (Nat.le_refl _), Nat.sub_self]
  rfl
def PkH (D : va_G) (h0 : Nat) (e0 : va_E) (sz : Nat) (av : List Value) : Array Value → State → Prop := va_Pc av (fun U => U.heap.size = sz ∧ va_P D vwCl [(h0, e0)] U.heap ∧ va_K D vwCl [] U ∧ va_AOA .int U)
theorem PkH_blind {D : va_G} {h0 : Nat} {e0 : va_E} {sz : Nat} {av : List Value} : FrameBlind (PkH D h0 e0 sz av) := fun a U g mk q => by
  obtain ⟨q0, q1, qP, qK, qA⟩ := q
  exact ⟨q0, q1, qP, va_K.moved (u := U) (U := U.calling g mk a) (Vm.Alike.refl U.vm) qK, va_AOA.moved (u := U) (U := U.calling g mk a) (Vm.Alike.refl U.vm) qA⟩
def QkH (D : va_G) (h0 : Nat) (cs : (Nat → Nat) → (Nat → ClassId) → va_W) (ts : (Nat → ClassId) → List (ClassId × FieldType)) (A : Nat → Prop) : Array Value → State → Outcome → State → Prop := va_Qv (fun (u : (Nat → Nat) × (Nat → ClassId)) => u.1 0 = h0) (fun u t => va_P D vwCl (cs u.1 u.2) t.heap ∧ va_K D vwCl (ts u.2) t ∧ va_D A (cs u.1 u.2)) A

abbrev rm_X3_init : Room := { frames := 4, cells := 10, slots := 81, locals := 90 }
set_option maxHeartbeats 4000000 in
set_option maxRecDepth 100000 in
theorem c_X3_init {l : Launch} {D : va_G} (h0 : Nat) {o0 : Int32} {o1 : Int32} {o2 : Int32} {o3 : Nat → Int32} {o4 : Nat → Int32} {o5 : Nat → Int32} {o6 : Nat → Int32} {o7 : Nat → Int32} {o8 : Nat → Int32} (hf : p_X3_parse (0 : Int32) (0 : Int32) (0 : Int32) (fun _ => (0 : Int32)) (fun _ => (0 : Int32)) (fun _ => (0 : Int32)) (fun _ => (0 : Int32)) (fun _ => (0 : Int32)) (fun _ => (0 : Int32)) (fun _ => (0 : Int32)) (fun _ _ => (0 : Int32)) = some (o0, o1, o2, o3, o4, o5, o6, o7, o8)) (sz : Nat) : Met l yX3_init (wso yX3_init cX3_init 1 none) rm_X3_init (PkH D h0 (.inr (3, [.null, .null, .null, .null, .null, .null, .null, .null, .int 0, .int 0, .int 0])) sz [.ref h0]) (QkH D h0 (fun u k => wH u k (va_up (va_up (va_up (fun _ => (0 : Int32)) 0 o0) 1 o1) 2 o2) (va_up (va_up (va_up (va_up (va_up (va_up (fun _ _ => (0 : Int32)) 1 o3) 2 o4) 3 o5) 4 o6) 5 o7) 6 o8) (fun _ _ _ => (0 : Int32))) tyH (va_A [(h0, .inr (3, [.null, .null, .null, .null, .null, .null, .null, .null, .int 0, .int 0, .int 0]))] sz)) 10 81 (va_A [(h0, .inr (3, [.null, .null, .null, .null, .null, .null, .null, .null, .int 0, .int 0, .int 0]))] sz) := by
  refine Met.ofW (cc := cX3_init) (maxL := 1) (ret := none) (by decide) rfl ?_
  intro p e s m args below meth c s₁ B hml hv
  obtain ⟨rfl, hsz, hP, hK, hAO⟩ := hv
  have hx := B.exec
  have hb := B.bytes
  have hr := B.returns
  have hts := atoms_spec (ws := wso yX3_init cX3_init 1 none) B.pre
  have hT : ∀ w ∈ gw, w.before _ s = true := fun w hw => hts w (List.mem_cons_of_mem _ hw)
  have hown : s.vm.findClass RX3 = some m.cls := findClass_of_methodNamed B.named
  have hlocks := B.notSynchronized
  have hin : meth.name = "<init>" := (name_of_methodNamed B.named B.method).1
  subst hsz
  have hD : va_D (va_A [(h0, .inr (3, [.null, .null, .null, .null, .null, .null, .null, .null, .int 0, .int 0, .int 0]))] s.heap.size) [(h0, .inr (3, [.null, .null, .null, .null, .null, .null, .null, .null, .int 0, .int 0, .int 0]))] := va_D1
  generalize hAe : va_A [(h0, .inr (3, [.null, .null, .null, .null, .null, .null, .null, .null, .int 0, .int 0, .int 0]))] s.heap.size = A at hD ⊢
  have hA : ∀ q : Nat, s.heap.size ≤ q → A q := fun q h => by rw [← hAe]; exact Or.inr h
  have hS : va_S A s.heap s.heap [] := va_S.rf
  have hl := lv_entry ([.ref h0]) (n := 1) (Nat.le_of_ble_eq_true rfl)
  rw [lg_entry_eq]
  generalize (lg_sl ([.ref h0]) ++ List.replicate (1 - (lg_sl ([.ref h0])).length) Slot.unset).toArray = ls at hl ⊢
  have hl : lv_has ls 1 [(0, .ref h0)] := hl
  refine lv_aload_n hx hb dX3_init_0 rfl (lv_at hl 0 rfl) ?_
  refine W.objInit hx hb hown (hT _ q_1_27) (hT _ q_1_20) (hT _ q_1_21) rfl (by rw [hml]; exact hl.1) rfl dX3_init_1 (Nat.le_of_ble_eq_true rfl) (Nat.le_of_ble_eq_true rfl) ?_
  refine W.eq (g2 := F0 m 4 ls []) rfl ?_
  refine lv_aload_n hx hb dX3_init_4 rfl (lv_at hl 0 rfl) ?_
  refine lv_iconst (v := 2) hx hb dX3_init_5 (by decide) ?_
  refine lv_bipush (v := 20) hx hb dX3_init_6 (by decide) ?_
  obtain ⟨cy, hcy⟩ : ∃ cy, s.vm.findClass (FieldType.array .int).toString = some cy := by
    obtain ⟨comp, c9, k9, h9, -⟩ := arrayOver_specB (show (Cond.arrayOver (.array .int)).holds #[] s none s [] = true from hAO)
    exact ⟨comp, h9⟩
  refine va_mna (X := [(h0, .inr (3, [.null, .null, .null, .null, .null, .null, .null, .null, .int 0, .int 0, .int 0]))]) (L := []) (f := fun _ => .inr (0, [])) (ty := .int) (cy := cy) (N' := 2) (K' := 20) (z := (20, .inl (fun _ => 0))) hx hb hown (by rw [show "[" ++ (FieldType.array .int).toString = "[[I" by decide +kernel]; exact hT _ q_1_28) hAO (hT _ qa_int) hcy hK hP hD hS hA (by decide) (by decide) (by decide +kernel) (by decide +kernel) (Nat.le_of_ble_eq_true rfl) (Nat.le_of_ble_eq_true rfl) (Nat.le_of_ble_eq_true rfl) (by decide +kernel) (by decide +kernel) (Nat.le_of_ble_eq_true rfl) (Nat.le_of_ble_eq_true rfl) (fun c9 => by show (_ : Cell) = arrV c9 20 (fun _ => .int 0); rw [← arrV_new]; rfl) dX3_init_8 (fun q8 rr k8 H _ _ hK hP hD hS => ?_)
  refine W.widen (k := 3) (n := 42) (Nat.le_of_ble_eq_true rfl) (Nat.le_of_ble_eq_true rfl) ?_
  have e8 : va_pl ([] ++ (List.range 2).map rr) (vr_up (fun _ => (.inr (0, []) : va_E)) ((List.range 2).map rr) (.inl (cy, (20, .inl (fun _ => 0))))) = [(rr 0, .inl (cy, (20, .inl (fun _ => 0)))), (rr 1, .inl (cy, (20, .inl (fun _ => 0))))] := by
    show [(rr 0, vr_up _ [rr 0, rr 1] _ (rr 0)), (rr 1, vr_up _ [rr 0, rr 1] _ (rr 1))] = _
    rw [vr_up_in (by simp), vr_up_in (by simp)]
  rw [e8] at hP hD
  have hP : va_P D vwCl [(h0, .inr (3, [.null, .null, .null, .null, .null, .null, .null, .null, .int 0, .int 0, .int 0])), (q8, .inl (k8, 2, .inr (.inr (.inr (.inr (fun i => if i < 2 then some (rr i) else none)))))), (rr 0, .inl (cy, 20, .inl (fun _ => 0))), (rr 1, .inl (cy, 20, .inl (fun _ => 0)))] H := hP
  have hD : va_D A [(h0, .inr (3, [.null, .null, .null, .null, .null, .null, .null, .null, .int 0, .int 0, .int 0])), (q8, .inl (k8, 2, .inr (.inr (.inr (.inr (fun i => if i < 2 then some (rr i) else none)))))), (rr 0, .inl (cy, 20, .inl (fun _ => 0))), (rr 1, .inl (cy, 20, .inl (fun _ => 0)))] := hD
  have hK : va_K D vwCl [(k8, .array .int)] s := hK
  refine va_putF (ci := 3) (v := .ref q8) (ty := .array (.array .int)) (C := RX3) (T := TX3) (N := 11) hx hb hT inX3 tyX3 tyX3_ok nmX3 hown hK hP hD hS 0 rfl rfl 0 (by decide) (hT _ q_1_55) (fun _ h9 => h9) rfl hin rfl (by decide +kernel) rfl rfl (Nat.le_of_ble_eq_true rfl) dX3_init_12 (fun H locs hP hD hS => ?_)
  have hP : va_P D vwCl [(h0, .inr (3, [.ref q8, .null, .null, .null, .null, .null, .null, .null, .int 0, .int 0, .int 0])), (q8, .inl (k8, 2, .inr (.inr (.inr (.inr (fun i => if i < 2 then some (rr i) else none)))))), (rr 0, .inl (cy, 20, .inl (fun _ => 0))), (rr 1, .inl (cy, 20, .inl (fun _ => 0)))] H := hP
  have hD : va_D A [(h0, .inr (3, [.ref q8, .null, .null, .null, .null, .null, .null, .null, .int 0, .int 0, .int 0])), (q8, .inl (k8, 2, .inr (.inr (.inr (.inr (fun i => if i < 2 then some (rr i) else none)))))), (rr 0, .inl (cy, 20, .inl (fun _ => 0))), (rr 1, .inl (cy, 20, .inl (fun _ => 0)))] := hD
  refine lv_aload_n hx hb dX3_init_15 rfl (lv_at hl 0 rfl) ?_
  refine lv_iconst (v := 2) hx hb dX3_init_16 (by decide) ?_
  refine va_newa (atype := .int) (ty := .int) (a0 := (2, .inl (fun _ => 0))) hx hb (hT _ qa_int) rfl hK hP hD hS hA (fun _ => rfl) (by decide) (by decide +kernel) (Nat.le_of_ble_eq_true rfl) (Nat.le_of_ble_eq_true rfl) (Nat.le_of_ble_eq_true rfl) dX3_init_17 (fun q17 k17 H hK hP hD hS => ?_)
  refine W.widen (k := 4) (n := 44) (Nat.le_of_ble_eq_true rfl) (Nat.le_of_ble_eq_true rfl) ?_
  have hP : va_P D vwCl [(h0, .inr (3, [.ref q8, .null, .null, .null, .null, .null, .null, .null, .int 0, .int 0, .int 0])), (q8, .inl (k8, 2, .inr (.inr (.inr (.inr (fun i => if i < 2 then some (rr i) else none)))))), (rr 0, .inl (cy, 20, .inl (fun _ => 0))), (rr 1, .inl (cy, 20, .inl (fun _ => 0))), (q17, .inl (k17, 2, .inl (fun _ => 0)))] H := hP
  have hD : va_D A [(h0, .inr (3, [.ref q8, .null, .null, .null, .null, .null, .null, .null, .int 0, .int 0, .int 0])), (q8, .inl (k8, 2, .inr (.inr (.inr (.inr (fun i => if i < 2 then some (rr i) else none)))))), (rr 0, .inl (cy, 20, .inl (fun _ => 0))), (rr 1, .inl (cy, 20, .inl (fun _ => 0))), (q17, .inl (k17, 2, .inl (fun _ => 0)))] := hD
  have hK : va_K D vwCl [(k8, .array .int), (k17, .int)] s := hK
  refine va_putF (ci := 3) (v := .ref q17) (ty := .array .int) (C := RX3) (T := TX3) (N := 11) hx hb hT inX3 tyX3 tyX3_ok nmX3 hown hK hP hD hS 0 rfl rfl 1 (by decide) (hT _ q_1_56) (fun _ h9 => h9) rfl hin rfl (by decide +kernel) rfl rfl (Nat.le_of_ble_eq_true rfl) dX3_init_19 (fun H locs hP hD hS => ?_)
  have hP : va_P D vwCl [(h0, .inr (3, [.ref q8, .ref q17, .null, .null, .null, .null, .null, .null, .int 0, .int 0, .int 0])), (q8, .inl (k8, 2, .inr (.inr (.inr (.inr (fun i => if i < 2 then some (rr i) else none)))))), (rr 0, .inl (cy, 20, .inl (fun _ => 0))), (rr 1, .inl (cy, 20, .inl (fun _ => 0))), (q17, .inl (k17, 2, .inl (fun _ => 0)))] H := hP
  have hD : va_D A [(h0, .inr (3, [.ref q8, .ref q17, .null, .null, .null, .null, .null, .null, .int 0, .int 0, .int 0])), (q8, .inl (k8, 2, .inr (.inr (.inr (.inr (fun i => if i < 2 then some (rr i) else none)))))), (rr 0, .inl (cy, 20, .inl (fun _ => 0))), (rr 1, .inl (cy, 20, .inl (fun _ => 0))), (q17, .inl (k17, 2, .inl (fun _ => 0)))] := hD
  refine lv_aload_n hx hb dX3_init_22 rfl (lv_at hl 0 rfl) ?_
  refine lv_iconst (v := 2) hx hb dX3_init_23 (by decide) ?_
  refine va_newa (atype := .int) (ty := .int) (a0 := (2, .inl (fun _ => 0))) hx hb (hT _ qa_int) rfl hK hP hD hS hA (fun _ => rfl) (by decide) (by decide +kernel) (Nat.le_of_ble_eq_true rfl) (Nat.le_of_ble_eq_true rfl) (Nat.le_of_ble_eq_true rfl) dX3_init_24 (fun q24 k24 H hK hP hD hS => ?_)
  refine W.widen (k := 5) (n := 46) (Nat.le_of_ble_eq_true rfl) (Nat.le_of_ble_eq_true rfl) ?_
  have hP : va_P D vwCl [(h0, .inr (3, [.ref q8, .ref q17, .null, .null, .null, .null, .null, .null, .int 0, .int 0, .int 0])), (q8, .inl (k8, 2, .inr (.inr (.inr (.inr (fun i => if i < 2 then some (rr i) else none)))))), (rr 0, .inl (cy, 20, .inl (fun _ => 0))), (rr 1, .inl (cy, 20, .inl (fun _ => 0))), (q17, .inl (k17, 2, .inl (fun _ => 0))), (q24, .inl (k24, 2, .inl (fun _ => 0)))] H := hP
  have hD : va_D A [(h0, .inr (3, [.ref q8, .ref q17, .null, .null, .null, .null, .null, .null, .int 0, .int 0, .int 0])), (q8, .inl (k8, 2, .inr (.inr (.inr (.inr (fun i => if i < 2 then some (rr i) else none)))))), (rr 0, .inl (cy, 20, .inl (fun _ => 0))), (rr 1, .inl (cy, 20, .inl (fun _ => 0))), (q17, .inl (k17, 2, .inl (fun _ => 0))), (q24, .inl (k24, 2, .inl (fun _ => 0)))] := hD
  have hK : va_K D vwCl [(k8, .array .int), (k17, .int), (k24, .int)] s := hK
  refine va_putF (ci := 3) (v := .ref q24) (ty := .array .int) (C := RX3) (T := TX3) (N := 11) hx hb hT inX3 tyX3 tyX3_ok nmX3 hown hK hP hD hS 0 rfl rfl 2 (by decide) (hT _ q_1_58) (fun _ h9 => h9) rfl hin rfl (by decide +kernel) rfl rfl (Nat.le_of_ble_eq_true rfl) dX3_init_26 (fun H locs hP hD hS => ?_)
  have hP : va_P D vwCl [(h0, .inr (3, [.ref q8, .ref q17, .ref q24, .null, .null, .null, .null, .null, .int 0, .int 0, .int 0])), (q8, .inl (k8, 2, .inr (.inr (.inr (.inr (fun i => if i < 2 then some (rr i) else none)))))), (rr 0, .inl (cy, 20, .inl (fun _ => 0))), (rr 1, .inl (cy, 20, .inl (fun _ => 0))), (q17, .inl (k17, 2, .inl (fun _ => 0))), (q24, .inl (k24, 2, .inl (fun _ => 0)))] H := hP
  have hD : va_D A [(h0, .inr (3, [.ref q8, .ref q17, .ref q24, .null, .null, .null, .null, .null, .int 0, .int 0, .int 0])), (q8, .inl (k8, 2, .inr (.inr (.inr (.inr (fun i => if i < 2 then some (rr i) else none)))))), (rr 0, .inl (cy, 20, .inl (fun _ => 0))), (rr 1, .inl (cy, 20, .inl (fun _ => 0))), (q17, .inl (k17, 2, .inl (fun _ => 0))), (q24, .inl (k24, 2, .inl (fun _ => 0)))] := hD
  refine lv_aload_n hx hb dX3_init_29 rfl (lv_at hl 0 rfl) ?_
  refine lv_bipush (v := 8) hx hb dX3_init_30 (by decide) ?_
  refine va_newa (atype := .int) (ty := .int) (a0 := (8, .inl (fun _ => 0))) hx hb (hT _ qa_int) rfl hK hP hD hS hA (fun _ => rfl) (by decide) (by decide +kernel) (Nat.le_of_ble_eq_true rfl) (Nat.le_of_ble_eq_true rfl) (Nat.le_of_ble_eq_true rfl) dX3_init_32 (fun q32 k32 H hK hP hD hS => ?_)
  refine W.widen (k := 6) (n := 54) (Nat.le_of_ble_eq_true rfl) (Nat.le_of_ble_eq_true rfl) ?_
  have hP : va_P D vwCl [(h0, .inr (3, [.ref q8, .ref q17, .ref q24, .null, .null, .null, .null, .null, .int 0, .int 0, .int 0])), (q8, .inl (k8, 2, .inr (.inr (.inr (.inr (fun i => if i < 2 then some (rr i) else none)))))), (rr 0, .inl (cy, 20, .inl (fun _ => 0))), (rr 1, .inl (cy, 20, .inl (fun _ => 0))), (q17, .inl (k17, 2, .inl (fun _ => 0))), (q24, .inl (k24, 2, .inl (fun _ => 0))), (q32, .inl (k32, 8, .inl (fun _ => 0)))] H := hP
  have hD : va_D A [(h0, .inr (3, [.ref q8, .ref q17, .ref q24, .null, .null, .null, .null, .null, .int 0, .int 0, .int 0])), (q8, .inl (k8, 2, .inr (.inr (.inr (.inr (fun i => if i < 2 then some (rr i) else none)))))), (rr 0, .inl (cy, 20, .inl (fun _ => 0))), (rr 1, .inl (cy, 20, .inl (fun _ => 0))), (q17, .inl (k17, 2, .inl (fun _ => 0))), (q24, .inl (k24, 2, .inl (fun _ => 0))), (q32, .inl (k32, 8, .inl (fun _ => 0)))] := hD
  have hK : va_K D vwCl [(k8, .array .int), (k17, .int), (k24, .int), (k32, .int)] s := hK
  refine va_putF (ci := 3) (v := .ref q32) (ty := .array .int) (C := RX3) (T := TX3) (N := 11) hx hb hT inX3 tyX3 tyX3_ok nmX3 hown hK hP hD hS 0 rfl rfl 3 (by decide) (hT _ q_1_60) (fun _ h9 => h9) rfl hin rfl (by decide +kernel) rfl rfl (Nat.le_of_ble_eq_true rfl) dX3_init_34 (fun H locs hP hD hS => ?_)
  have hP : va_P D vwCl [(h0, .inr (3, [.ref q8, .ref q17, .ref q24, .ref q32, .null, .null, .null, .null, .int 0, .int 0, .int 0])), (q8, .inl (k8, 2, .inr (.inr (.inr (.inr (fun i => if i < 2 then some (rr i) else none)))))), (rr 0, .inl (cy, 20, .inl (fun _ => 0))), (rr 1, .inl (cy, 20, .inl (fun _ => 0))), (q17, .inl (k17, 2, .inl (fun _ => 0))), (q24, .inl (k24, 2, .inl (fun _ => 0))), (q32, .inl (k32, 8, .inl (fun _ => 0)))] H := hP
  have hD : va_D A [(h0, .inr (3, [.ref q8, .ref q17, .ref q24, .ref q32, .null, .null, .null, .null, .int 0, .int 0, .int 0])), (q8, .inl (k8, 2, .inr (.inr (.inr (.inr (fun i => if i < 2 then some (rr i) else none)))))), (rr 0, .inl (cy, 20, .inl (fun _ => 0))), (rr 1, .inl (cy, 20, .inl (fun _ => 0))), (q17, .inl (k17, 2, .inl (fun _ => 0))), (q24, .inl (k24, 2, .inl (fun _ => 0))), (q32, .inl (k32, 8, .inl (fun _ => 0)))] := hD
  refine lv_aload_n hx hb dX3_init_37 rfl (lv_at hl 0 rfl) ?_
  refine lv_bipush (v := 8) hx hb dX3_init_38 (by decide) ?_
  refine va_newa (atype := .int) (ty := .int) (a0 := (8, .inl (fun _ => 0))) hx hb (hT _ qa_int) rfl hK hP hD hS hA (fun _ => rfl) (by decide) (by decide +kernel) (Nat.le_of_ble_eq_true rfl) (Nat.le_of_ble_eq_true rfl) (Nat.le_of_ble_eq_true rfl) dX3_init_40 (fun q40 k40 H hK hP hD hS => ?_)
  refine W.widen (k := 7) (n := 62) (Nat.le_of_ble_eq_true rfl) (Nat.le_of_ble_eq_true rfl) ?_
  have hP : va_P D vwCl [(h0, .inr (3, [.ref q8, .ref q17, .ref q24, .ref q32, .null, .null, .null, .null, .int 0, .int 0, .int 0])), (q8, .inl (k8, 2, .inr (.inr (.inr (.inr (fun i => if i < 2 then some (rr i) else none)))))), (rr 0, .inl (cy, 20, .inl (fun _ => 0))), (rr 1, .inl (cy, 20, .inl (fun _ => 0))), (q17, .inl (k17, 2, .inl (fun _ => 0))), (q24, .inl (k24, 2, .inl (fun _ => 0))), (q32, .inl (k32, 8, .inl (fun _ => 0))), (q40, .inl (k40, 8, .inl (fun _ => 0)))] H := hP
  have hD : va_D A [(h0, .inr (3, [.ref q8, .ref q17, .ref q24, .ref q32, .null, .null, .null, .null, .int 0, .int 0, .int 0])), (q8, .inl (k8, 2, .inr (.inr (.inr (.inr (fun i => if i < 2 then some (rr i) else none)))))), (rr 0, .inl (cy, 20, .inl (fun _ => 0))), (rr 1, .inl (cy, 20, .inl (fun _ => 0))), (q17, .inl (k17, 2, .inl (fun _ => 0))), (q24, .inl (k24, 2, .inl (fun _ => 0))), (q32, .inl (k32, 8, .inl (fun _ => 0))), (q40, .inl (k40, 8, .inl (fun _ => 0)))] := hD
  have hK : va_K D vwCl [(k8, .array .int), (k17, .int), (k24, .int), (k32, .int), (k40, .int)] s := hK
  refine va_putF (ci := 3) (v := .ref q40) (ty := .array .int) (C := RX3) (T := TX3) (N := 11) hx hb hT inX3 tyX3 tyX3_ok nmX3 hown hK hP hD hS 0 rfl rfl 4 (by decide) (hT _ q_1_62) (fun _ h9 => h9) rfl hin rfl (by decide +kernel) rfl rfl (Nat.le_of_ble_eq_true rfl) dX3_init_42 (fun H locs hP hD hS => ?_)
  have hP : va_P D vwCl [(h0, .inr (3, [.ref q8, .ref q17, .ref q24, .ref q32, .ref q40, .null, .null, .null, .int 0, .int 0, .int 0])), (q8, .inl (k8, 2, .inr (.inr (.inr (.inr (fun i => if i < 2 then some (rr i) else none)))))), (rr 0, .inl (cy, 20, .inl (fun _ => 0))), (rr 1, .inl (cy, 20, .inl (fun _ => 0))), (q17, .inl (k17, 2, .inl (fun _ => 0))), (q24, .inl (k24, 2, .inl (fun _ => 0))), (q32, .inl (k32, 8, .inl (fun _ => 0))), (q40, .inl (k40, 8, .inl (fun _ => 0)))] H := hP
  have hD : va_D A [(h0, .inr (3, [.ref q8, .ref q17, .ref q24, .ref q32, .ref q40, .null, .null, .null, .int 0, .int 0, .int 0])), (q8, .inl (k8, 2, .inr (.inr (.inr (.inr (fun i => if i < 2 then some (rr i) else none)))))), (rr 0, .inl (cy, 20, .inl (fun _ => 0))), (rr 1, .inl (cy, 20, .inl (fun _ => 0))), (q17, .inl (k17, 2, .inl (fun _ => 0))), (q24, .inl (k24, 2, .inl (fun _ => 0))), (q32, .inl (k32, 8, .inl (fun _ => 0))), (q40, .inl (k40, 8, .inl (fun _ => 0)))] := hD
  refine lv_aload_n hx hb dX3_init_45 rfl (lv_at hl 0 rfl) ?_
  refine lv_iconst (v := 3) hx hb dX3_init_46 (by decide) ?_
  refine va_newa (atype := .int) (ty := .int) (a0 := (3, .inl (fun _ => 0))) hx hb (hT _ qa_int) rfl hK hP hD hS hA (fun _ => rfl) (by decide) (by decide +kernel) (Nat.le_of_ble_eq_true rfl) (Nat.le_of_ble_eq_true rfl) (Nat.le_of_ble_eq_true rfl) dX3_init_47 (fun q47 k47 H hK hP hD hS => ?_)
  refine W.widen (k := 8) (n := 65) (Nat.le_of_ble_eq_true rfl) (Nat.le_of_ble_eq_true rfl) ?_
  have hP : va_P D vwCl [(h0, .inr (3, [.ref q8, .ref q17, .ref q24, .ref q32, .ref q40, .null, .null, .null, .int 0, .int 0, .int 0])), (q8, .inl (k8, 2, .inr (.inr (.inr (.inr (fun i => if i < 2 then some (rr i) else none)))))), (rr 0, .inl (cy, 20, .inl (fun _ => 0))), (rr 1, .inl (cy, 20, .inl (fun _ => 0))), (q17, .inl (k17, 2, .inl (fun _ => 0))), (q24, .inl (k24, 2, .inl (fun _ => 0))), (q32, .inl (k32, 8, .inl (fun _ => 0))), (q40, .inl (k40, 8, .inl (fun _ => 0))), (q47, .inl (k47, 3, .inl (fun _ => 0)))] H := hP
  have hD : va_D A [(h0, .inr (3, [.ref q8, .ref q17, .ref q24, .ref q32, .ref q40, .null, .null, .null, .int 0, .int 0, .int 0])), (q8, .inl (k8, 2, .inr (.inr (.inr (.inr (fun i => if i < 2 then some (rr i) else none)))))), (rr 0, .inl (cy, 20, .inl (fun _ => 0))), (rr 1, .inl (cy, 20, .inl (fun _ => 0))), (q17, .inl (k17, 2, .inl (fun _ => 0))), (q24, .inl (k24, 2, .inl (fun _ => 0))), (q32, .inl (k32, 8, .inl (fun _ => 0))), (q40, .inl (k40, 8, .inl (fun _ => 0))), (q47, .inl (k47, 3, .inl (fun _ => 0)))] := hD
  have hK : va_K D vwCl [(k8, .array .int), (k17, .int), (k24, .int), (k32, .int), (k40, .int), (k47, .int)] s := hK
  refine va_putF (ci := 3) (v := .ref q47) (ty := .array .int) (C := RX3) (T := TX3) (N := 11) hx hb hT inX3 tyX3 tyX3_ok nmX3 hown hK hP hD hS 0 rfl rfl 5 (by decide) (hT _ q_1_64) (fun _ h9 => h9) rfl hin rfl (by decide +kernel) rfl rfl (Nat.le_of_ble_eq_true rfl) dX3_init_49 (fun H locs hP hD hS => ?_)
  have hP : va_P D vwCl [(h0, .inr (3, [.ref q8, .ref q17, .ref q24, .ref q32, .ref q40, .ref q47, .null, .null, .int 0, .int 0, .int 0])), (q8, .inl (k8, 2, .inr (.inr (.inr (.inr (fun i => if i < 2 then some (rr i) else none)))))), (rr 0, .inl (cy, 20, .inl (fun _ => 0))), (rr 1, .inl (cy, 20, .inl (fun _ => 0))), (q17, .inl (k17, 2, .inl (fun _ => 0))), (q24, .inl (k24, 2, .inl (fun _ => 0))), (q32, .inl (k32, 8, .inl (fun _ => 0))), (q40, .inl (k40, 8, .inl (fun _ => 0))), (q47, .inl (k47, 3, .inl (fun _ => 0)))] H := hP
  have hD : va_D A [(h0, .inr (3, [.ref q8, .ref q17, .ref q24, .ref q32, .ref q40, .ref q47, .null, .null, .int 0, .int 0, .int 0])), (q8, .inl (k8, 2, .inr (.inr (.inr (.inr (fun i => if i < 2 then some (rr i) else none)))))), (rr 0, .inl (cy, 20, .inl (fun _ => 0))), (rr 1, .inl (cy, 20, .inl (fun _ => 0))), (q17, .inl (k17, 2, .inl (fun _ => 0))), (q24, .inl (k24, 2, .inl (fun _ => 0))), (q32, .inl (k32, 8, .inl (fun _ => 0))), (q40, .inl (k40, 8, .inl (fun _ => 0))), (q47, .inl (k47, 3, .inl (fun _ => 0)))] := hD
  refine lv_aload_n hx hb dX3_init_52 rfl (lv_at hl 0 rfl) ?_
  refine lv_bipush (v := 8) hx hb dX3_init_53 (by decide) ?_
  refine va_newa (atype := .int) (ty := .int) (a0 := (8, .inl (fun _ => 0))) hx hb (hT _ qa_int) rfl hK hP hD hS hA (fun _ => rfl) (by decide) (by decide +kernel) (Nat.le_of_ble_eq_true rfl) (Nat.le_of_ble_eq_true rfl) (Nat.le_of_ble_eq_true rfl) dX3_init_55 (fun q55 k55 H hK hP hD hS => ?_)
  refine W.widen (k := 9) (n := 73) (Nat.le_of_ble_eq_true rfl) (Nat.le_of_ble_eq_true rfl) ?_
  have hP : va_P D vwCl [(h0, .inr (3, [.ref q8, .ref q17, .ref q24, .ref q32, .ref q40, .ref q47, .null, .null, .int 0, .int 0, .int 0])), (q8, .inl (k8, 2, .inr (.inr (.inr (.inr (fun i => if i < 2 then some (rr i) else none)))))), (rr 0, .inl (cy, 20, .inl (fun _ => 0))), (rr 1, .inl (cy, 20, .inl (fun _ => 0))), (q17, .inl (k17, 2, .inl (fun _ => 0))), (q24, .inl (k24, 2, .inl (fun _ => 0))), (q32, .inl (k32, 8, .inl (fun _ => 0))), (q40, .inl (k40, 8, .inl (fun _ => 0))), (q47, .inl (k47, 3, .inl (fun _ => 0))), (q55, .inl (k55, 8, .inl (fun _ => 0)))] H := hP
  have hD : va_D A [(h0, .inr (3, [.ref q8, .ref q17, .ref q24, .ref q32, .ref q40, .ref q47, .null, .null, .int 0, .int 0, .int 0])), (q8, .inl (k8, 2, .inr (.inr (.inr (.inr (fun i => if i < 2 then some (rr i) else none)))))), (rr 0, .inl (cy, 20, .inl (fun _ => 0))), (rr 1, .inl (cy, 20, .inl (fun _ => 0))), (q17, .inl (k17, 2, .inl (fun _ => 0))), (q24, .inl (k24, 2, .inl (fun _ => 0))), (q32, .inl (k32, 8, .inl (fun _ => 0))), (q40, .inl (k40, 8, .inl (fun _ => 0))), (q47, .inl (k47, 3, .inl (fun _ => 0))), (q55, .inl (k55, 8, .inl (fun _ => 0)))] := hD
  have hK : va_K D vwCl [(k8, .array .int), (k17, .int), (k24, .int), (k32, .int), (k40, .int), (k47, .int), (k55, .int)] s := hK
  refine va_putF (ci := 3) (v := .ref q55) (ty := .array .int) (C := RX3) (T := TX3) (N := 11) hx hb hT inX3 tyX3 tyX3_ok nmX3 hown hK hP hD hS 0 rfl rfl 6 (by decide) (hT _ q_1_65) (fun _ h9 => h9) rfl hin rfl (by decide +kernel) rfl rfl (Nat.le_of_ble_eq_true rfl) dX3_init_57 (fun H locs hP hD hS => ?_)
  have hP : va_P D vwCl [(h0, .inr (3, [.ref q8, .ref q17, .ref q24, .ref q32, .ref q40, .ref q47, .ref q55, .null, .int 0, .int 0, .int 0])), (q8, .inl (k8, 2, .inr (.inr (.inr (.inr (fun i => if i < 2 then some (rr i) else none)))))), (rr 0, .inl (cy, 20, .inl (fun _ => 0))), (rr 1, .inl (cy, 20, .inl (fun _ => 0))), (q17, .inl (k17, 2, .inl (fun _ => 0))), (q24, .inl (k24, 2, .inl (fun _ => 0))), (q32, .inl (k32, 8, .inl (fun _ => 0))), (q40, .inl (k40, 8, .inl (fun _ => 0))), (q47, .inl (k47, 3, .inl (fun _ => 0))), (q55, .inl (k55, 8, .inl (fun _ => 0)))] H := hP
  have hD : va_D A [(h0, .inr (3, [.ref q8, .ref q17, .ref q24, .ref q32, .ref q40, .ref q47, .ref q55, .null, .int 0, .int 0, .int 0])), (q8, .inl (k8, 2, .inr (.inr (.inr (.inr (fun i => if i < 2 then some (rr i) else none)))))), (rr 0, .inl (cy, 20, .inl (fun _ => 0))), (rr 1, .inl (cy, 20, .inl (fun _ => 0))), (q17, .inl (k17, 2, .inl (fun _ => 0))), (q24, .inl (k24, 2, .inl (fun _ => 0))), (q32, .inl (k32, 8, .inl (fun _ => 0))), (q40, .inl (k40, 8, .inl (fun _ => 0))), (q47, .inl (k47, 3, .inl (fun _ => 0))), (q55, .inl (k55, 8, .inl (fun _ => 0)))] := hD
  refine lv_aload_n hx hb dX3_init_60 rfl (lv_at hl 0 rfl) ?_
  refine lv_bipush (v := 8) hx hb dX3_init_61 (by decide) ?_
  refine va_newa (atype := .int) (ty := .int) (a0 := (8, .inl (fun _ => 0))) hx hb (hT _ qa_int) rfl hK hP hD hS hA (fun _ => rfl) (by decide) (by decide +kernel) (Nat.le_of_ble_eq_true rfl) (Nat.le_of_ble_eq_true rfl) (Nat.le_of_ble_eq_true rfl) dX3_init_63 (fun q63 k63 H hK hP hD hS => ?_)
  refine W.widen (k := 10) (n := 81) (Nat.le_of_ble_eq_true rfl) (Nat.le_of_ble_eq_true rfl) ?_
  have hP : va_P D vwCl [(h0, .inr (3, [.ref q8, .ref q17, .ref q24, .ref q32, .ref q40, .ref q47, .ref q55, .null, .int 0, .int 0, .int 0])), (q8, .inl (k8, 2, .inr (.inr (.inr (.inr (fun i => if i < 2 then some (rr i) else none)))))), (rr 0, .inl (cy, 20, .inl (fun _ => 0))), (rr 1, .inl (cy, 20, .inl (fun _ => 0))), (q17, .inl (k17, 2, .inl (fun _ => 0))), (q24, .inl (k24, 2, .inl (fun _ => 0))), (q32, .inl (k32, 8, .inl (fun _ => 0))), (q40, .inl (k40, 8, .inl (fun _ => 0))), (q47, .inl (k47, 3, .inl (fun _ => 0))), (q55, .inl (k55, 8, .inl (fun _ => 0))), (q63, .inl (k63, 8, .inl (fun _ => 0)))] H := hP
  have hD : va_D A [(h0, .inr (3, [.ref q8, .ref q17, .ref q24, .ref q32, .ref q40, .ref q47, .ref q55, .null, .int 0, .int 0, .int 0])), (q8, .inl (k8, 2, .inr (.inr (.inr (.inr (fun i => if i < 2 then some (rr i) else none)))))), (rr 0, .inl (cy, 20, .inl (fun _ => 0))), (rr 1, .inl (cy, 20, .inl (fun _ => 0))), (q17, .inl (k17, 2, .inl (fun _ => 0))), (q24, .inl (k24, 2, .inl (fun _ => 0))), (q32, .inl (k32, 8, .inl (fun _ => 0))), (q40, .inl (k40, 8, .inl (fun _ => 0))), (q47, .inl (k47, 3, .inl (fun _ => 0))), (q55, .inl (k55, 8, .inl (fun _ => 0))), (q63, .inl (k63, 8, .inl (fun _ => 0)))] := hD
  have hK : va_K D vwCl [(k8, .array .int), (k17, .int), (k24, .int), (k32, .int), (k40, .int), (k47, .int), (k55, .int), (k63, .int)] s := hK
  refine va_putF (ci := 3) (v := .ref q63) (ty := .array .int) (C := RX3) (T := TX3) (N := 11) hx hb hT inX3 tyX3 tyX3_ok nmX3 hown hK hP hD hS 0 rfl rfl 7 (by decide) (hT _ q_1_72) (fun _ h9 => h9) rfl hin rfl (by decide +kernel) rfl rfl (Nat.le_of_ble_eq_true rfl) dX3_init_65 (fun H locs hP hD hS => ?_)
  have hP : va_P D vwCl [(h0, .inr (3, [.ref q8, .ref q17, .ref q24, .ref q32, .ref q40, .ref q47, .ref q55, .ref q63, .int 0, .int 0, .int 0])), (q8, .inl (k8, 2, .inr (.inr (.inr (.inr (fun i => if i < 2 then some (rr i) else none)))))), (rr 0, .inl (cy, 20, .inl (fun _ => 0))), (rr 1, .inl (cy, 20, .inl (fun _ => 0))), (q17, .inl (k17, 2, .inl (fun _ => 0))), (q24, .inl (k24, 2, .inl (fun _ => 0))), (q32, .inl (k32, 8, .inl (fun _ => 0))), (q40, .inl (k40, 8, .inl (fun _ => 0))), (q47, .inl (k47, 3, .inl (fun _ => 0))), (q55, .inl (k55, 8, .inl (fun _ => 0))), (q63, .inl (k63, 8, .inl (fun _ => 0)))] H := hP
  have hD : va_D A [(h0, .inr (3, [.ref q8, .ref q17, .ref q24, .ref q32, .ref q40, .ref q47, .ref q55, .ref q63, .int 0, .int 0, .int 0])), (q8, .inl (k8, 2, .inr (.inr (.inr (.inr (fun i => if i < 2 then some (rr i) else none)))))), (rr 0, .inl (cy, 20, .inl (fun _ => 0))), (rr 1, .inl (cy, 20, .inl (fun _ => 0))), (q17, .inl (k17, 2, .inl (fun _ => 0))), (q24, .inl (k24, 2, .inl (fun _ => 0))), (q32, .inl (k32, 8, .inl (fun _ => 0))), (q40, .inl (k40, 8, .inl (fun _ => 0))), (q47, .inl (k47, 3, .inl (fun _ => 0))), (q55, .inl (k55, 8, .inl (fun _ => 0))), (q63, .inl (k63, 8, .inl (fun _ => 0)))] := hD
  refine lv_aload_n hx hb dX3_init_68 rfl (lv_at hl 0 rfl) ?_
  obtain ⟨a, ea⟩ : ∃ a : Nat → Nat, a = fun j => ([h0, q8, rr 0, rr 1, q17, q24, q32, q40, q47, q55, q63] : List Nat).getD j 0 := ⟨_, rfl⟩
  obtain ⟨kc, ek⟩ : ∃ kc : Nat → ClassId, kc = fun j => ([0, k8, cy, cy, k17, k24, k32, k40, k47, k55, k63] : List Nat).getD j 0 := ⟨_, rfl⟩
  have eo : (fun i => if i < 2 then some (rr i) else none) = (fun i => if i < 2 then some (a (2 + i)) else none) := by
    rw [ea]
    funext i
    by_cases h : i < 2
    · rcases (show i = 0 ∨ i = 1 by omega) with rfl | rfl <;> rfl
    · rw [if_neg h, if_neg h]
  rw [eo] at hP hD
  have hPw : va_P D vwCl (wH a kc (fun _ => (0 : Int32)) (fun _ _ => (0 : Int32)) (fun _ _ _ => (0 : Int32))) H := by subst ea; subst ek; exact hP
  have hDw : va_D A (wH a kc (fun _ => (0 : Int32)) (fun _ _ => (0 : Int32)) (fun _ _ _ => (0 : Int32))) := by subst ea; subst ek; exact hD
  have ecy : cy = k17 := by
    have h1 : s.vm.findClass ("[" ++ FieldType.int.toString) = some k17 := (hK.2 1 _ rfl).2
    have h2 : s.vm.findClass (FieldType.array .int).toString = some cy := hcy
    rw [show (FieldType.array .int).toString = "[" ++ FieldType.int.toString by decide +kernel, h1] at h2
    exact (Option.some.inj h2).symm
  have hKw : va_K D vwCl (tyH kc) s := by rw [ek, ecy]; exact hK.sub [0, 1, 1, 1, 2, 3, 4, 5, 6, 7] rfl
  have hap : ∀ i j, i < 11 → j < 11 → a i = a j → i = j := fun i j hi hj h => by
    have h1 := hDw.1
    have f : ∀ k, k < 11 → ∃ e9, (wH a kc (fun _ => (0 : Int32)) (fun _ _ => (0 : Int32)) (fun _ _ _ => (0 : Int32)))[k]? = some (a k, e9) := fun k hk => by
      match k, hk with
      | 0, _ => exact ⟨_, rfl⟩
      | 1, _ => exact ⟨_, rfl⟩
      | 2, _ => exact ⟨_, rfl⟩
      | 3, _ => exact ⟨_, rfl⟩
      | 4, _ => exact ⟨_, rfl⟩
      | 5, _ => exact ⟨_, rfl⟩
      | 6, _ => exact ⟨_, rfl⟩
      | 7, _ => exact ⟨_, rfl⟩
      | 8, _ => exact ⟨_, rfl⟩
      | 9, _ => exact ⟨_, rfl⟩
      | 10, _ => exact ⟨_, rfl⟩
      | k + 11, hk => exact absurd hk (by omega)
    obtain ⟨e1, g1⟩ := f i hi
    obtain ⟨e2, g2⟩ := f j hj
    exact h1 i j _ _ g1 g2 h
  have hAa : ∀ k, k < 11 → A (a k) := fun k hk => by
    have h2 := hDw.2
    match k, hk with
    | 0, _ => exact h2 0 _ rfl
    | 1, _ => exact h2 1 _ rfl
    | 2, _ => exact h2 2 _ rfl
    | 3, _ => exact h2 3 _ rfl
    | 4, _ => exact h2 4 _ rfl
    | 5, _ => exact h2 5 _ rfl
    | 6, _ => exact h2 6 _ rfl
    | 7, _ => exact h2 7 _ rfl
    | 8, _ => exact h2 8 _ rfl
    | 9, _ => exact h2 9 _ rfl
    | 10, _ => exact h2 10 _ rfl
    | k + 11, hk => exact absurd hk (by omega)
  have hFr : ∀ q, ad a 11 H.size q → A q := fun q h => h.elim (fun ⟨k, hk, e9⟩ => by rw [e9]; exact hAa k hk) (fun h => hA q (Nat.le_trans hS.1 h))
  have ea0 : a 0 = h0 := by rw [ea]; rfl
  refine W.eq (g2 := F0 m 69 ls [.ref (a 0)]) (by rw [ea0]) ?_
  refine va_callv (va_runV (As := []) (rest := []) ⟨hx, hb, hml, hown, hT⟩ (c_X3_parseh (fun _ => (0 : Int32)) (fun _ _ => (0 : Int32)) (fun _ _ _ => (0 : Int32)) hap hf H.size) (cwV 0 hT (wsV_gw q_1_30 q_1_32 qs_yX3_parse q_1_2 q_1_33) rfl rfl rfl ok_X3_parse ⟨Nat.le_of_ble_eq_true rfl, Nat.le_of_ble_eq_true rfl⟩) ⟨Pw_blind, va_recv hKw hPw (ci := 3) (q0 := 0) rfl rfl, fun U hU hW => ⟨rfl, by rw [hU], by rw [hU]; exact hPw, va_K.moved hW.alike hKw⟩⟩ rfl rfl hl.1 rfl (lv_room (Nat.le_of_ble_eq_true rfl)) dX3_init_69 ⟨Nat.le_of_ble_eq_true rfl, Nat.le_of_ble_eq_true rfl⟩) hS (fun q _ h => hFr q h) hFr (fun u t H1 locs ht hvm hw hB hz1 hk1 hS => ?_)
  rw [ht] at hB
  have hD9 : va_D A (wH a kc (va_up (va_up (va_up (fun _ => (0 : Int32)) 0 o0) 1 o1) 2 o2) (va_up (va_up (va_up (va_up (va_up (va_up (fun _ _ => (0 : Int32)) 1 o3) 2 o4) 3 o5) 4 o6) 5 o7) 6 o8) (fun _ _ _ => (0 : Int32))) := (wH_D (sz := H.size) hap).weaken (fun _ _ _ h => hFr _ h)
  refine W.widen (k := 10) (n := 81) (Nat.le_of_ble_eq_true rfl) (Nat.le_of_ble_eq_true rfl) ?_
  exact W.vret hx hb hr (fun t ht hW => ⟨⟨(a, kc), rfl, ea0, by rw [ht]; exact hB, va_K.moved hW.alike hKw, hD9⟩, hS.F ht⟩) hS.2.2 dX3_init_72
