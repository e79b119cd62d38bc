theorem just_140 {S P : Nat} {srt own knd : Nat → Nat} {ms mo mk : Nat → Int32} (hM : MC S P srt own knd ms mo mk) {ks : Nat → Int32} {x1 x2 : Int32} {x3 : Int64} {k : Nat} (hk : k < P) {b : Nat → Int64} (hb : ∀ x, x < 2304 → b x = lN (dB S srt own knd k x)) (K : (Int32 → Int32 → Int32 → Int32 → Int32 → (Nat → Int32) → (Nat → Int32) → (Nat → Int32) → (Nat → Int32) → (Nat → Int64) → (Nat → Int64) → Int32 → Int32 → Int64 → Int32 → Option (Int64 × Int32 × Int32 × Int32 × (Nat → Int32) × (Nat → Int64) × (Nat → Int64)))) (K2 : (Int32 → Int32 → Int32 → Int32 → Int32 → (Nat → Int32) → (Nat → Int32) → (Nat → Int32) → (Nat → Int32) → (Nat → Int64) → (Nat → Int64) → Int32 → Int32 → Int64 → Int32 → Int64 → Int32 → Option (Int64 × Int32 × Int32 × Int32 × (Nat → Int32) × (Nat → Int64) × (Nat → Int64)))) {u : Nat} (hu : u < 2304) (hD : dB S srt own knd k u ≠ 0) : ∀ (r j fuel : Nat) (bn : Nat → Int64) (a : Nat → Nat), j + r = S → r < fuel → (∀ x, x < 2304 → bn x = lN (a x + fb_sm (fun s => gB S srt own knd k u s x) j)) →
    ∃ bn', (∀ x, x < 2304 → bn' x = lN (a x + fb_sm (fun s => gB S srt own knd k u s x) S)) ∧ p_X8_justOf_b140 K K2 fuel (nI S) (nI P) (-1) (-1) 0 ms mo mk ks b bn x1 x2 x3 (nI k) (lN (lc (S - k))) (nI u) (nI (u / 9)) (nI (cCh S srt own knd k (u / 9))) (nI j) = K2 (nI S) (nI P) (-1) (-1) 0 ms mo mk ks b bn' x1 x2 x3 (nI k) (lN (lc (S - k))) (nI (u + 1)) := by
  obtain ⟨hS, hP, h1, h2⟩ := id hM
  have hpw := d_pw S hS
  have hoS : ∀ k, k < P → own k < S := fun k hk => (h2 k hk).2.1
  obtain ⟨o1, o2, o3, o4⟩ := h2 k hk
  obtain ⟨u1, u2, u3⟩ := dB_sup hS hP hoS k (by omega) u hD
  obtain ⟨c1, -, c3, c4⟩ := cCh_ok (srt := srt) (kd := knd) hS hP hoS k (u / 9) hk u1 u2
  have hl := (d_lcdvd (S - k) (by omega) 1 (by omega) ⟨by omega, by omega⟩).2
  have hbd := dB_bd (srt := srt) (kd := knd) hS hP hoS (show k ≤ P by omega) hu
  have hA := Aw_le S hS k (by omega) (by omega)
  intro r
  induction r with
  | zero =>
    intro j fuel bn a hj hf hx
    obtain ⟨f, rfl⟩ : ∃ f, fuel = f + 1 := ⟨fuel - 1, by omega⟩
    have ej : j = S := by omega
    subst ej
    refine ⟨bn, hx, ?_⟩
    show p_X8_justOf_b140x _ _ _ _ _ _ _ _ _ _ _ _ _ _ _ _ _ _ _ _ _ _ _ = _
    unfold p_X8_justOf_b140x p_X8_justOf_b224
    rw [if_pos (nI_le (Nat.le_refl j) (by omega)), nm_def, nI_1]
  | succ r ih =>
    intro j fuel bn a hj hf hx
    obtain ⟨f, rfl⟩ : ∃ f, fuel = f + 1 := ⟨fuel - 1, by omega⟩
    have hjS : j < S := by omega
    show ∃ bn', _ ∧ p_X8_justOf_b140x _ _ _ _ _ _ _ _ _ _ _ _ _ _ _ _ _ _ _ _ _ _ _ = _
    unfold p_X8_justOf_b140x
    rw [if_neg (nI_ge hjS (by omega)), d_isIn _ (Nat.lt_of_lt_of_le c1 hpw) j (by omega), b1_some]
    simp only [nIb0]
    by_cases hbt : (cCh S srt own knd k (u / 9)).testBit j = false
    · rw [if_pos hbt]
      obtain ⟨bn', e1, e2⟩ := ih (j + 1) f bn a (by omega) (by omega) (fun x h => by
        rw [hx x h, fb_sm_succ]
        have : gB S srt own knd k u j x = 0 := by unfold gB; rw [if_neg (fun q => by rw [hbt] at q; exact absurd q.1 (by decide))]
        rw [this, Nat.add_zero])
      refine ⟨bn', e1, ?_⟩
      rw [← e2]
      unfold p_X8_justOf_b218
      rw [nm_def, nI_1]
    · have hb' : (cCh S srt own knd k (u / 9)).testBit j = true := by simpa using hbt
      have hor : (u / 9 ||| 2 ^ j) < 2 ^ S := Nat.or_lt_two_pow u1 (two_lt hjS)
      have htb : tB own k u j < 2304 := dB_tau hS hP hoS hk u hu hD j hjS hb'
      have e9 : (9 : Int32) * (nI (u / 9) ||| ((1 : Int32) <<< (nI j &&& 31))) + (nI u - nI u / 9 * 9) = nI (9 * (u / 9 ||| 2 ^ j) + u % 9) := by
        rw [d_sh j (by omega), fa_or, rem9 hu, show (9 : Int32) = nI 9 from rfl, pk_mul, nI_add]
      have main : ∀ t2 : Nat, t2 = (if j = own k then 0 else 1) → ∃ bn', (∀ x, x < 2304 → bn' x = lN (a x + fb_sm (fun s => gB S srt own knd k u s x) S)) ∧ p_X8_justOf_b196 K K2 (p_X8_justOf_b140 K K2 f) (nI S) (nI P) (-1) (-1) 0 ms mo mk ks b bn (nI (9 * (u / 9 ||| 2 ^ j) + u % 9)) (nI t2) x1 x2 x3 (nI k) (lN (lc (S - k))) (nI u) (nI (u / 9)) (nI (cCh S srt own knd k (u / 9))) (nI j) = K2 (nI S) (nI P) (-1) (-1) 0 ms mo mk ks b bn' x1 x2 x3 (nI k) (lN (lc (S - k))) (nI (u + 1)) := fun t2 ht => by
        have et : 9 * (u / 9 ||| 2 ^ j) + u % 9 + t2 = tB own k u j := by unfold tB; rw [ht]
        obtain ⟨bn', e1, e2⟩ := ih (j + 1) f (vp_updL bn (tB own k u j) (bn (tB own k u j) + lN (dB S srt own knd k u * (lc (S - k) / pc (cCh S srt own knd k (u / 9)))))) a (by omega) (by omega) (fun x h => by
          rw [updL_at, fb_sm_succ]
          by_cases e : x = tB own k u j
          · rw [if_pos e, ← e, hx x h, lN_add, Nat.add_assoc]
            congr 2
            congr 1
            unfold gB
            rw [if_pos ⟨hb', rfl, e.symm⟩]
          · rw [if_neg e, hx x h]
            congr 2
            unfold gB
            rw [if_neg (fun q => e q.2.2.symm), Nat.add_zero])
        refine ⟨bn', e1, ?_⟩
        rw [← e2]
        unfold p_X8_justOf_b196 p_X8_justOf_b218
        rw [nI_add, et, inB_nI htb (by decide), inB_nI hu (by decide), gd_true, gd_true, d_ones _ (Nat.lt_of_lt_of_le c1 hpw), b1_some, nI_l (by omega), lne0 (by omega) (by omega), gd_true, gd_true, nm_def, nm_def, nI_1, nI_clamp (by omega), nI_clamp (by omega), hb u hu, pk_lDiv (by omega) (by omega) (by omega), lN_mul]
      rw [if_neg hbt, show decide (¬ (9 : Nat) = 0) = true from rfl, gd_true, inB_nI (show k < 8 by omega) (by decide), gd_true, nI_clamp (by omega), o1]
      have ejo : (nI j = nI (own k)) = (j = own k) := propext (nI_eq (by omega) (by omega))
      simp only [ejo, e9]
      by_cases h9 : j = own k
      · rw [if_pos h9]
        exact main 0 (by rw [if_pos h9])
      · rw [if_neg h9]
        exact main 1 (by rw [if_neg h9])
theorem just_93 {S P : Nat} {srt own knd : Nat → Nat} {ms mo mk : Nat → Int32} (hM : MC S P srt own knd ms mo mk) {ks : Nat → Int32} {x1 x2 : Int32} {x3 : Int64} {k : Nat} (hk : k < P) {b : Nat → Int64} (hb : ∀ x, x < 2304 → b x = lN (dB S srt own knd k x)) (K : (Int32 → Int32 → Int32 → Int32 → Int32 → (Nat → Int32) → (Nat → Int32) → (Nat → Int32) → (Nat → Int32) → (Nat → Int64) → (Nat → Int64) → Int32 → Int32 → Int64 → Int32 → Option (Int64 × Int32 × Int32 × Int32 × (Nat → Int32) × (Nat → Int64) × (Nat → Int64)))) : ∀ (r i fuel : Nat) (bn : Nat → Int64), i + r = 2304 → r < fuel → (∀ x, x < 2304 → bn x = lN (fb_sm (fun u => fb_sm (fun s => gB S srt own knd k u s x) S) i)) →
    ∃ b' bn', (∀ x, x < 2304 → b' x = lN (dB S srt own knd (k + 1) x)) ∧ p_X8_justOf_b93 K fuel (nI S) (nI P) (-1) (-1) 0 ms mo mk ks b bn x1 x2 x3 (nI k) (lN (lc (S - k))) (nI i) = K (nI S) (nI P) (-1) (-1) 0 ms mo mk ks b' bn' x1 x2 x3 (nI (k + 1)) := by
  obtain ⟨hS, hP, h1, h2⟩ := id hM
  have hpw := d_pw S hS
  have hoS : ∀ k, k < P → own k < S := fun k hk => (h2 k hk).2.1
  obtain ⟨o1, o2, o3, o4⟩ := h2 k hk
  have hA := Aw_le S hS k (by omega) (by omega)
  intro r
  induction r with
  | zero =>
    intro i fuel bn hi hf hx
    obtain ⟨f, rfl⟩ : ∃ f, fuel = f + 1 := ⟨fuel - 1, by omega⟩
    have ei : i = 2304 := by omega
    obtain ⟨b', e1, e2⟩ := just_233 hM (ks := ks) (x1 := x1) (x2 := x2) (x3 := x3) (x5 := nI k) (bn := bn) K 2304 0 4096 b (by omega) (by omega) (fun x h => absurd h (by omega))
    refine ⟨b', bn, fun x h => by rw [e1 x h, hx x h, ei]; rfl, ?_⟩
    rw [← nI_1, ← e2]
    show p_X8_justOf_b93x _ _ _ _ _ _ _ _ _ _ _ _ _ _ _ _ _ _ _ = _
    unfold p_X8_justOf_b93x
    simp only [ge2304 (show i ≤ 2304 by omega)]
    rw [if_pos ei]
    rfl
  | succ r ih =>
    intro i fuel bn hi hf hx
    obtain ⟨f, rfl⟩ : ∃ f, fuel = f + 1 := ⟨fuel - 1, by omega⟩
    have hi2 : i < 2304 := by omega
    have hbd := dB_bd (srt := srt) (kd := knd) hS hP hoS (show k ≤ P by omega) hi2
    show ∃ b' bn', _ ∧ p_X8_justOf_b93x _ _ _ _ _ _ _ _ _ _ _ _ _ _ _ _ _ _ _ = _
    unfold p_X8_justOf_b93x
    simp only [ge2304 (show i ≤ 2304 by omega)]
    rw [if_neg (by omega), inB_nI hi2 (by decide), gd_true, nI_clamp (by omega), hb i hi2]
    simp only [lgc0 (show dB S srt own knd k i < 2 ^ 63 by omega)]
    by_cases h0 : dB S srt own knd k i = 0
    · rw [if_pos h0]
      obtain ⟨b', bn', e1, e2⟩ := ih (i + 1) f bn (by omega) (by omega) (fun x h => by
        rw [hx x h, fb_sm_succ, sm_zero' (f := fun s => gB S srt own knd k i s x) (fun s _ => by unfold gB; rw [h0, Nat.zero_mul]; simp), Nat.add_zero])
      refine ⟨b', bn', e1, ?_⟩
      rw [← e2]
      unfold p_X8_justOf_b224
      rw [nm_def, nI_1]
    · rw [if_neg h0]
      obtain ⟨u1, u2, u3⟩ := dB_sup hS hP hoS k (by omega) i h0
      rw [show decide (¬ (9 : Nat) = 0) = true from rfl, gd_true, nm_def, div9 hi2, inB_nI (show k < 8 by omega) (by decide), gd_true, nI_clamp (by omega), o3, v_chM' hM hk o4 u1 (by omega), b1_some]
      obtain ⟨bn1, e1, e2⟩ := just_140 hM (ks := ks) (x1 := x1) (x2 := x2) (x3 := x3) hk hb K (p_X8_justOf_b93 K f) hi2 h0 S 0 4096 bn (fun x => fb_sm (fun u => fb_sm (fun s => gB S srt own knd k u s x) S) i) (by omega) (by omega) (fun x h => by rw [hx x h]; rfl)
      obtain ⟨b', bn', e3, e4⟩ := ih (i + 1) f bn1 (by omega) (by omega) (fun x h => by rw [e1 x h, fb_sm_succ])
      exact ⟨b', bn', e3, by rw [← e4, ← e2]; rfl⟩
theorem just_39 {S P : Nat} {srt own knd : Nat → Nat} {ms mo mk : Nat → Int32} (hM : MC S P srt own knd ms mo mk) {ks : Nat → Int32} {x1 x2 : Int32} : ∀ (r i fuel : Nat) (b bn : Nat → Int64), i + r = P → r < fuel → (∀ x, x < 2304 → b x = lN (dB S srt own knd i x)) →
    ∃ b' bn', (∀ x, x < 2304 → b' x = lN (dB S srt own knd P x)) ∧ p_X8_justOf_b39 fuel (nI S) (nI P) (-1) (-1) 0 ms mo mk ks b bn x1 x2 (lN (Aw S i)) (nI i) = p_X8_justOf_b273 4096 (nI S) (nI P) (-1) (-1) 0 ms mo mk ks b' bn' x1 x2 (lN (Aw S P)) 0 0 := by
  obtain ⟨hS, hP, h1, h2⟩ := id hM
  intro r
  induction r with
  | zero =>
    intro i fuel b bn hi hf hb
    obtain ⟨f, rfl⟩ : ∃ f, fuel = f + 1 := ⟨fuel - 1, by omega⟩
    have e : i = P := by omega
    subst e
    refine ⟨b, bn, hb, ?_⟩
    show p_X8_justOf_b39x _ _ _ _ _ _ _ _ _ _ _ _ _ _ _ _ = _
    unfold p_X8_justOf_b39x
    rw [if_pos (nI_le (Nat.le_refl _) (by omega))]
  | succ r ih =>
    intro i fuel b bn hi hf hb
    obtain ⟨f, rfl⟩ : ∃ f, fuel = f + 1 := ⟨fuel - 1, by omega⟩
    obtain ⟨n1, e1, e2⟩ := just_68 hM (ks := ks) (x1 := x1) (x2 := x2) (x5 := nI i) (x3 := lN (Aw S (i + 1))) (x6 := lN (lc (S - i))) (b := b) (p_X8_justOf_b39 f) 2304 0 4096 bn (by omega) (by omega) (fun x h => absurd h (by omega))
    obtain ⟨b2, n2, e3, e4⟩ := just_93 hM (ks := ks) (x1 := x1) (x2 := x2) (x3 := lN (Aw S (i + 1))) (show i < P by omega) hb (p_X8_justOf_b39 f) 2304 0 4096 n1 (by omega) (by omega) (fun x h => by rw [e1 x h]; rfl)
    obtain ⟨b3, n3, e5, e6⟩ := ih (i + 1) f b2 n2 (by omega) (by omega) e3
    refine ⟨b3, n3, e5, ?_⟩
    rw [← e6]
    show p_X8_justOf_b39x _ _ _ _ _ _ _ _ _ _ _ _ _ _ _ _ = _
    unfold p_X8_justOf_b39x
    rw [if_neg (nI_ge (show i < P by omega) (by omega)), pk_sub (by omega), d_parts _ (by omega), b1_some, nm_def, lN_mul]
    exact e2.trans e4
/-- just c sit wrong: over the first n places -/
def jC (S : Nat) (srt ow kd : Nat → Nat) (P c n : Nat) : Nat := fb_sm (fun x => if x % 9 = c then dB S srt ow kd P x else 0) n
theorem just_273 {S P : Nat} {srt own knd : Nat → Nat} {ms mo mk : Nat → Int32} (hM : MC S P srt own knd ms mo mk) {ks : Nat → Int32} {c w : Nat} (hc : c < 9) (hw : w < 2) {b bn : Nat → Int64} (hb : ∀ x, x < 2304 → b x = lN (dB S srt own knd P x)) : ∀ (r i fuel : Nat), i + r = 2304 → r < fuel →
    p_X8_justOf_b273 fuel (nI S) (nI P) (-1) (-1) 0 ms mo mk ks b bn (nI c) (nI w) (lN (Aw S P)) (lN (jC S srt own knd P c i)) (nI i) = some (lN (fp (jC S srt own knd P c 2304) (Aw S P) w), -1, -1, 0, ks, b, bn) := by
  obtain ⟨hS, hP, h1, h2⟩ := id hM
  have hoS : ∀ k, k < P → own k < S := fun k hk => (h2 k hk).2.1
  have b1' : jC S srt own knd P c 2304 ≤ Aw S P := by
    rw [← dB_all (srt := srt) (kd := knd) hS hP hoS P (Nat.le_refl _)]
    refine fb_sm_le fun u _ => ?_
    split
    · exact Nat.le_refl _
    · exact Nat.zero_le _
  have b2' := Aw_le S hS P (by omega) (by omega)
  have b3' := (d_AV S hS P (by omega) (by omega)).2.1
  intro r
  induction r with
  | zero =>
    intro i fuel hi hf
    obtain ⟨f, rfl⟩ : ∃ f, fuel = f + 1 := ⟨fuel - 1, by omega⟩
    have ei : i = 2304 := by omega
    show p_X8_justOf_b273x _ _ _ _ _ _ _ _ _ _ _ _ _ _ _ _ _ = _
    unfold p_X8_justOf_b273x
    simp only [ge2304 (show i ≤ 2304 by omega)]
    rw [if_pos ei, ei, v_partM (by omega) b3' (by omega) hw, b1_some]
  | succ r ih =>
    intro i fuel hi hf
    obtain ⟨f, rfl⟩ : ∃ f, fuel = f + 1 := ⟨fuel - 1, by omega⟩
    have hi2 : i < 2304 := by omega
    rw [← ih (i + 1) f (by omega) (by omega)]
    show p_X8_justOf_b273x _ _ _ _ _ _ _ _ _ _ _ _ _ _ _ _ _ = _
    unfold p_X8_justOf_b273x p_X8_justOf_b303
    simp only [ge2304 (show i ≤ 2304 by omega), nm_def, nI_1]
    rw [if_neg (by omega), show decide (¬ (9 : Nat) = 0) = true from rfl, gd_true, rem9 hi2]
    have e : (nI (i % 9) = nI c) = (i % 9 = c) := propext (nI_eq (by omega) (by omega))
    simp only [e]
    rw [inB_nI hi2 (by decide), gd_true, nI_clamp (by omega), hb i hi2, LL0, lN_add, lN_add]
    show _ = p_X8_justOf_b273 f _ _ _ _ _ _ _ _ _ _ _ _ _ _ (lN (jC S srt own knd P c i + (if i % 9 = c then dB S srt own knd P i else 0))) _
    by_cases h : i % 9 = c
    · rw [if_pos h, if_pos h]
    · rw [if_neg h, if_neg h]
theorem v_justOf {S P : Nat} {srt own knd : Nat → Nat} {ms mo mk : Nat → Int32} (hM : MC S P srt own knd ms mo mk) {c w : Nat} (hc : c < 9) (hw : w < 2) {lo ow kf : Int32} {ks : Nat → Int32} {b bn : Nat → Int64} :
    ∃ a1 a2 a3 a4 a5 a6, p_X8_justOf (nI S) (nI P) lo ow kf ms mo mk ks b bn (nI c) (nI w) = some (lN (fp (jC S srt own knd P c 2304) (Aw S P) w), a1, a2, a3, a4, a5, a6) := by
  obtain ⟨hS, hP, h1, h2⟩ := id hM
  obtain ⟨ks', k1, k2⟩ := v_noB (a := lo) (b := ow) (c := kf) (ks := ks)
  obtain ⟨b1', e1, e2⟩ := just_6 hM (ks := ks') (x1 := nI c) (x2 := nI w) (bn := bn) 2304 0 4096 b (by omega) (by omega) (fun x h => absurd h (by omega))
  obtain ⟨b2', n2, e3, e4⟩ := just_39 hM (ks := ks') (x1 := nI c) (x2 := nI w) P 0 4096 b1' bn (by omega) (by omega) e1
  unfold p_X8_justOf p_X8_justOf_b0
  rw [k2, b4_some]
  exact ⟨_, _, _, _, _, _, e2.trans (e4.trans (just_273 hM hc hw e3 2304 0 4096 (by omega) (by omega)))⟩
