theorem close_35 {S u X : Nat} {wr re wi : Nat → Int64} (hS : S < 9) (hu : u < 256) (hre : re u = lN X) : ∀ (r j fuel : Nat) (fe : Nat → Int64) (φ : Nat → Nat), j + r = S → r < fuel → (∀ s, s < 8 → fe s = lN (φ s + (if s < j ∧ u.testBit s = false then X else 0))) →
    ∃ fe', (∀ s, s < 8 → fe' s = lN (φ s + (if s < S ∧ u.testBit s = false then X else 0))) ∧ p_X0_close_b35 fuel (nI S) re wr fe wi (nI u) (nI j) = some (wr, fe') := by
  intro r
  induction r with
  | zero =>
    intro j fuel fe φ hj hf hx
    obtain ⟨f, rfl⟩ : ∃ f, fuel = f + 1 := ⟨fuel - 1, by omega⟩
    have ej : j = S := by omega
    subst ej
    refine ⟨fe, hx, ?_⟩
    show p_X0_close_b35x _ _ _ _ _ _ _ _ = _
    unfold p_X0_close_b35x
    rw [if_pos (nI_le (Nat.le_refl _) (by omega))]
  | succ r ih =>
    intro j fuel fe φ hj hf hx
    obtain ⟨f, rfl⟩ : ∃ f, fuel = f + 1 := ⟨fuel - 1, by omega⟩
    show ∃ fe', _ ∧ p_X0_close_b35x _ _ _ _ _ _ _ _ = _
    unfold p_X0_close_b35x p_X0_close_b69
    rw [if_neg (nI_ge (show j < S by omega) (by omega)), d_has u hu j (by omega), b1_some]
    simp only [nIb0, nm_def, nI_1]
    by_cases hb : u.testBit j = false
    · rw [if_pos hb, inB_nI (show j < 8 by omega) (by decide), inB_nI hu (by decide), gd_true, gd_true, gd_true, nI_clamp (by omega), nI_clamp (by omega), hre]
      exact ih (j + 1) f _ φ (by omega) (by omega) (fun s hs => by
        rw [updL_at]
        by_cases e : s = j
        · subst e
          rw [if_pos rfl, hx s hs, if_neg (by omega), if_pos ⟨by omega, hb⟩, lN_add, Nat.add_zero]
        · rw [if_neg e, hx s hs]
          congr 3
          exact propext ⟨fun q => ⟨by omega, q.2⟩, fun q => ⟨by omega, q.2⟩⟩)
    · rw [if_neg hb]
      exact ih (j + 1) f _ φ (by omega) (by omega) (fun s hs => by
        rw [hx s hs]
        congr 3
        apply propext
        constructor
        · exact fun q => ⟨by omega, q.2⟩
        · intro q
          refine ⟨?_, q.2⟩
          have : s ≠ j := fun e => hb (e ▸ q.2)
          omega)
theorem close_2 {S u p X : Nat} {re wi : Nat → Int64} {Y : Nat → Nat} (hS : S < 9) (hu : u < 256) (hp : p ≤ 8) (hre : re u = lN X) (hwi : ∀ k, k ≤ p → wi (9 * u + k) = lN (Y k)) : ∀ (r j fuel : Nat) (wr fe : Nat → Int64) (κ φ : Nat → Nat), j + r = p + 1 → r < fuel → (∀ k, k < 9 → wr k = lN (κ k + (if k < j then Y k else 0))) → (∀ s, s < 8 → fe s = lN (φ s)) →
    ∃ wr' fe', (∀ k, k < 9 → wr' k = lN (κ k + (if k < p + 1 then Y k else 0))) ∧ (∀ s, s < 8 → fe' s = lN (φ s + (if s < S ∧ u.testBit s = false then X else 0))) ∧ p_X0_close_b2 fuel (nI S) re wr fe wi (nI u) (nI p) (nI j) = some (wr', fe') := by
  intro r
  induction r with
  | zero =>
    intro j fuel wr fe κ φ hj hf hx hφ
    obtain ⟨f, rfl⟩ : ∃ f, fuel = f + 1 := ⟨fuel - 1, by omega⟩
    have ej : j = p + 1 := by omega
    subst ej
    obtain ⟨fe', h1, h2⟩ := close_35 (wr := wr) (wi := wi) hS hu hre S 0 4096 fe φ (by omega) (by omega) (fun s hs => by rw [hφ s hs, if_neg (by omega), Nat.add_zero])
    refine ⟨wr, fe', hx, h1, ?_⟩
    rw [← h2]
    show p_X0_close_b2x _ _ _ _ _ _ _ _ _ = _
    unfold p_X0_close_b2x
    rw [if_pos (nI_lt (show p < p + 1 by omega) (by omega))]
    rfl
  | succ r ih =>
    intro j fuel wr fe κ φ hj hf hx hφ
    obtain ⟨f, rfl⟩ : ∃ f, fuel = f + 1 := ⟨fuel - 1, by omega⟩
    have iy : nI u * 9 + nI j = nI (9 * u + j) := by
      rw [show (9 : Int32) = nI 9 from rfl, pk_mul, nI_add, Nat.mul_comm]
    obtain ⟨wr', fe', h1, h2, h3⟩ := ih (j + 1) f (vp_updL wr j (wr j + lN (Y j))) fe κ φ (by omega) (by omega) (fun k hk => by
      rw [updL_at]
      by_cases e : k = j
      · subst e
        rw [if_pos rfl, hx k hk, if_neg (by omega), if_pos (by omega), lN_add, Nat.add_zero]
      · rw [if_neg e, hx k hk]
        congr 3
        exact propext ⟨fun q => by omega, fun q => by omega⟩) hφ
    refine ⟨wr', fe', h1, h2, ?_⟩
    rw [← h3]
    show p_X0_close_b2x _ _ _ _ _ _ _ _ _ = _
    unfold p_X0_close_b2x
    rw [if_neg (nI_nlt (show j ≤ p by omega) (by omega)), iy, inB_nI (show j < 9 by omega) (by decide), inB_nI (show 9 * u + j < 2304 by omega) (by decide), gd_true, gd_true, gd_true, nm_def, nm_def, nI_1, nI_clamp (by omega), nI_clamp (by omega), hwi j (by omega)]
/-- the seats of one set, one by one -/
theorem goOn_60 {S P p u o k c X : Nat} {Hs Hb ho hk : Nat → Int32} {wr fe : Nat → Int64} {ch : Nat} {Y : Nat → Nat} (hS : S < 9) (hp : p < 8) (hu : u < 2 ^ S) (hch : ch < 2 ^ S) (hcs : ∀ s, ch.testBit s = true → s < S ∧ u.testBit s = false) (hc : pc ch = c) (hc1 : 1 ≤ c ∧ c ≤ 8) (hY : ∀ k, k ≤ p → Y k < 2 ^ 62) (hX : X < 2 ^ 62) (ho1 : ho p = nI o) (ho2 : o < S) (hk1 : hk p = nI k) (hk2 : k < 4) : ∀ (r j fuel : Nat) (re si wi : Nat → Int64) (ρ σ ω : Nat → Nat) (μ : Nat), j + r = S → r < fuel →
    (∀ x, x < 256 → re x = lN (ρ x + fb_sm (fun s => if ch.testBit s = true ∧ orT u s = x then X / c else 0) j)) → (∀ y, y < 64 → si y = lN (σ y + (if y / 8 = p ∧ y % 8 < j ∧ ch.testBit (y % 8) = true then X / c else 0))) → (∀ y, y < 2304 → wi y = lN (ω y + fb_sm (fun s => if ch.testBit s = true then fb_sm (gW u s o c y Y) (p + 1) else 0) j)) → ρ u = X → (∀ k, k ≤ p → ω (9 * u + k) = Y k) →
    ∃ re' si' wi', (∀ x, x < 256 → re' x = lN (ρ x + fb_sm (fun s => if ch.testBit s = true ∧ orT u s = x then X / c else 0) S)) ∧ (∀ y, y < 64 → si' y = lN (σ y + (if y / 8 = p ∧ y % 8 < S ∧ ch.testBit (y % 8) = true then X / c else 0))) ∧ (∀ y, y < 2304 → wi' y = lN (ω y + fb_sm (fun s => if ch.testBit s = true then fb_sm (gW u s o c y Y) (p + 1) else 0) S)) ∧
      p_X0_goOn_b60 fuel (nI S) (nI P) (lN (μ + fb_sm (fun s => if ch.testBit s = true ∧ k = 2 then X / c * po S o s else 0) j)) Hs Hb ho hk re si wr fe wi (nI u) (nI p) (nI ch) (nI c) (nI j) = some (lN (μ + fb_sm (fun s => if ch.testBit s = true ∧ k = 2 then X / c * po S o s else 0) S), re', si', wr, fe, wi') := by
  have hpw := d_pw S hS
  intro r
  induction r with
  | zero =>
    intro j fuel re si wi ρ σ ω μ hj hf h1 h2 h3 h4 h5
    obtain ⟨f, rfl⟩ : ∃ f, fuel = f + 1 := ⟨fuel - 1, by omega⟩
    have ej : j = S := by omega
    subst ej
    refine ⟨re, si, wi, h1, h2, h3, ?_⟩
    show p_X0_goOn_b60x _ _ _ _ _ _ _ _ _ _ _ _ _ _ _ _ _ _ = _
    unfold p_X0_goOn_b60x
    rw [if_pos (nI_le (Nat.le_refl _) (by omega))]
  | succ r ih =>
    intro j fuel re si wi ρ σ ω μ hj hf h1 h2 h3 h4 h5
    obtain ⟨f, rfl⟩ : ∃ f, fuel = f + 1 := ⟨fuel - 1, by omega⟩
    have hjS : j < S := by omega
    show ∃ re' si' wi', _ ∧ _ ∧ _ ∧ p_X0_goOn_b60x _ _ _ _ _ _ _ _ _ _ _ _ _ _ _ _ _ _ = _
    unfold p_X0_goOn_b60x p_X0_goOn_b91
    rw [if_neg (nI_ge hjS (by omega)), d_has ch (by omega) j (by omega), b1_some]
    simp only [nIb0, nm_def, nI_1]
    by_cases hb : ch.testBit j = false
    · rw [if_pos hb]
      have hb' : ¬ ch.testBit j = true := by rw [hb]; decide
      obtain ⟨re', si', wi', e1, e2, e3, e4⟩ := ih (j + 1) f re si wi ρ σ ω μ (by omega) (by omega) (fun x hx => by rw [h1 x hx, fb_sm_succ _ j, if_neg (fun q => hb' q.1)]; rfl) (fun y hy => by
        rw [h2 y hy]
        congr 3
        apply propext
        constructor
        · exact fun q => ⟨q.1, by omega, q.2.2⟩
        · intro q
          refine ⟨q.1, ?_, q.2.2⟩
          have : y % 8 ≠ j := fun e => hb' (e ▸ q.2.2)
          omega) (fun y hy => by rw [h3 y hy, fb_sm_succ _ j, if_neg hb']; rfl) h4 h5
      refine ⟨re', si', wi', e1, e2, e3, ?_⟩
      rw [← e4, fb_sm_succ _ j, if_neg (fun q => hb' q.1)]
      rfl
    · have hb' : ch.testBit j = true := by simpa using hb
      rw [if_neg hb]
      obtain ⟨-, huj⟩ := hcs j hb'
      obtain ⟨-, g2, g3⟩ := d_pcor u (by omega) j (by omega) huj
      have hor : orT u j < 256 := g3
      have hne : ∀ s, ch.testBit s = true → s < 8 → u < orT u s ∧ orT u s < 256 := fun s hs h8 => (d_pcor u (by omega) s h8 (hcs s hs).2).2
      have hru : re u = lN X := by
        rw [h1 u (by omega), h4, sm_zero' (fun s hs => by
          by_cases q : ch.testBit s = true ∧ orT u s = u
          · have := (hne s q.1 (by omega)).1
            rw [q.2] at this
            omega
          · rw [if_neg q]), Nat.add_zero]
      have hωj : ∀ k, k ≤ p → ω (9 * u + k) + fb_sm (fun s => if ch.testBit s = true then fb_sm (gW u s o c (9 * u + k) Y) (p + 1) else 0) j = Y k := fun k hk => by
        rw [h5 k hk, sm_zero' (fun s hs => by
          by_cases q : ch.testBit s = true
          · rw [if_pos q]
            have := (hne s q (by omega)).1
            refine sm_zero' fun k2 hk2 => ?_
            unfold gW
            rw [if_neg]
            split <;> omega
          · rw [if_neg q]), Nat.add_zero]
      obtain ⟨w2, q1, q2⟩ := v_sitDown (s := j) (o := o) (c := c) (ml := μ + fb_sm (fun s => if ch.testBit s = true ∧ k = 2 then X / c * po S o s else 0) j) (ho := ho) (hk := hk) (si := si) hS hp (by omega) hjS hor g2 hc1 hY hX ho1 ho2 hk1 hk2 hru h3 hωj
      rw [q2, b4_some]
      obtain ⟨re', si', wi', e1, e2, e3, e4⟩ := ih (j + 1) f (vp_updL re (orT u j) (re (orT u j) + lN (X / c))) (vp_updL si (8 * p + j) (si (8 * p + j) + lN (X / c))) w2 ρ σ ω μ (by omega) (by omega) (fun x hx => by
        rw [updL_at, fb_sm_succ _ j]
        by_cases e : x = orT u j
        · subst e
          rw [if_pos rfl, h1 _ hx, lN_add, Nat.add_assoc, if_pos ⟨hb', rfl⟩]
        · rw [if_neg e, h1 x hx, if_neg (fun q => e q.2.symm)]; rfl) (fun y hy => by
        rw [updL_at]
        by_cases e : y = 8 * p + j
        · have a1 : y / 8 = p := by omega
          have a2 : y % 8 = j := by omega
          rw [if_pos e, ← e, h2 y hy, a2, if_neg (by omega), if_pos ⟨a1, by omega, hb'⟩, lN_add, Nat.add_zero]
        · rw [if_neg e, h2 y hy]
          congr 3
          apply propext
          constructor
          · exact fun q => ⟨q.1, by omega, q.2.2⟩
          · intro q
            refine ⟨q.1, ?_, q.2.2⟩
            omega) (fun y hy => by rw [q1 y hy, fb_sm_succ _ j, if_pos hb', Nat.add_assoc]) h4 h5
      refine ⟨re', si', wi', e1, e2, e3, ?_⟩
      have e9 : (if k = 2 then X / c * po S o j else 0) = (if ch.testBit j = true ∧ k = 2 then X / c * po S o j else 0) := by
        by_cases hk9 : k = 2
        · rw [if_pos hk9, if_pos ⟨hb', hk9⟩]
        · rw [if_neg hk9, if_neg (fun q => hk9 q.2)]
      rw [← e4, fb_sm_succ _ j, ← e9, Nat.add_assoc]
