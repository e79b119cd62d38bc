/-! the class: backward -/
def wyN (c : Nat) (y : Nat → Nat) (u : Nat) : Nat → Nat
  | 0 => 0
  | s + 1 => wyN c y u s ||| (if c.testBit s = true ∧ y (orT u s) ≠ 0 then 2 ^ s else 0)
theorem wyN_lt {c u : Nat} {y : Nat → Nat} : ∀ n, wyN c y u n < 2 ^ n
  | 0 => by show (0 : Nat) < 1; decide
  | n + 1 => by
    have h1 : wyN c y u n < 2 ^ (n + 1) := Nat.lt_of_lt_of_le (wyN_lt n) (Nat.pow_le_pow_right (by decide) (by omega))
    show wyN c y u n ||| _ < _
    split
    · exact Nat.or_lt_two_pow h1 (two_lt (by omega))
    · rw [Nat.or_zero]; exact h1
theorem wyN_bit {c u : Nat} {y : Nat → Nat} {q : Nat} : ∀ n, q < n → ((wyN c y u n).testBit q = true ↔ (c.testBit q = true ∧ y (orT u q) ≠ 0))
  | 0, h => absurd h (by omega)
  | n + 1, h => by
    show (wyN c y u n ||| (if c.testBit n = true ∧ y (orT u n) ≠ 0 then 2 ^ n else 0)).testBit q = true ↔ _
    rw [Nat.testBit_or]
    by_cases e : q = n
    · subst e
      rw [Nat.testBit_lt_two_pow (wyN_lt q), Bool.false_or]
      by_cases z : c.testBit q = true ∧ y (orT u q) ≠ 0
      · rw [if_pos z, Nat.testBit_two_pow_self]; exact ⟨fun _ => z, fun _ => rfl⟩
      · rw [if_neg z, Nat.zero_testBit]; exact ⟨fun w => (by cases w), fun w => absurd w z⟩
    · have ih := wyN_bit (c := c) (u := u) (y := y) (q := q) n (by omega)
      have hz : (if c.testBit n = true ∧ y (orT u n) ≠ 0 then 2 ^ n else 0).testBit q = false := by
        split
        · rw [Nat.testBit_two_pow, decide_eq_false (fun w => e w.symm)]
        · exact Nat.zero_testBit q
      rw [hz, Bool.or_false]
      exact ih
theorem wo_5 {S u c : Nat} (hS : S < 9) (hu : u < 2 ^ S) (hc : c < 256) {re : Nat → Int64} {y : Nat → Nat} (hy : ∀ x, x < 2 ^ S → re x = lN (y x) ∧ y x < 2 ^ 63) : ∀ (r j fuel : Nat), j + r = S → r < fuel → p_X6_waysOn_b5 fuel (nI S) re (nI u) (nI c) (nI (wyN c y u j)) (nI j) = some (nI (wyN c y u S)) := by
  have hpw := d_pw S hS
  intro r
  induction r with
  | zero =>
    intro j fuel hj hf
    obtain ⟨f, rfl⟩ : ∃ f, fuel = f + 1 := ⟨fuel - 1, by omega⟩
    have e : j = S := by omega
    subst e
    show p_X6_waysOn_b5x _ _ _ _ _ _ _ = _
    unfold p_X6_waysOn_b5x
    rw [if_pos (nI_le (Nat.le_refl _) (by omega))]
  | succ r ih =>
    intro j fuel hj hf
    obtain ⟨f, rfl⟩ : ∃ f, fuel = f + 1 := ⟨fuel - 1, by omega⟩
    have hjS : j < S := by omega
    have hor : u ||| 2 ^ j < 2 ^ S := Nat.or_lt_two_pow hu (two_lt hjS)
    obtain ⟨y1, y2⟩ := hy _ hor
    have hs : wyN c y u (j + 1) = wyN c y u j ||| (if c.testBit j = true ∧ y (orT u j) ≠ 0 then 2 ^ j else 0) := rfl
    rw [← ih (j + 1) f (by omega) (by omega), hs]
    show p_X6_waysOn_b5x _ _ _ _ _ _ _ = _
    unfold p_X6_waysOn_b5x p_X6_waysOn_b49
    rw [if_neg (nI_ge hjS (by omega)), d_has c hc j (by omega), b1_some]
    simp only [nIb0, nm_def, nI_1, d_sh j (by omega), fa_or, inB_nI (show u ||| 2 ^ j < 256 by omega) (by decide), gd_true, nI_clamp (show u ||| 2 ^ j < 2 ^ 31 by omega), y1, lgc1 y2]
    by_cases hb : c.testBit j = false
    · rw [if_pos hb, if_neg (fun q => by rw [hb] at q; exact absurd q.1 (by decide)), Nat.or_zero]
    · have hb' : c.testBit j = true := by simpa using hb
      rw [if_neg hb]
      by_cases z : y (u ||| 2 ^ j) = 0
      · rw [if_pos z, if_neg (fun q => q.2 z), Nat.or_zero]
      · rw [if_neg z, if_pos ⟨hb', z⟩]
/-- what has been walked back: sets from j on; y: what is left of X; a: the answers of each -/
def BW (S P : Nat) (ch : Nat → Nat → Nat) (ok : Nat → Nat → Bool) (j : Nat) (y : Nat → Nat) (a : Nat → Nat) : Prop :=
  (∀ x, x < 2 ^ S → y x ≤ UN ∧ (x < j → y x = Xc S P ch ok x) ∧ (j ≤ x → (y x ≠ 0 ↔ Xc S P ch ok x ≠ 0 ∧ coK S ch ok (P - pc x) (pc x) x))) ∧
  (∀ k, k < P → a k < 256 ∧ ∀ s, s < S → ((a k).testBit s = true ↔ ∃ u, j ≤ u ∧ u < 2 ^ S ∧ pc u = k ∧ Xc S P ch ok u ≠ 0 ∧ (ch k u).testBit s = true ∧ ok k s = true ∧ coK S ch ok (P - (k + 1)) (k + 1) (orT u s)))
theorem Xc_dp {S P : Nat} {ch : Nat → Nat → Nat} {ok : Nat → Nat → Bool} (hS : S < 9) (hP : P ≤ S) {u k : Nat} (hk : k ≤ P) (hp : pc u = k) : Xc S P ch ok u ≠ 0 ↔ dp (2 ^ S) S ch ok (fun _ => orT) k u ≠ 0 := by
  unfold Xc
  rw [hp, if_pos hk]
  have hV := (d_AV S hS k (by omega) (by omega)).2.2
  constructor
  · intro h z; rw [z, Nat.zero_mul] at h; exact h rfl
  · intro h z
    rcases Nat.mul_eq_zero.mp z with z | z
    · exact h z
    · omega
theorem Xc_on {S P : Nat} {ch : Nat → Nat → Nat} {ok : Nat → Nat → Bool} (hS : S < 9) (hP : P ≤ S) (h : okCh S P ch) {u s : Nat} (hu : u < 2 ^ S) (hp : pc u < P) (hX : Xc S P ch ok u ≠ 0) (hs : s < S) (hb : (ch (pc u) u).testBit s = true) (ho : ok (pc u) s = true) : Xc S P ch ok (orT u s) ≠ 0 := by
  obtain ⟨-, h3, -⟩ := h (pc u) u hp hu rfl
  obtain ⟨h4, h5⟩ := h3 s hb
  obtain ⟨g1, -, -⟩ := d_pcor u (Nat.lt_of_lt_of_le hu (d_pw S hS)) s (by omega) h5
  rw [Xc_dp hS hP (show pc u + 1 ≤ P by omega) (show pc (orT u s) = pc u + 1 from g1)]
  exact (dp_step hS hP h hp).mpr ⟨u, s, hu, hs, (Xc_dp hS hP (by omega) rfl).mp hX, hb, ho, rfl⟩
theorem wb_8 {S P l n : Nat} {srt own kd : Nat → Nat} {Hs Hb Ho Hk : Nat → Int32} (hH : HC S P srt own kd Hs Hb Ho Hk) {sw sl : Nat → Int32} {wa wk : Nat → Int32} (hwa : ∀ p, p < 8 → wa p = nI (alS S P sw sl n p)) (hwk : ∀ p, p < P → wk p = nI (kdL kd l p)) (hl : l < P) : ∀ (r j fuel : Nat) (re : Nat → Int64) (wn : Nat → Int32) (y a : Nat → Nat), r = j → j ≤ 2 ^ S → r < fuel → (∀ x, x < 2 ^ S → re x = lN (y x)) → (∀ k, k < P → wn (8 * l + k) = nI (a k)) → BW S P (cCh S srt own (kdL kd l)) (okA S P sw sl n) j y a →
    ∃ (re' : Nat → Int64) (wn' : Nat → Int32) (y' a' : Nat → Nat), (∀ k, k < P → wn' (8 * l + k) = nI (a' k)) ∧ (∀ z, z / 8 ≠ l → wn' z = wn z) ∧ BW S P (cCh S srt own (kdL kd l)) (okA S P sw sl n) 0 y' a' ∧ p_X6_walkBackward_b8 fuel (nI S) (nI P) Hs Hb Ho wa wk wn re (nI l) (nI j + (-1)) = some (wn', re') := by
  obtain ⟨hS, hP, h1, h2⟩ := id hH
  have hpw := d_pw S hS
  have ho : ∀ k, k < P → own k < S := fun k hk => (h2 k hk).2.1
  have hoc : okCh S P (cCh S srt own (kdL kd l)) := cCh_ok hS hP ho
  have hU := UN_lt
  intro r
  induction r with
  | zero =>
    intro j fuel re wn y a hj hjS hf hre hwn hB
    obtain ⟨f, rfl⟩ : ∃ f, fuel = f + 1 := ⟨fuel - 1, by omega⟩
    have e : j = 0 := by omega
    subst e
    refine ⟨re, wn, y, a, hwn, fun _ _ => rfl, hB, ?_⟩
    show p_X6_walkBackward_b8x _ _ _ _ _ _ _ _ _ _ _ _ = _
    unfold p_X6_walkBackward_b8x
    rw [if_pos (show nI 0 + (-1) < 0 by decide)]
  | succ r ih =>
    intro j fuel re wn y a hj hjS hf hre hwn hB
    obtain ⟨f, rfl⟩ : ∃ f, fuel = f + 1 := ⟨fuel - 1, by omega⟩
    obtain ⟨i, rfl⟩ : ∃ i, j = i + 1 := ⟨j - 1, by omega⟩
    have hiS : i < 2 ^ S := by omega
    obtain ⟨b1', b2'⟩ := id hB
    obtain ⟨c1, c2, -⟩ := b1' i hiS
    have c2 := c2 (by omega)
    have hpcS := d_pcS S hS i hiS
    have next : ∀ (re1 : Nat → Int64) (wn1 : Nat → Int32) (y1 a1 : Nat → Nat), (∀ x, x < 2 ^ S → re1 x = lN (y1 x)) → (∀ k, k < P → wn1 (8 * l + k) = nI (a1 k)) → (∀ z, z / 8 ≠ l → wn1 z = wn z) → BW S P (cCh S srt own (kdL kd l)) (okA S P sw sl n) i y1 a1 → ∃ (re' : Nat → Int64) (wn' : Nat → Int32) (y' a' : Nat → Nat), (∀ k, k < P → wn' (8 * l + k) = nI (a' k)) ∧ (∀ z, z / 8 ≠ l → wn' z = wn z) ∧ BW S P (cCh S srt own (kdL kd l)) (okA S P sw sl n) 0 y' a' ∧ p_X6_walkBackward_b108 (p_X6_walkBackward_b8 f) (nI S) (nI P) Hs Hb Ho wa wk wn1 re1 (nI l) (nI i) = some (wn', re') := fun re1 wn1 y1 a1 g1 g2 g3 g4 => by
      obtain ⟨re', wn', y', a', k1, k2, k3, k4⟩ := ih i f re1 wn1 y1 a1 (by omega) (by omega) (by omega) g1 g2 g4
      refine ⟨re', wn', y', a', k1, fun z hz => by rw [k2 z hz, g3 z hz], k3, ?_⟩
      unfold p_X6_walkBackward_b108
      rw [nm_def]
      exact k4
    have keep : (Xc S P (cCh S srt own (kdL kd l)) (okA S P sw sl n) i = 0 ∨ P ≤ pc i) → BW S P (cCh S srt own (kdL kd l)) (okA S P sw sl n) i y a := fun hz => by
      refine ⟨fun x hx => ⟨(b1' x hx).1, fun q => (b1' x hx).2.1 (by omega), fun q => ?_⟩, fun k hk => ⟨(b2' k hk).1, fun s hs => ?_⟩⟩
      · by_cases e : x = i
        · subst e
          rw [c2]
          rcases hz with hz | hz
          · rw [hz]; exact ⟨fun w => absurd rfl w, fun w => absurd rfl w.1⟩
          · rw [show P - pc x = 0 by omega]; exact ⟨fun w => ⟨w, trivial⟩, fun w => w.1⟩
        · exact (b1' x hx).2.2 (by omega)
      · rw [(b2' k hk).2 s hs]
        constructor
        · rintro ⟨u, u1, u2⟩; exact ⟨u, by omega, u2⟩
        · rintro ⟨u, u1, u2, u3, u4, u5⟩
          by_cases e : u = i
          · subst e
            rcases hz with hz | hz
            · exact absurd hz u4
            · omega
          · exact ⟨u, by omega, u2, u3, u4, u5⟩
    rw [pk_m1]
    show ∃ (re' : Nat → Int64) (wn' : Nat → Int32) (y' a' : Nat → Nat), _ ∧ _ ∧ _ ∧ p_X6_walkBackward_b8x _ _ _ _ _ _ _ _ _ _ _ _ = _
    unfold p_X6_walkBackward_b8x
    rw [if_neg (nI_pos (show i < 2 ^ 31 by omega)), d_pc i (by omega), b1_some, inB_nI (show i < 256 by omega) (by decide), gd_true, nI_clamp (by omega), hre i hiS, c2]
    simp only [lgc1 (show Xc S P (cCh S srt own (kdL kd l)) (okA S P sw sl n) i < 2 ^ 63 by have := X_le (ok := (okA S P sw sl n)) hS hP hoc i; omega)]
    by_cases h0 : Xc S P (cCh S srt own (kdL kd l)) (okA S P sw sl n) i = 0
    · rw [if_pos h0]
      exact next re wn y a hre hwn (fun _ _ => rfl) (keep (Or.inl h0))
    · rw [if_neg h0]
      by_cases hp : P ≤ pc i
      · rw [if_pos (nI_le hp (by omega))]
        exact next re wn y a hre hwn (fun _ _ => rfl) (keep (Or.inr hp))
      · have hpP : pc i < P := by omega
        obtain ⟨o1, o2, o3, o4⟩ := h2 (pc i) hpP
        have ch1 : p_X3_choices (nI S) Hs Hb (nI i) (nI (own (pc i))) (nI (kdL kd l (pc i))) = some (nI ((cCh S srt own (kdL kd l)) (pc i) i)) := v_chC' hH o2 (kdL_lt (fun k hk => (h2 k hk).2.2.2) hpP) hiS (by omega)
        obtain ⟨d1, d2, d3, d4⟩ := hoc (pc i) i hpP hiS rfl
        have hcl : (cCh S srt own (kdL kd l)) (pc i) i &&& alS S P sw sl n (pc i) < 256 := Nat.lt_of_lt_of_le (and_lt_l d1) hpw
        have ww : p_X6_waysOn (nI S) re (nI i) (nI ((cCh S srt own (kdL kd l)) (pc i) i &&& alS S P sw sl n (pc i))) = some (nI (wyN ((cCh S srt own (kdL kd l)) (pc i) i &&& alS S P sw sl n (pc i)) y i S)) := wo_5 hS hiS hcl (fun x hx => ⟨hre x hx, by have := (b1' x hx).1; omega⟩) S 0 4096 (by omega) (by omega)
        have hwb : ∀ s, s < S → ((wyN ((cCh S srt own (kdL kd l)) (pc i) i &&& alS S P sw sl n (pc i)) y i S).testBit s = true ↔ (((cCh S srt own (kdL kd l)) (pc i) i).testBit s = true ∧ (okA S P sw sl n) (pc i) s = true ∧ coK S (cCh S srt own (kdL kd l)) (okA S P sw sl n) (P - (pc i + 1)) (pc i + 1) (orT i s))) := fun s hs => by
          rw [wyN_bit S hs, Nat.testBit_and, Bool.and_eq_true]
          have hok : (okA S P sw sl n) (pc i) s = (alS S P sw sl n (pc i)).testBit s := rfl
          rw [hok]
          constructor
          · rintro ⟨⟨e1, e2⟩, e3⟩
            have hf := (d2 s e1).2
            obtain ⟨g1, g2, -⟩ := d_pcor i (by omega) s (by omega) hf
            have := ((b1' (orT i s) (Nat.or_lt_two_pow hiS (two_lt hs))).2.2 (show i + 1 ≤ i ||| 2 ^ s by omega)).mp e3
            rw [show pc (orT i s) = pc i + 1 from g1] at this
            exact ⟨e1, e2, this.2⟩
          · rintro ⟨e1, e2, e3⟩
            have hf := (d2 s e1).2
            obtain ⟨g1, g2, -⟩ := d_pcor i (by omega) s (by omega) hf
            refine ⟨⟨e1, e2⟩, ((b1' (orT i s) (Nat.or_lt_two_pow hiS (two_lt hs))).2.2 (show i + 1 ≤ i ||| 2 ^ s by omega)).mpr ⟨Xc_on hS hP hoc hiS hpP h0 hs e1 e2, ?_⟩⟩
            rw [show pc (orT i s) = pc i + 1 from g1]
            exact e3
        rw [if_neg (nI_ge hpP (by omega)), inB_nI (show pc i < 8 by omega) (by decide), gd_true, gd_true, nI_clamp (by omega), o1, hwk _ hpP, ch1, b1_some, gd_true, hwa _ (by omega), fa_and, ww, b1_some]
        have hwl : wyN ((cCh S srt own (kdL kd l)) (pc i) i &&& alS S P sw sl n (pc i)) y i S < 256 := Nat.lt_of_lt_of_le (wyN_lt S) hpw
        have hwS : wyN ((cCh S srt own (kdL kd l)) (pc i) i &&& alS S P sw sl n (pc i)) y i S < 2 ^ S := wyN_lt S
        generalize wyN ((cCh S srt own (kdL kd l)) (pc i) i &&& alS S P sw sl n (pc i)) y i S = w at hwb hwl hwS ⊢
        have eix : nI l * 8 + nI (pc i) = nI (8 * l + pc i) := by rw [show (8 : Int32) = nI 8 from rfl, pk_mul, nI_add, Nat.mul_comm]
        have hix : 8 * l + pc i < 64 := by omega
        rw [eix, inB_nI hix (by decide), gd_true, gd_true, nm_def, nI_clamp (by omega), hwn _ hpP, fa_or]
        have ez : (nI w = 0) = (w = 0) := propext (nI_eq (b := 0) (by omega) (by decide))
        simp only [ez]
        have hw0 : w = 0 ↔ ¬ coK S (cCh S srt own (kdL kd l)) (okA S P sw sl n) (P - pc i) (pc i) i := by
          rw [show P - pc i = (P - (pc i + 1)) + 1 by omega]
          constructor
          · rintro z ⟨s, s1, s2, s3, s4⟩
            have := (hwb s s1).mpr ⟨s2, s3, s4⟩
            rw [z, Nat.zero_testBit] at this
            cases this
          · intro hn
            apply Nat.eq_of_testBit_eq
            intro s
            rw [Nat.zero_testBit]
            cases q : w.testBit s with
            | false => rfl
            | true =>
              exfalso
              have hsS : s < S := tb_lt hwS q
              exact hn ⟨s, hsS, (hwb s hsS).mp q⟩
        have hA : ∀ k, k < P → upd wn (8 * l + pc i) (nI (a (pc i) ||| w)) (8 * l + k) = nI (if k = pc i then a (pc i) ||| w else a k) := fun k hk => by
          rw [upd_at]
          by_cases e : k = pc i
          · rw [if_pos (by omega), if_pos e]
          · rw [if_neg (by omega), if_neg e]; exact hwn k hk
        have hA2 : ∀ z, z / 8 ≠ l → upd wn (8 * l + pc i) (nI (a (pc i) ||| w)) z = wn z := fun z hz => by
          rw [upd_at, if_neg (fun e => hz (by omega))]
        have hAB : ∀ k, k < P → (if k = pc i then a (pc i) ||| w else a k) < 256 ∧ ∀ s, s < S → ((if k = pc i then a (pc i) ||| w else a k).testBit s = true ↔ ∃ u, i ≤ u ∧ u < 2 ^ S ∧ pc u = k ∧ Xc S P (cCh S srt own (kdL kd l)) (okA S P sw sl n) u ≠ 0 ∧ ((cCh S srt own (kdL kd l)) k u).testBit s = true ∧ (okA S P sw sl n) k s = true ∧ coK S (cCh S srt own (kdL kd l)) (okA S P sw sl n) (P - (k + 1)) (k + 1) (orT u s)) := fun k hk => by
          by_cases e : k = pc i
          · subst e
            rw [if_pos rfl]
            refine ⟨Nat.or_lt_two_pow (n := 8) (b2' _ hk).1 hwl, fun s hs => ?_⟩
            rw [Nat.testBit_or, Bool.or_eq_true, (b2' _ hk).2 s hs, hwb s hs]
            constructor
            · rintro (⟨u, u1, u2⟩ | w1)
              · exact ⟨u, by omega, u2⟩
              · exact ⟨i, Nat.le_refl _, hiS, rfl, h0, w1⟩
            · rintro ⟨u, u1, u2, u3, u4, u5⟩
              by_cases e : u = i
              · subst e; exact Or.inr u5
              · exact Or.inl ⟨u, by omega, u2, u3, u4, u5⟩
          · rw [if_neg e]
            refine ⟨(b2' k hk).1, fun s hs => ?_⟩
            rw [(b2' k hk).2 s hs]
            constructor
            · rintro ⟨u, u1, u2⟩; exact ⟨u, by omega, u2⟩
            · rintro ⟨u, u1, u2, u3, u4⟩
              exact ⟨u, by
                by_cases q : u = i
                · subst q; exact absurd u3.symm e
                · omega, u2, u3, u4⟩
        by_cases hz : w = 0
        · rw [if_pos hz, gd_true, nm_def]
          refine next _ _ (fun x => if x = i then 0 else y x) _ (fun x hx => ?_) hA hA2 ⟨fun x hx => ⟨?_, fun q => ?_, fun q => ?_⟩, hAB⟩
          · rw [updL_at]
            by_cases e : x = i
            · rw [if_pos e, if_pos e]; rfl
            · rw [if_neg e, if_neg e]; exact hre x hx
          · show (if x = i then 0 else y x) ≤ UN
            split
            · exact Nat.zero_le _
            · exact (b1' x hx).1
          · show (if x = i then 0 else y x) = _
            rw [if_neg (by omega)]; exact (b1' x hx).2.1 (by omega)
          · show (if x = i then 0 else y x) ≠ 0 ↔ _
            by_cases e : x = i
            · rw [if_pos e]
              subst e
              exact ⟨fun z => absurd rfl z, fun z => absurd z.2 (hw0.mp hz)⟩
            · rw [if_neg e]; exact (b1' x hx).2.2 (by omega)
        · rw [if_neg hz]
          refine next re _ y _ hre hA hA2 ⟨fun x hx => ⟨(b1' x hx).1, fun q => (b1' x hx).2.1 (by omega), fun q => ?_⟩, hAB⟩
          by_cases e : x = i
          · subst e
            rw [c2]
            exact ⟨fun _ => ⟨h0, Classical.byContradiction fun z => hz (hw0.mpr z)⟩, fun _ => h0⟩
          · exact (b1' x hx).2.2 (by omega)
