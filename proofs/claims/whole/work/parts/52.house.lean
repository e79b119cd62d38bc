/-! the house: what the class keeps of the texts, and what the model reads of them whenever it looks -/
/-- the model reads the texts so, whatever it held before -/
def mRead (mb mt : Nat → Int32) (f0 f1 : Int32) (S R P : Nat) (srt row own kd : Nat → Nat) : Prop :=
  ∀ (a1 s1 r1 p1 : Int32) (ms mr mo mk : Nat → Int32), ∃ (a2 a3 : Int32) (ms' mr' mo' mk' : Nat → Int32),
    p_X8_readsSeats a1 s1 r1 mb mt ms mr = some (f0, a2, nI S, nI R, ms', mr') ∧ p_X8_readsPeople a2 (nI S) p1 mb mt mo mk = some (f1, a3, nI P, mo', mk') ∧
    (∀ i, i < S → ms' i = nI (srt i) ∧ mr' i = nI (row i)) ∧ (∀ i, i < P → mo' i = nI (own i) ∧ mk' i = nI (kd i))
def cRows (S R P : Nat) (srt row own kd : Nat → Nat) (Hs Hr Hb Ho Hk : Nat → Int32) : Prop :=
  S < 9 ∧ R < 21 ∧ P ≤ S ∧ (∀ i, i < S → Hs i = nI (srt i) ∧ Hr i = nI (row i) ∧ srt i < 3) ∧ bOK S srt Hb ∧ (∀ i, i < P → Ho i = nI (own i) ∧ Hk i = nI (kd i) ∧ own i < S ∧ kd i < 4)
theorem v_parse {n0 n1 : Nat} (h0 : n0 ≤ 20) (h1 : n1 ≤ 20) {L fl mb mt : Nat → Int32} {Z : Nat → Nat → Int32} (hL0 : L 0 = nI n0) (hL1 : L 1 = nI n1) (ht0 : mt 0 = nI n0) (ht1 : mt 1 = nI n1) (hb0 : ∀ j, j < n0 → Z 0 j = mb j) (hb1 : ∀ j, j < n1 → Z 1 j = mb (20 + j)) {s0 r0 p0 : Int32} {Hs Hr Hb Ho Hk : Nat → Int32} :
    ∃ (S R P : Nat) (srt row own kd : Nat → Nat) (f0 f1 : Int32) (Hs' Hr' Hb' Ho' Hk' : Nat → Int32),
      p_X3_parse s0 r0 p0 L fl Hs Hr Hb Ho Hk Z = some (nI S, nI R, nI P, upd (upd fl 0 f0) 1 f1, Hs', Hr', Hb', Ho', Hk') ∧ cRows S R P srt row own kd Hs' Hr' Hb' Ho' Hk' ∧ mRead mb mt f0 f1 S R P srt row own kd := by
  obtain ⟨S, R, srt, row, f0, -, Hs', Hr', Hb', ms0, mr0, hS, hR, ha, hb, hc, -⟩ := v_parseSeats (fl := fl) h0 hL0 ht0 hb0 (s0 := s0) (r0 := r0) (a1 := 0) (s1 := 0) (r1 := 0) (Hs := Hs) (Hr := Hr) (Hb := Hb) (ms := Hs) (mr := Hr)
  obtain ⟨P, own, kd, f1, -, Ho', Hk', mo0, mk0, hP, hp, hq, -⟩ := v_parsePeople (fl := upd fl 0 f0) h1 hS hL1 ht1 hb1 (p0 := p0) (a1 := 0) (p1 := 0) (Ho := Ho) (Hk := Hk) (mo := Ho) (mk := Hk)
  refine ⟨S, R, P, srt, row, own, kd, f0, f1, Hs', Hr', Hb', Ho', Hk', ?_, ⟨hS, hR, hP, fun i hi => ⟨(ha i hi).1, (ha i hi).2.1, (ha i hi).2.2.2.2⟩, hb, fun i hi => ⟨(hp i hi).1, (hp i hi).2.1, (hp i hi).2.2.2.2.1, (hp i hi).2.2.2.2.2⟩⟩, ?_⟩
  · unfold p_X3_parse p_X3_parse_b0
    rw [hc, b6_some, hq, b4_some]
  · intro a1 s1 r1 p1 ms mr mo mk
    obtain ⟨S2, R2, srt2, row2, g0, a2, Hs2, Hr2, Hb2, ms', mr', hS2, hR2, ha2, -, hc2, hm2⟩ := v_parseSeats (fl := fl) h0 hL0 ht0 hb0 (s0 := s0) (r0 := r0) (a1 := a1) (s1 := s1) (r1 := r1) (Hs := Hs) (Hr := Hr) (Hb := Hb) (ms := ms) (mr := mr)
    rw [hc] at hc2
    injection hc2 with hc2
    simp only [Prod.mk.injEq] at hc2
    obtain ⟨e1, e2, e3, e4, e5, -⟩ := hc2
    have e1 := nI_inj e1 (by omega) (by omega)
    have e2 := nI_inj e2 (by omega) (by omega)
    subst e1 e2 e4 e5
    have e3 : f0 = g0 := by have := congrFun e3 0; simpa only [upd_at, if_pos] using this
    subst e3
    obtain ⟨P2, own2, kd2, g1, a3, Ho2, Hk2, mo', mk', hP2, hp2, hq2, hn2⟩ := v_parsePeople (fl := upd fl 0 f0) h1 hS hL1 ht1 hb1 (p0 := p0) (a1 := a2) (p1 := p1) (Ho := Ho) (Hk := Hk) (mo := mo) (mk := mk)
    rw [hq] at hq2
    injection hq2 with hq2
    simp only [Prod.mk.injEq] at hq2
    obtain ⟨e6, e7, e8, e9⟩ := hq2
    have e6 := nI_inj e6 (by omega) (by omega)
    subst e6 e8 e9
    have e7 : f1 = g1 := by have := congrFun e7 1; simpa only [upd_at, if_pos] using this
    subst e7
    refine ⟨a2, a3, ms', mr', mo', mk', hm2, hn2, fun i hi => ?_, fun i hi => ?_⟩
    · have := ha2 i hi
      exact ⟨by rw [this.2.2.1, ← this.1, (ha i hi).1], by rw [this.2.2.2.1, ← this.2.1, (ha i hi).2.1]⟩
    · have := hp2 i hi
      exact ⟨by rw [this.2.2.1, ← this.1, (hp i hi).1], by rw [this.2.2.2.1, ← this.2.1, (hp i hi).2.1]⟩
