/-! the relation of the class's memory and the model's; the steps -/
def Rel : RelT := fun F G I J Z F2 G2 I2 J2 => ∃ (S R P n : Nat) (srt row own kd : Nat → Nat),
  TX (I 0) (Z 0) (I2 4) (I2 5) ∧ HB S R P srt row own kd (F 0) (F 1) (F 2) (I 1 0) (I 1 1) (I 2) (I 3) (I 4) (I 5) (I 6) (I2 4) (I2 5) ∧
  CR S P srt own kd (F 3) (G 0) (G 1) (J 0) (J 1) (J 2) (J 3) ∧ DR S P srt own kd (F 4) (G 2) (I 7) (J 6) ∧
  (n ≤ 8 ∧ F 5 = nI n ∧ F2 12 = nI n ∧ ∀ i, i < n → I 9 i = I2 13 i ∧ I 10 i = I2 14 i ∧ (∃ q : Nat, q < 8 ∧ I2 14 i = nI q) ∧ (I2 13 i = -1 ∨ ∃ p : Nat, p < 8 ∧ I2 13 i = nI p)) ∧
  WR S P srt own kd (I2 13) (I2 14) n (F 7) (F 6) (G 3) (I 13) (J 7) ∧ SH (I 16) (I 17) (Z 1) (I2 0) (I2 1) (I2 2) ∧ F 13 = F2 0
theorem sp_type : Sp_type Rel := by
  intro F G I J Z F2 G2 I2 J2 hRel x1 x2
  obtain ⟨S, R, P, n, srt, row, own, kd, hT, hB, hC, hD, hN, hW, hH, hF⟩ := hRel
  rcases v_type (fl := I 1) hT (F 0) (F 1) (F 2) (F 3) (F 4) (F 7) (I 2) (I 3) (I 4) (I 5) (I 6) x1 x2 with ⟨v, e1, e2⟩ | ⟨v, hS, hR, hP, L', mb', mt', fl', Hs', Hr', Hb', Ho', Hk', Z', e1, e2, hT', S', R', P', srt', row', own', kd', g1, g2, g3, hcr, hm⟩
  · exact ⟨_, _, _, _, _, _, _, _, _, _, _, _, _, _, _, _, _, e1, e2, S, R, P, n, srt, row, own, kd, hT, hB, hC, hD, hN, hW, hH, hF⟩
  · exact ⟨_, _, _, _, _, _, _, _, _, _, _, _, _, _, _, _, _, e1, e2, S', R', P', n, srt', row', own', kd', hT', ⟨g1, g2, g3, hcr, hm⟩, Or.inl rfl, ⟨hD.1, Or.inl rfl⟩, hN, Or.inl rfl, hH, hF⟩
theorem sp_wipe : Sp_wipe Rel := by
  intro F G I J Z F2 G2 I2 J2 hRel x1
  obtain ⟨S, R, P, n, srt, row, own, kd, hT, hB, hC, hD, hN, hW, hH, hF⟩ := hRel
  rcases v_wipe (fl := I 1) hT (F 0) (F 1) (F 2) (F 3) (F 4) (F 7) (I 2) (I 3) (I 4) (I 5) (I 6) x1 with ⟨e1, e2⟩ | ⟨v, hS, hR, hP, L', mt', fl', Hs', Hr', Hb', Ho', Hk', e1, e2, hT', S', R', P', srt', row', own', kd', g1, g2, g3, hcr, hm⟩
  · exact ⟨_, _, _, _, _, _, _, _, _, _, _, _, _, _, _, e1, e2, S, R, P, n, srt, row, own, kd, hT, hB, hC, hD, hN, hW, hH, hF⟩
  · exact ⟨_, _, _, _, _, _, _, _, _, _, _, _, _, _, _, e1, e2, S', R', P', n, srt', row', own', kd', hT', ⟨g1, g2, g3, hcr, hm⟩, Or.inl rfl, ⟨hD.1, Or.inl rfl⟩, hN, Or.inl rfl, hH, hF⟩
theorem sp_fault : Sp_fault Rel := by
  intro F G I J Z F2 G2 I2 J2 hRel x1
  obtain ⟨S, R, P, n, srt, row, own, kd, hT, hB, hC, hD, hN, hW, hH, hF⟩ := hRel
  have hHS : HS (F 0) (F 1) (F 2) (I 1) (I 2) (I 3) (I 4) (I 5) (I 6) (I2 4) (I2 5) := ⟨S, R, P, srt, row, own, kd, hB.1, hB.2.1, hB.2.2.1, hB.2.2.2.1, hB.2.2.2.2⟩
  obtain ⟨b0, b1, b2, b3, b4, b5, b6, b7, b8, e1, e2⟩ := v_fault hHS (F2 1) (F2 2) (F2 3) (F2 4) (I2 6) (I2 7) (I2 8) (I2 9) x1
  exact ⟨_, _, _, _, _, _, _, _, _, e1, e2, S, R, P, n, srt, row, own, kd, hT, hB, hC, hD, hN, hW, hH, hF⟩
theorem sp_seat : Sp_seat Rel := by
  intro F G I J Z F2 G2 I2 J2 hRel x1 x2
  obtain ⟨S, R, P, n, srt, row, own, kd, hT, hB, hC, hD, hN, hW, hH, hF⟩ := hRel
  have hHS : HS (F 0) (F 1) (F 2) (I 1) (I 2) (I 3) (I 4) (I 5) (I 6) (I2 4) (I2 5) := ⟨S, R, P, srt, row, own, kd, hB.1, hB.2.1, hB.2.2.1, hB.2.2.2.1, hB.2.2.2.2⟩
  obtain ⟨b0, b1, b2, b3, b4, b5, b6, b7, b8, e1, e2⟩ := v_seat hHS (F2 1) (F2 2) (F2 3) (F2 4) (I2 6) (I2 7) (I2 8) (I2 9) x1 x2
  exact ⟨_, _, _, _, _, _, _, _, _, e1, e2, S, R, P, n, srt, row, own, kd, hT, hB, hC, hD, hN, hW, hH, hF⟩
theorem sp_person : Sp_person Rel := by
  intro F G I J Z F2 G2 I2 J2 hRel x1 x2
  obtain ⟨S, R, P, n, srt, row, own, kd, hT, hB, hC, hD, hN, hW, hH, hF⟩ := hRel
  have hHS : HS (F 0) (F 1) (F 2) (I 1) (I 2) (I 3) (I 4) (I 5) (I 6) (I2 4) (I2 5) := ⟨S, R, P, srt, row, own, kd, hB.1, hB.2.1, hB.2.2.1, hB.2.2.2.1, hB.2.2.2.2⟩
  obtain ⟨b0, b1, b2, b3, b4, b5, b6, b7, b8, e1, e2⟩ := v_person hHS (F2 1) (F2 2) (F2 3) (F2 4) (I2 6) (I2 7) (I2 8) (I2 9) x1 x2
  exact ⟨_, _, _, _, _, _, _, _, _, e1, e2, S, R, P, n, srt, row, own, kd, hT, hB, hC, hD, hN, hW, hH, hF⟩
theorem sp_count : Sp_count Rel := by
  intro F G I J Z F2 G2 I2 J2 hRel x1
  obtain ⟨S, R, P, n, srt, row, own, kd, hT, hB, hC, hD, hN, hW, hH, hF⟩ := hRel
  have hHS : HS (F 0) (F 1) (F 2) (I 1) (I 2) (I 3) (I 4) (I 5) (I 6) (I2 4) (I2 5) := ⟨S, R, P, srt, row, own, kd, hB.1, hB.2.1, hB.2.2.1, hB.2.2.2.1, hB.2.2.2.2⟩
  obtain ⟨b0, b1, b2, b3, b4, b5, b6, b7, b8, e1, e2⟩ := v_count hHS (F2 1) (F2 2) (F2 3) (F2 4) (I2 6) (I2 7) (I2 8) (I2 9) hT (F2 0) (F2 12) x1
  rw [show F2 12 = F 5 from hN.2.2.1.trans hN.2.1.symm, ← hF] at e1
  exact ⟨_, _, _, _, _, _, _, _, _, e1, e2, S, R, P, n, srt, row, own, kd, hT, hB, hC, hD, hN, hW, hH, hF⟩
theorem sp_likely : Sp_likely Rel := by
  intro F G I J Z F2 G2 I2 J2 hRel x1 x2 x3
  obtain ⟨S, R, P, n, srt, row, own, kd, hT, hB, hC, hD, hN, hW, hH, hF⟩ := hRel
  obtain ⟨b0, b1, b2, b3, b4, b5, b6, b7, b8, b9, b10, b11, b12, b13, b14, b15, b16, b17, b18, b19, b20, b21, b22, b23, e1, e2, hC2⟩ := v_likely hB hC (wi := J 4) (F2 1) (F2 2) (F2 3) (F2 4) (F2 5) (F2 6) (F2 7) (F2 8) (G2 0) (I2 6) (I2 7) (I2 8) (I2 9) (I2 10) (J2 0) (J2 1) x1 x2 x3
  exact ⟨_, _, _, _, _, _, _, _, _, _, _, _, _, _, _, _, _, _, _, _, _, _, _, _, e1, e2, S, R, P, n, srt, row, own, kd, hT, hB, hC2, hD, hN, hW, hH, hF⟩
theorem sp_taken : Sp_taken Rel := by
  intro F G I J Z F2 G2 I2 J2 hRel x1 x2 x3
  obtain ⟨S, R, P, n, srt, row, own, kd, hT, hB, hC, hD, hN, hW, hH, hF⟩ := hRel
  obtain ⟨b0, b1, b2, b3, b4, b5, b6, b7, b8, b9, b10, b11, b12, b13, b14, b15, b16, b17, b18, b19, b20, b21, b22, b23, e1, e2, hC2⟩ := v_taken hB hC (wi := J 4) (F2 1) (F2 2) (F2 3) (F2 4) (F2 5) (F2 6) (F2 7) (F2 8) (G2 0) (I2 6) (I2 7) (I2 8) (I2 9) (I2 10) (J2 0) (J2 1) x1 x2 x3
  exact ⟨_, _, _, _, _, _, _, _, _, _, _, _, _, _, _, _, _, _, _, _, _, _, _, _, e1, e2, S, R, P, n, srt, row, own, kd, hT, hB, hC2, hD, hN, hW, hH, hF⟩
theorem sp_left : Sp_left Rel := by
  intro F G I J Z F2 G2 I2 J2 hRel x1 x2
  obtain ⟨S, R, P, n, srt, row, own, kd, hT, hB, hC, hD, hN, hW, hH, hF⟩ := hRel
  obtain ⟨b0, b1, b2, b3, b4, b5, b6, b7, b8, b9, b10, b11, b12, b13, b14, b15, b16, b17, b18, b19, b20, b21, b22, b23, e1, e2, hC2⟩ := v_left hB hC (wi := J 4) (F2 1) (F2 2) (F2 3) (F2 4) (F2 5) (F2 6) (F2 7) (F2 8) (G2 0) (I2 6) (I2 7) (I2 8) (I2 9) (I2 10) (J2 0) (J2 1) x1 x2
  exact ⟨_, _, _, _, _, _, _, _, _, _, _, _, _, _, _, _, _, _, _, _, _, _, _, _, e1, e2, S, R, P, n, srt, row, own, kd, hT, hB, hC2, hD, hN, hW, hH, hF⟩
theorem sp_looks : Sp_looks Rel := by
  intro F G I J Z F2 G2 I2 J2 hRel x1
  obtain ⟨S, R, P, n, srt, row, own, kd, hT, hB, hC, hD, hN, hW, hH, hF⟩ := hRel
  obtain ⟨b0, b1, b2, b3, b4, b5, b6, b7, b8, b9, b10, b11, b12, b13, b14, b15, b16, b17, b18, b19, b20, b21, b22, b23, e1, e2, hC2⟩ := v_looks hB hC (wi := J 4) (F2 1) (F2 2) (F2 3) (F2 4) (F2 5) (F2 6) (F2 7) (F2 8) (G2 0) (I2 6) (I2 7) (I2 8) (I2 9) (I2 10) (J2 0) (J2 1) x1
  exact ⟨_, _, _, _, _, _, _, _, _, _, _, _, _, _, _, _, _, _, _, _, _, _, _, _, e1, e2, S, R, P, n, srt, row, own, kd, hT, hB, hC2, hD, hN, hW, hH, hF⟩
theorem sp_wrong : Sp_wrong Rel := by
  intro F G I J Z F2 G2 I2 J2 hRel x1 x2
  obtain ⟨S, R, P, n, srt, row, own, kd, hT, hB, hC, hD, hN, hW, hH, hF⟩ := hRel
  obtain ⟨b0, b1, b2, b3, b4, b5, b6, b7, b8, b9, b10, b11, b12, b13, b14, b15, b16, b17, b18, b19, b20, b21, b22, b23, b24, b25, b26, e1, e2, hC2⟩ := v_wrong hB hC (wi := J 4) (F2 1) (F2 2) (F2 3) (F2 4) (F2 5) (F2 6) (F2 7) (F2 8) (G2 0) (I2 6) (I2 7) (I2 8) (I2 9) (I2 10) (J2 0) (J2 1) (I2 11) (J2 2) (J2 3) x1 x2
  exact ⟨_, _, _, _, _, _, _, _, _, _, _, _, _, _, _, _, _, _, _, _, _, _, _, _, _, _, _, e1, e2, S, R, P, n, srt, row, own, kd, hT, hB, hC2, hD, hN, hW, hH, hF⟩
theorem sp_judged : Sp_judged Rel := by
  intro F G I J Z F2 G2 I2 J2 hRel x1
  obtain ⟨S, R, P, n, srt, row, own, kd, hT, hB, hC, hD, hN, hW, hH, hF⟩ := hRel
  obtain ⟨b0, b1, b2, b3, b4, b5, b6, b7, b8, b9, e1, e2⟩ := v_judged hB hH (F2 0) (F2 1) (F2 2) (F2 3) (F2 4) (I2 6) (I2 7) (I2 8) (I2 9) x1
  rw [← hF] at e1
  exact ⟨_, _, _, _, _, _, _, _, _, _, _, e1, e2, S, R, P, n, srt, row, own, kd, hT, hB, hC, hD, hN, hW, hH, rfl⟩
theorem sp_sitting : Sp_sitting Rel := by
  intro F G I J Z F2 G2 I2 J2 hRel x1 x2
  obtain ⟨S, R, P, n, srt, row, own, kd, hT, hB, hC, hD, hN, hW, hH, hF⟩ := hRel
  obtain ⟨b0, b1, b2, b3, b4, b5, b6, b7, b8, b9, e1, e2⟩ := v_sitting hB hH (F2 0) (F2 1) (F2 2) (F2 3) (F2 4) (I2 6) (I2 7) (I2 8) (I2 9) x1 x2
  rw [← hF] at e1
  exact ⟨_, _, _, _, _, _, _, _, _, _, _, e1, e2, S, R, P, n, srt, row, own, kd, hT, hB, hC, hD, hN, hW, hH, rfl⟩
theorem sp_order : Sp_order Rel := by
  intro F G I J Z F2 G2 I2 J2 hRel x1
  obtain ⟨S, R, P, n, srt, row, own, kd, hT, hB, hC, hD, hN, hW, hH, hF⟩ := hRel
  obtain ⟨b0, b1, b2, b3, b4, b5, b6, b7, b8, b9, b10, b11, b12, b13, b14, b15, b16, b17, b18, b19, b20, b21, b22, b23, b24, e1, e2, hD2⟩ := v_order hB hD (rw_ := I 8) (re := J 5) (F2 1) (F2 2) (F2 3) (F2 4) (F2 5) (F2 6) (F2 7) (F2 8) (G2 0) (G2 1) (I2 6) (I2 7) (I2 8) (I2 9) (I2 10) (I2 11) (I2 12) (J2 0) (J2 1) x1
  exact ⟨_, _, _, _, _, _, _, _, _, _, _, _, _, _, _, _, _, _, _, _, _, _, _, _, _, e1, e2, S, R, P, n, srt, row, own, kd, hT, hB, hC, hD2, hN, hW, hH, hF⟩
theorem sp_best : Sp_best Rel := by
  intro F G I J Z F2 G2 I2 J2 hRel x1
  obtain ⟨S, R, P, n, srt, row, own, kd, hT, hB, hC, hD, hN, hW, hH, hF⟩ := hRel
  obtain ⟨b0, b1, b2, b3, b4, b5, b6, b7, b8, b9, b10, b11, b12, b13, b14, b15, b16, b17, b18, b19, b20, b21, b22, b23, b24, e1, e2, hD2⟩ := v_best hB hD (rw_ := I 8) (re := J 5) (F2 1) (F2 2) (F2 3) (F2 4) (F2 5) (F2 6) (F2 7) (F2 8) (G2 0) (G2 1) (I2 6) (I2 7) (I2 8) (I2 9) (I2 10) (I2 11) (I2 12) (J2 0) (J2 1) x1
  exact ⟨_, _, _, _, _, _, _, _, _, _, _, _, _, _, _, _, _, _, _, _, _, _, _, _, _, e1, e2, S, R, P, n, srt, row, own, kd, hT, hB, hC, hD2, hN, hW, hH, hF⟩
theorem sp_back : Sp_back Rel := by
  intro F G I J Z F2 G2 I2 J2 hRel x1 x2
  obtain ⟨S, R, P, n, srt, row, own, kd, hT, hB, hC, hD, hN, hW, hH, hF⟩ := hRel
  obtain ⟨b0, b1, b2, b3, b4, b5, b6, b7, b8, b9, b10, b11, b12, b13, b14, b15, b16, e1, e2⟩ := v_back hB hH (F 10) (F 11) (F 12) (F2 0) (I 15) (F2 1) (F2 2) (F2 3) (F2 4) (F2 9) (F2 10) (F2 11) (I2 6) (I2 7) (I2 8) (I2 9) x1 x2
  rw [← hF] at e1
  exact ⟨_, _, _, _, _, _, _, _, _, _, _, _, _, _, _, _, _, _, e1, e2, S, R, P, n, srt, row, own, kd, hT, hB, hC, hD, hN, hW, hH, rfl⟩
theorem sp_seen : Sp_seen Rel := by
  intro F G I J Z F2 G2 I2 J2 hRel x1 x2
  obtain ⟨S, R, P, n, srt, row, own, kd, hT, hB, hC, hD, hN, hW, hH, hF⟩ := hRel
  have hSE : SE (F 5) (I 9) (I 10) (F2 12) (I2 13) (I2 14) := ⟨n, hN⟩
  obtain ⟨r, sz', rd', wp', wl', sg', sw', sl', e1, e2, ⟨n', hN'⟩, hor⟩ := v_seen hSE (F 7) x1 x2
  rcases hor with ⟨rfl, rfl, rfl, rfl, rfl, rfl, rfl⟩ | rfl
  · exact ⟨_, _, _, _, _, _, _, _, e1, e2, S, R, P, n, srt, row, own, kd, hT, hB, hC, hD, hN, hW, hH, hF⟩
  · exact ⟨_, _, _, _, _, _, _, _, e1, e2, S, R, P, n', srt, row, own, kd, hT, hB, hC, hD, hN', Or.inl rfl, hH, hF⟩
theorem sp_read : Sp_read Rel := by
  intro F G I J Z F2 G2 I2 J2 hRel x1
  obtain ⟨S, R, P, n, srt, row, own, kd, hT, hB, hC, hD, hN, hW, hH, hF⟩ := hRel
  have hSE : SE (F 5) (I 9) (I 10) (F2 12) (I2 13) (I2 14) := ⟨n, hN⟩
  obtain ⟨r, sz', rd', fd', wp', wl', sg', sw', sl', e1, e2, ⟨n', hN'⟩, hor⟩ := v_read hSE hH (F 7) (F2 0) x1
  rw [← hF] at e1
  rcases hor with ⟨rfl, rfl, rfl, rfl, rfl, rfl, rfl⟩ | rfl
  · exact ⟨_, _, _, _, _, _, _, _, _, _, e1, e2, S, R, P, n, srt, row, own, kd, hT, hB, hC, hD, hN, hW, hH, rfl⟩
  · exact ⟨_, _, _, _, _, _, _, _, _, _, e1, e2, S, R, P, n', srt, row, own, kd, hT, hB, hC, hD, hN', Or.inl rfl, hH, rfl⟩
theorem sp_forget : Sp_forget Rel := by
  intro F G I J Z F2 G2 I2 J2 hRel
  obtain ⟨S, R, P, n, srt, row, own, kd, hT, hB, hC, hD, hN, hW, hH, hF⟩ := hRel
  have hSE : SE (F 5) (I 9) (I 10) (F2 12) (I2 13) (I2 14) := ⟨n, hN⟩
  obtain ⟨r, e1, e2, ⟨n', hN'⟩⟩ := v_forget hSE (F 7)
  exact ⟨_, _, _, _, e1, e2, S, R, P, n', srt, row, own, kd, hT, hB, hC, hD, hN', Or.inl rfl, hH, hF⟩
theorem sp_losers : Sp_losers Rel := by
  intro F G I J Z F2 G2 I2 J2 hRel
  obtain ⟨S, R, P, n, srt, row, own, kd, hT, hB, hC, hD, hN, hW, hH, hF⟩ := hRel
  obtain ⟨b0, b1, b2, b3, b4, b5, b6, b7, b8, b9, b10, b11, b12, b13, b14, b15, b16, b17, b18, b19, b20, b21, b22, b23, b24, e1, e2, hW2⟩ := v_losers hB hN.1 hN.2.1 hN.2.2.1 hN.2.2.2 hW (wa := I 11) (wk := I 12) (re := J 8) (F2 1) (F2 2) (F2 3) (F2 4) (F2 5) (F2 6) (F2 7) (F2 8) (G2 0) (I2 6) (I2 7) (I2 8) (I2 9) (I2 10) (J2 0) (J2 1) 
  exact ⟨_, _, _, _, _, _, _, _, _, _, _, _, _, _, _, _, _, _, _, _, _, _, _, _, _, e1, e2, S, R, P, n, srt, row, own, kd, hT, hB, hC, hD, hN, hW2, hH, hF⟩
theorem sp_share : Sp_share Rel := by
  intro F G I J Z F2 G2 I2 J2 hRel x1 x2
  obtain ⟨S, R, P, n, srt, row, own, kd, hT, hB, hC, hD, hN, hW, hH, hF⟩ := hRel
  obtain ⟨b0, b1, b2, b3, b4, b5, b6, b7, b8, b9, b10, b11, b12, b13, b14, b15, b16, b17, b18, b19, b20, b21, b22, b23, b24, e1, e2, hW2⟩ := v_share hB hN.1 hN.2.1 hN.2.2.1 hN.2.2.2 hW (wa := I 11) (wk := I 12) (re := J 8) (F2 1) (F2 2) (F2 3) (F2 4) (F2 5) (F2 6) (F2 7) (F2 8) (G2 0) (I2 6) (I2 7) (I2 8) (I2 9) (I2 10) (J2 0) (J2 1) x1 x2
  exact ⟨_, _, _, _, _, _, _, _, _, _, _, _, _, _, _, _, _, _, _, _, _, _, _, _, _, e1, e2, S, R, P, n, srt, row, own, kd, hT, hB, hC, hD, hN, hW2, hH, hF⟩
theorem sp_likeliest : Sp_likeliest Rel := by
  intro F G I J Z F2 G2 I2 J2 hRel
  obtain ⟨S, R, P, n, srt, row, own, kd, hT, hB, hC, hD, hN, hW, hH, hF⟩ := hRel
  obtain ⟨b0, b1, b2, b3, b4, b5, b6, b7, b8, b9, b10, b11, b12, b13, b14, b15, b16, b17, b18, b19, b20, b21, b22, b23, b24, e1, e2, hW2⟩ := v_likeliest hB hN.1 hN.2.1 hN.2.2.1 hN.2.2.2 hW (wa := I 11) (wk := I 12) (re := J 8) (F2 1) (F2 2) (F2 3) (F2 4) (F2 5) (F2 6) (F2 7) (F2 8) (G2 0) (I2 6) (I2 7) (I2 8) (I2 9) (I2 10) (J2 0) (J2 1) 
  exact ⟨_, _, _, _, _, _, _, _, _, _, _, _, _, _, _, _, _, _, _, _, _, _, _, _, _, e1, e2, S, R, P, n, srt, row, own, kd, hT, hB, hC, hD, hN, hW2, hH, hF⟩
theorem sp_ask : Sp_ask Rel := by
  intro F G I J Z F2 G2 I2 J2 hRel x1
  obtain ⟨S, R, P, n, srt, row, own, kd, hT, hB, hC, hD, hN, hW, hH, hF⟩ := hRel
  obtain ⟨b0, b1, b2, b3, b4, b5, b6, b7, b8, b9, b10, b11, b12, b13, b14, b15, b16, b17, b18, b19, b20, b21, b22, b23, b24, e1, e2, hW2⟩ := v_ask hB hN.1 hN.2.1 hN.2.2.1 hN.2.2.2 hW (wa := I 11) (wk := I 12) (re := J 8) (F2 1) (F2 2) (F2 3) (F2 4) (F2 5) (F2 6) (F2 7) (F2 8) (G2 0) (I2 6) (I2 7) (I2 8) (I2 9) (I2 10) (J2 0) (J2 1) x1
  exact ⟨_, _, _, _, _, _, _, _, _, _, _, _, _, _, _, _, _, _, _, _, _, _, _, _, _, e1, e2, S, R, P, n, srt, row, own, kd, hT, hB, hC, hD, hN, hW2, hH, hF⟩
theorem sp_turned : Sp_turned Rel := by
  intro F G I J Z F2 G2 I2 J2 hRel x1 x2 x3
  obtain ⟨S, R, P, n, srt, row, own, kd, hT, hB, hC, hD, hN, hW, hH, hF⟩ := hRel
  obtain ⟨r, e1, e2⟩ := v_turned x1 x2 x3
  exact ⟨r, e1, e2, S, R, P, n, srt, row, own, kd, hT, hB, hC, hD, hN, hW, hH, hF⟩
theorem sp_evening : Sp_evening Rel := by
  intro F G I J Z F2 G2 I2 J2 hRel x1 x2
  obtain ⟨S, R, P, n, srt, row, own, kd, hT, hB, hC, hD, hN, hW, hH, hF⟩ := hRel
  obtain ⟨b0, b1, b2, b3, b4, b5, b6, b7, b8, b9, b10, b11, b12, b13, e1, e2⟩ := v_evening hB (F 8) (F 9) (I 14) (F2 1) (F2 2) (F2 3) (F2 4) (F2 13) (I2 6) (I2 7) (I2 8) (I2 9) (I2 15) x1 x2
  exact ⟨_, _, _, _, _, _, _, _, _, _, _, _, _, _, e1, e2, S, R, P, n, srt, row, own, kd, hT, hB, hC, hD, hN, hW, hH, hF⟩
theorem sp_sheet : Sp_sheet Rel := by
  intro F G I J Z F2 G2 I2 J2 hRel x1 x2 x3
  obtain ⟨S, R, P, n, srt, row, own, kd, hT, hB, hC, hD, hN, hW, hH, hF⟩ := hRel
  obtain ⟨b0, b1, b2, b3, b4, b5, b6, b7, e1, e2, hH2⟩ := v_sheet hH (F2 0) x1 x2 x3
  rw [← hF] at e1
  exact ⟨_, _, _, _, _, _, _, _, _, e1, e2, S, R, P, n, srt, row, own, kd, hT, hB, hC, hD, hN, hW, hH2, rfl⟩
theorem sp_lose : Sp_lose Rel := by
  intro F G I J Z F2 G2 I2 J2 hRel x1
  obtain ⟨S, R, P, n, srt, row, own, kd, hT, hB, hC, hD, hN, hW, hH, hF⟩ := hRel
  obtain ⟨b0, b1, b2, b3, e1, e2, hH2⟩ := v_lose hH (F2 0) x1
  rw [← hF] at e1
  exact ⟨_, _, _, _, _, e1, e2, S, R, P, n, srt, row, own, kd, hT, hB, hC, hD, hN, hW, hH2, rfl⟩
theorem sp_lay : Sp_lay Rel := by
  intro F G I J Z F2 G2 I2 J2 hRel x1 x2 x3 x4
  obtain ⟨S, R, P, n, srt, row, own, kd, hT, hB, hC, hD, hN, hW, hH, hF⟩ := hRel
  obtain ⟨b0, b1, b2, b3, e1, e2, hH2⟩ := v_lay hH (F2 0) x1 x2 x3 x4
  rw [← hF] at e1
  exact ⟨_, _, _, _, _, e1, e2, S, R, P, n, srt, row, own, kd, hT, hB, hC, hD, hN, hW, hH2, rfl⟩
theorem sp_get : Sp_get Rel := by
  intro F G I J Z F2 G2 I2 J2 hRel x1 x2 x3
  obtain ⟨S, R, P, n, srt, row, own, kd, hT, hB, hC, hD, hN, hW, hH, hF⟩ := hRel
  obtain ⟨b0, b1, e1, e2⟩ := v_get hH (F2 0) x1 x2 x3
  rw [← hF] at e1
  exact ⟨_, _, _, e1, e2, S, R, P, n, srt, row, own, kd, hT, hB, hC, hD, hN, hW, hH, rfl⟩
theorem sp_copy : Sp_copy Rel := by
  intro F G I J Z F2 G2 I2 J2 hRel x1 x2 x3 x4 x5
  obtain ⟨S, R, P, n, srt, row, own, kd, hT, hB, hC, hD, hN, hW, hH, hF⟩ := hRel
  obtain ⟨b0, b1, b2, b3, b4, e1, e2, hH2⟩ := v_copy hH (mv := I2 3) (F2 0) x1 x2 x3 x4 x5
  rw [← hF] at e1
  exact ⟨_, _, _, _, _, _, e1, e2, S, R, P, n, srt, row, own, kd, hT, hB, hC, hD, hN, hW, hH2, rfl⟩
theorem sp_write : Sp_write Rel := by
  intro F G I J Z F2 G2 I2 J2 hRel x1 x2
  obtain ⟨S, R, P, n, srt, row, own, kd, hT, hB, hC, hD, hN, hW, hH, hF⟩ := hRel
  obtain ⟨b0, b1, b2, b3, b4, b5, b6, b7, b8, b9, b10, b11, b12, b13, b14, b15, b16, e1, e2, hH2⟩ := v_write hB hH (F 8) (F 9) (F2 0) (I 14) (F2 1) (F2 2) (F2 3) (F2 4) (F2 13) (I2 6) (I2 7) (I2 8) (I2 9) (I2 15) x1 x2
  rw [← hF] at e1
  exact ⟨_, _, _, _, _, _, _, _, _, _, _, _, _, _, _, _, _, _, e1, e2, S, R, P, n, srt, row, own, kd, hT, hB, hC, hD, hN, hW, hH2, rfl⟩
theorem sp_digest : Sp_digest Rel := by
  intro F G I J Z F2 G2 I2 J2 hRel
  obtain ⟨S, R, P, n, srt, row, own, kd, hT, hB, hC, hD, hN, hW, hH, hF⟩ := hRel
  obtain ⟨g1, g2, g3, hcr, hm⟩ := hB
  obtain ⟨b0, b1, b2, b3, b4, b5, b6, b7, b8, b9, b10, b11, b12, b13, b14, b15, b16, b17, b18, b19, b20, b21, b22, b23, b24, b25, b26, b27, b28, b29, b30, b31, b32, b33, b34, b35, b36, b37, b38, b39, b40, b41, b42, b43, b44, b45, b46, e1, e2, hC2, hD2, hW2⟩ := v_digest hcr hN.1 hN.2.2.2 (fd := F2 0) (ew := F 8) (es := F 9) (rw_ := I 8) (wa := I 11) (wk := I 12) (pl := I 14) (wi := J 4) (dre := J 5) (wre := J 8) hC hD hW hm hT (F2 1) (F2 2) (F2 3) (F2 4) (I2 6) (I2 7) (I2 8) (I2 9) (F2 5) (F2 6) (F2 7) (F2 8) (F2 13) (G2 0) (G2 1) (I2 10) (I2 11) (I2 12) (I2 15) (J2 0) (J2 1)
  rw [← hF, ← g1, ← g2, ← g3, ← hN.2.1] at e1
  rw [← hN.2.2.1] at e2
  exact ⟨_, _, _, _, _, _, _, _, _, _, _, _, _, _, _, _, _, _, _, _, _, _, _, _, _, _, _, _, _, _, _, _, _, _, _, _, _, _, _, _, _, _, _, _, _, _, _, e1, e2, S, R, P, n, srt, row, own, kd, hT, ⟨g1, g2, g3, hcr, hm⟩, hC2, hD2, hN, hW2, hH, hF⟩
