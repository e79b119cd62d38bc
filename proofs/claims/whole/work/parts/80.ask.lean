/-! ask: both sides -/
theorem wc_21 {S P n : Nat} {srt own kd : Nat → Nat} {sw sl : Nat → Int32} (hS : S < 9) (hP : P ≤ S) (ho : ∀ k, k < P → own k < S) {wn : Nat → Int32} (hwn : ∀ l k, l < P → k < P → ∃ a, a < 256 ∧ wn (8 * l + k) = nI a ∧ ∀ s, s < S → (a.testBit s = true ↔ (vvN S P srt own kd sw sl n) l ≠ 0 ∧ AN S P srt own kd sw sl n l k s)) (K : Int32 → Int32 → (Nat → Int32) → Int32 → Int32 → Int32 → Option Int32) {p s x : Nat} (hp : p < P) (hs : s < S) (hx : x ≤ 8) : ∀ (r i fuel : Nat), i + r = P → r < fuel → p_X6_worstCase_b21 K fuel (nI S) (nI P) wn (nI p) (nI x) (nI s) (nI (fb_sm (cnN S P srt own kd sw sl n p s) i)) (nI i) = K (nI S) (nI P) wn (nI p) (nI (if ctN S P srt own kd sw sl n p s ≤ x then x else ctN S P srt own kd sw sl n p s)) (nI (s + 1)) := by
  intro r
  induction r with
  | zero =>
    intro i fuel hi hf
    obtain ⟨f, rfl⟩ : ∃ f, fuel = f + 1 := ⟨fuel - 1, by omega⟩
    have e : i = P := by omega
    subst e
    have hc := ct_le (S := S) (P := i) (n := n) (p := p) (s := s) (m := i) (srt := srt) (own := own) (kd := kd) (sw := sw) (sl := sl)
    show p_X6_worstCase_b21x _ _ _ _ _ _ _ _ _ _ = _
    unfold p_X6_worstCase_b21x ctN
    have e1 : (nI x < nI (fb_sm (cnN S i srt own kd sw sl n p s) i)) = ¬ (fb_sm (cnN S i srt own kd sw sl n p s) i ≤ x) := (propext (nI_ltI (by omega) (by omega))).trans (propext ⟨fun q => by omega, fun q => by omega⟩)
    rw [if_pos (nI_le (Nat.le_refl _) (by omega))]
    simp only [e1, nm_def, nI_1]
    by_cases q : fb_sm (cnN S i srt own kd sw sl n p s) i ≤ x
    · rw [if_neg (fun z => z q), if_pos q]
    · rw [if_pos q, if_neg q]
  | succ r ih =>
    intro i fuel hi hf
    obtain ⟨f, rfl⟩ : ∃ f, fuel = f + 1 := ⟨fuel - 1, by omega⟩
    have hiP : i < P := by omega
    have hs1 : fb_sm (cnN S P srt own kd sw sl n p s) (i + 1) = fb_sm (cnN S P srt own kd sw sl n p s) i + cnN S P srt own kd sw sl n p s i := rfl
    obtain ⟨a, a1, a2, a3⟩ := hwn i p hiP hp
    have eix : nI i * 8 + nI p = nI (8 * i + p) := by rw [show (8 : Int32) = nI 8 from rfl, pk_mul, nI_add, Nat.mul_comm]
    rw [← ih (i + 1) f (by omega) (by omega), hs1]
    show p_X6_worstCase_b21x _ _ _ _ _ _ _ _ _ _ = _
    unfold p_X6_worstCase_b21x p_X6_worstCase_b59
    rw [if_neg (nI_ge hiP (by omega)), eix, inB_nI (show 8 * i + p < 64 by omega) (by decide), gd_true, nI_clamp (by omega), a2, d_has a a1 s (by omega), b1_some]
    simp only [nIb0, nm_def, nI_1]
    have hw := VW_on (n := n) (l := i) (srt := srt) (kd := kd) (sw := sw) (sl := sl) hS hP ho hp hs
    have hbit := a3 s hs
    by_cases hb : a.testBit s = true
    · have hc : cnN S P srt own kd sw sl n p s i = 1 := by
        unfold cnN
        rw [if_pos ⟨(hbit.mp hb).1, hw.mpr (hbit.mp hb).2⟩]
      rw [if_neg (by rw [hb]; decide), hc]
    · have hc : cnN S P srt own kd sw sl n p s i = 0 := by
        unfold cnN
        rw [if_neg (fun z => hb (hbit.mpr ⟨z.1, hw.mp z.2⟩))]
      have hb' : a.testBit s = false := by simpa using hb
      rw [if_pos hb', hc, L0, nI_add]
theorem wc_4 {S P n : Nat} {srt own kd : Nat → Nat} {sw sl : Nat → Int32} (hS : S < 9) (hP : P ≤ S) (ho : ∀ k, k < P → own k < S) {wn : Nat → Int32} (hwn : ∀ l k, l < P → k < P → ∃ a, a < 256 ∧ wn (8 * l + k) = nI a ∧ ∀ s, s < S → (a.testBit s = true ↔ (vvN S P srt own kd sw sl n) l ≠ 0 ∧ AN S P srt own kd sw sl n l k s)) {p : Nat} (hp : p < P) : ∀ (r i fuel : Nat), i + r = S → r < fuel → p_X6_worstCase_b4 fuel (nI S) (nI P) wn (nI p) (nI (mxN (ctN S P srt own kd sw sl n p) i)) (nI i) = some (nI (wsN S P srt own kd sw sl n p)) := by
  intro r
  induction r with
  | zero =>
    intro i fuel hi hf
    obtain ⟨f, rfl⟩ : ∃ f, fuel = f + 1 := ⟨fuel - 1, by omega⟩
    have e : i = S := by omega
    subst e
    show p_X6_worstCase_b4x _ _ _ _ _ _ _ = _
    unfold p_X6_worstCase_b4x
    rw [if_pos (nI_le (Nat.le_refl _) (by omega))]
    rfl
  | succ r ih =>
    intro i fuel hi hf
    obtain ⟨f, rfl⟩ : ∃ f, fuel = f + 1 := ⟨fuel - 1, by omega⟩
    have hiS : i < S := by omega
    have hm := mxN_le (v := ctN S P srt own kd sw sl n p) (B := P) i (fun j _ => ct_le)
    rw [← ih (i + 1) f (by omega) (by omega)]
    show p_X6_worstCase_b4x _ _ _ _ _ _ _ = _
    unfold p_X6_worstCase_b4x
    rw [if_neg (nI_ge hiS (by omega))]
    exact wc_21 hS hP ho hwn (p_X6_worstCase_b4 f) hp hiS (show mxN (ctN S P srt own kd sw sl n p) i ≤ 8 by omega) P 0 4096 (by omega) (by omega)
theorem v_worst {S P n : Nat} {srt own kd : Nat → Nat} {sw sl : Nat → Int32} (hS : S < 9) (hP : P ≤ S) (ho : ∀ k, k < P → own k < S) {wn : Nat → Int32} (hwn : ∀ l k, l < P → k < P → ∃ a, a < 256 ∧ wn (8 * l + k) = nI a ∧ ∀ s, s < S → (a.testBit s = true ↔ (vvN S P srt own kd sw sl n) l ≠ 0 ∧ AN S P srt own kd sw sl n l k s)) {p : Nat} (hp : p < P) : p_X6_worstCase (nI S) (nI P) wn (nI p) = some (nI (wsN S P srt own kd sw sl n p)) := wc_4 hS hP ho hwn hp S 0 4096 (by omega) (by omega)
theorem sn_1 {n : Nat} (hn : n ≤ 8) {sw : Nat → Int32} {x : Int32} : ∀ (r i fuel : Nat), i + r = n → r < fuel → p_X8_wasSeen_b4 fuel (nI n) sw x 1 (nI i) = some 1 := by
  intro r
  induction r with
  | zero =>
    intro i fuel hi hf
    obtain ⟨f, rfl⟩ : ∃ f, fuel = f + 1 := ⟨fuel - 1, by omega⟩
    have e : i = n := by omega
    subst e
    show p_X8_wasSeen_b4x _ _ _ _ _ _ = _
    unfold p_X8_wasSeen_b4x
    rw [if_pos (nI_le (Nat.le_refl _) (by omega))]
    rfl
  | succ r ih =>
    intro i fuel hi hf
    obtain ⟨f, rfl⟩ : ∃ f, fuel = f + 1 := ⟨fuel - 1, by omega⟩
    rw [← ih (i + 1) f (by omega) (by omega)]
    show p_X8_wasSeen_b4x _ _ _ _ _ _ = _
    unfold p_X8_wasSeen_b4x p_X8_wasSeen_b26 p_X8_wasSeen_b31
    rw [if_neg (nI_ge (show i < n by omega) (by omega)), if_neg (by decide), nm_def, nI_1]
theorem sn_sim {n : Nat} (hn : n ≤ 8) {wp sw : Nat → Int32} (h : ∀ i, i < n → wp i = sw i) {x : Int32} : ∀ (r i fC fM : Nat), i + r = n → r < fC → r < fM → ∃ b : Bool, p_X6_wasSeen_b2 fC (nI n) wp x (nI i) = some (nI b.toNat) ∧ p_X8_wasSeen_b4 fM (nI n) sw x 0 (nI i) = some (nI b.toNat) := by
  intro r
  induction r with
  | zero =>
    intro i fC fM hi hC hM
    obtain ⟨f, rfl⟩ : ∃ f, fC = f + 1 := ⟨fC - 1, by omega⟩
    obtain ⟨g, rfl⟩ : ∃ g, fM = g + 1 := ⟨fM - 1, by omega⟩
    have e : i = n := by omega
    subst e
    refine ⟨false, ?_, ?_⟩
    · show p_X6_wasSeen_b2x _ _ _ _ _ = _
      unfold p_X6_wasSeen_b2x
      rw [if_pos (nI_le (Nat.le_refl _) (by omega))]; rfl
    · show p_X8_wasSeen_b4x _ _ _ _ _ _ = _
      unfold p_X8_wasSeen_b4x
      rw [if_pos (nI_le (Nat.le_refl _) (by omega))]; rfl
  | succ r ih =>
    intro i fC fM hi hC hM
    obtain ⟨f, rfl⟩ : ∃ f, fC = f + 1 := ⟨fC - 1, by omega⟩
    obtain ⟨g, rfl⟩ : ∃ g, fM = g + 1 := ⟨fM - 1, by omega⟩
    show ∃ b : Bool, p_X6_wasSeen_b2x _ _ _ _ _ = _ ∧ p_X8_wasSeen_b4x _ _ _ _ _ _ = _
    unfold p_X6_wasSeen_b2x p_X8_wasSeen_b4x p_X8_wasSeen_b26 p_X8_wasSeen_b31
    rw [if_neg (nI_ge (show i < n by omega) (by omega)), if_neg (nI_ge (show i < n by omega) (by omega)), if_pos (show (0 : Int32) = 0 from rfl), inB_nI (show i < 8 by omega) (by decide), gd_true, gd_true, nI_clamp (by omega), h i (by omega), nm_def, nm_def, nm_def, nI_1]
    by_cases q : sw i = x
    · rw [if_pos q, if_pos q]
      exact ⟨true, rfl, sn_1 hn r (i + 1) g (by omega) (by omega)⟩
    · rw [if_neg q, if_neg q]
      exact ih (i + 1) f g (by omega) (by omega) (by omega)
theorem ask_sim {S P n : Nat} {srt own kd : Nat → Nat} {ms mo mk : Nat → Int32} (hM : MC S P srt own kd ms mo mk) (hn : n ≤ 8) {sw sl : Nat → Int32} (hsg : ∀ i, i < n → (∃ q : Nat, q < 8 ∧ sl i = nI q) ∧ (sw i = -1 ∨ ∃ p : Nat, p < 8 ∧ sw i = nI p)) {wn wp : Nat → Int32} (hpp : ∀ i, i < n → wp i = sw i) (hwn : ∀ l k, l < P → k < P → ∃ a, a < 256 ∧ wn (8 * l + k) = nI a ∧ ∀ s, s < S → (a.testBit s = true ↔ (vvN S P srt own kd sw sl n) l ≠ 0 ∧ AN S P srt own kd sw sl n l k s)) {x : Int32} : ∀ (r i fC fM : Nat) (fo few le : Int32) (lo w0 h0 kf : Int32) (al : Int64) (ks : Nat → Int32) (wy nx : Nat → Int64), i + r = P → r < fC → r < fM → ((fo = -1 ∧ few = nI 9) ∨ ∃ b, b < P ∧ fo = nI b ∧ few = nI (wsN S P srt own kd sw sl n b) ∧ le = few) →
    ∃ (fo' res : Int32) (a1 a2 a3 a4 : Int32) (a5 : Int64) (a6 : Nat → Int32) (a7 a8 : Nat → Int64), p_X6_whomToAsk_b7 fC (nI S) (nI P) (nI n) (nI (susN (vvN S P srt own kd sw sl n) P)) wp wn fo few (nI i) = some fo' ∧ p_X8_askNow_b13 fM (nI S) (nI P) lo w0 h0 kf (nI n) al ms mo mk ks sw sl wy nx x (nI (susN (vvN S P srt own kd sw sl n) P)) fo le (nI i) = some (res, a1, a2, a3, a4, a5, a6, a7, a8) ∧ ((fo' = -1 ∧ res = -3) ∨ ∃ b, b < P ∧ fo' = nI b ∧ res = if x = 0 then nI b else nI (wsN S P srt own kd sw sl n b)) := by
  obtain ⟨hS, hP, h1, h2⟩ := id hM
  have ho : ∀ k, k < P → own k < S := fun k hk => (h2 k hk).2.1
  have fin : ∀ (fo few le : Int32) (lo w0 h0 kf : Int32) (al : Int64) (ks : Nat → Int32) (wy nx : Nat → Int64), ((fo = -1 ∧ few = nI 9) ∨ ∃ b, b < P ∧ fo = nI b ∧ few = nI (wsN S P srt own kd sw sl n b) ∧ le = few) → ∃ (fo' res : Int32) (a1 a2 a3 a4 : Int32) (a5 : Int64) (a6 : Nat → Int32) (a7 a8 : Nat → Int64), (some fo : Option Int32) = some fo' ∧ p_X8_askNow_b69 (nI S) (nI P) lo w0 h0 kf (nI n) al ms mo mk ks sw sl wy nx x fo le = some (res, a1, a2, a3, a4, a5, a6, a7, a8) ∧ ((fo' = -1 ∧ res = -3) ∨ ∃ b, b < P ∧ fo' = nI b ∧ res = if x = 0 then nI b else nI (wsN S P srt own kd sw sl n b)) := fun fo few le lo w0 h0 kf al ks wy nx hi => by
    unfold p_X8_askNow_b69 p_X8_askNow_b89
    rcases hi with ⟨rfl, -⟩ | ⟨b, hb, rfl, rfl, rfl⟩
    · rw [if_pos rfl]
      exact ⟨_, _, _, _, _, _, _, _, _, _, rfl, rfl, Or.inl ⟨rfl, rfl⟩⟩
    · rw [if_neg (nI_m1 (show b < 2 ^ 31 by omega))]
      by_cases q : x = 0
      · rw [if_pos q]
        exact ⟨_, _, _, _, _, _, _, _, _, _, rfl, rfl, Or.inr ⟨b, hb, rfl, by rw [if_pos q]⟩⟩
      · rw [if_neg q]
        exact ⟨_, _, _, _, _, _, _, _, _, _, rfl, rfl, Or.inr ⟨b, hb, rfl, by rw [if_neg q]⟩⟩
  intro r
  induction r with
  | zero =>
    intro i fC fM fo few le lo w0 h0 kf al ks wy nx hi hC hM' hi2
    obtain ⟨f, rfl⟩ : ∃ f, fC = f + 1 := ⟨fC - 1, by omega⟩
    obtain ⟨g, rfl⟩ : ∃ g, fM = g + 1 := ⟨fM - 1, by omega⟩
    have e : i = P := by omega
    subst e
    show ∃ (fo' res : Int32) (a1 a2 a3 a4 : Int32) (a5 : Int64) (a6 : Nat → Int32) (a7 a8 : Nat → Int64), p_X6_whomToAsk_b7x _ _ _ _ _ _ _ _ _ _ = _ ∧ p_X8_askNow_b13x _ _ _ _ _ _ _ _ _ _ _ _ _ _ _ _ _ _ _ _ _ _ = _ ∧ _
    unfold p_X6_whomToAsk_b7x p_X8_askNow_b13x p_X6_whomToAsk_b57
    rw [if_pos (nI_le (Nat.le_refl _) (by omega)), if_pos (nI_le (Nat.le_refl _) (by omega))]
    exact fin fo few le _ _ _ _ _ _ _ _ hi2
  | succ r ih =>
    intro i fC fM fo few le lo w0 h0 kf al ks wy nx hi hC hM' hi2
    obtain ⟨f, rfl⟩ : ∃ f, fC = f + 1 := ⟨fC - 1, by omega⟩
    obtain ⟨g, rfl⟩ : ∃ g, fM = g + 1 := ⟨fM - 1, by omega⟩
    have hiP : i < P := by omega
    show ∃ (fo' res : Int32) (a1 a2 a3 a4 : Int32) (a5 : Int64) (a6 : Nat → Int32) (a7 a8 : Nat → Int64), p_X6_whomToAsk_b7x _ _ _ _ _ _ _ _ _ _ = _ ∧ p_X8_askNow_b13x _ _ _ _ _ _ _ _ _ _ _ _ _ _ _ _ _ _ _ _ _ _ = _ ∧ _
    unfold p_X6_whomToAsk_b7x p_X8_askNow_b13x p_X6_whomToAsk_b57 p_X6_whomToAsk_b51 p_X8_askNow_b56 p_X8_askNow_b63
    rw [if_neg (nI_ge hiP (by omega)), if_neg (nI_ge hiP (by omega))]
    by_cases q0 : nI (susN (vvN S P srt own kd sw sl n) P) = 0
    · rw [if_pos q0, if_pos q0]
      exact fin fo few le _ _ _ _ _ _ _ _ hi2
    · rw [if_neg q0, if_neg q0]
      obtain ⟨b, s1, s2⟩ := sn_sim hn hpp (x := nI i) n 0 4096 4096 (by omega) (by omega) (by omega)
      have s1' : p_X6_wasSeen (nI n) wp (nI i) = some (nI b.toNat) := s1
      have s2' : p_X8_wasSeen (nI n) sw (nI i) = some (nI b.toNat) := s2
      have hwi := ws_le (S := S) (P := P) (n := n) (p := i) (srt := srt) (own := own) (kd := kd) (sw := sw) (sl := sl)
      rw [v_worst hS hP ho hwn hiP, b1_some, s1', b1_some, s2', b1_some]
      simp only [nIb0, nm_def, nI_1]
      by_cases hb : b = false
      · obtain ⟨c1, c2, c3, c4, c5, c6, c7, c8, e⟩ := v_worstBy hM hn hsg hiP lo w0 h0 kf al ks wy nx
        rw [if_pos hb, if_pos hb, e, b9_some]
        rcases hi2 with ⟨rfl, rfl⟩ | ⟨b', hb', rfl, rfl, rfl⟩
        · rw [if_neg (nI_ge (show wsN S P srt own kd sw sl n i < 9 by omega) (by omega)), if_pos rfl]
          exact ih (i + 1) f g _ _ _ _ _ _ _ _ _ _ _ (by omega) (by omega) (by omega) (Or.inr ⟨i, hiP, rfl, rfl, rfl⟩)
        · rw [if_neg (nI_m1 (show b' < 2 ^ 31 by omega))]
          by_cases q1 : nI (wsN S P srt own kd sw sl n b') ≤ nI (wsN S P srt own kd sw sl n i)
          · rw [if_pos q1, if_pos q1]
            exact ih (i + 1) f g _ _ _ _ _ _ _ _ _ _ _ (by omega) (by omega) (by omega) (Or.inr ⟨b', hb', rfl, rfl, rfl⟩)
          · rw [if_neg q1, if_neg q1]
            exact ih (i + 1) f g _ _ _ _ _ _ _ _ _ _ _ (by omega) (by omega) (by omega) (Or.inr ⟨i, hiP, rfl, rfl, rfl⟩)
      · rw [if_neg hb, if_neg hb]
        exact ih (i + 1) f g _ _ _ _ _ _ _ _ _ _ _ (by omega) (by omega) (by omega) hi2
theorem v_askNow {S P n : Nat} {srt own kd : Nat → Nat} {ms mo mk : Nat → Int32} (hM : MC S P srt own kd ms mo mk) (hn : n ≤ 8) {sw sl : Nat → Int32} (hsg : ∀ i, i < n → (∃ q : Nat, q < 8 ∧ sl i = nI q) ∧ (sw i = -1 ∨ ∃ p : Nat, p < 8 ∧ sw i = nI p)) {wn wp : Nat → Int32} (hpp : ∀ i, i < n → wp i = sw i) (hwn : ∀ l k, l < P → k < P → ∃ a, a < 256 ∧ wn (8 * l + k) = nI a ∧ ∀ s, s < S → (a.testBit s = true ↔ (vvN S P srt own kd sw sl n) l ≠ 0 ∧ AN S P srt own kd sw sl n l k s)) (x : Int32) (lo w0 h0 kf : Int32) (al : Int64) (ks : Nat → Int32) (wy nx : Nat → Int64) : ∃ (fo' res : Int32) (a1 a2 a3 a4 : Int32) (a5 : Int64) (a6 : Nat → Int32) (a7 a8 : Nat → Int64), p_X6_whomToAsk (nI S) (nI P) (nI n) (nI (susN (vvN S P srt own kd sw sl n) P)) wp wn = some fo' ∧ p_X8_askNow (nI S) (nI P) lo w0 h0 kf (nI n) al ms mo mk ks sw sl wy nx x = some (res, a1, a2, a3, a4, a5, a6, a7, a8) ∧ ((fo' = -1 ∧ res = -3) ∨ ∃ b, b < P ∧ fo' = nI b ∧ res = if x = 0 then nI b else nI (wsN S P srt own kd sw sl n b)) := by
  have hS := hM.1
  have hP := hM.2.1
  obtain ⟨c1, c2, c3, c4, c5, c6, c7, c8, e⟩ := v_losersNow hM hn hsg lo w0 h0 kf al ks wy nx
  unfold p_X6_whomToAsk p_X6_whomToAsk_b0 p_X8_askNow p_X8_askNow_b0
  rw [e, b9_some]
  exact ask_sim hM hn hsg hpp hwn P 0 4096 4096 (-1) 9 0 _ _ _ _ _ _ _ _ (by omega) (by omega) (by omega) (Or.inl ⟨rfl, rfl⟩)
theorem v_ask {S R P : Nat} {srt row own kd : Nat → Nat} {hS hR hP f0 f1 : Int32} {Hs Hr Hb Ho Hk mb mt : Nat → Int32} (h : HB S R P srt row own kd hS hR hP f0 f1 Hs Hr Hb Ho Hk mb mt) {n : Nat} {sz sg : Int32} {wp wl sw sl : Nat → Int32} (hn : n ≤ 8) (hsz : sz = nI n) (hsgn : sg = nI n) (hse : ∀ i, i < n → wp i = sw i ∧ wl i = sl i ∧ (∃ q : Nat, q < 8 ∧ sl i = nI q) ∧ (sw i = -1 ∨ ∃ p : Nat, p < 8 ∧ sw i = nI p)) {rd su : Int32} {tot : Int64} {wa wk wn : Nat → Int32} {ww re : Nat → Int64} (hr : WR S P srt own kd sw sl n rd su tot wn ww) (a1 s1 r1 p1 lo w0 h0 kf : Int32) (al : Int64) (ms mr mo mk ks : Nat → Int32) (wy nx : Nat → Int64) (x : Int32) : ∃ (r : Int32) (su' rd' : Int32) (tot' : Int64) (wa' wk' wn' : Nat → Int32) (ww' re' : Nat → Int64) (q1 q2 q3 q4 q5 q6 q7 q8 : Int32) (q9 : Int64) (q10 q11 q12 q13 q14 : Nat → Int32) (q15 q16 : Nat → Int64), p_X7_ask hS hP sz su rd tot Hs Hb Ho Hk wp wl wa wk wn ww re x = some (r, su', rd', tot', wa', wk', wn', ww', re') ∧ p_X8_ask a1 s1 r1 p1 lo w0 h0 kf sg al mb mt ms mr mo mk ks sw sl wy nx x = some (r, q1, q2, q3, q4, q5, q6, q7, q8, q9, q10, q11, q12, q13, q14, q15, q16) ∧ WR S P srt own kd sw sl n rd' su' tot' wn' ww' := by
  obtain ⟨rfl, rfl, rfl, hcr, hm⟩ := h
  subst hsz hsgn
  have hH := HB_HC hcr
  have hS := hH.1
  have hP := hH.2.1
  have ho : ∀ k, k < P → own k < S := fun k hk => (hH.2.2.2 k hk).2.1
  obtain ⟨a3, ms', mr', mo', mk', q, m1, m2⟩ := v_find hm a1 s1 r1 p1 ms mr mo mk
  obtain ⟨su', tot', wa', wk', wn', ww', re', hW, hq⟩ := v_refrW hH hn (fun i hi => (hse i hi).2.2) (fun i hi => ⟨(hse i hi).1, (hse i hi).2.1⟩) hr (wa := wa) (wk := wk) (re := re)
  unfold p_X7_ask p_X7_ask_b0 p_X7_ask_b49 p_X8_ask p_X8_ask_b0 p_X8_ask_b21
  rw [q, b8_some]
  rcases v_wt x with ⟨w, hw, rfl, e5, e6⟩ | ⟨e5, e6⟩
  · obtain ⟨fo', res, c1, c2, c3, c4, c5, c6, c7, c8, k1, k2, k3⟩ := v_askNow (mk_MC hcr m1 m2) hn (fun i hi => (hse i hi).2.2) (fun i hi => (hse i hi).1) hW.2.2.2 (nI w) lo w0 h0 kf al ks wy nx
    rw [← hW.1] at k1
    rw [e5, e6, b1_some, b1_some, if_pos (show (0 : Int32) = 0 from rfl), if_neg (show ¬ (1 : Int32) = 0 by decide), hq, b8_some, k1, b1_some, k2, b9_some]
    rcases k3 with ⟨rfl, rfl⟩ | ⟨b, hb, rfl, rfl⟩
    · rw [if_pos rfl]
      exact ⟨_, _, _, _, _, _, _, _, _, _, _, _, _, _, _, _, _, _, _, _, _, _, _, _, _, rfl, rfl, Or.inr ⟨rfl, hW⟩⟩
    · rw [if_neg (nI_m1 (show b < 2 ^ 31 by omega)), v_worst hS hP ho hW.2.2.2 hb, b1_some]
      by_cases z : nI w = 0
      · rw [if_pos z, if_pos z]
        exact ⟨_, _, _, _, _, _, _, _, _, _, _, _, _, _, _, _, _, _, _, _, _, _, _, _, _, rfl, rfl, Or.inr ⟨rfl, hW⟩⟩
      · rw [if_neg z, if_neg z]
        exact ⟨_, _, _, _, _, _, _, _, _, _, _, _, _, _, _, _, _, _, _, _, _, _, _, _, _, rfl, rfl, Or.inr ⟨rfl, hW⟩⟩
  · rw [e5, e6, b1_some, b1_some, if_neg (show ¬ (1 : Int32) = 0 by decide), if_pos (show (0 : Int32) = 0 from rfl)]
    exact ⟨_, _, _, _, _, _, _, _, _, _, _, _, _, _, _, _, _, _, _, _, _, _, _, _, _, rfl, rfl, hr⟩
