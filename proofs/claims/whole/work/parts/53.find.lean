/-! the model's find and faultOf -/
theorem v_find {mb mt : Nat → Int32} {f0 f1 : Int32} {S R P : Nat} {srt row own kd : Nat → Nat} (h : mRead mb mt f0 f1 S R P srt row own kd) (a1 s1 r1 p1 : Int32) (ms mr mo mk : Nat → Int32) :
    ∃ (a3 : Int32) (ms' mr' mo' mk' : Nat → Int32), p_X8_find a1 s1 r1 p1 mb mt ms mr mo mk = some (a3, nI S, nI R, nI P, ms', mr', mo', mk') ∧ (∀ i, i < S → ms' i = nI (srt i) ∧ mr' i = nI (row i)) ∧ (∀ i, i < P → mo' i = nI (own i) ∧ mk' i = nI (kd i)) := by
  obtain ⟨a2, a3, ms', mr', mo', mk', h1, h2, h3, h4⟩ := h a1 s1 r1 p1 ms mr mo mk
  refine ⟨a3, ms', mr', mo', mk', ?_, h3, h4⟩
  unfold p_X8_find p_X8_find_b0
  rw [h1, b6_some, h2, b5_some]
theorem v_faultOf {mb mt : Nat → Int32} {f0 f1 : Int32} {S R P : Nat} {srt row own kd : Nat → Nat} (h : mRead mb mt f0 f1 S R P srt row own kd) (a1 s1 r1 p1 : Int32) (ms mr mo mk : Nat → Int32) (x : Int32) :
    ∃ (a3 : Int32) (ms' mr' mo' mk' : Nat → Int32), p_X8_faultOf a1 s1 r1 p1 mb mt ms mr mo mk x = some (if x = 0 then f0 else f1, a3, nI S, nI R, nI P, ms', mr', mo', mk') := by
  obtain ⟨a2, a3, ms', mr', mo', mk', h1, h2, h3, h4⟩ := h a1 s1 r1 p1 ms mr mo mk
  refine ⟨a3, ms', mr', mo', mk', ?_⟩
  unfold p_X8_faultOf p_X8_faultOf_b0 p_X8_faultOf_b19
  rw [h1, b6_some, h2, b5_some]
  split <;> rfl
