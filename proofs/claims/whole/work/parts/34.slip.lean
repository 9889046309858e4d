theorem i32_nlt {a b : Int32} : ¬ a < b ↔ b ≤ a := by
  rw [Int32.lt_iff_toInt_lt, Int32.le_iff_toInt_le]; omega
theorem i32_nle {a b : Int32} : ¬ a ≤ b ↔ b < a := by
  rw [Int32.lt_iff_toInt_lt, Int32.le_iff_toInt_le]; omega
theorem in8_s {σ : Sg} (a lo hi : Int32) : f_X8_in σ a lo hi = some (if lo ≤ a ∧ a ≤ hi then 1 else 0) := by
  unfold f_X8_in
  by_cases h1 : a < lo
  · rw [if_pos h1, if_neg]
    intro h
    exact (i32_nlt.mpr h.1) h1
  · rw [if_neg h1]
    by_cases h2 : hi < a
    · rw [if_pos h2, if_neg]
      intro h
      exact (i32_nlt.mpr h.2) h2
    · rw [if_neg h2, if_pos ⟨i32_nlt.mp h1, i32_nlt.mp h2⟩]
theorem isLetter8_s {σ : Sg} (a : Int32) : f_X8_isLetter σ a = some (if 97 ≤ a ∧ a ≤ 122 then 1 else 0) := by
  unfold f_X8_isLetter
  rw [in8_s, cP_s, mH_t]
  split
  · right; rfl
  · left; rfl
/-- a sign of the slip -/
theorem sgn_of {a : Int32} (h : (97 ≤ a ∧ a ≤ 122) ∨ a = 32) : ∃ x, x ≤ 26 ∧ a = sgn x := by
  rcases h with h | h
  · obtain ⟨x, h1, h2, rfl⟩ := letter_of h
    exact ⟨x, h2, by unfold sgn; rw [if_neg (by omega)]⟩
  · exact ⟨0, by omega, by subst h; rfl⟩
theorem slipP_add {n : Int32} {f : Nat → Int32} {S : List Nat} {x : Nat} (h : slipP n f S) : slipP (nI (S.length + 1)) (fun b => if b = S.length then sgn x else f b) (S ++ [x]) := by
  refine ⟨by simp, fun i y hi => ?_⟩
  rw [List.getElem?_append] at hi
  dsimp only
  split at hi
  · rename_i hl
    rw [if_neg (by omega)]
    exact h.2 i y hi
  · rename_i hl
    have : i = S.length := by
      rcases Nat.lt_or_ge (i - S.length) 1 with g | g
      · omega
      · rw [List.getElem?_eq_none_iff.mpr (by simpa using g)] at hi
        cases hi
    subst this
    simp at hi
    rw [if_pos rfl, hi]
theorem Sok_add {S : List Nat} {x : Nat} (h : Sok S) (hx : x ≤ 26) (hl : S.length < 50) : Sok (S ++ [x]) := by
  refine ⟨by simp; omega, fun y hy => ?_⟩
  rcases List.mem_append.mp hy with g | g
  · exact h.2 y g
  · rw [List.mem_singleton.mp g]; exact hx
theorem ps_spell (σ : Sg) (a : Int32) (h : InvA σ) : ∃ (r : Int32) (σ1 σ2 : Sg), f_X7_spell σ a = some (r, σ1) ∧ f_X8_spell σ1 a = some (r, σ2) ∧ InvA σ2 := by
  refine step2 (f7 := fun s => f_X7_spell s a) (f8 := fun s => f_X8_spell s a) h (fun M hm => ?_)
  by_cases hl : (97 ≤ a ∧ a ≤ 122) ∨ a = 32
  · obtain ⟨x, hx, rfl⟩ := sgn_of hl
    by_cases hf : M.1.length < 50
    · refine ⟨nI (M.1.length + 1), (M.1 ++ [x], M.2), ⟨Sok_add hm.1 hx hf, hm.2⟩, fun hC => ?_, fun s hR => ?_⟩
      · obtain ⟨hsl, hrest⟩ := hC
        have e1 : σ.1 1 1 = nI M.1.length := hsl.1
        refine ⟨sI (sI σ 2 M.1.length (sgn x)) 1 1 (nI (M.1.length + 1)), ?_, ?_, Un43.i (by omega) (Un43.i (by omega) Un43.rf)⟩
        · have e2 : f_X5_add σ (sgn x) = some (1, sI (sI σ 2 M.1.length (sgn x)) 1 1 (nI (M.1.length + 1))) := by
            unfold f_X5_add
            rw [e1, if_pos ((c_lt 50 (by omega) (by decide)).mpr hf), wI_n hf (by decide), pI_s]
            simp [sI_1, e1, nI_1]
          unfold f_X7_spell
          rw [isLetter7_s, cP_s, jn_s, e2, cA_s]
          have h1 : ¬ (1 : Int32) = 0 := by decide
          rcases hl with hl | hl
          · simp [hl, sI_1]
          · have h2 : ¬ (97 ≤ sgn x ∧ sgn x ≤ 122) := by rw [hl]; decide
            simp [hl, h2, sI_1]
        · have h2 := slipP_add (x := x) hsl
          refine ⟨?_, ?_⟩
          · unfold slpC
            simpa [sI_row, sI_1] using h2
          · simpa [lexC, txtC, imsC, scnC, mndC, sI_row, sI_2] using hrest
      · obtain ⟨hsl, hrest⟩ := hR
        have e1 : s.1 43 4 = nI M.1.length := hsl.1
        refine ⟨sI (sI s 47 M.1.length (sgn x)) 43 4 (nI (M.1.length + 1)), ?_, ?_, Un42.i (by omega) (Un42.i (by omega) Un42.rf)⟩
        · unfold f_X8_spell
          have hne : ¬ nI M.1.length = 50 := fun hc => by have := (c_eq 50 (by omega) (by decide)).mp hc; omega
          rw [isLetter8_s, cP_s, jn_s, e1, if_neg hne, wI_n hf (by decide), pI_s]
          rcases hl with hl | hl
          · simp [hl, sI_1, e1, nI_1]
          · have h2 : ¬ (97 ≤ sgn x ∧ sgn x ≤ 122) := by rw [hl]; decide
            simp [hl, h2, sI_1, e1, nI_1]
        · have h2 := slipP_add (x := x) hsl
          refine ⟨?_, ?_⟩
          · simpa [sI_row, sI_1] using h2
          · simpa [textP, sI_row, sI_1] using hrest
    · have h50 : M.1.length = 50 := by have := hm.1.1; omega
      refine ⟨-1000000004, M, hm, fun hC => ?_, fun s hR => ?_⟩
      · have e1 : σ.1 1 1 = nI 50 := by rw [← h50]; exact hC.1.1
        refine ⟨σ, ?_, hC, Un43.rf⟩
        have e2 : f_X5_add σ (sgn x) = some (0, σ) := by
          unfold f_X5_add
          rw [e1, if_neg (by decide)]
        unfold f_X7_spell
        rw [isLetter7_s, cP_s, jn_s, e2, cA_s]
        rcases hl with hl | hl
        · simp [hl]
        · have h2 : ¬ (97 ≤ sgn x ∧ sgn x ≤ 122) := by rw [hl]; decide
          simp [hl]
      · have e1 : s.1 43 4 = 50 := by
          have : s.1 43 4 = nI M.1.length := hR.1.1
          rw [this, h50]; rfl
        refine ⟨s, ?_, hR, Un42.rf⟩
        unfold f_X8_spell
        rw [isLetter8_s, cP_s, jn_s, e1]
        rcases hl with hl | hl
        · simp [hl]
        · simp [hl]
  · have h1 : ¬ (97 ≤ a ∧ a ≤ 122) := fun h => hl (Or.inl h)
    have h2 : ¬ a = 32 := fun h => hl (Or.inr h)
    refine ⟨-1000000002, M, hm, fun hC => ⟨σ, ?_, hC, Un43.rf⟩, fun s hR => ⟨s, ?_, hR, Un42.rf⟩⟩
    · unfold f_X7_spell
      rw [isLetter7_s, cP_s, jn_s, if_neg h1, if_pos rfl, if_neg h2]
    · unfold f_X8_spell
      rw [isLetter8_s, cP_s, jn_s, if_neg h1, if_pos rfl, if_neg h2]
