/-! a word's numbers -/
section CO
variable {B : Bk} {T : Tx} {s : Sg}
theorem cc_in {i n : Nat} (h : fr B T (i + 1) = i + n) : ∀ d, i + 1 + d ≤ i + n → cc B T (i + 1 + d) = cc B T (i + 1) := by
  intro d
  induction d with
  | zero => intro _; rfl
  | succ d ih =>
    intro hd
    have h1 := fr_in h d (by omega)
    have := (ch_A (B := B) (T := T) (i := i + 1 + d) (by omega)).2.2
    rw [show i + 1 + (d + 1) = i + 1 + d + 1 by omega, this, ih (by omega)]
/-- what is chosen at k stands over word i -/
theorem co_at (hB : Bok B) {i k u : Nat} (hk : k ≤ i) (h1 : fr B T (k + 1) = k + b_n B u) (h2 : cc B T (k + 1) = cc B T k + 1) (h3 : i < k + b_n B u) : co B T i = nI (cc B T k) := by
  have e1 := fr_in h1 (i - k) (by omega)
  have e2 := cc_in h1 (i - k) (by omega)
  rw [show k + 1 + (i - k) = i + 1 by omega] at e1 e2
  unfold co
  rw [if_pos (by omega), e2, h2]
  rfl
theorem chosenOver8_L (hB : Bok B) (hT : Tok T) (hb : bookP (s.1 44) B) (hc : ∀ j, j < t_c T → s.1 53 j = ch B T j) {i : Nat} (hi : i < t_c T) : ∀ n k, k ≤ i + 1 → i + 1 < n + k → fr B T k ≤ i → f_X8_chosenOver_L8 (some ((-1), s)) s (nI i) n (nI (cc B T k)) (nI k) = some (co B T i, s) := by
  have h60 := hT.1
  have h8 := hB.1
  intro n
  induction n with
  | zero => intro k h1 h2; omega
  | succ n ih =>
    intro k h1 h2 hf
    rw [f_X8_chosenOver_L8]
    by_cases z : i < k
    · have : k = i + 1 := by omega
      subst this
      rw [if_pos (nI_lt z (by omega))]
      unfold co
      rw [if_neg (by omega)]
    · rw [if_neg (nI_nlt (by omega) (by omega)), rI_n (by omega) (by decide), hc k (by omega), nI_1]
      rcases ch_or (T := T) hB k with ⟨g1, g2, g3, -⟩ | ⟨g0, u, hu, hfu, g1, g2, g3, g4⟩
      · rw [g1, if_pos rfl, ← g3]
        exact ih (k + 1) (by omega) (by omega) (by omega)
      · have hn := (hB.2.2.1 u hu).1
        rw [g2, if_neg (nI_m1 (by omega)), rI_n (by omega) (by decide), hc k (by omega), g2, termAt8_s, cP_s, nI_p0, rI_n (by omega) (by decide), (hb.2.2.1 u hu).1, nI_add, nI_1]
        by_cases y : k + b_n B u ≤ i
        · rw [if_pos (nI_le y (by omega)), ← g4]
          exact ih (k + 1) (by omega) (by omega) (by omega)
        · rw [if_neg (fun w => y ((nI_leI (by omega) (by omega)).mp w)), co_at hB (by omega) g3 g4 (by omega)]
theorem chosenOver8_s (hB : Bok B) (hT : Tok T) (hb : bookP (s.1 44) B) (hx : txR s T) {i : Nat} (hi : i < t_c T) : ∃ s', f_X8_chosenOver s (nI i) = some (co B T i, s') ∧ Sm [51, 52, 53] [] s s' := by
  obtain ⟨s', e1, e2, e3, e4⟩ := choose8_s hB hT hb hx
  refine ⟨s', ?_, e2⟩
  unfold f_X8_chosenOver
  have h60 := hT.1
  rw [e1, cA_s]
  exact chosenOver8_L hB hT (e2.bk (by decide) hb) e4 hi fu 0 (Nat.zero_le _) (by unfold fu; omega) (Nat.zero_le _)
end CO
theorem ps_word (σ : Sg) (a1 a2 : Int32) (h : InvA σ) : ∃ (r : Int32) (σ1 σ2 : Sg), f_X7_word σ a1 a2 = some (r, σ1) ∧ f_X8_word σ1 a1 a2 = some (r, σ2) ∧ InvA σ2 := by
  refine step2 (f7 := fun s => f_X7_word s a1 a2) (f8 := fun s => f_X8_word s a1 a2) h (fun M hm => ?_)
  obtain ⟨S, B, T, im⟩ := M
  have hm0 := hm
  obtain ⟨hS, hB, hT, hI⟩ := hm
  have hB : Bok B := hB
  have hT : Tok T := hT
  have h60 := hT.1
  have n10 : ¬ (1 : Int32) = 0 := by decide
  rcases Classical.em (rg a1 (t_c T)) with hr | hr
  · obtain ⟨i, hi, rfl⟩ := hr
    have i7 : ∀ s, InvC s (S, B, T, im) → f_X6_isWord s (nI i) = some 1 := fun s hC => by rw [isWord7_s hC.2.2.1 hT, bI_t ⟨i, hi, rfl⟩]
    have i8 : ∀ s, InvR s (S, B, T, im) → f_X8_isWord s (nI i) = some 1 := fun s hR => by rw [isWord8_s hR.2.2.1 hT, bI_t ⟨i, hi, rfl⟩]
    obtain ⟨w1, w2, w3⟩ := hT.2.1 i hi
    by_cases hw : 0 ≤ a2 ∧ a2 ≤ 5
    · obtain ⟨w, -, wl, rfl⟩ := nat_of (lo := 0) (hi := 5) (by decide) hw (by decide)
      rcases (show w = 0 ∨ w = 1 ∨ w = 2 ∨ w = 3 ∨ w = 4 ∨ w = 5 by omega) with rfl | rfl | rfl | rfl | rfl | rfl
      · refine ⟨nI (t_w T i).length, (S, B, T, im), hm0, fun hC => ⟨σ, ?_, hC, Un43.rf⟩, fun s hR => ⟨s, ?_, hR, Un42.rf⟩⟩
        · unfold f_X7_word
          rw [i7 σ hC, cP_s, if_neg n10, if_pos (show nI 0 = 0 from rfl), rL_n (by omega) (by decide), (hC.2.2.1.2.2.2.2 i hi).1, sizeOf_s w1.1 w1.2.2, cP_s]
        · unfold f_X8_word
          rw [i8 s hR, cP_s, if_neg n10, if_pos (show nI 0 = 0 from rfl), i15, nI_add, rI_n (by omega) (by decide), Nat.add_zero, (hR.2.2.1.2.2.1 i hi).1.1]
      · refine ⟨nI (t_s T i), (S, B, T, im), hm0, fun hC => ⟨σ, ?_, hC, Un43.rf⟩, fun s hR => ⟨s, ?_, hR, Un42.rf⟩⟩
        · unfold f_X7_word
          rw [i7 σ hC, cP_s, if_neg n10, if_neg (show ¬ nI 1 = 0 by decide), if_pos (show nI 1 = 1 from rfl), rI_n (by omega) (by decide), (hC.2.2.1.2.2.2.2 i hi).2.2]
        · unfold f_X8_word
          rw [i8 s hR, cP_s, if_neg n10, if_neg (show ¬ nI 1 = 0 by decide), if_pos (show nI 1 = 1 from rfl), i15, nI_add, rI_n (by omega) (by decide), (hR.2.2.1.2.2.1 i hi).2.1]
      · refine ⟨nI (t_l T i), (S, B, T, im), hm0, fun hC => ⟨σ, ?_, hC, Un43.rf⟩, fun s hR => ⟨s, ?_, hR, Un42.rf⟩⟩
        · unfold f_X7_word
          rw [i7 σ hC, cP_s, if_neg n10, if_neg (show ¬ nI 2 = 0 by decide), if_neg (show ¬ nI 2 = 1 by decide), if_pos (show nI 2 = 2 from rfl), rI_n (by omega) (by decide), (hC.2.2.1.2.2.2.2 i hi).2.1]
          rcases (show t_l T i = 0 ∨ t_l T i = 1 by omega) with e | e
          · rw [e, if_pos (show nI 0 = 0 from rfl)]; rfl
          · rw [e, if_neg (show ¬ nI 1 = 0 by decide)]; rfl
        · unfold f_X8_word
          rw [i8 s hR, cP_s, if_neg n10, if_neg (show ¬ nI 2 = 0 by decide), if_neg (show ¬ nI 2 = 1 by decide), if_pos (show nI 2 = 2 from rfl), i15, nI_add, rI_n (by omega) (by decide), (hR.2.2.1.2.2.1 i hi).2.2]
      · refine ⟨nI (rm B T i 4), (S, B, T, im), hm0, fun hC => ?_, fun s hR => ⟨s, ?_, hR, Un42.rf⟩⟩
        · obtain ⟨s', e1, e2, e3, e4⟩ := settled7_s hB hT hC
          refine ⟨s', ?_, e2, e4⟩
          unfold f_X7_word
          rw [i7 σ hC, cP_s, if_neg n10, if_neg (show ¬ nI 3 = 0 by decide), if_neg (show ¬ nI 3 = 1 by decide), if_neg (show ¬ nI 3 = 2 by decide), if_pos (show nI 3 = 3 from rfl), e1, cA_s, reach7_s hB hT e2.2.1 e3.1 hi, cP_s]
        · unfold f_X8_word
          rw [i8 s hR, cP_s, if_neg n10, if_neg (show ¬ nI 3 = 0 by decide), if_neg (show ¬ nI 3 = 1 by decide), if_neg (show ¬ nI 3 = 2 by decide), if_pos (show nI 3 = 3 from rfl), reach8_s hB hT hR.2.1 hR.2.2.1 hi, cP_s]
      · refine ⟨ovs B T i (b_tc B), (S, B, T, im), hm0, fun hC => ?_, fun s hR => ⟨s, ?_, hR, Un42.rf⟩⟩
        · obtain ⟨s', e1, e2, e3, e4⟩ := settled7_s hB hT hC
          refine ⟨s', ?_, e2, e4⟩
          unfold f_X7_word
          rw [i7 σ hC, cP_s, if_neg n10, if_neg (show ¬ nI 4 = 0 by decide), if_neg (show ¬ nI 4 = 1 by decide), if_neg (show ¬ nI 4 = 2 by decide), if_neg (show ¬ nI 4 = 3 by decide), if_pos (show nI 4 = 4 from rfl), e1, cA_s, termsOver7_s hB hT e2.2.1 e3.1 hi, cP_s]
        · unfold f_X8_word
          rw [i8 s hR, cP_s, if_neg n10, if_neg (show ¬ nI 4 = 0 by decide), if_neg (show ¬ nI 4 = 1 by decide), if_neg (show ¬ nI 4 = 2 by decide), if_neg (show ¬ nI 4 = 3 by decide), if_pos (show nI 4 = 4 from rfl), foundOver8_s hB hT hR.2.1 hR.2.2.1 hi, cP_s]
      · refine ⟨co B T i, (S, B, T, im), hm0, fun hC => ?_, fun s hR => ?_⟩
        · obtain ⟨s', e1, e2, e3, e4⟩ := settled7_s hB hT hC
          refine ⟨s', ?_, e2, e4⟩
          unfold f_X7_word
          rw [i7 σ hC, cP_s, if_neg n10, if_neg (show ¬ nI 5 = 0 by decide), if_neg (show ¬ nI 5 = 1 by decide), if_neg (show ¬ nI 5 = 2 by decide), if_neg (show ¬ nI 5 = 3 by decide), if_neg (show ¬ nI 5 = 4 by decide), if_pos (show nI 5 = 5 from rfl), e1, cA_s, rI_n (by omega) (by decide), e3.2.2.2.2.2 i hi]
        · obtain ⟨s', e1, e2⟩ := chosenOver8_s hB hT hR.2.1 hR.2.2.1 hi
          refine ⟨s', ?_, hR.c8 e2, e2.u42 (by decide)⟩
          unfold f_X8_word
          rw [i8 s hR, cP_s, if_neg n10, if_neg (show ¬ nI 5 = 0 by decide), if_neg (show ¬ nI 5 = 1 by decide), if_neg (show ¬ nI 5 = 2 by decide), if_neg (show ¬ nI 5 = 3 by decide), if_neg (show ¬ nI 5 = 4 by decide), if_pos (show nI 5 = 5 from rfl), e1, cA_s]
    · have ne : ∀ c : Int32, (0 ≤ c ∧ c ≤ 5) → ¬ a2 = c := fun c hc e => hw (by rw [e]; exact hc)
      refine ⟨-1000000002, (S, B, T, im), hm0, fun hC => ⟨σ, ?_, hC, Un43.rf⟩, fun s hR => ⟨s, ?_, hR, Un42.rf⟩⟩
      · unfold f_X7_word
        rw [i7 σ hC, cP_s, if_neg n10, if_neg (ne 0 (by decide)), if_neg (ne 1 (by decide)), if_neg (ne 2 (by decide)), if_neg (ne 3 (by decide)), if_neg (ne 4 (by decide)), if_neg (ne 5 (by decide))]
      · unfold f_X8_word
        rw [i8 s hR, cP_s, if_neg n10, if_neg (ne 0 (by decide)), if_neg (ne 1 (by decide)), if_neg (ne 2 (by decide)), if_neg (ne 3 (by decide)), if_neg (ne 4 (by decide)), if_neg (ne 5 (by decide))]
  · refine ⟨-1000000001, (S, B, T, im), hm0, fun hC => ⟨σ, ?_, hC, Un43.rf⟩, fun s hR => ⟨s, ?_, hR, Un42.rf⟩⟩
    · unfold f_X7_word
      rw [isWord7_s hC.2.2.1 hT, bI_f hr, cP_s, if_pos rfl]
    · unfold f_X8_word
      rw [isWord8_s hR.2.2.1 hT, bI_f hr, cP_s, if_pos rfl]
