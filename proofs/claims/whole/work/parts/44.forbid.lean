theorem nI_or (a b : Nat) : nI a ||| nI b = nI (a ||| b) := by
  apply Int32.toBitVec_inj.1
  show BitVec.ofNat 32 a ||| BitVec.ofNat 32 b = BitVec.ofNat 32 (a ||| b)
  apply BitVec.eq_of_getLsbD_eq
  intro i hi
  simp [hi]
theorem shl1 : ∀ t, t < 8 → (1 : Int32) <<< (nI t &&& 31) = nI (2 ^ t) := by decide
theorem fbs_lt {B : Bk} : ∀ t, t ≤ 8 → ∃ k, k < 2 ^ t ∧ fbs B t = nI k
  | 0, _ => ⟨0, by decide, rfl⟩
  | t + 1, h => by
    obtain ⟨k, h1, h2⟩ := fbs_lt (B := B) t (by omega)
    rw [fbs]
    split
    · exact ⟨k, by rw [Nat.pow_succ]; omega, h2⟩
    · refine ⟨k ||| 2 ^ t, ?_, by rw [h2, shl1 t (by omega), nI_or]⟩
      apply Nat.or_lt_two_pow
      · rw [Nat.pow_succ]; omega
      · rw [Nat.pow_succ]
        have := Nat.two_pow_pos t
        omega
/-- how many of the first i bits -/
def onB (c : Int32) : Nat → Int32
  | 0 => 0
  | i + 1 => onB c i + ((c >>> (nI i &&& 31)) &&& 1)
theorem ones8_s {σ : Sg} (c : Int32) : f_X8_ones σ c = some (onB c 8) := by
  have key : ∀ n i, i ≤ 8 → 8 < n + i → f_X8_ones_L4 (fun (v2 : Int32) => some v2) σ c n (onB c i) (nI i) = some (onB c 8) := by
    intro n
    induction n with
    | zero => intro i h h'; omega
    | succ n ih =>
      intro i hi hn
      rw [f_X8_ones_L4]
      rcases Nat.lt_or_ge i 8 with q | q
      · rw [if_neg (fun hc => by have := (c_ge 8 (by omega) (by decide)).mp hc; omega), nI_1]
        exact ih (i + 1) (by omega) (by omega)
      · have : i = 8 := by omega
        subst this
        rw [if_pos (by decide)]
  exact key fu 0 (by omega) (by unfold fu; omega)
def bcI (x : Int32) : Int32 := (f_J6_bitCount_0f7a4 (fun _ _ => 0, fun _ _ => 0) x).getD 0
theorem bitCount_s {σ : Sg} (x : Int32) : f_J6_bitCount_0f7a4 σ x = some (bcI x) := rfl
theorem bc_on : ∀ k, k < 256 → bcI (nI k) = onB (nI k) 8 := by decide +kernel
theorem bc_fbs {B : Bk} (hB : Bok B) : bcI (fbs B (b_tc B)) = onB (fbs B (b_tc B)) 8 := by
  have h8 := hB.1
  obtain ⟨k, h1, h2⟩ := fbs_lt (B := B) (b_tc B) h8
  have : 2 ^ b_tc B ≤ 2 ^ 8 := Nat.pow_le_pow_right (by decide) h8
  rw [h2]
  exact bc_on k (by omega)
section FB
variable {σ : Sg} {B : Bk}
theorem isPreferred8_s (hb : bookP (σ.1 44) B) (hB : Bok B) (a : Int32) : f_X8_isPreferred σ a = some (bI (∃ t, t < b_tc B ∧ b_pr B t = a)) := by
  have h8 := hB.1
  have key : ∀ n t, t ≤ b_tc B → b_tc B < n + t → f_X8_isPreferred_L4 (fun (v14 : Int32) => mH (v14 = 0 ∨ v14 = 1) (some v14)) σ a n (bI (∃ u, u < t ∧ b_pr B u = a)) (nI t) = some (bI (∃ t, t < b_tc B ∧ b_pr B t = a)) := by
    intro n
    induction n with
    | zero => intro t h h'; omega
    | succ n ih =>
      intro t ht hn
      rw [f_X8_isPreferred_L4, show (0 : Int32) = nI 0 from rfl, rI_n (by omega) (by decide), hb.1, show nI 0 = (0 : Int32) from rfl]
      simp only [jn_s]
      rcases Nat.lt_or_ge t (b_tc B) with q | q
      · have hnx := ih (t + 1) (by omega) (by omega)
        rw [← nI_1] at hnx
        rw [if_neg (fun hc => by have := (nI_leI (by omega) (by omega)).mp hc; omega)]
        rcases Classical.em (∃ u, u < t ∧ b_pr B u = a) with h | h
        · rw [bI_t h, if_neg (by decide)]
          obtain ⟨u, h1, h2⟩ := h
          rw [bI_t ⟨u, by omega, h2⟩] at hnx
          exact hnx
        · rw [bI_f h, if_pos rfl, termAt8_s, cP_s, nI_p3, rI_n (by omega) (by decide), (hb.2.2.1 t q).2.2.2.1]
          by_cases h2 : b_pr B t = a
          · rw [if_pos h2]
            rw [bI_t ⟨t, by omega, h2⟩] at hnx
            exact hnx
          · rw [if_neg h2]
            rw [bI_f (by
              rintro ⟨u, h3, h4⟩
              rcases Nat.lt_or_ge u t with y | y
              · exact h ⟨u, y, h4⟩
              · have : u = t := by omega
                rw [this] at h4
                exact h2 h4)] at hnx
            exact hnx
      · have : t = b_tc B := by omega
        subst this
        rw [if_pos (nI_le (Nat.le_refl _) (by omega)), mH_t (bI_01 _)]
  have h0 := key fu 0 (Nat.zero_le _) (by unfold fu; omega)
  rw [bI_f (by rintro ⟨u, h1, -⟩; exact absurd h1 (Nat.not_lt_zero u))] at h0
  exact h0
theorem or_0 (x : Int32) : x ||| 0 = x := by
  apply Int32.toBitVec_inj.1
  show x.toBitVec ||| 0#32 = x.toBitVec
  simp
theorem forbidden8_s (hb : bookP (σ.1 44) B) (hB : Bok B) : f_X8_forbidden σ = some (fbs B (b_tc B)) := by
  have h8 := hB.1
  have key : ∀ n t, t ≤ b_tc B → b_tc B < n + t → f_X8_forbidden_L4 (fun (v13 : Int32) => some v13) σ n (fbs B t) (nI t) = some (fbs B (b_tc B)) := by
    intro n
    induction n with
    | zero => intro t h h'; omega
    | succ n ih =>
      intro t ht hn
      rw [f_X8_forbidden_L4, show (0 : Int32) = nI 0 from rfl, rI_n (by omega) (by decide), hb.1, show nI 0 = (0 : Int32) from rfl]
      simp only [jn_s]
      rcases Nat.lt_or_ge t (b_tc B) with q | q
      · have hnx := ih (t + 1) (by omega) (by omega)
        rw [fbs] at hnx
        rw [if_neg (fun hc => by have := (nI_leI (by omega) (by omega)).mp hc; omega), termAt8_s, cP_s, nI_p3, rI_n (by omega) (by decide), (hb.2.2.1 t q).2.2.2.1, nI_1]
        by_cases h : b_pr B t = -1
        · rw [if_pos h] at hnx
          rw [if_pos h, or_0, hnx]
        · rw [if_neg h] at hnx
          rw [if_neg h, hnx]
      · have : t = b_tc B := by omega
        subst this
        rw [if_pos (nI_le (Nat.le_refl _) (by omega))]
  exact key fu 0 (Nat.zero_le _) (by unfold fu; omega)
end FB
theorem ps_forbid (σ : Sg) (a1 a2 : Int32) (h : InvA σ) : ∃ (r : Int32) (σ1 σ2 : Sg), f_X7_forbid σ a1 a2 = some (r, σ1) ∧ f_X8_forbid σ1 a1 a2 = some (r, σ2) ∧ InvA σ2 := by
  refine step2 (f7 := fun s => f_X7_forbid s a1 a2) (f8 := fun s => f_X8_forbid s a1 a2) h (fun M hm => ?_)
  obtain ⟨S, B, T, im⟩ := M
  have hm0 := hm
  obtain ⟨hS, hB, hT, hI⟩ := hm
  have hB : Bok B := hB
  have h8 := hB.1
  have n10 : ¬ (1 : Int32) = 0 := by decide
  by_cases hr : rg a1 (b_tc B) ∧ rg a2 (b_tc B) ∧ ¬ a1 = a2
  · obtain ⟨⟨t, ht, rfl⟩, ⟨u, hu, rfl⟩, hne⟩ := hr
    have i7 : ∀ s x, x < b_tc B → InvC s (S, B, T, im) → f_X1_isTerm s (nI x) = some 1 := fun s x hx hC => by rw [isTerm7_s hC.2.1 hB, bI_t ⟨x, hx, rfl⟩]
    have i8 : ∀ s x, x < b_tc B → InvR s (S, B, T, im) → f_X8_isTerm s (nI x) = some 1 := fun s x hx hR => by rw [isTerm8_s hR.2.1 hB, bI_t ⟨x, hx, rfl⟩]
    by_cases hp : (¬ ∃ t', t' < b_tc B ∧ b_pr B t' = nI t) ∧ b_pr B u = -1
    · obtain ⟨hp1, hp2⟩ := hp
      have hB' : Bok (sPr B t (nI u)) := sPr_ok hB (Or.inr ⟨u, hu, rfl⟩)
      refine ⟨onB (fbs (sPr B t (nI u)) (b_tc B)) 8, (S, sPr B t (nI u), T, im), ⟨hS, hB', hT, hI⟩, fun hC => ?_, fun s hR => ?_⟩
      · obtain ⟨s', e1, e2, e3, e4, e5⟩ := hC.terms (L := [9]) (Sm.rf.i (by decide)) (by decide) (lexC_pr (t := t) (v := nI u) hC.2.1)
        refine ⟨s', ?_, e2, e3⟩
        unfold f_X7_forbid
        rw [i7 σ t ht hC, cP_s, if_neg n10, i7 σ u hu hC, cP_s, if_neg n10, if_neg hne, isPreferred7_s hC.2.1 hB, cP_s, bI_f hp1, if_pos rfl, isForbidden7_s hC.2.1 hB hu, cP_s, bI_f (fun z => z hp2), if_pos rfl, wI_n (by omega) (by decide), e1, cA_s, forbiddenSet7_s e5 hB', cP_s, bitCount_s, cP_s, bc_fbs hB']
        rfl
      · have hb' : bookP ((sI s 44 (2 + 56 * t + 3) (nI u)).1 44) (sPr B t (nI u)) := by rw [sI_44]; exact bookP_pr hR.2.1 hB ht
        refine ⟨sI s 44 (2 + 56 * t + 3) (nI u), ?_, hR.book (Sm.rf.i (by decide)) hb', Un42.rf.i (by decide)⟩
        unfold f_X8_forbid
        rw [i8 s t ht hR, cP_s, if_neg n10, i8 s u hu hR, cP_s, if_neg n10, if_neg hne, isPreferred8_s hR.2.1 hB, cP_s, bI_f hp1, if_pos rfl, termAt8_s, cP_s, nI_p3, rI_n (by omega) (by decide), (hR.2.1.2.2.1 u hu).2.2.2.1]
        show (if b_pr B u = -1 then _ else _) = _
        rw [if_pos hp2, termAt8_s, cP_s, nI_p3, wI_n (by omega) (by decide), forbidden8_s hb' hB', cP_s, ones8_s, cP_s]
        rfl
    · refine ⟨-1000000003, (S, B, T, im), hm0, fun hC => ⟨σ, ?_, hC, Un43.rf⟩, fun s hR => ⟨s, ?_, hR, Un42.rf⟩⟩
      · unfold f_X7_forbid
        rw [i7 σ t ht hC, cP_s, if_neg n10, i7 σ u hu hC, cP_s, if_neg n10, if_neg hne, isPreferred7_s hC.2.1 hB, cP_s]
        rcases Classical.em (∃ t', t' < b_tc B ∧ b_pr B t' = nI t) with q | q
        · rw [bI_t q, if_neg n10]
        · rw [bI_f q, if_pos rfl, isForbidden7_s hC.2.1 hB hu, cP_s, bI_t (fun z => hp ⟨q, z⟩), if_neg n10]
      · unfold f_X8_forbid
        rw [i8 s t ht hR, cP_s, if_neg n10, i8 s u hu hR, cP_s, if_neg n10, if_neg hne, isPreferred8_s hR.2.1 hB, cP_s]
        rcases Classical.em (∃ t', t' < b_tc B ∧ b_pr B t' = nI t) with q | q
        · rw [bI_t q, if_neg n10]
        · rw [bI_f q, if_pos rfl, termAt8_s, cP_s, nI_p3, rI_n (by omega) (by decide), (hR.2.1.2.2.1 u hu).2.2.2.1]
          show (if b_pr B u = -1 then _ else _) = _
          rw [if_neg (fun z => hp ⟨q, z⟩)]
  · refine ⟨-1000000001, (S, B, T, im), hm0, fun hC => ⟨σ, ?_, hC, Un43.rf⟩, fun s hR => ⟨s, ?_, hR, Un42.rf⟩⟩
    · unfold f_X7_forbid
      rw [isTerm7_s hC.2.1 hB, cP_s]
      rcases Classical.em (rg a1 (b_tc B)) with q | q
      · rw [bI_t q, if_neg n10, isTerm7_s hC.2.1 hB, cP_s]
        rcases Classical.em (rg a2 (b_tc B)) with q2 | q2
        · rw [bI_t q2, if_neg n10, if_pos (Classical.byContradiction fun z => hr ⟨q, q2, z⟩)]
        · rw [bI_f q2, if_pos rfl]
      · rw [bI_f q, if_pos rfl]
    · unfold f_X8_forbid
      rw [isTerm8_s hR.2.1 hB, cP_s]
      rcases Classical.em (rg a1 (b_tc B)) with q | q
      · rw [bI_t q, if_neg n10, isTerm8_s hR.2.1 hB, cP_s]
        rcases Classical.em (rg a2 (b_tc B)) with q2 | q2
        · rw [bI_t q2, if_neg n10, if_pos (Classical.byContradiction fun z => hr ⟨q, q2, z⟩)]
        · rw [bI_f q2, if_pos rfl]
      · rw [bI_f q, if_pos rfl]
theorem ps_allow (σ : Sg) (a1 : Int32) (h : InvA σ) : ∃ (r : Int32) (σ1 σ2 : Sg), f_X7_allow σ a1 = some (r, σ1) ∧ f_X8_allow σ1 a1 = some (r, σ2) ∧ InvA σ2 := by
  refine step2 (f7 := fun s => f_X7_allow s a1) (f8 := fun s => f_X8_allow s a1) h (fun M hm => ?_)
  obtain ⟨S, B, T, im⟩ := M
  have hm0 := hm
  obtain ⟨hS, hB, hT, hI⟩ := hm
  have hB : Bok B := hB
  have h8 := hB.1
  have n10 : ¬ (1 : Int32) = 0 := by decide
  rcases Classical.em (rg a1 (b_tc B)) with hr | hr
  · obtain ⟨t, ht, rfl⟩ := hr
    have i7 : ∀ s, InvC s (S, B, T, im) → f_X1_isTerm s (nI t) = some 1 := fun s hC => by rw [isTerm7_s hC.2.1 hB, bI_t ⟨t, ht, rfl⟩]
    have i8 : ∀ s, InvR s (S, B, T, im) → f_X8_isTerm s (nI t) = some 1 := fun s hR => by rw [isTerm8_s hR.2.1 hB, bI_t ⟨t, ht, rfl⟩]
    by_cases hp : b_pr B t = -1
    · refine ⟨-1000000003, (S, B, T, im), hm0, fun hC => ⟨σ, ?_, hC, Un43.rf⟩, fun s hR => ⟨s, ?_, hR, Un42.rf⟩⟩
      · unfold f_X7_allow
        rw [i7 σ hC, cP_s, if_neg n10, isForbidden7_s hC.2.1 hB ht, cP_s, bI_f (fun z => z hp), if_pos rfl]
      · unfold f_X8_allow
        rw [i8 s hR, cP_s, if_neg n10, termAt8_s, cP_s, nI_p3, rI_n (by omega) (by decide), (hR.2.1.2.2.1 t ht).2.2.2.1]
        show (if b_pr B t = -1 then _ else _) = _
        rw [if_pos hp]
    · have hB' : Bok (sPr B t (-1)) := sPr_ok hB (Or.inl rfl)
      refine ⟨onB (fbs (sPr B t (-1)) (b_tc B)) 8, (S, sPr B t (-1), T, im), ⟨hS, hB', hT, hI⟩, fun hC => ?_, fun s hR => ?_⟩
      · obtain ⟨s', e1, e2, e3, e4, e5⟩ := hC.terms (L := [9]) (Sm.rf.i (by decide)) (by decide) (lexC_pr (t := t) (v := -1) hC.2.1)
        refine ⟨s', ?_, e2, e3⟩
        unfold f_X7_allow
        rw [i7 σ hC, cP_s, if_neg n10, isForbidden7_s hC.2.1 hB ht, cP_s, bI_t hp, if_neg n10, wI_n (by omega) (by decide), e1, cA_s, forbiddenSet7_s e5 hB', cP_s, bitCount_s, cP_s, bc_fbs hB']
        rfl
      · have hb' : bookP ((sI s 44 (2 + 56 * t + 3) (-1)).1 44) (sPr B t (-1)) := by rw [sI_44]; exact bookP_pr hR.2.1 hB ht
        refine ⟨sI s 44 (2 + 56 * t + 3) (-1), ?_, hR.book (Sm.rf.i (by decide)) hb', Un42.rf.i (by decide)⟩
        unfold f_X8_allow
        rw [i8 s hR, cP_s, if_neg n10, termAt8_s, cP_s, nI_p3, rI_n (by omega) (by decide), (hR.2.1.2.2.1 t ht).2.2.2.1]
        show (if b_pr B t = -1 then _ else _) = _
        rw [if_neg hp, cP_s, nI_p3, wI_n (by omega) (by decide), forbidden8_s hb' hB', cP_s, ones8_s, cP_s]
        rfl
  · refine ⟨-1000000001, (S, B, T, im), hm0, fun hC => ⟨σ, ?_, hC, Un43.rf⟩, fun s hR => ⟨s, ?_, hR, Un42.rf⟩⟩
    · unfold f_X7_allow
      rw [isTerm7_s hC.2.1 hB, cP_s, bI_f hr, if_pos rfl]
    · unfold f_X8_allow
      rw [isTerm8_s hR.2.1 hB, cP_s, bI_f hr, if_pos rfl]
