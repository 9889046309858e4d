/-! sums; a term's numbers -/
def sumN (f : Nat → Nat) : Nat → Nat
  | 0 => 0
  | k + 1 => sumN f k + f k
theorem sumN_cg {f g : Nat → Nat} : ∀ {n : Nat}, (∀ k, k < n → f k = g k) → sumN f n = sumN g n
  | 0, _ => rfl
  | n + 1, h => by
    show sumN f n + f n = sumN g n + g n
    rw [sumN_cg (fun k hk => h k (by omega)), h n (by omega)]
section SU
variable {B : Bk} {T : Tx} {s : Sg}
theorem sum_cc {ct : Nat → Int32} {g : Int32 → Nat} (h : ∀ i, i < t_c T → ch B T i ≠ -1 → ct (cc B T i) = ch B T i) : ∀ i, i ≤ t_c T → sumN (fun k => g (ct k)) (cc B T i) = sumN (fun j => if ch B T j = -1 then 0 else g (ch B T j)) i := by
  intro i
  induction i with
  | zero => intro _; rfl
  | succ i ih =>
    intro hi
    show _ = sumN _ i + (if ch B T i = -1 then 0 else g (ch B T i))
    rw [cc]
    by_cases z : ch B T i = -1
    · rw [if_pos z, if_pos z, ih (by omega)]; rfl
    · rw [if_neg z, if_neg z]
      show sumN _ (cc B T i) + g (ct (cc B T i)) = _
      rw [ih (by omega), h i (by omega) z]
theorem timesFound7_s (hB : Bok B) (hT : Tok T) (hx : txtC s T) (hk : lookP (s.1 32) (s.1 33) B T (t_c T)) {t : Nat} (ht : t < b_tc B) : f_X4_timesFound s (nI t) = some (nI (sumN (fun i => if fB B T t i = true then 1 else 0) (t_c T))) := by
  have h60 := hT.1
  have key : ∀ n i, i ≤ t_c T → t_c T < n + i → f_X4_timesFound_L4 (fun (v7 : Int32) => some v7) s (nI t) n (nI (sumN (fun i => if fB B T t i = true then 1 else 0) i)) (nI i) = some (nI (sumN (fun i => if fB B T t i = true then 1 else 0) (t_c T))) := by
    intro n
    induction n with
    | zero => intro i h1 h2; omega
    | succ n ih =>
      intro i h1 h2
      rw [f_X4_timesFound_L4, hx.1]
      rcases Nat.lt_or_ge i (t_c T) with q | q
      · rw [if_neg (fun z => by have := (nI_leI (by omega) (by omega)).mp z; omega), isFound7_t hk hT hB q ht, cP_s]
        simp only [jn_s]
        have := ih (i + 1) (by omega) (by omega)
        rw [sumN] at this
        by_cases z : fB B T t i = true
        · rw [if_pos z] at this
          rw [bI_t z, if_neg (by decide), nI_1, nI_1]
          exact this
        · rw [if_neg z] at this
          rw [bI_f z, if_pos rfl, nI_p0, nI_1]
          exact this
      · have : i = t_c T := by omega
        subst this
        rw [if_pos (nI_le (Nat.le_refl _) (by omega))]
  exact key fu 0 (Nat.zero_le _) (by unfold fu; omega)
theorem timesChosen7_s (hB : Bok B) (hT : Tok T) (hst : stl s B T) {t : Nat} (ht : t < b_tc B) : f_X4_timesChosen s (nI t) = some (nI (sumN (fun i => if ch B T i = nI t then 1 else 0) (t_c T))) := by
  have h60 := hT.1
  have h8 := hB.1
  obtain ⟨-, -, -, g3, g4, -⟩ := hst
  have hcl := cc_le (B := B) (T := T) (t_c T)
  have key : ∀ n i, i ≤ cc B T (t_c T) → cc B T (t_c T) < n + i → f_X4_timesChosen_L4 (fun (v8 : Int32) => some v8) s (nI t) n (nI (sumN (fun k => if s.1 38 k = nI t then 1 else 0) i)) (nI i) = some (nI (sumN (fun k => if s.1 38 k = nI t then 1 else 0) (cc B T (t_c T)))) := by
    intro n
    induction n with
    | zero => intro i h1 h2; omega
    | succ n ih =>
      intro i h1 h2
      rw [f_X4_timesChosen_L4, g3]
      rcases Nat.lt_or_ge i (cc B T (t_c T)) with q | q
      · rw [if_neg (fun z => by have := (nI_leI (by omega) (by omega)).mp z; omega), rI_n (by omega) (by decide)]
        simp only [jn_s]
        have := ih (i + 1) (by omega) (by omega)
        rw [sumN] at this
        by_cases z : s.1 38 i = nI t
        · rw [if_pos z] at this
          rw [if_pos z, nI_1, nI_1]
          exact this
        · rw [if_neg z] at this
          rw [if_neg z, nI_p0, nI_1]
          exact this
      · have : i = cc B T (t_c T) := by omega
        subst this
        rw [if_pos (nI_le (Nat.le_refl _) (by omega))]
  have e := sum_cc (B := B) (T := T) (ct := s.1 38) (g := fun x => if x = nI t then 1 else 0) (fun i hi hc => (g4 i hi hc).2) (t_c T) (Nat.le_refl _)
  have e2 : sumN (fun j => if ch B T j = -1 then 0 else (if ch B T j = nI t then 1 else 0)) (t_c T) = sumN (fun i => if ch B T i = nI t then 1 else 0) (t_c T) := sumN_cg (fun k _ => by
    by_cases z : ch B T k = -1
    · rw [if_pos z, if_neg (by rw [z]; exact fun y => nI_m1 (by omega) y.symm)]
    · rw [if_neg z])
  rw [← e2, ← e]
  exact key fu 0 (Nat.zero_le _) (by unfold fu; omega)
theorem termOf8_F (hB : Bok B) (hT : Tok T) (hb : bookP (s.1 44) B) (hx : txR s T) {t : Nat} (ht : t < b_tc B) : f_X8_termOf_L49 (fun (v19 : Int32) => some (v19, s)) s (nI t) (nI 4) fu 0 0 = some (nI (sumN (fun i => if fB B T t i = true then 1 else 0) (t_c T)), s) := by
  have h60 := hT.1
  have e6 : s.1 43 6 = nI (t_c T) := hx.1
  have key : ∀ n i, i ≤ t_c T → t_c T < n + i → f_X8_termOf_L49 (fun (v19 : Int32) => some (v19, s)) s (nI t) (nI 4) n (nI (sumN (fun i => if fB B T t i = true then 1 else 0) i)) (nI i) = some (nI (sumN (fun i => if fB B T t i = true then 1 else 0) (t_c T)), s) := by
    intro n
    induction n with
    | zero => intro i h1 h2; omega
    | succ n ih =>
      intro i h1 h2
      rw [f_X8_termOf_L49, e6]
      rcases Nat.lt_or_ge i (t_c T) with q | q
      · rw [if_neg (fun z => by have := (nI_leI (by omega) (by omega)).mp z; omega)]
        simp only [jn_s]
        rw [if_pos (show nI 4 = 4 from rfl), isFound8_s hx hT hb hB (by omega) ht, cP_s]
        have := ih (i + 1) (by omega) (by omega)
        rw [sumN] at this
        by_cases z : fB B T t i = true
        · rw [if_pos z] at this
          rw [bI_t z, if_neg (by decide), nI_1, nI_1]
          exact this
        · rw [if_neg z] at this
          rw [bI_f z, if_pos rfl, nI_p0, nI_1]
          exact this
      · have : i = t_c T := by omega
        subst this
        rw [if_pos (nI_le (Nat.le_refl _) (by omega))]
  exact key fu 0 (Nat.zero_le _) (by unfold fu; omega)
theorem termOf8_C (hT : Tok T) (hx : txR s T) (hc : ∀ j, j < t_c T → s.1 53 j = ch B T j) {t : Nat} : f_X8_termOf_L49 (fun (v19 : Int32) => some (v19, s)) s (nI t) (nI 5) fu 0 0 = some (nI (sumN (fun i => if ch B T i = nI t then 1 else 0) (t_c T)), s) := by
  have h60 := hT.1
  have e6 : s.1 43 6 = nI (t_c T) := hx.1
  have key : ∀ n i, i ≤ t_c T → t_c T < n + i → f_X8_termOf_L49 (fun (v19 : Int32) => some (v19, s)) s (nI t) (nI 5) n (nI (sumN (fun i => if ch B T i = nI t then 1 else 0) i)) (nI i) = some (nI (sumN (fun i => if ch B T i = nI t then 1 else 0) (t_c T)), s) := by
    intro n
    induction n with
    | zero => intro i h1 h2; omega
    | succ n ih =>
      intro i h1 h2
      rw [f_X8_termOf_L49, e6]
      rcases Nat.lt_or_ge i (t_c T) with q | q
      · rw [if_neg (fun z => by have := (nI_leI (by omega) (by omega)).mp z; omega)]
        simp only [jn_s]
        rw [if_neg (show ¬ nI 5 = 4 by decide), rI_n (by omega) (by decide), hc i q]
        have := ih (i + 1) (by omega) (by omega)
        rw [sumN] at this
        by_cases z : ch B T i = nI t
        · rw [if_pos z] at this
          rw [if_pos z, nI_1, nI_1]
          exact this
        · rw [if_neg z] at this
          rw [if_neg z, nI_p0, nI_1]
          exact this
      · have : i = t_c T := by omega
        subst this
        rw [if_pos (nI_le (Nat.le_refl _) (by omega))]
  exact key fu 0 (Nat.zero_le _) (by unfold fu; omega)
end SU
theorem ps_termOf (σ : Sg) (a1 a2 : Int32) (h : InvA σ) : ∃ (r : Int32) (σ1 σ2 : Sg), f_X7_termOf σ a1 a2 = some (r, σ1) ∧ f_X8_termOf σ1 a1 a2 = some (r, σ2) ∧ InvA σ2 := by
  refine step2 (f7 := fun s => f_X7_termOf s a1 a2) (f8 := fun s => f_X8_termOf s a1 a2) h (fun M hm => ?_)
  obtain ⟨S, B, T, im⟩ := M
  have hm0 := hm
  obtain ⟨hS, hB, hT, hI⟩ := hm
  have hB : Bok B := hB
  have hT : Tok T := hT
  have h8 := hB.1
  have n10 : ¬ (1 : Int32) = 0 := by decide
  rcases Classical.em (rg a1 (b_tc B)) with hr | hr
  · obtain ⟨t, ht, rfl⟩ := hr
    have i7 : ∀ s, InvC s (S, B, T, im) → f_X1_isTerm s (nI t) = some 1 := fun s hC => by rw [isTerm7_s hC.2.1 hB, bI_t ⟨t, ht, rfl⟩]
    have i8 : ∀ s, InvR s (S, B, T, im) → f_X8_isTerm s (nI t) = some 1 := fun s hR => by rw [isTerm8_s hR.2.1 hB, bI_t ⟨t, ht, rfl⟩]
    by_cases hw : 0 ≤ a2 ∧ a2 ≤ 5
    · have hw' := hw
      obtain ⟨w, -, w2, rfl⟩ := nat_of (lo := 0) (hi := 5) (by decide) hw (by decide)
      have small : w < 4 → ∀ s, InvR s (S, B, T, im) → f_X8_termOf s (nI t) (nI w) = some (s.1 44 (2 + 56 * t + w), s) := fun hw4 s hR => by
        unfold f_X8_termOf
        rw [i8 s hR, cP_s, if_neg n10, in8_s, in_bI, cP_s, bI_t hw', if_neg n10, if_neg (fun z => by have := (c_ge 4 (by omega) (by decide)).mp z; omega), termAt8_s, cP_s, nI_add, rI_n (by omega) (by decide)]
      rcases (show w = 0 ∨ w = 1 ∨ w = 2 ∨ w = 3 ∨ w = 4 ∨ w = 5 by omega) with rfl | rfl | rfl | rfl | rfl | rfl
      · refine ⟨nI (b_n B t), (S, B, T, im), hm0, fun hC => ⟨σ, ?_, hC, Un43.rf⟩, fun s hR => ⟨s, ?_, hR, Un42.rf⟩⟩
        · unfold f_X7_termOf
          rw [i7 σ hC, cP_s, if_neg n10, if_pos (show nI 0 = 0 from rfl), rI_n (by omega) (by decide), (hC.2.1.2.2.1 t ht).1]
        · rw [small (by decide) s hR, Nat.add_zero, (hR.2.1.2.2.1 t ht).1]
      · refine ⟨nI (b_we B t), (S, B, T, im), hm0, fun hC => ⟨σ, ?_, hC, Un43.rf⟩, fun s hR => ⟨s, ?_, hR, Un42.rf⟩⟩
        · unfold f_X7_termOf
          rw [i7 σ hC, cP_s, if_neg n10, if_neg (show ¬ nI 1 = 0 by decide), if_pos (show nI 1 = 1 from rfl), rI_n (by omega) (by decide), (hC.2.1.2.2.1 t ht).2.1]
        · rw [small (by decide) s hR, (hR.2.1.2.2.1 t ht).2.1]
      · refine ⟨nI (b_be B t), (S, B, T, im), hm0, fun hC => ⟨σ, ?_, hC, Un43.rf⟩, fun s hR => ⟨s, ?_, hR, Un42.rf⟩⟩
        · unfold f_X7_termOf
          rw [i7 σ hC, cP_s, if_neg n10, if_neg (show ¬ nI 2 = 0 by decide), if_neg (show ¬ nI 2 = 1 by decide), if_pos (show nI 2 = 2 from rfl), rI_n (by omega) (by decide), (hC.2.1.2.2.1 t ht).2.2.1]
        · rw [small (by decide) s hR, (hR.2.1.2.2.1 t ht).2.2.1]
      · refine ⟨b_pr B t, (S, B, T, im), hm0, fun hC => ⟨σ, ?_, hC, Un43.rf⟩, fun s hR => ⟨s, ?_, hR, Un42.rf⟩⟩
        · unfold f_X7_termOf
          rw [i7 σ hC, cP_s, if_neg n10, if_neg (show ¬ nI 3 = 0 by decide), if_neg (show ¬ nI 3 = 1 by decide), if_neg (show ¬ nI 3 = 2 by decide), if_pos (show nI 3 = 3 from rfl), rI_n (by omega) (by decide), (hC.2.1.2.2.1 t ht).2.2.2.1]
        · rw [small (by decide) s hR, (hR.2.1.2.2.1 t ht).2.2.2.1]
      · refine ⟨nI (sumN (fun i => if fB B T t i = true then 1 else 0) (t_c T)), (S, B, T, im), hm0, fun hC => ?_, fun s hR => ?_⟩
        · obtain ⟨s', e1, e2, e3, e4⟩ := settled7_s hB hT hC
          refine ⟨s', ?_, e2, e4⟩
          unfold f_X7_termOf
          rw [i7 σ hC, cP_s, if_neg n10, if_neg (show ¬ nI 4 = 0 by decide), if_neg (show ¬ nI 4 = 1 by decide), if_neg (show ¬ nI 4 = 2 by decide), if_neg (show ¬ nI 4 = 3 by decide), if_pos (show nI 4 = 4 from rfl), e1, cA_s, timesFound7_s hB hT e2.2.2.1 e3.1 ht, cP_s]
        · obtain ⟨s', e1, e2, e3, e4⟩ := choose8_s hB hT hR.2.1 hR.2.2.1
          refine ⟨s', ?_, hR.c8 e2, e2.u42 (by decide)⟩
          unfold f_X8_termOf
          rw [i8 s hR, cP_s, if_neg n10, in8_s, in_bI, cP_s, bI_t hw', if_neg n10, if_pos (show (4 : Int32) ≤ nI 4 by decide), e1, cA_s, termOf8_F hB hT (e2.bk (by decide) hR.2.1) (e2.tx (by decide) hR.2.2.1) ht]
      · refine ⟨nI (sumN (fun i => if ch B T i = nI t then 1 else 0) (t_c T)), (S, B, T, im), hm0, fun hC => ?_, fun s hR => ?_⟩
        · obtain ⟨s', e1, e2, e3, e4⟩ := settled7_s hB hT hC
          refine ⟨s', ?_, e2, e4⟩
          unfold f_X7_termOf
          rw [i7 σ hC, cP_s, if_neg n10, if_neg (show ¬ nI 5 = 0 by decide), if_neg (show ¬ nI 5 = 1 by decide), if_neg (show ¬ nI 5 = 2 by decide), if_neg (show ¬ nI 5 = 3 by decide), if_neg (show ¬ nI 5 = 4 by decide), if_pos (show nI 5 = 5 from rfl), e1, cA_s, timesChosen7_s hB hT e3 ht, cP_s]
        · obtain ⟨s', e1, e2, e3, e4⟩ := choose8_s hB hT hR.2.1 hR.2.2.1
          refine ⟨s', ?_, hR.c8 e2, e2.u42 (by decide)⟩
          unfold f_X8_termOf
          rw [i8 s hR, cP_s, if_neg n10, in8_s, in_bI, cP_s, bI_t hw', if_neg n10, if_pos (show (4 : Int32) ≤ nI 5 by decide), e1, cA_s, termOf8_C hT (e2.tx (by decide) hR.2.2.1) e4]
    · refine ⟨-1000000002, (S, B, T, im), hm0, fun hC => ⟨σ, ?_, hC, Un43.rf⟩, fun s hR => ⟨s, ?_, hR, Un42.rf⟩⟩
      · have ne : ∀ c : Int32, (0 ≤ c ∧ c ≤ 5) → ¬ a2 = c := fun c hc e => hw (by rw [e]; exact hc)
        unfold f_X7_termOf
        rw [i7 σ hC, cP_s, if_neg n10, if_neg (ne 0 (by decide)), if_neg (ne 1 (by decide)), if_neg (ne 2 (by decide)), if_neg (ne 3 (by decide)), if_neg (ne 4 (by decide)), if_neg (ne 5 (by decide))]
      · unfold f_X8_termOf
        rw [i8 s hR, cP_s, if_neg n10, in8_s, in_bI, cP_s, bI_f hw, if_pos rfl]
  · refine ⟨-1000000001, (S, B, T, im), hm0, fun hC => ⟨σ, ?_, hC, Un43.rf⟩, fun s hR => ⟨s, ?_, hR, Un42.rf⟩⟩
    · unfold f_X7_termOf
      rw [isTerm7_s hC.2.1 hB, bI_f hr, cP_s, if_pos rfl]
    · unfold f_X8_termOf
      rw [isTerm8_s hR.2.1 hB, bI_f hr, cP_s, if_pos rfl]
