/-! the longest at a word -/
def ky (B : Bk) (t : Nat) : Nat := 10 * b_n B t + b_we B t
noncomputable def lg (B : Bk) (T : Tx) (i : Nat) : Nat → Int32
  | 0 => -1
  | t + 1 => if fB B T t i = true ∧ (lg B T i t = -1 ∨ ky B (lg B T i t).toNatClampNeg < ky B t) then nI t else lg B T i t
theorem lg_ok {B : Bk} {T : Tx} {i : Nat} : ∀ t, lg B T i t = -1 ∨ ∃ u, u < t ∧ lg B T i t = nI u := by
  intro t
  induction t with
  | zero => exact Or.inl rfl
  | succ t ih =>
    rw [lg]
    split
    · exact Or.inr ⟨t, by omega, rfl⟩
    · rcases ih with h | ⟨u, h1, h2⟩
      · exact Or.inl h
      · exact Or.inr ⟨u, by omega, h2⟩
noncomputable def mo (B : Bk) (T : Tx) (i t : Nat) : Nat := if lg B T i t = -1 then 0 else ky B (lg B T i t).toNatClampNeg
section LO
variable {B : Bk} {T : Tx} {s : Sg}
theorem isLonger7_s (hB : Bok B) (hl : lexC s B) {t u : Nat} (ht : t < b_tc B) (hu : u < b_tc B) : f_X4_isLonger s (nI t) (nI u) = some (bI (ky B u < ky B t)) := by
  have h8 := hB.1
  obtain ⟨t1, t2, -⟩ := hB.2.2.1 t ht
  obtain ⟨u1, u2, -⟩ := hB.2.2.1 u hu
  unfold f_X4_isLonger ky
  rw [rI_n (by omega) (by decide), rI_n (by omega) (by decide), (hl.2.2.1 t ht).1, (hl.2.2.1 u hu).1]
  by_cases z : b_n B t = b_n B u
  · rw [if_pos (by rw [z]), rI_n (by omega) (by decide), rI_n (by omega) (by decide), (hl.2.2.1 t ht).2.1, (hl.2.2.1 u hu).2.1]
    by_cases y : b_we B t ≤ b_we B u
    · rw [if_pos (nI_le y (by omega)), bI_f (by omega)]
    · rw [if_neg (fun g => y ((nI_leI (by omega) (by omega)).mp g)), bI_t (by omega)]
  · rw [if_neg (fun g => z ((nI_eq (by omega) (by omega)).mp g)), rI_n (by omega) (by decide), rI_n (by omega) (by decide), (hl.2.2.1 t ht).1, (hl.2.2.1 u hu).1]
    by_cases y : b_n B t ≤ b_n B u
    · rw [if_pos (nI_le y (by omega)), bI_f (by omega)]
    · rw [if_neg (fun g => y ((nI_leI (by omega) (by omega)).mp g)), bI_t (by omega)]
theorem longestAt7_s (hB : Bok B) (hT : Tok T) (hl : lexC s B) (hk : lookP (s.1 32) (s.1 33) B T (t_c T)) {i : Nat} (hi : i < t_c T) : f_X4_longestAt s (nI i) = some (lg B T i (b_tc B)) := by
  have h8 := hB.1
  have h60 := hT.1
  have key : ∀ n t, t ≤ b_tc B → b_tc B < n + t → f_X4_longestAt_L4 (fun (v11 : Int32) => some v11) s (nI i) n (lg B T i t) (nI t) = some (lg B T i (b_tc B)) := by
    intro n
    induction n with
    | zero => intro t h1 h2; omega
    | succ n ih =>
      intro t h1 h2
      rw [f_X4_longestAt_L4, hl.1]
      rcases Nat.lt_or_ge t (b_tc B) with q | q
      · rw [if_neg (fun z => by have := (nI_leI (by omega) (by omega)).mp z; omega), isFound7_t hk hT hB hi q, cP_s, nI_1]
        have hh := ih (t + 1) (by omega) (by omega)
        rw [lg] at hh
        by_cases z : fB B T t i = true
        · rw [bI_t z, if_neg (by decide)]
          simp only [jn_s]
          rw [nI_1]
          rcases lg_ok (B := B) (T := T) (i := i) t with g | ⟨u, g1, g2⟩
          · rw [if_pos ⟨z, Or.inl g⟩] at hh
            rw [if_pos g]
            exact hh
          · rw [g2, if_neg (nI_m1 (by omega)), isLonger7_s hB hl q (by omega), cP_s]
            rw [g2, nI_clamp (by omega)] at hh
            by_cases y : ky B u < ky B t
            · rw [if_pos ⟨z, Or.inr y⟩] at hh
              rw [bI_t y, if_neg (by decide)]
              exact hh
            · rw [if_neg (by
                rintro ⟨-, w | w⟩
                · exact nI_m1 (by omega) w
                · exact y w)] at hh
              rw [bI_f y, if_pos rfl]
              exact hh
        · rw [if_neg (fun g => z g.1)] at hh
          rw [bI_f z, if_pos rfl]
          exact hh
      · have : t = b_tc B := by omega
        subst this
        rw [if_pos (nI_le (Nat.le_refl _) (by omega))]
  exact key fu 0 (Nat.zero_le _) (by unfold fu; omega)
theorem longest8_L (hB : Bok B) (hT : Tok T) (hb : bookP (s.1 44) B) (hx : txR s T) {i : Nat} (hi : i < t_c T) : f_X8_longest_L18 (fun (v27 : Int32) => some v27) s (nI i) fu (-1) 0 0 = some (lg B T i (b_tc B)) := by
  have h8 := hB.1
  have h60 := hT.1
  have key : ∀ n t, t ≤ b_tc B → b_tc B < n + t → f_X8_longest_L18 (fun (v27 : Int32) => some v27) s (nI i) n (lg B T i t) (nI (mo B T i t)) (nI t) = some (lg B T i (b_tc B)) := by
    intro n
    induction n with
    | zero => intro t h1 h2; omega
    | succ n ih =>
      intro t h1 h2
      rw [f_X8_longest_L18, show rI s 44 475 0 = rI (α := Int32) s 44 475 (nI 0) from rfl, rI_n (by omega) (by decide), hb.1]
      rcases Nat.lt_or_ge t (b_tc B) with q | q
      · obtain ⟨t1, t2, -⟩ := hB.2.2.1 t q
        rw [if_neg (fun z => by have := (nI_leI (by omega) (by omega)).mp z; omega), termAt8_s, cP_s, nI_p0, rI_n (by omega) (by decide), cP_s, nI_1, rI_n (by omega) (by decide), (hb.2.2.1 t q).1, (hb.2.2.1 t q).2.1, li 10, pk_mul, nI_add, nI_1]
        have hh := ih (t + 1) (by omega) (by omega)
        have hmo : mo B T i t ≤ 49 := by
          unfold mo
          rcases lg_ok (B := B) (T := T) (i := i) t with g | ⟨u, g1, g2⟩
          · rw [if_pos g]; omega
          · rw [g2, if_neg (nI_m1 (by omega)), nI_clamp (by omega)]
            obtain ⟨u1, u2, -⟩ := hB.2.2.1 u (by omega)
            unfold ky
            omega
        have hcond : (lg B T i t = -1 ∨ ky B (lg B T i t).toNatClampNeg < ky B t) ↔ mo B T i t < ky B t := by
          unfold mo
          rcases lg_ok (B := B) (T := T) (i := i) t with g | ⟨u, g1, g2⟩
          · rw [if_pos g]
            exact ⟨fun _ => by unfold ky; omega, fun _ => Or.inl g⟩
          · rw [g2, if_neg (nI_m1 (by omega))]
            exact ⟨fun h => by rcases h with h | h; exact absurd h (nI_m1 (by omega)); exact h, Or.inr⟩
        have hkt : ky B t ≤ 49 := by unfold ky; omega
        have keep : ¬ (fB B T t i = true ∧ mo B T i t < ky B t) → f_X8_longest_L18 (fun (v27 : Int32) => some v27) s (nI i) n (lg B T i t) (nI (mo B T i t)) (nI (t + 1)) = some (lg B T i (b_tc B)) := fun hno => by
          have e : lg B T i (t + 1) = lg B T i t := by rw [lg, if_neg (fun g => hno ⟨g.1, hcond.mp g.2⟩)]
          have e2 : mo B T i (t + 1) = mo B T i t := by unfold mo; rw [e]
          rw [e, e2] at hh
          exact hh
        simp only [jn_s]
        rw [show 10 * b_n B t + b_we B t = ky B t from rfl]
        by_cases y : ky B t ≤ mo B T i t
        · rw [if_pos (nI_le y (by omega)), if_pos trivial, if_pos trivial]
          exact keep (fun g => by have := g.2; omega)
        · rw [if_neg (fun g => y ((nI_leI (by omega) (by omega)).mp g)), isFound8_s hx hT hb hB (by omega) q, cP_s]
          by_cases z : fB B T t i = true
          · rw [bI_t z, if_neg (by decide), if_neg (by decide), if_neg (by decide)]
            have e : lg B T i (t + 1) = nI t := by rw [lg, if_pos ⟨z, hcond.mpr (by omega)⟩]
            have e2 : mo B T i (t + 1) = ky B t := by unfold mo; rw [e, if_neg (nI_m1 (by omega)), nI_clamp (by omega)]
            rw [e, e2] at hh
            exact hh
          · rw [bI_f z, if_pos rfl, if_pos trivial, if_pos trivial]
            exact keep (fun g => z g.1)
      · have : t = b_tc B := by omega
        subst this
        rw [if_pos (nI_le (Nat.le_refl _) (by omega))]
  have := key fu 0 (Nat.zero_le _) (by unfold fu; omega)
  exact this
end LO
theorem ps_longest (σ : Sg) (a1 : Int32) (h : InvA σ) : ∃ (r : Int32) (σ1 : Sg), f_X7_longest σ a1 = some (r, σ1) ∧ f_X8_longest σ1 a1 = some r ∧ InvA σ1 := by
  obtain ⟨⟨S, B, T, im⟩, hm, hC, hR⟩ := h
  have hB : Bok B := hm.2.1
  have hT : Tok T := hm.2.2.1
  have n10 : ¬ (1 : Int32) = 0 := by decide
  rcases Classical.em (rg a1 (t_c T)) with hr | hr
  · have hr' := hr
    obtain ⟨i, hi, rfl⟩ := hr
    obtain ⟨s', e1, e2, e3, e4⟩ := settled7_s hB hT hC
    have hR' := hR.cg e4
    refine ⟨lg B T i (b_tc B), s', ?_, ?_, (S, B, T, im), hm, e2, hR'⟩
    · unfold f_X7_longest
      rw [isWord7_s hC.2.2.1 hT, bI_t hr', cP_s, if_neg n10, e1, cA_s, longestAt7_s hB hT e2.2.1 e3.1 hi, cP_s]
    · unfold f_X8_longest
      rw [isWord8_s hR'.2.2.1 hT, bI_t hr', cP_s, if_neg n10, longest8_L hB hT hR'.2.1 hR'.2.2.1 hi]
  · refine ⟨-1000000001, σ, ?_, ?_, (S, B, T, im), hm, hC, hR⟩
    · unfold f_X7_longest
      rw [isWord7_s hC.2.2.1 hT, bI_f hr, cP_s, if_pos rfl]
    · unfold f_X8_longest
      rw [isWord8_s hR.2.2.1 hT, bI_f hr, cP_s, if_pos rfl]
