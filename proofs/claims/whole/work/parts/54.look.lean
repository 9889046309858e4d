/-! what word i meets: the class's bits -/
section MT
variable {s : Sg} {B : Bk} {T : Tx}
/-- the bits below (t, k) are right -/
def mbP (v : Int32) (B : Bk) (T : Tx) (i t k : Nat) : Prop := ∀ u m, u < 8 → m < 4 → (bt v (4 * u + m) = true ↔ (u < t ∨ (u = t ∧ m < k)) ∧ u < b_tc B ∧ m < b_n B u ∧ mt B T i u m)
theorem meets7_L68 (hl : lexC s B) (hB : Bok B) {i t c c' : Nat} (ht : t < b_tc B) (hw : wok 12 (t_w T i)) (hl0 : t_l T i = 0) (hf : fmP s B (t_w T i) c (b_ec B)) (hc : c ≤ 6) (hc' : c' = if b_be B t = 1 then c else 1) (kk : Int32 → Option (Int32 × Sg)) : ∀ n k v, k ≤ b_n B t → b_n B t < n + k → mbP v B T i t k → ∃ v', f_X4_meets_L68 kk s (nI t) (nI c') n v (nI k) = kk v' ∧ mbP v' B T i (t + 1) 0 := by
  have h8 := hB.1
  have hn := (hB.2.2.1 t ht).1
  have hc2 : c' ≤ 6 := by rw [hc']; split <;> omega
  intro n
  induction n with
  | zero => intro k v h1 h2; omega
  | succ n ih =>
    intro k v h1 h2 h3
    rw [f_X4_meets_L68, rI_n (by omega) (by decide), (hl.2.2.1 t ht).1]
    rcases Nat.lt_or_ge k (b_n B t) with q | q
    · have hwk := (hB.2.2.1 t ht).2.2.2.2.1 k q
      rw [if_neg (fun z => by have := (nI_leI (by omega) (by omega)).mp z; omega), wordOf7_s hl hB ht q, cP_s, isForm7_s hc2, cP_s, nI_1]
      have hiff : (∃ j, j < c' ∧ s.2 31 j = eL (b_w B t k)) ↔ mt B T i t k := by
        unfold mt
        rw [hc']
        by_cases hb : b_be B t = 1
        · rw [if_pos hb, hf.2.2 _ hwk]
          constructor
          · rintro (g | ⟨e, g1, g2⟩)
            · exact ⟨hl0, Or.inl g.symm⟩
            · exact ⟨hl0, Or.inr ⟨hb, e, g1, g2⟩⟩
          · rintro ⟨-, g | ⟨-, e, g1, g2⟩⟩
            · exact Or.inl g.symm
            · exact Or.inr ⟨e, g1, g2⟩
        · rw [if_neg hb]
          constructor
          · rintro ⟨j, hj, ej⟩
            have : j = 0 := by omega
            subst this
            rw [hf.1] at ej
            exact ⟨hl0, Or.inl ((eL_inj hw.1 hwk.1 hw.2.2 hwk.2.2).mp ej)⟩
          · rintro ⟨-, g | ⟨g, -⟩⟩
            · exact ⟨0, by omega, by rw [hf.1, g]⟩
            · exact absurd g hb
      by_cases z : mt B T i t k
      · rw [bI_t (hiff.mpr z), if_neg (by decide), ix4]
        refine ih (k + 1) _ (by omega) (by omega) (fun u m hu hm => ?_)
        rw [b_set (by omega) (by omega), h3 u m hu hm]
        constructor
        · rintro (⟨g1, g2⟩ | g)
          · exact ⟨by omega, g2⟩
          · have e1 : u = t := by omega
            have e2 : m = k := by omega
            subst e1 e2
            exact ⟨by omega, ht, q, z⟩
        · rintro ⟨g1, g2⟩
          by_cases y : u = t ∧ m = k
          · right; rw [y.1, y.2]
          · left; exact ⟨by omega, g2⟩
      · rw [bI_f (fun y => z (hiff.mp y)), if_pos rfl]
        refine ih (k + 1) _ (by omega) (by omega) (fun u m hu hm => ?_)
        rw [h3 u m hu hm]
        constructor
        · rintro ⟨g1, g2⟩; exact ⟨by omega, g2⟩
        · rintro ⟨g1, g2, g3, g4⟩
          refine ⟨?_, g2, g3, g4⟩
          by_cases y : u = t ∧ m = k
          · rw [y.1, y.2] at g4; exact absurd g4 z
          · omega
    · have : k = b_n B t := by omega
      subst this
      rw [if_pos (nI_le (Nat.le_refl _) (by omega))]
      refine ⟨v, rfl, fun u m hu hm => ?_⟩
      rw [h3 u m hu hm]
      constructor
      · rintro ⟨g1, g2⟩; exact ⟨by omega, g2⟩
      · rintro ⟨g1, g2, g3, g4⟩
        refine ⟨?_, g2, g3, g4⟩
        by_cases y : u = t
        · rw [y] at g3; omega
        · omega
theorem meets7_s (hl : lexC s B) (hB : Bok B) (h : txtC s T) (hT : Tok T) {i : Nat} (hi : i < t_c T) : ∃ v s', f_X4_meets s (nI i) = some (v, s') ∧ Sf s s' ∧ ∀ u m, u < 8 → m < 4 → (bt v (4 * u + m) = true ↔ u < b_tc B ∧ m < b_n B u ∧ mt B T i u m) := by
  have h60 := hT.1
  have h8 := hB.1
  obtain ⟨w1, w2, -⟩ := hT.2.1 i hi
  obtain ⟨x1, x2, x3⟩ := h.2.2.2.2 i hi
  unfold f_X4_meets
  rw [rI_n (by omega) (by decide), x2]
  by_cases hl0 : t_l T i = 0
  · rw [if_pos (by rw [hl0]; rfl), rL_n (by omega) (by decide), x1]
    obtain ⟨s', c, e1, e2, e3, e4, e5⟩ := makeForms7_s hl hB w1
    rw [e1, cA_s]
    have hl' : lexC s' B := e5.1.lex (by decide) (by decide) hl
    have key : ∀ n t v, t ≤ b_tc B → b_tc B < n + t → mbP v B T i t 0 → ∃ v', f_X4_meets_L31 (fun (v27 : Int32) => some (v27, s')) s' n v (nI t) = some (v', s') ∧ mbP v' B T i (b_tc B) 0 := by
      intro n
      induction n with
      | zero => intro t v h1 h2; omega
      | succ n ih =>
        intro t v h1 h2 h3
        rw [f_X4_meets_L31, hl'.1]
        rcases Nat.lt_or_ge t (b_tc B) with q | q
        · have hbe := (hB.2.2.1 t q).2.2.1
          rw [if_neg (fun z => by have := (nI_leI (by omega) (by omega)).mp z; omega), rI_n (by omega) (by decide), (hl'.2.2.1 t q).2.2.1]
          simp only [jn_s]
          have go : ∀ c', c' = (if b_be B t = 1 then c else 1) → ∃ v', f_X4_meets_L68 (fun (v24 : Int32) => f_X4_meets_L31 (fun (v27 : Int32) => some (v27, s')) s' n (v24) ((nI t + 1))) s' (nI t) (nI c') fu v 0 = some (v', s') ∧ mbP v' B T i (b_tc B) 0 := by
            intro c' hc'
            obtain ⟨v1, g1, g2⟩ := meets7_L68 hl' hB q w1 hl0 e4 e3 hc' (fun (v24 : Int32) => f_X4_meets_L31 (fun (v27 : Int32) => some (v27, s')) s' n (v24) ((nI t + 1))) fu 0 v (Nat.zero_le _) (by have := (hB.2.2.1 t q).1; unfold fu; omega) h3
            have g1 : f_X4_meets_L68 (fun (v24 : Int32) => f_X4_meets_L31 (fun (v27 : Int32) => some (v27, s')) s' n (v24) ((nI t + 1))) s' (nI t) (nI c') fu v 0 = _ := g1
            rw [g1, nI_1]
            exact ih (t + 1) v1 (by omega) (by omega) g2
          by_cases hb : b_be B t = 1
          · rw [if_pos (by rw [hb]; rfl), e2]
            exact go c (by rw [if_pos hb])
          · rw [if_neg (fun z => hb ((c_eq 1 (by omega) (by decide)).mp z))]
            exact go 1 (by rw [if_neg hb])
        · have : t = b_tc B := by omega
          subst this
          rw [if_pos (nI_le (Nat.le_refl _) (by omega))]
          exact ⟨v, rfl, h3⟩
    obtain ⟨v, g1, g2⟩ := key fu 0 0 (Nat.zero_le _) (by unfold fu; omega) (fun u m hu hm => by rw [b_0]; constructor; (intro h; cases h); (rintro ⟨g, -⟩; omega))
    refine ⟨v, s', g1, e5, fun u m hu hm => ?_⟩
    rw [g2 u m hu hm]
    exact ⟨fun g => g.2, fun g => ⟨Or.inl g.1, g⟩⟩
  · rw [if_neg (fun z => hl0 ((c_eq 0 (by omega) (by decide)).mp z))]
    refine ⟨0, s, rfl, Sf.rf, fun u m hu hm => ?_⟩
    rw [b_0]
    constructor
    · intro h; cases h
    · rintro ⟨-, -, g⟩; exact absurd g.1 hl0
end MT
