/-! the forms of a word, what it meets -/
theorem bt_1 (m : Nat) : bt 1 m = decide (m = 0) := by
  rcases Nat.lt_or_ge m 32 with h | h
  · revert m; decide +kernel
  · rw [b_big h]
    have : ¬ m = 0 := by omega
    simp [this]
theorem b_one {n i : Nat} (hn : n < 32) (hi : i < 32) : bt ((1 : Int32) <<< (nI n &&& 31)) i = decide (i = n) := by
  rw [b_shl n hn 1 hi, bt_1]
  by_cases h : i = n
  · subst h; simp
  · by_cases g : n ≤ i
    · have : ¬ i - n = 0 := by omega
      simp [h, this]
    · simp [h, g]
theorem b_set {v : Int32} {n i : Nat} (hn : n < 32) (hi : i < 32) : bt (v ||| ((1 : Int32) <<< (nI n &&& 31))) i = true ↔ bt v i = true ∨ i = n := by
  rw [b_or, b_one hn hi]; simp
/-- only the forms change -/
def Sf (s s' : Sg) : Prop := Sm [30] [31] s s' ∧ ∀ j, j ≠ 5 → s'.1 30 j = s.1 30 j
theorem Sf.rf {s : Sg} : Sf s s := ⟨Sm.rf, fun _ _ => rfl⟩
theorem Sf.tr {a b c : Sg} (h1 : Sf a b) (h2 : Sf b c) : Sf a c := ⟨h1.1.tr h2.1, fun j hj => (h2.2 j hj).trans (h1.2 j hj)⟩
theorem Sf.l {a b : Sg} {j : Nat} {v : Int64} (h : Sf a b) : Sf a (sL b 31 j v) := ⟨h.1.l (by decide), h.2⟩
theorem Sf.i {a b : Sg} {v : Int32} (h : Sf a b) : Sf a (sI b 30 5 v) := ⟨h.1.i (by decide), fun j hj => by rw [sI_1, if_neg (fun z => hj z.2)]; exact h.2 j hj⟩
theorem split_iff {w x e : List Nat} (hx : x ≠ []) : w = x ++ e ↔ (w.drop (w.length - e.length) = e ∧ e.length < w.length) ∧ x = w.take (w.length - e.length) := by
  constructor
  · rintro rfl
    have := List.length_pos_iff.mpr hx
    have e1 : (x ++ e).length - e.length = x.length := by rw [List.length_append]; omega
    rw [e1]
    refine ⟨⟨by simp, by rw [List.length_append]; omega⟩, by simp⟩
  · rintro ⟨⟨h1, h2⟩, h3⟩
    have := List.take_append_drop (w.length - e.length) w
    rw [← h3, h1] at this
    exact this.symm
section FM
variable {s : Sg} {B : Bk}
/-- the first c forms are the word and what is left of it without one of the first n endings -/
def fmP (s : Sg) (B : Bk) (w : List Nat) (c n : Nat) : Prop := s.2 31 0 = eL w ∧ 1 ≤ c ∧ ∀ x, wok 12 x → ((∃ j, j < c ∧ s.2 31 j = eL x) ↔ x = w ∨ ∃ e, e < n ∧ w = x ++ b_en B e)
theorem makeForms7_s (hl : lexC s B) (hB : Bok B) {w : List Nat} (hw : wok 12 w) : ∃ s' c, f_X4_makeForms s (eL w) = some ((), s') ∧ s'.1 30 5 = nI c ∧ c ≤ 6 ∧ fmP s' B w c (b_ec B) ∧ Sf s s' := by
  have h5 := hB.2.1
  have key : ∀ n i s2 c, i ≤ b_ec B → b_ec B < n + i → Sf s s2 → s2.1 30 5 = nI c → c ≤ i + 1 → fmP s2 B w c i → ∃ s' c', f_X4_makeForms_L20 (fun (s23 : Sg) => some ((), s23)) (eL w) (nI w.length) n s2 (nI i) = some ((), s') ∧ s'.1 30 5 = nI c' ∧ c' ≤ 6 ∧ fmP s' B w c' (b_ec B) ∧ Sf s s' := by
    intro n
    induction n with
    | zero => intro i s2 c h1 h2; omega
    | succ n ih =>
      intro i s2 c h1 h2 a1 a2 a3 a4
      have hl2 : lexC s2 B := a1.1.lex (by decide) (by decide) hl
      rw [f_X4_makeForms_L20, hl2.2.1, a2]
      rcases Nat.lt_or_ge i (b_ec B) with q | q
      · have he := hB.2.2.2 i q
        have he4 := he.2.2
        have hne : b_en B i ≠ [] := List.length_pos_iff.mp he.2.1
        rw [if_neg (fun z => by have := (nI_leI (by omega) (by omega)).mp z; omega), if_neg (fun z => by have := (c_ge 6 (by omega) (by decide)).mp z; omega), rL_n (by omega) (by decide), hl2.2.2.2 i q, sizeOf_s he.1 (by omega), cP_s, without_s hw.1 he.1 hw.2.2 (by omega) hne, cP_s, nI_1]
        obtain ⟨f1, f2, f3⟩ := a4
        by_cases z : w.drop (w.length - (b_en B i).length) = b_en B i ∧ (b_en B i).length < w.length
        · have ht : wok 12 (w.take (w.length - (b_en B i).length)) := by
            refine ⟨fun y hy => hw.1 y (List.mem_of_mem_take hy), ?_, ?_⟩
            · rw [List.length_take]; omega
            · rw [List.length_take]; have := hw.2.2; omega
          have h0 : ¬ lg_cmp (eL (w.take (w.length - (b_en B i).length))) 0 = 0 := by
            rw [lg_cmp_0, eL_0 ht.1 ht.2.2]
            intro y
            have := ht.2.1
            rw [y] at this
            simp at this
          rw [if_pos z, if_neg h0, wL_n (by omega) (by decide), pI_s]
          refine ih (i + 1) _ (c + 1) (by omega) (by omega) (a1.l).i ?_ (by omega) ?_
          · rw [sI_1, if_pos ⟨rfl, rfl⟩, sL_1, a2, nI_1]
          · refine ⟨?_, by omega, fun x hx => ?_⟩
            · rw [sI_2, sL_2, if_neg (by omega)]; exact f1
            · have hx0 : x ≠ [] := List.length_pos_iff.mp hx.2.1
              have hpt : ∀ j, (sI (sL s2 31 c (eL (w.take (w.length - (b_en B i).length)))) 30 5 ((sL s2 31 c (eL (w.take (w.length - (b_en B i).length)))).1 30 5 + 1)).2 31 j = if j = c then eL (w.take (w.length - (b_en B i).length)) else s2.2 31 j := fun j => by
                rw [sI_2, sL_2]
                by_cases y : j = c
                · rw [if_pos ⟨rfl, y⟩, if_pos y]
                · rw [if_neg (fun h => y h.2), if_neg y]
              constructor
              · rintro ⟨j, hj, ej⟩
                rw [hpt] at ej
                by_cases y : j = c
                · rw [if_pos y] at ej
                  right
                  refine ⟨i, by omega, (split_iff hx0).mpr ⟨z, ?_⟩⟩
                  exact ((eL_inj ht.1 hx.1 ht.2.2 hx.2.2).mp ej).symm
                · rw [if_neg y] at ej
                  rcases (f3 x hx).mp ⟨j, by omega, ej⟩ with g | ⟨e, g1, g2⟩
                  · exact Or.inl g
                  · exact Or.inr ⟨e, by omega, g2⟩
              · intro g
                have old : (x = w ∨ ∃ e, e < i ∧ w = x ++ b_en B e) → ∃ j, j < c + 1 ∧ (sI (sL s2 31 c (eL (w.take (w.length - (b_en B i).length)))) 30 5 ((sL s2 31 c (eL (w.take (w.length - (b_en B i).length)))).1 30 5 + 1)).2 31 j = eL x := fun g => by
                  obtain ⟨j, hj, ej⟩ := (f3 x hx).mpr g
                  exact ⟨j, by omega, by rw [hpt, if_neg (by omega)]; exact ej⟩
                rcases g with g | ⟨e, g1, g2⟩
                · exact old (Or.inl g)
                · by_cases y : e = i
                  · rw [y] at g2
                    exact ⟨c, by omega, by rw [hpt, if_pos rfl, ((split_iff hx0).mp g2).2]⟩
                  · exact old (Or.inr ⟨e, by omega, g2⟩)
        · rw [if_neg z, if_pos (by rw [lg_cmp_0])]
          refine ih (i + 1) s2 c (by omega) (by omega) a1 a2 (by omega) ⟨f1, f2, fun x hx => ?_⟩
          have hx0 : x ≠ [] := List.length_pos_iff.mp hx.2.1
          rw [f3 x hx]
          constructor
          · rintro (g | ⟨e, g1, g2⟩)
            · exact Or.inl g
            · exact Or.inr ⟨e, by omega, g2⟩
          · rintro (g | ⟨e, g1, g2⟩)
            · exact Or.inl g
            · by_cases y : e = i
              · rw [y] at g2
                exact absurd ((split_iff hx0).mp g2).1 z
              · exact Or.inr ⟨e, by omega, g2⟩
      · have : i = b_ec B := by omega
        subst this
        rw [if_pos (nI_le (Nat.le_refl _) (by omega))]
        exact ⟨s2, c, rfl, a2, by omega, a4, a1⟩
  unfold f_X4_makeForms
  rw [sizeOf_s hw.1 hw.2.2, cP_s, show (0 : Int32) = nI 0 from rfl, wL_n (by omega) (by decide), pI_s]
  refine key fu 0 _ 1 (Nat.zero_le _) (by unfold fu; omega) (Sf.rf.l).i (by rw [sI_1, if_pos ⟨rfl, rfl⟩]; rfl) (by omega) ⟨by rw [sI_2, sL_2, if_pos ⟨rfl, rfl⟩], by omega, fun x hx => ?_⟩
  constructor
  · rintro ⟨j, hj, ej⟩
    have : j = 0 := by omega
    subst this
    rw [sI_2, sL_2, if_pos ⟨rfl, rfl⟩] at ej
    exact Or.inl ((eL_inj hw.1 hx.1 hw.2.2 hx.2.2).mp ej).symm
  · rintro (g | ⟨e, g1, -⟩)
    · exact ⟨0, by omega, by rw [sI_2, sL_2, if_pos ⟨rfl, rfl⟩, g]⟩
    · omega
theorem isForm7_s {x : Int64} {c : Nat} (hc : c ≤ 6) : f_X4_isForm s x (nI c) = some (bI (∃ j, j < c ∧ s.2 31 j = x)) := by
  have key : ∀ n i, i ≤ c → c < n + i → (∀ j, j < i → ¬ s.2 31 j = x) → f_X4_isForm_L3 (some 0) s x (nI c) n (nI i) = some (bI (∃ j, j < c ∧ s.2 31 j = x)) := by
    intro n
    induction n with
    | zero => intro i h1 h2; omega
    | succ n ih =>
      intro i h1 h2 h3
      rw [f_X4_isForm_L3]
      rcases Nat.lt_or_ge i c with q | q
      · rw [if_neg (fun z => by have := (nI_leI (by omega) (by omega)).mp z; omega), if_neg (fun z => by have := (c_ge 6 (by omega) (by decide)).mp z; omega), rL_n (by omega) (by decide)]
        by_cases z : s.2 31 i = x
        · rw [if_pos ((lg_cmp_0 _ _).mpr z), bI_t ⟨i, q, z⟩]
        · rw [if_neg (fun y => z ((lg_cmp_0 _ _).mp y)), nI_1]
          refine ih (i + 1) (by omega) (by omega) (fun j hj => ?_)
          by_cases y : j = i
          · rw [y]; exact z
          · exact h3 j (by omega)
      · have : i = c := by omega
        subst this
        rw [if_pos (nI_le (Nat.le_refl _) (by omega)), bI_f (by rintro ⟨j, h4, h5⟩; exact h3 j h4 h5)]
  exact key fu 0 (Nat.zero_le _) (by unfold fu; omega) (fun j hj => absurd hj (Nat.not_lt_zero j))
end FM
