/-! choosing: what stands at each word -/
section CH
variable {B : Bk} {T : Tx}
theorem ch_A {i : Nat} (h : i < fr B T i) : ch B T i = -1 ∧ fr B T (i + 1) = fr B T i ∧ cc B T (i + 1) = cc B T i := by
  have h1 : ch B T i = -1 := by unfold ch; rw [if_neg (by omega)]
  refine ⟨h1, ?_, ?_⟩
  · rw [fr, if_neg (fun g => by have := g.1; omega)]
  · rw [cc, if_pos h1]
theorem ch_B {i : Nat} (h : fr B T i ≤ i) (h2 : tk B T i = -1) : ch B T i = -1 ∧ fr B T (i + 1) = fr B T i ∧ cc B T (i + 1) = cc B T i := by
  have h1 : ch B T i = -1 := by unfold ch; rw [if_pos h, h2]
  refine ⟨h1, ?_, ?_⟩
  · rw [fr, if_neg (fun g => g.2 h2)]
  · rw [cc, if_pos h1]
theorem ch_C {i u : Nat} (h : fr B T i ≤ i) (h2 : tk B T i = nI u) (hu : u < 2 ^ 31) : ch B T i = nI u ∧ fr B T (i + 1) = i + b_n B u ∧ cc B T (i + 1) = cc B T i + 1 := by
  have h1 : ch B T i = nI u := by unfold ch; rw [if_pos h, h2]
  refine ⟨h1, ?_, ?_⟩
  · rw [fr, if_pos ⟨h, by rw [h2]; exact nI_m1 hu⟩, h2]
    unfold kn
    rw [nI_clamp hu]
  · rw [cc, if_neg (by rw [h1]; exact nI_m1 hu)]
theorem ch_or (hB : Bok B) (i : Nat) : (ch B T i = -1 ∧ fr B T (i + 1) = fr B T i ∧ cc B T (i + 1) = cc B T i ∧ (fr B T i ≤ i → tk B T i = -1)) ∨ (fr B T i ≤ i ∧ ∃ u, u < b_tc B ∧ fnd B T u i ∧ tk B T i = nI u ∧ ch B T i = nI u ∧ fr B T (i + 1) = i + b_n B u ∧ cc B T (i + 1) = cc B T i + 1) := by
  have h8 := hB.1
  rcases Nat.lt_or_ge i (fr B T i) with q | q
  · obtain ⟨g1, g2, g3⟩ := ch_A q
    exact Or.inl ⟨g1, g2, g3, fun g => by omega⟩
  · rcases tk_ok (T := T) hB i with z | ⟨u, z1, z2, z3⟩
    · obtain ⟨g1, g2, g3⟩ := ch_B q z
      exact Or.inl ⟨g1, g2, g3, fun _ => z⟩
    · exact Or.inr ⟨q, u, z1, z2, z3, ch_C q z3 (by omega)⟩
theorem fr_le (hB : Bok B) : ∀ i, fr B T i ≤ t_c T := by
  intro i
  induction i with
  | zero => exact Nat.zero_le _
  | succ i ih =>
    rcases ch_or (T := T) hB i with ⟨-, h, -⟩ | ⟨-, u, -, h1, -, -, h2, -⟩
    · rw [h]; exact ih
    · rw [h2]; exact h1.1
theorem cc_le : ∀ i, cc B T i ≤ i := by
  intro i
  induction i with
  | zero => exact Nat.le_refl _
  | succ i ih => rw [cc]; split <;> omega
theorem cc_s (i : Nat) : cc B T i ≤ cc B T (i + 1) := by rw [cc]; split <;> omega
theorem cc_mono {i : Nat} : ∀ {j : Nat}, i ≤ j → cc B T i ≤ cc B T j := by
  intro j
  induction j with
  | zero => intro h; have : i = 0 := by omega
            rw [this]; exact Nat.le_refl _
  | succ j ih =>
    intro h
    by_cases z : i = j + 1
    · rw [z]; exact Nat.le_refl _
    · exact Nat.le_trans (ih (by omega)) (cc_s j)
theorem cc_lt {i j : Nat} (h : i < j) (h2 : ch B T i ≠ -1) : cc B T i < cc B T j := by
  have h3 : cc B T (i + 1) = cc B T i + 1 := by rw [cc, if_neg h2]
  have := cc_mono (B := B) (T := T) (show i + 1 ≤ j by omega)
  omega
theorem fr_cc (hB : Bok B) : ∀ i, 0 < fr B T i → 1 ≤ cc B T i := by
  intro i
  induction i with
  | zero => intro h; exact absurd h (Nat.lt_irrefl 0)
  | succ i ih =>
    intro h
    rcases ch_or (T := T) hB i with ⟨-, h1, h2, -⟩ | ⟨-, u, -, -, -, -, -, h2⟩
    · rw [h1] at h; rw [h2]; exact ih h
    · omega
def Sc (s s' : Sg) : Prop := Sm [30, 37, 38, 39] [] s s' ∧ ∀ j, j ≠ 11 → s'.1 30 j = s.1 30 j
theorem Sc.rf {s : Sg} : Sc s s := ⟨Sm.rf, fun _ _ => rfl⟩
theorem Sc.tr {a b c : Sg} (h1 : Sc a b) (h2 : Sc b c) : Sc a c := ⟨h1.1.tr h2.1, fun j hj => (h2.2 j hj).trans (h1.2 j hj)⟩
theorem Sc.i {a b : Sg} {k j : Nat} {v : Int32} (h : Sc a b) (hk : k = 37 ∨ k = 38 ∨ k = 39) : Sc a (sI b k j v) := ⟨h.1.i (by rcases hk with rfl | rfl | rfl <;> decide), fun i hi => by
  rw [sI_1, if_neg (by omega)]
  exact h.2 i hi⟩
theorem Sc.c {a b : Sg} {v : Int32} (h : Sc a b) : Sc a (sI b 30 11 v) := ⟨h.1.i (by decide), fun i hi => by
  rw [sI_1, if_neg (fun z => hi z.2)]
  exact h.2 i hi⟩
theorem choose7_s {s : Sg} (hB : Bok B) (hT : Tok T) (hl : lexC s B) (h26 : s.1 26 0 = nI (t_c T)) (ht : ∀ i, i < t_c T → s.1 36 i = tk B T i) : ∃ s', f_X4_choose s = some ((), s') ∧ Sc s s' ∧ s'.1 30 11 = nI (cc B T (t_c T)) ∧ (∀ i, i < t_c T → ch B T i ≠ -1 → s'.1 37 (cc B T i) = nI i ∧ s'.1 38 (cc B T i) = ch B T i) ∧ ∀ i, i < t_c T → s'.1 39 i = co B T i := by
  have h8 := hB.1
  have h60 := hT.1
  have key : ∀ n i s, i ≤ t_c T → t_c T < n + i → lexC s B → s.1 26 0 = nI (t_c T) → (∀ i, i < t_c T → s.1 36 i = tk B T i) → s.1 30 11 = nI (cc B T i) → (∀ j, j < i → ch B T j ≠ -1 → s.1 37 (cc B T j) = nI j ∧ s.1 38 (cc B T j) = ch B T j) → (∀ j, j < i → s.1 39 j = co B T j) → ∃ s', f_X4_choose_L9 (fun (s35 : Sg) => some ((), s35)) n s (nI (fr B T i)) (nI i) = some ((), s') ∧ Sc s s' ∧ s'.1 30 11 = nI (cc B T (t_c T)) ∧ (∀ i, i < t_c T → ch B T i ≠ -1 → s'.1 37 (cc B T i) = nI i ∧ s'.1 38 (cc B T i) = ch B T i) ∧ ∀ i, i < t_c T → s'.1 39 i = co B T i := by
    intro n
    induction n with
    | zero => intro i s h1 h2; omega
    | succ n ih =>
      intro i s h1 h2 hl h26 ht g1 g2 g3
      have hf := fr_le (T := T) hB i
      have hf1 := fr_le (T := T) hB (i + 1)
      have hcl := cc_le (B := B) (T := T) i
      have hcl1 := cc_le (B := B) (T := T) (i + 1)
      rw [f_X4_choose_L9, h26]
      rcases Nat.lt_or_ge i (t_c T) with q | q
      · rw [if_neg (fun z => by have := (nI_leI (by omega) (by omega)).mp z; omega), nI_1]
        simp only [jn_s]
        have go : ∀ s4 x, x = nI (fr B T (i + 1)) → Sc s s4 → s4.1 30 11 = nI (cc B T (i + 1)) → (∀ j, j < i + 1 → ch B T j ≠ -1 → s4.1 37 (cc B T j) = nI j ∧ s4.1 38 (cc B T j) = ch B T j) → s4.1 39 = s.1 39 → ∃ s', (if x ≤ nI i then (wI s4 39 60 (nI i) (-1) fun s8 => (f_X4_choose_L9 (fun (s35 : Sg) => some ((), s35)) n (s8) x (nI (i + 1)))) else (wI s4 39 60 (nI i) ((s4.1 30 11) - 1) fun s8 => (f_X4_choose_L9 (fun (s35 : Sg) => some ((), s35)) n (s8) x (nI (i + 1))))) = some ((), s') ∧ Sc s s' ∧ s'.1 30 11 = nI (cc B T (t_c T)) ∧ (∀ i, i < t_c T → ch B T i ≠ -1 → s'.1 37 (cc B T i) = nI i ∧ s'.1 38 (cc B T i) = ch B T i) ∧ ∀ i, i < t_c T → s'.1 39 i = co B T i := by
          intro s4 x hx u k1 k2 k3
          subst hx
          have fin : ∀ v, v = co B T i → ∃ s', (wI s4 39 60 (nI i) v fun s8 => (f_X4_choose_L9 (fun (s35 : Sg) => some ((), s35)) n (s8) (nI (fr B T (i + 1))) (nI (i + 1)))) = some ((), s') ∧ Sc s s' ∧ s'.1 30 11 = nI (cc B T (t_c T)) ∧ (∀ i, i < t_c T → ch B T i ≠ -1 → s'.1 37 (cc B T i) = nI i ∧ s'.1 38 (cc B T i) = ch B T i) ∧ ∀ i, i < t_c T → s'.1 39 i = co B T i := by
            intro v hv
            rw [wI_n (by omega) (by decide)]
            have u2 : Sc s (sI s4 39 i v) := u.i (by decide)
            obtain ⟨s', c1, c2, c3⟩ := ih (i + 1) (sI s4 39 i v) (by omega) (by omega) (u2.1.lex (by decide) (by decide) hl) (by rw [u2.1.1 26 (by decide)]; exact h26) (by rw [u2.1.1 36 (by decide)]; exact ht) (by rw [sI_ne _ (by decide)]; exact k1) (by rw [sI_ne _ (by decide), sI_ne _ (by decide)]; exact k2) (fun j hj => by
              rw [sI_1]
              by_cases z : j = i
              · rw [if_pos ⟨rfl, z⟩, hv, z]
              · rw [if_neg (fun g => z g.2), k3]; exact g3 j (by omega))
            exact ⟨s', c1, u2.tr c2, c3⟩
          by_cases z : fr B T (i + 1) ≤ i
          · rw [if_pos (nI_le z (by omega))]
            exact fin _ (by unfold co; rw [if_neg (by omega)])
          · rw [if_neg (fun y => z ((nI_leI (by omega) (by omega)).mp y))]
            refine fin _ ?_
            have := fr_cc (T := T) hB (i + 1) (by omega)
            unfold co
            rw [k1, if_pos (by omega), nI_s1 this]
        have same : ch B T i = -1 → fr B T (i + 1) = fr B T i → cc B T (i + 1) = cc B T i → ∃ s', (if nI (fr B T i) ≤ nI i then (wI s 39 60 (nI i) (-1) fun s8 => (f_X4_choose_L9 (fun (s35 : Sg) => some ((), s35)) n (s8) (nI (fr B T i)) (nI (i + 1)))) else (wI s 39 60 (nI i) ((s.1 30 11) - 1) fun s8 => (f_X4_choose_L9 (fun (s35 : Sg) => some ((), s35)) n (s8) (nI (fr B T i)) (nI (i + 1))))) = some ((), s') ∧ Sc s s' ∧ s'.1 30 11 = nI (cc B T (t_c T)) ∧ (∀ i, i < t_c T → ch B T i ≠ -1 → s'.1 37 (cc B T i) = nI i ∧ s'.1 38 (cc B T i) = ch B T i) ∧ ∀ i, i < t_c T → s'.1 39 i = co B T i := fun e1 e2 e3 =>
          go s _ (by rw [e2]) Sc.rf (by rw [e3]; exact g1) (fun j hj hc => by
            by_cases z : j = i
            · rw [z] at hc; exact absurd e1 hc
            · exact g2 j (by omega) hc) rfl
        rcases ch_or (T := T) hB i with ⟨e1, e2, e3, e4⟩ | ⟨e0, u, hu, hfu, e1, e2, e3, e4⟩
        · by_cases z : i < fr B T i
          · rw [if_pos (nI_lt z (by omega))]
            exact same e1 e2 e3
          · rw [if_neg (nI_nlt (by omega) (by omega)), rI_n (by omega) (by decide), ht i q, e4 (by omega), if_pos rfl]
            exact same e1 e2 e3
        · rw [if_neg (nI_nlt (by omega) (by omega)), rI_n (by omega) (by decide), ht i q, e1, if_neg (nI_m1 (by omega)), g1, wI_n (by omega) (by decide), rI_n (by omega) (by decide), sI_ne s (by decide), g1, sI_ne s (by decide), ht i q, e1, wI_n (by omega) (by decide), pI_s, sI_ne _ (by decide), sI_ne _ (by decide), g1, nI_1, rI_n (by omega) (by decide), sI_ne _ (by decide), sI_ne _ (by decide), sI_ne _ (by decide), ht i q, e1, rI_n (by omega) (by decide)]
          have v : Sc s (sI (sI (sI s 37 (cc B T i) (nI i)) 38 (cc B T i) (nI u)) 30 11 (nI (cc B T i + 1))) := ((Sc.rf.i (by decide)).i (by decide)).c
          have hx : (sI (sI (sI s 37 (cc B T i) (nI i)) 38 (cc B T i) (nI u)) 30 11 (nI (cc B T i + 1))).1 6 u = nI (b_n B u) := ((v.1.lex (by decide) (by decide) hl).2.2.1 u hu).1
          refine go _ _ (by rw [hx, nI_add, e3]) v ?_ ?_ ?_
          · rw [sI_1, if_pos ⟨rfl, rfl⟩, e4]
          · intro j hj hc
            rw [sI_ne _ (by decide), sI_ne _ (by decide), sI_1, sI_ne _ (by decide), sI_1]
            by_cases z : j = i
            · rw [z, if_pos ⟨rfl, rfl⟩, if_pos ⟨rfl, rfl⟩, e2]
              exact ⟨rfl, rfl⟩
            · have hlt := cc_lt (B := B) (T := T) (show j < i by omega) hc
              rw [if_neg (by omega), if_neg (by omega)]
              exact g2 j (by omega) hc
          · rw [sI_ne _ (by decide), sI_ne _ (by decide), sI_ne _ (by decide)]
      · have : i = t_c T := by omega
        subst this
        rw [if_pos (nI_le (Nat.le_refl _) (by omega))]
        exact ⟨s, rfl, Sc.rf, g1, g2, g3⟩
  unfold f_X4_choose
  rw [pI_s]
  have u : Sc s (sI s 30 11 0) := Sc.rf.c
  obtain ⟨s', c1, c2, c3⟩ := key fu 0 (sI s 30 11 0) (Nat.zero_le _) (by unfold fu; omega) (u.1.lex (by decide) (by decide) hl) (by rw [u.1.1 26 (by decide)]; exact h26) (by rw [u.1.1 36 (by decide)]; exact ht) (by rw [sI_1, if_pos ⟨rfl, rfl⟩]; rfl) (fun j hj => absurd hj (Nat.not_lt_zero j)) (fun j hj => absurd hj (Nat.not_lt_zero j))
  exact ⟨s', c1, u.tr c2, c3⟩
end CH
