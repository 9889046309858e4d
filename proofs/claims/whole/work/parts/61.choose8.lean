/-! choosing: the reference -/
def Sy (i : Nat) (s s' : Sg) : Prop := Sm [51, 52, 53] [] s s' ∧ ∀ j, j ≠ i → s'.1 51 j = s.1 51 j ∧ s'.1 52 j = s.1 52 j ∧ s'.1 53 j = s.1 53 j
theorem Sy.rf {i : Nat} {s : Sg} : Sy i s s := ⟨Sm.rf, fun _ _ => ⟨rfl, rfl, rfl⟩⟩
theorem Sy.tr {i : Nat} {a b c : Sg} (h1 : Sy i a b) (h2 : Sy i b c) : Sy i a c := ⟨h1.1.tr h2.1, fun j hj => ⟨((h2.2 j hj).1).trans (h1.2 j hj).1, ((h2.2 j hj).2.1).trans (h1.2 j hj).2.1, ((h2.2 j hj).2.2).trans (h1.2 j hj).2.2⟩⟩
theorem Sy.i {i k : Nat} {a b : Sg} {v : Int32} (h : Sy i a b) (hk : k = 51 ∨ k = 52 ∨ k = 53) : Sy i a (sI b k i v) := ⟨h.1.i (by rcases hk with rfl | rfl | rfl <;> decide), fun j hj => by
  rw [sI_1, sI_1, sI_1, if_neg (fun z => hj z.2), if_neg (fun z => hj z.2), if_neg (fun z => hj z.2)]
  exact h.2 j hj⟩
theorem Sm.bk {L K : List Nat} {a b : Sg} {B : Bk} (u : Sm L K a b) (hL : 44 ∉ L) (h : bookP (a.1 44) B) : bookP (b.1 44) B := by rw [u.1 44 hL]; exact h
theorem Sm.tx {L K : List Nat} {a b : Sg} {T : Tx} (u : Sm L K a b) (hL : 43 ∉ L ∧ 48 ∉ L) (h : txR a T) : txR b T := by
  unfold txR
  rw [u.1 43 hL.1, u.1 48 hL.2]
  exact h
section C8
variable {B : Bk} {T : Tx}
def row8 (s : Sg) (i : Nat) (p : Nat × Nat × Int32) : Prop := s.1 51 i = nI p.1 ∧ s.1 52 i = nI p.2.1 ∧ s.1 53 i = p.2.2
theorem choose8_L74 (hB : Bok B) (hT : Tok T) {i m : Nat} (hi : i < t_c T) (hm : 1 ≤ m ∧ m ≤ 4) {W F : Nat → Nat} (hW : ∀ j, W j ≤ 2160) (hF : ∀ j, F j ≤ 60) (kk : Sg → Option (Unit × Sg)) : ∀ n t s p, t ≤ b_tc B → b_tc B < n + t → bookP (s.1 44) B → txR s T → (∀ j, i < j → j ≤ t_c T → s.1 51 j = nI (W j) ∧ s.1 52 j = nI (F j)) → Best (W (i + 1)) (F (i + 1)) (woF B W i) (feF B F i) (b_n B) (fun u => (fB B T u i = true ∧ u < b_tc B) ∧ (m < b_n B u ∨ (b_n B u = m ∧ u < t))) p → row8 s i p → ∃ s' p', f_X8_choose_L74 kk (nI i) (nI m) n s (nI t) = kk s' ∧ Sy i s s' ∧ Best (W (i + 1)) (F (i + 1)) (woF B W i) (feF B F i) (b_n B) (fun u => (fB B T u i = true ∧ u < b_tc B) ∧ m ≤ b_n B u) p' ∧ row8 s' i p' := by
  have h8 := hB.1
  have h60 := hT.1
  intro n
  induction n with
  | zero => intro t s p h1 h2; omega
  | succ n ih =>
    intro t s p h1 h2 hb htx hr hp hrow
    obtain ⟨r1, r2, r3⟩ := hrow
    have hbd : p.1 ≤ 2196 ∧ p.2.1 ≤ 61 := by
      rcases hp with ⟨e, -⟩ | ⟨v, -, ⟨⟨-, hv⟩, -⟩, e, -⟩
      · rw [e]
        have g1 := hW (i + 1)
        have g2 := hF (i + 1)
        exact ⟨by show W (i + 1) ≤ 2196; omega, by show F (i + 1) ≤ 61; omega⟩
      · rw [e]
        have g1 := hW (i + b_n B v)
        have g2 := hF (i + b_n B v)
        have g3 := we_le hB hv
        exact ⟨by show b_we B v * b_n B v + W (i + b_n B v) ≤ 2196; omega, by show 1 + F (i + b_n B v) ≤ 61; omega⟩
    obtain ⟨bd1, bd2⟩ := hbd
    rw [f_X8_choose_L74, show rI s 44 475 0 = rI (α := Unit × Sg) s 44 475 (nI 0) from rfl, rI_n (by omega) (by decide), hb.1]
    rcases Nat.lt_or_ge t (b_tc B) with q | q
    · rw [if_neg (fun z => by have := (nI_leI (by omega) (by omega)).mp z; omega), termAt8_s, cP_s, nI_p0, rI_n (by omega) (by decide), (hb.2.2.1 t q).1]
      have hn := (hB.2.2.1 t q).1
      have skip : (¬ (b_n B t = m ∧ fB B T t i = true)) → ∃ s' p', f_X8_choose_L74 kk (nI i) (nI m) n s (nI (t + 1)) = kk s' ∧ Sy i s s' ∧ Best (W (i + 1)) (F (i + 1)) (woF B W i) (feF B F i) (b_n B) (fun u => (fB B T u i = true ∧ u < b_tc B) ∧ m ≤ b_n B u) p' ∧ row8 s' i p' := fun hno =>
        ih (t + 1) s p (by omega) (by omega) hb htx hr (Best_c hp (fun u => by
          constructor
          · rintro ⟨⟨g1, g2⟩, g3 | ⟨g3, g4⟩⟩
            · exact ⟨⟨g1, g2⟩, Or.inl g3⟩
            · refine ⟨⟨g1, g2⟩, Or.inr ⟨g3, ?_⟩⟩
              by_cases y : u = t
              · rw [y] at g1 g3; exact absurd ⟨g3, g1⟩ hno
              · omega
          · rintro ⟨⟨g1, g2⟩, g3 | ⟨g3, g4⟩⟩
            · exact ⟨⟨g1, g2⟩, Or.inl g3⟩
            · exact ⟨⟨g1, g2⟩, Or.inr ⟨g3, by omega⟩⟩)) ⟨r1, r2, r3⟩
      by_cases zn : b_n B t = m
      · rw [if_pos (by rw [zn]), isFound8_s htx hT hb hB (by omega) q, cP_s]
        by_cases z : fB B T t i = true
        · have hz := (fB_iff.mp z).1
          rw [zn] at hz
          have hw := we_le hB q
          have hw1 := hW (i + m)
          have hf1 := hF (i + m)
          rw [bI_t z, if_neg (by decide), worthOf8_s hb hB q, cP_s, nI_add, rI_n (by omega) (by decide), rI_n (by omega) (by decide), rI_n (by omega) (by decide), (hr (i + m) (by omega) hz).1, (hr (i + m) (by omega) hz).2, r1, nI_add, n1_add, nI_1]
          simp only [jn_s]
          have ew : woF B W i t = b_we B t * b_n B t + W (i + m) := by unfold woF; rw [zn]
          have ef : feF B F i t = 1 + F (i + m) := by unfold feF; rw [zn]
          have hQ : ∀ u, ((fB B T u i = true ∧ u < b_tc B) ∧ (m < b_n B u ∨ (b_n B u = m ∧ u < t + 1))) ↔ ((fB B T u i = true ∧ u < b_tc B) ∧ (m < b_n B u ∨ (b_n B u = m ∧ u < t))) ∨ u = t := by
            intro u
            constructor
            · rintro ⟨⟨g1, g2⟩, g3 | ⟨g3, g4⟩⟩
              · exact Or.inl ⟨⟨g1, g2⟩, Or.inl g3⟩
              · by_cases y : u = t
                · exact Or.inr y
                · exact Or.inl ⟨⟨g1, g2⟩, Or.inr ⟨g3, by omega⟩⟩
            · rintro (⟨⟨g1, g2⟩, g3 | ⟨g3, g4⟩⟩ | g)
              · exact ⟨⟨g1, g2⟩, Or.inl g3⟩
              · exact ⟨⟨g1, g2⟩, Or.inr ⟨g3, by omega⟩⟩
              · rw [g]; exact ⟨⟨z, q⟩, Or.inr ⟨zn, by omega⟩⟩
          have take : (p.1 < woF B W i t ∨ (woF B W i t = p.1 ∧ (feF B F i t < p.2.1 ∨ (feF B F i t = p.2.1 ∧ p.2.2 = -1)))) → ∃ s' p', (wI s 51 65 (nI i) (nI (b_we B t * b_n B t + W (i + m))) fun s45 => (wI s45 52 65 (nI i) (nI (1 + F (i + m))) fun s48 => (wI s48 53 60 (nI i) (nI t) fun s51 => (f_X8_choose_L74 kk (nI i) (nI m) n (s51) (nI (t + 1)))))) = kk s' ∧ Sy i s s' ∧ Best (W (i + 1)) (F (i + 1)) (woF B W i) (feF B F i) (b_n B) (fun u => (fB B T u i = true ∧ u < b_tc B) ∧ m ≤ b_n B u) p' ∧ row8 s' i p' := by
            intro bt
            rw [wI_n (by omega) (by decide), wI_n (by omega) (by decide), wI_n (by omega) (by decide)]
            have u : Sy i s (sI (sI (sI s 51 i (nI (b_we B t * b_n B t + W (i + m)))) 52 i (nI (1 + F (i + m)))) 53 i (nI t)) := ((Sy.rf.i (by decide)).i (by decide)).i (by decide)
            obtain ⟨s', p', d1, d2, d3⟩ := ih (t + 1) _ (woF B W i t, feF B F i t, nI t) (by omega) (by omega) (u.1.bk (by decide) hb) (u.1.tx (by decide) htx) (fun j h3 h4 => by rw [(u.2 j (by omega)).1, (u.2 j (by omega)).2.1]; exact hr j h3 h4) (Best_take hp hQ (by omega) (fun e => by
              rw [e] at bt
              unfold beats
              rcases bt with g | ⟨g1, g2 | ⟨g2, -⟩⟩
              · exact Or.inl g
              · exact Or.inr ⟨g1, Nat.le_of_lt g2⟩
              · exact Or.inr ⟨g1, Nat.le_of_eq g2⟩) (fun v v8 hv e => by
              rw [e] at bt
              unfold geT
              rcases bt with g | ⟨g1, g2 | ⟨g2, g3⟩⟩
              · exact Or.inl g
              · exact Or.inr ⟨g1.symm, Or.inl g2⟩
              · exact absurd g3 (nI_m1 (by omega)))) ⟨by rw [sI_ne _ (by decide), sI_ne _ (by decide), sI_1, if_pos ⟨rfl, rfl⟩, ew], by rw [sI_ne _ (by decide), sI_1, if_pos ⟨rfl, rfl⟩, ef], by rw [sI_1, if_pos ⟨rfl, rfl⟩]⟩
            exact ⟨s', p', d1, u.tr d2, d3⟩
          have keep : (¬ (p.1 < woF B W i t ∨ (woF B W i t = p.1 ∧ (feF B F i t < p.2.1 ∨ (feF B F i t = p.2.1 ∧ p.2.2 = -1))))) → ∃ s' p', f_X8_choose_L74 kk (nI i) (nI m) n s (nI (t + 1)) = kk s' ∧ Sy i s s' ∧ Best (W (i + 1)) (F (i + 1)) (woF B W i) (feF B F i) (b_n B) (fun u => (fB B T u i = true ∧ u < b_tc B) ∧ m ≤ b_n B u) p' ∧ row8 s' i p' := by
            intro bt
            refine ih (t + 1) s p (by omega) (by omega) hb htx hr (Best_keep hp hQ (fun e g => bt ?_) (fun v v8 hv e => ?_)) ⟨r1, r2, r3⟩
            · rw [e]
              unfold beats at g
              rcases g with g | ⟨g1, g2⟩
              · exact Or.inl g
              · rcases Nat.lt_or_ge (feF B F i t) (F (i + 1)) with y | y
                · exact Or.inr ⟨g1, Or.inl y⟩
                · exact Or.inr ⟨g1, Or.inr ⟨Nat.le_antisymm g2 y, rfl⟩⟩
            · rw [e] at bt
              have bt : ¬ (woF B W i v < woF B W i t ∨ (woF B W i t = woF B W i v ∧ (feF B F i t < feF B F i v ∨ (feF B F i t = feF B F i v ∧ nI v = -1)))) := bt
              have hv2 := hv.2
              unfold geT
              rcases Nat.lt_or_ge (woF B W i t) (woF B W i v) with y | y
              · exact Or.inl y
              · have e1 : woF B W i t = woF B W i v := Nat.le_antisymm (Nat.le_of_not_lt (fun g => bt (Or.inl g))) y
                rcases Nat.lt_or_ge (feF B F i v) (feF B F i t) with x | x
                · exact Or.inr ⟨e1, Or.inl x⟩
                · have e2 : feF B F i v = feF B F i t := Nat.le_antisymm (Nat.le_of_not_lt (fun g => bt (Or.inr ⟨e1, Or.inl g⟩))) x
                  exact Or.inr ⟨e1, Or.inr ⟨e2, by omega⟩⟩
          rw [← ew] at take ⊢
          rw [← ef] at take ⊢
          have b3 : woF B W i t < 2 ^ 31 := by rw [ew]; omega
          have b4 : feF B F i t < 2 ^ 31 := by rw [ef]; omega
          by_cases c1 : p.1 < woF B W i t
          · rw [if_pos (nI_lt c1 b3), if_neg (by decide)]
            exact take (Or.inl c1)
          · rw [if_neg (nI_nlt (by omega) (by omega)), rI_n (by omega) (by decide), r1]
            by_cases c2 : woF B W i t = p.1
            · rw [if_pos (by rw [c2]), rI_n (by omega) (by decide), r2]
              by_cases c3 : feF B F i t < p.2.1
              · rw [if_pos (nI_lt c3 (by omega)), if_neg (by decide)]
                exact take (Or.inr ⟨c2, Or.inl c3⟩)
              · rw [if_neg (nI_nlt (by omega) b4), rI_n (by omega) (by decide), r2]
                by_cases c4 : feF B F i t = p.2.1
                · rw [if_pos (by rw [c4]), rI_n (by omega) (by decide), r3]
                  by_cases c5 : p.2.2 = -1
                  · rw [if_pos c5, if_neg (by decide)]
                    exact take (Or.inr ⟨c2, Or.inr ⟨c4, c5⟩⟩)
                  · rw [if_neg c5, if_pos trivial]
                    refine keep ?_
                    rintro (g | ⟨-, g | ⟨-, g⟩⟩)
                    · exact c1 g
                    · exact c3 g
                    · exact c5 g
                · rw [if_neg (fun g => c4 ((nI_eq b4 (by omega)).mp g)), if_pos trivial]
                  refine keep ?_
                  rintro (g | ⟨-, g | ⟨g, -⟩⟩)
                  · exact c1 g
                  · exact c3 g
                  · exact c4 g
            · rw [if_neg (fun g => c2 ((nI_eq b3 (by omega)).mp g)), if_pos trivial]
              refine keep ?_
              rintro (g | ⟨g, -⟩)
              · exact c1 g
              · exact c2 g
        · rw [bI_f z, if_pos rfl, nI_1]
          exact skip (fun g => z g.2)
      · rw [if_neg (fun g => zn ((nI_eq (by omega) (by omega)).mp g)), nI_1]
        exact skip (fun g => zn g.1)
    · have : t = b_tc B := by omega
      subst this
      rw [if_pos (nI_le (Nat.le_refl _) (by omega))]
      refine ⟨s, p, rfl, Sy.rf, Best_c hp (fun u => ?_), r1, r2, r3⟩
      constructor
      · rintro ⟨⟨g1, g2⟩, g3⟩
        exact ⟨⟨g1, g2⟩, by omega⟩
      · rintro ⟨⟨g1, g2⟩, g3⟩
        exact ⟨⟨g1, g2⟩, by omega⟩
theorem choose8_L68 (hB : Bok B) (hT : Tok T) {i : Nat} (hi : i < t_c T) {W F : Nat → Nat} (hW : ∀ j, W j ≤ 2160) (hF : ∀ j, F j ≤ 60) (kk : Sg → Option (Unit × Sg)) : ∀ n m s p, m ≤ 4 → m < n → bookP (s.1 44) B → txR s T → (∀ j, i < j → j ≤ t_c T → s.1 51 j = nI (W j) ∧ s.1 52 j = nI (F j)) → Best (W (i + 1)) (F (i + 1)) (woF B W i) (feF B F i) (b_n B) (fun u => (fB B T u i = true ∧ u < b_tc B) ∧ m < b_n B u) p → row8 s i p → ∃ s' p', f_X8_choose_L68 kk (nI i) n s (nI m) = kk s' ∧ Sy i s s' ∧ Best (W (i + 1)) (F (i + 1)) (woF B W i) (feF B F i) (b_n B) (fun u => fB B T u i = true ∧ u < b_tc B) p' ∧ row8 s' i p' := by
  have h8 := hB.1
  intro n
  induction n with
  | zero => intro m s p h1 h2; omega
  | succ n ih =>
    intro m s p h1 h2 hb htx hr hp hrow
    rw [f_X8_choose_L68]
    by_cases z : m = 0
    · subst z
      rw [if_pos (by decide)]
      refine ⟨s, p, rfl, Sy.rf, Best_c hp (fun u => ⟨fun g => ⟨g, ?_⟩, fun g => g.1⟩), hrow⟩
      have := (hB.2.2.1 u g.2).1
      omega
    · rw [if_neg (nI_nle (by omega) (by omega))]
      obtain ⟨s1, p1, d1, d2, d3, d4⟩ := choose8_L74 hB hT hi (m := m) (by omega) hW hF (fun (s75 : Sg) => f_X8_choose_L68 kk (nI i) n (s75) ((nI m + (-1)))) fu 0 s p (Nat.zero_le _) (by unfold fu; omega) hb htx hr (Best_c hp (fun u => ⟨fun g => ⟨g.1, by have := g.2; omega⟩, fun g => ⟨g.1, Or.inl g.2⟩⟩)) hrow
      have d1 : f_X8_choose_L74 (fun (s75 : Sg) => f_X8_choose_L68 kk (nI i) n (s75) ((nI m + (-1)))) (nI i) (nI m) fu s 0 = f_X8_choose_L68 kk (nI i) n s1 (nI m + (-1)) := d1
      rw [d1, add_m1, nI_s1 (by omega)]
      obtain ⟨s2, p2, e1, e2, e3⟩ := ih (m - 1) s1 p1 (by omega) (by omega) (d2.1.bk (by decide) hb) (d2.1.tx (by decide) htx) (fun j h3 h4 => by rw [(d2.2 j (by omega)).1, (d2.2 j (by omega)).2.1]; exact hr j h3 h4) (Best_c d3 (fun u => ⟨fun g => ⟨g.1, by have := g.2; omega⟩, fun g => ⟨g.1, by have := g.2; omega⟩⟩)) d4
      exact ⟨s2, p2, e1, d2.tr e2, e3⟩
theorem choose8_L27 (hB : Bok B) (hT : Tok T) (kk : Sg → Option (Unit × Sg)) : ∀ n m s, m ≤ t_c T → m < n → bookP (s.1 44) B → txR s T → (∀ j, m ≤ j → j ≤ t_c T → s.1 51 j = nI ((dp B T (t_c T - m)).1 j) ∧ s.1 52 j = nI ((dp B T (t_c T - m)).2.1 j)) → (∀ j, m ≤ j → j < t_c T → s.1 53 j = (dp B T (t_c T - m)).2.2 j) → ∃ s', f_X8_choose_L27 kk n s (nI m - 1) = kk s' ∧ Sm [51, 52, 53] [] s s' ∧ (∀ i, i ≤ t_c T → s'.1 51 i = nI (wth B T i)) ∧ ∀ i, i < t_c T → s'.1 53 i = tk B T i := by
  have h8 := hB.1
  have h60 := hT.1
  intro n
  induction n with
  | zero => intro m s h1 h2; omega
  | succ n ih =>
    intro m s h1 h2 hb htx hr ht
    rw [f_X8_choose_L27]
    by_cases z : m = 0
    · subst z
      rw [if_pos (show nI 0 - 1 < 0 by decide)]
      exact ⟨s, rfl, Sm.rf, fun i hi => (hr i (Nat.zero_le _) hi).1, fun i hi => ht i (Nat.zero_le _) hi⟩
    · have hd := dp_ok (T := T) hB (t_c T - m)
      have e0 : t_c T - (m - 1) = (t_c T - m) + 1 := by omega
      have e1 : t_c T - ((t_c T - m) + 1) = m - 1 := by omega
      have e2 : m - 1 + 1 = m := by omega
      rw [nI_s1 (by omega), if_neg (nI_pos (by omega)), wI_n (by omega) (by decide), nI_1, e2, rI_n (by omega) (by decide), wI_n (by omega) (by decide), rI_n (by omega) (by decide), wI_n (by omega) (by decide), sI_ne s (by decide), (hr m (Nat.le_refl _) h1).1, sI_ne _ (by decide), sI_ne s (by decide), (hr m (Nat.le_refl _) h1).2]
      have u : Sy (m - 1) s (sI (sI (sI s 53 (m - 1) (-1)) 51 (m - 1) (nI ((dp B T (t_c T - m)).1 m))) 52 (m - 1) (nI ((dp B T (t_c T - m)).2.1 m))) := ((Sy.rf.i (by decide)).i (by decide)).i (by decide)
      have hW : ∀ j, (dp B T (t_c T - m)).1 j ≤ 2160 := fun j => by have := (hd j).1; omega
      have hF : ∀ j, (dp B T (t_c T - m)).2.1 j ≤ 60 := fun j => by have := (hd j).2.1; omega
      obtain ⟨s', p', d1, d2, d3, d4, d5, d6⟩ := choose8_L68 hB hT (i := m - 1) (by omega) hW hF (fun (s77 : Sg) => f_X8_choose_L27 kk n (s77) ((nI (m - 1) + (-1)))) fu 4 _ ((dp B T (t_c T - m)).1 m, (dp B T (t_c T - m)).2.1 m, -1) (Nat.le_refl _) (by decide) (u.1.bk (by decide) hb) (u.1.tx (by decide) htx) (fun j h3 h4 => by rw [(u.2 j (by omega)).1, (u.2 j (by omega)).2.1]; exact hr j (by omega) h4) (Or.inl ⟨by rw [e2], fun v hv => by
        have := (hB.2.2.1 v hv.1.2).1
        have := hv.2
        omega⟩) ⟨by rw [sI_ne _ (by decide), sI_1, if_pos ⟨rfl, rfl⟩], by rw [sI_1, if_pos ⟨rfl, rfl⟩], by rw [sI_ne _ (by decide), sI_ne _ (by decide), sI_1, if_pos ⟨rfl, rfl⟩]⟩
      have d1 : f_X8_choose_L68 (fun (s77 : Sg) => f_X8_choose_L27 kk n (s77) ((nI (m - 1) + (-1)))) (nI (m - 1)) fu (sI (sI (sI s 53 (m - 1) (-1)) 51 (m - 1) (nI ((dp B T (t_c T - m)).1 m))) 52 (m - 1) (nI ((dp B T (t_c T - m)).2.1 m))) 4 = f_X8_choose_L27 kk n s' (nI (m - 1) + (-1)) := d1
      have hu := Best_u d3 (stp_best (T := T) hB (W := (dp B T (t_c T - m)).1) (F := (dp B T (t_c T - m)).2.1) (i := m - 1) (b_tc B) (Nat.le_refl _))
      subst hu
      rw [d1, add_m1]
      have v := u.tr d2
      have q1 : ∀ j, (dp B T (t_c T - (m - 1))).1 j = if j = m - 1 then (stp B T (dp B T (t_c T - m)).1 (dp B T (t_c T - m)).2.1 (m - 1) (b_tc B)).1 else (dp B T (t_c T - m)).1 j := fun j => by rw [e0, dp, e1]
      have q2 : ∀ j, (dp B T (t_c T - (m - 1))).2.1 j = if j = m - 1 then (stp B T (dp B T (t_c T - m)).1 (dp B T (t_c T - m)).2.1 (m - 1) (b_tc B)).2.1 else (dp B T (t_c T - m)).2.1 j := fun j => by rw [e0, dp, e1]
      have q3 : ∀ j, (dp B T (t_c T - (m - 1))).2.2 j = if j = m - 1 then (stp B T (dp B T (t_c T - m)).1 (dp B T (t_c T - m)).2.1 (m - 1) (b_tc B)).2.2 else (dp B T (t_c T - m)).2.2 j := fun j => by rw [e0, dp, e1]
      obtain ⟨s2, c1, c2, c3⟩ := ih (m - 1) s' (by omega) (by omega) (v.1.bk (by decide) hb) (v.1.tx (by decide) htx) (fun j h3 h4 => by
        rw [q1, q2]
        by_cases y : j = m - 1
        · rw [if_pos y, if_pos y, y]; exact ⟨d4, d5⟩
        · rw [if_neg y, if_neg y, (v.2 j y).1, (v.2 j y).2.1]; exact hr j (by omega) h4) (fun j h3 h4 => by
        rw [q3]
        by_cases y : j = m - 1
        · rw [if_pos y, y]; exact d6
        · rw [if_neg y, (v.2 j y).2.2]; exact ht j (by omega) h4)
      exact ⟨s2, c1, v.1.tr c2, c3⟩
theorem choose8_L286 {i m : Nat} (him : i + m ≤ 60) (kk : Sg → Option (Unit × Sg)) : ∀ n k s, k ≤ m → m < n + k → ∃ s', f_X8_choose_L286 kk (nI i) (nI m) n s (nI k) = kk s' ∧ Sm [53] [] s s' ∧ ∀ j, s'.1 53 j = if i + k ≤ j ∧ j < i + m then -1 else s.1 53 j := by
  intro n
  induction n with
  | zero => intro k s h1 h2; omega
  | succ n ih =>
    intro k s h1 h2
    rw [f_X8_choose_L286]
    rcases Nat.lt_or_ge k m with q | q
    · rw [if_neg (fun z => by have := (nI_leI (by omega) (by omega)).mp z; omega), nI_add, wI_n (by omega) (by decide), nI_1]
      obtain ⟨s', d1, d2, d3⟩ := ih (k + 1) (sI s 53 (i + k) (-1)) (by omega) (by omega)
      refine ⟨s', d1, (Sm.rf.i (by decide)).tr d2, fun j => ?_⟩
      rw [d3, sI_1]
      by_cases y : j = i + k
      · rw [if_neg (by omega), if_pos ⟨rfl, y⟩, if_pos (by omega)]
      · by_cases w : i + k ≤ j ∧ j < i + m
        · rw [if_pos (by omega), if_pos w]
        · rw [if_neg (by omega), if_neg (fun g => y g.2), if_neg w]
    · have : k = m := by omega
      subst this
      rw [if_pos (nI_le (Nat.le_refl _) (by omega))]
      exact ⟨s, rfl, Sm.rf, fun j => by rw [if_neg (by omega)]⟩
/-- the words behind the first of what is chosen -/
theorem fr_in {i n : Nat} (h : fr B T (i + 1) = i + n) : ∀ d, i + 1 + d ≤ i + n → fr B T (i + 1 + d) = i + n := by
  intro d
  induction d with
  | zero => intro _; exact h
  | succ d ih =>
    intro hd
    have h1 := ih (by omega)
    have := (ch_A (B := B) (T := T) (i := i + 1 + d) (by omega)).2.1
    rw [show i + 1 + (d + 1) = i + 1 + d + 1 by omega, this, h1]
theorem ch_in {i n j : Nat} (h : fr B T (i + 1) = i + n) (h1 : i + 1 ≤ j) (h2 : j < i + n) : ch B T j = -1 := by
  have := fr_in h (j - (i + 1)) (by omega)
  rw [show i + 1 + (j - (i + 1)) = j by omega] at this
  exact (ch_A (by omega)).1
theorem choose8_L245 (hB : Bok B) (hT : Tok T) : ∀ n i s, i ≤ t_c T → t_c T < n + i → bookP (s.1 44) B → txR s T → fr B T i ≤ i → (∀ j, j < i → s.1 53 j = ch B T j) → (∀ j, i ≤ j → j < t_c T → s.1 53 j = tk B T j) → ∃ s', f_X8_choose_L245 (fun (s100 : Sg) => some ((), s100)) n s (nI i) = some ((), s') ∧ Sm [53] [] s s' ∧ ∀ j, j < t_c T → s'.1 53 j = ch B T j := by
  have h8 := hB.1
  have h60 := hT.1
  intro n
  induction n with
  | zero => intro i s h1 h2; omega
  | succ n ih =>
    intro i s h1 h2 hb htx hf hc ht
    have e6 : s.1 43 6 = nI (t_c T) := htx.1
    rw [f_X8_choose_L245, e6]
    rcases Nat.lt_or_ge i (t_c T) with q | q
    · rw [if_neg (fun z => by have := (nI_leI (by omega) (by omega)).mp z; omega), rI_n (by omega) (by decide), ht i (Nat.le_refl _) q]
      simp only [jn_s]
      rcases ch_or (T := T) hB i with ⟨g1, g2, g3, g4⟩ | ⟨g0, u, hu, hfu, g1, g2, g3, g4⟩
      · rw [g4 hf, if_pos rfl]
        obtain ⟨s', d1, d2, d3⟩ := choose8_L286 (i := i) (m := 1) (by omega) (fun (s89 : Sg) => f_X8_choose_L245 (fun (s100 : Sg) => some ((), s100)) n (s89) (nI i + 1)) fu 1 s (by omega) (by decide)
        have d1 : f_X8_choose_L286 (fun (s89 : Sg) => f_X8_choose_L245 (fun (s100 : Sg) => some ((), s100)) n (s89) (nI i + 1)) (nI i) 1 fu s 1 = f_X8_choose_L245 (fun (s100 : Sg) => some ((), s100)) n s' (nI i + 1) := d1
        rw [d1, nI_1]
        have same : ∀ j, s'.1 53 j = s.1 53 j := fun j => by rw [d3, if_neg (by omega)]
        obtain ⟨s2, c1, c2, c3⟩ := ih (i + 1) s' (by omega) (by omega) (d2.bk (by decide) hb) (d2.tx (by decide) htx) (by omega) (fun j hj => by
          rw [same]
          by_cases y : j = i
          · rw [y, ht i (Nat.le_refl _) q, g4 hf, g1]
          · exact hc j (by omega)) (fun j h3 h4 => by rw [same]; exact ht j (by omega) h4)
        exact ⟨s2, c1, d2.tr c2, c3⟩
      · have hn := (hB.2.2.1 u hu).1
        have hz := hfu.1
        rw [g1, if_neg (nI_m1 (by omega)), rI_n (by omega) (by decide), ht i (Nat.le_refl _) q, g1, termAt8_s, cP_s, nI_p0, rI_n (by omega) (by decide), (hb.2.2.1 u hu).1]
        obtain ⟨s', d1, d2, d3⟩ := choose8_L286 (i := i) (m := b_n B u) (by omega) (fun (s89 : Sg) => f_X8_choose_L245 (fun (s100 : Sg) => some ((), s100)) n (s89) (nI i + nI (b_n B u))) fu 1 s (by omega) (by unfold fu; omega)
        have d1 : f_X8_choose_L286 (fun (s89 : Sg) => f_X8_choose_L245 (fun (s100 : Sg) => some ((), s100)) n (s89) (nI i + nI (b_n B u))) (nI i) (nI (b_n B u)) fu s 1 = f_X8_choose_L245 (fun (s100 : Sg) => some ((), s100)) n s' (nI i + nI (b_n B u)) := d1
        rw [d1, nI_add]
        have hfr := fr_in g3 (b_n B u - 1) (by omega)
        rw [show i + 1 + (b_n B u - 1) = i + b_n B u by omega] at hfr
        obtain ⟨s2, c1, c2, c3⟩ := ih (i + b_n B u) s' hz (by omega) (d2.bk (by decide) hb) (d2.tx (by decide) htx) (by omega) (fun j hj => by
          rw [d3]
          by_cases y : i + 1 ≤ j ∧ j < i + b_n B u
          · rw [if_pos y, ch_in g3 y.1 y.2]
          · rw [if_neg y]
            by_cases w : j = i
            · rw [w, ht i (Nat.le_refl _) q, g1, g2]
            · exact hc j (by omega)) (fun j h3 h4 => by rw [d3, if_neg (by omega)]; exact ht j (by omega) h4)
        exact ⟨s2, c1, d2.tr c2, c3⟩
    · have : i = t_c T := by omega
      subst this
      rw [if_pos (nI_le (Nat.le_refl _) (by omega))]
      exact ⟨s, rfl, Sm.rf, hc⟩
theorem choose8_s {s : Sg} (hB : Bok B) (hT : Tok T) (hb : bookP (s.1 44) B) (htx : txR s T) : ∃ s', f_X8_choose s = some ((), s') ∧ Sm [51, 52, 53] [] s s' ∧ s'.1 51 0 = nI (wth B T 0) ∧ ∀ j, j < t_c T → s'.1 53 j = ch B T j := by
  have h60 := hT.1
  have e6 : s.1 43 6 = nI (t_c T) := htx.1
  unfold f_X8_choose
  rw [e6, wI_n (by omega) (by decide), sI_ne s (by decide), e6, wI_n (by omega) (by decide), sI_ne _ (by decide), sI_ne s (by decide), e6]
  have u : Sm [51, 52, 53] [] s (sI (sI s 51 (t_c T) 0) 52 (t_c T) 0) := (Sm.rf.i (by decide)).i (by decide)
  obtain ⟨s1, c1, c2, c3, c4⟩ := choose8_L27 hB hT (fun (s79 : Sg) => f_X8_choose_L245 (fun (s100 : Sg) => some ((), s100)) fu s79 0) fu (t_c T) (sI (sI s 51 (t_c T) 0) 52 (t_c T) 0) (Nat.le_refl _) (by unfold fu; omega) (u.bk (by decide) hb) (u.tx (by decide) htx) (fun j h3 h4 => by
    have : j = t_c T := by omega
    subst this
    rw [Nat.sub_self, sI_ne _ (by decide), sI_1, if_pos ⟨rfl, rfl⟩, sI_1, if_pos ⟨rfl, rfl⟩]
    exact ⟨rfl, rfl⟩) (fun j h3 h4 => by omega)
  have v := u.tr c2
  obtain ⟨s2, d1, d2, d3⟩ := choose8_L245 hB hT fu 0 s1 (Nat.zero_le _) (by unfold fu; omega) (v.bk (by decide) hb) (v.tx (by decide) htx) (Nat.le_refl _) (fun j hj => absurd hj (Nat.not_lt_zero j)) (fun j _ h4 => c4 j h4)
  refine ⟨s2, ?_, v.tr (d2.up (by decide) (by decide)), ?_, d3⟩
  · rw [c1]; exact d1
  · rw [d2.1 51 (by decide)]; exact c3 0 (Nat.zero_le _)
theorem InvR.c8 {a b : Sg} {M : Ms} (h : InvR a M) (u : Sm [51, 52, 53] [] a b) : InvR b M := by
  unfold InvR
  rw [u.1 43 (by decide), u.1 44 (by decide), u.1 45 (by decide), u.1 46 (by decide), u.1 47 (by decide), u.1 48 (by decide)]
  exact h
end C8
