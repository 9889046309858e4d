/-! a term goes -/
def shN {α : Type} (t : Nat) (f : Nat → α) : Nat → α := fun x => if x < t then f x else f (x + 1)
def dcP (t : Nat) (p : Int32) : Int32 := if p ≤ nI t then p else p - 1
def shT (B : Bk) (t : Nat) : Bk := (b_tc B - 1, b_ec B, shN t (b_n B), shN t (b_w B), shN t (b_we B), shN t (b_be B), shN t (b_pr B), b_en B)
def rmT (B : Bk) (t : Nat) : Bk := (b_tc B - 1, b_ec B, shN t (b_n B), shN t (b_w B), shN t (b_we B), shN t (b_be B), fun x => dcP t (shN t (b_pr B) x), b_en B)
theorem rmT_ok {B : Bk} {t : Nat} (hB : Bok B) (ht : t < b_tc B) (hp : ∀ u, u < b_tc B → ¬ b_pr B u = nI t) : Bok (rmT B t) := by
  have h8 := hB.1
  refine ⟨by show b_tc B - 1 ≤ 8; omega, hB.2.1, fun x hx => ?_, hB.2.2.2⟩
  have hx : x < b_tc B - 1 := hx
  have key : ∀ y, y < b_tc B → (y = x ∧ x < t ∨ y = x + 1 ∧ ¬ x < t) → Tmok (rmT B t) x := by
    intro y hy hyx
    have e : ∀ {α : Type} (f : Nat → α), shN t f x = f y := by
      intro α f
      unfold shN
      rcases hyx with ⟨h1, h2⟩ | ⟨h1, h2⟩
      · rw [if_pos h2, h1]
      · rw [if_neg h2, h1]
    obtain ⟨g1, g2, g3, g4, g5, g6⟩ := hB.2.2.1 y hy
    unfold Tmok
    show (1 ≤ shN t (b_n B) x ∧ shN t (b_n B) x ≤ 4) ∧ (1 ≤ shN t (b_we B) x ∧ shN t (b_we B) x ≤ 9) ∧ shN t (b_be B) x ≤ 1 ∧ (dcP t (shN t (b_pr B) x) = -1 ∨ ∃ u, u < b_tc B - 1 ∧ dcP t (shN t (b_pr B) x) = nI u) ∧ (∀ k, k < shN t (b_n B) x → wok 12 (shN t (b_w B) x k)) ∧ b_sum (shN t (b_w B) x) (shN t (b_n B) x) ≤ 51
    rw [e, e, e, e, e]
    refine ⟨g1, g2, g3, ?_, g5, g6⟩
    unfold dcP
    rcases g4 with g4 | ⟨u, hu, g4⟩
    · left
      have hneg : (-1 : Int32) ≤ nI t := by
        rw [Int32.le_iff_toInt_le, nI_toInt (by omega)]
        have : (-1 : Int32).toInt = -1 := by decide
        omega
      rw [g4, if_pos hneg]
    · right
      rw [g4]
      have hne : u ≠ t := fun z => hp y hy (by rw [g4, z])
      rcases Nat.lt_or_ge u t with q | q
      · rw [if_pos ((nI_leI (by omega) (by omega)).mpr (by omega))]
        exact ⟨u, by omega, rfl⟩
      · rw [if_neg (fun z => by have := (nI_leI (by omega) (by omega)).mp z; omega), nI_s1 (by omega)]
        exact ⟨u - 1, by omega, rfl⟩
  by_cases q : x < t
  · exact key x (by omega) (Or.inl ⟨rfl, q⟩)
  · exact key (x + 1) (by omega) (Or.inr ⟨rfl, q⟩)
section RT
variable {σ : Sg} {B : Bk}
theorem copyTerm_4_4_s {t : Nat} (ht : t + 1 < 8) : f_X1_copyTerm_4_4 σ (nI (t + 1)) (nI t) = some ((), sI (sI (sI (sI (cL σ 5 5 (4 * (t + 1)) (4 * t) 4) 6 t (σ.1 6 (t + 1))) 7 t (σ.1 7 (t + 1))) 8 t (σ.1 8 (t + 1))) 9 t (σ.1 9 (t + 1))) := by
  have ht2 : t < 8 := by omega
  unfold f_X1_copyTerm_4_4
  rw [mul4, mul4, show (4 : Int32) = nI 4 from rfl, xL4_n (by omega) (by omega) (by decide) (by decide), rI_n ht (by decide), wI_n ht2 (by decide), rI_n ht (by decide), wI_n ht2 (by decide), rI_n ht (by decide), wI_n ht2 (by decide), rI_n ht (by decide), wI_n ht2 (by decide)]
  simp [sI_1, cL_1]
/-- term x is there what term y was -/
def Rt (s σ : Sg) (x y : Nat) : Prop := s.1 6 x = σ.1 6 y ∧ s.1 7 x = σ.1 7 y ∧ s.1 8 x = σ.1 8 y ∧ s.1 9 x = σ.1 9 y ∧ ∀ k, k < 4 → s.2 5 (4 * x + k) = σ.2 5 (4 * y + k)
theorem Rt.tr {a b c : Sg} {x y z : Nat} (h1 : Rt a b x y) (h2 : Rt b c y z) : Rt a c x z := ⟨h1.1.trans h2.1, h1.2.1.trans h2.2.1, h1.2.2.1.trans h2.2.2.1, h1.2.2.2.1.trans h2.2.2.2.1, fun k hk => (h1.2.2.2.2 k hk).trans (h2.2.2.2.2 k hk)⟩
theorem copyTerm_Rt {i : Nat} : ∀ x, Rt (sI (sI (sI (sI (cL σ 5 5 (4 * (i + 1)) (4 * i) 4) 6 i (σ.1 6 (i + 1))) 7 i (σ.1 7 (i + 1))) 8 i (σ.1 8 (i + 1))) 9 i (σ.1 9 (i + 1))) σ x (if x = i then i + 1 else x) := by
  intro x
  by_cases z : x = i
  · subst z
    rw [if_pos rfl]
    refine ⟨by simp [sI_1, cL_1], by simp [sI_1, cL_1], by simp [sI_1, cL_1], by simp [sI_1, cL_1], fun k hk => ?_⟩
    simp only [sI_2]
    rw [cL_2, if_pos rfl, if_pos (by omega), show 4 * x + k - 4 * x = k by omega]
  · rw [if_neg z]
    refine ⟨by simp [sI_1, cL_1, z], by simp [sI_1, cL_1, z], by simp [sI_1, cL_1, z], by simp [sI_1, cL_1, z], fun k hk => ?_⟩
    simp only [sI_2]
    rw [cL_2, if_pos rfl, if_neg (by omega)]
theorem copyTerm_Sm {i : Nat} : Sm [6, 7, 8, 9] [5] σ (sI (sI (sI (sI (cL σ 5 5 (4 * (i + 1)) (4 * i) 4) 6 i (σ.1 6 (i + 1))) 7 i (σ.1 7 (i + 1))) 8 i (σ.1 8 (i + 1))) 9 i (σ.1 9 (i + 1))) := by
  have h0 : Sm [6, 7, 8, 9] [5] σ (cL σ 5 5 (4 * (i + 1)) (4 * i) 4) := ⟨fun _ _ => rfl, fun x hx => by rw [cL_2, if_neg (fun z => hx (by rw [z]; decide))]⟩
  exact (((h0.i (by decide)).i (by decide)).i (by decide)).i (by decide)
theorem removeTerm7_s (hl : lexC σ B) (hB : Bok B) {t : Nat} (ht : t < b_tc B) : ∃ s', f_X1_removeTerm σ (nI t) = some ((), s') ∧ lexC s' (rmT B t) ∧ Sm [4, 6, 7, 8, 9] [5] σ s' := by
  have h8 := hB.1
  have key : ∀ (kk : Sg → Option (Unit × Sg)) n i s, t ≤ i → i < b_tc B → b_tc B < n + i → Sm [6, 7, 8, 9] [5] σ s → (∀ x, Rt s σ x (if t ≤ x ∧ x < i then x + 1 else x)) → ∃ s', f_X1_removeTerm_L2 kk (nI t) n s (nI i) = kk s' ∧ Sm [6, 7, 8, 9] [5] σ s' ∧ ∀ x, Rt s' σ x (if t ≤ x ∧ x < b_tc B - 1 then x + 1 else x) := by
    intro kk n
    induction n with
    | zero => intro i s h1 h2 h3; omega
    | succ n ih =>
      intro i s h1 h2 h3 a1 a2
      rw [f_X1_removeTerm_L2, a1.1 4 (by decide), hl.1, nI_1]
      rcases Nat.lt_or_ge (i + 1) (b_tc B) with q | q
      · rw [if_neg (fun hc => by have := (nI_leI (by omega) (by omega)).mp hc; omega), copyTerm_4_4_s (by omega), cA_s]
        refine ih (i + 1) _ (by omega) q (by omega) (a1.tr copyTerm_Sm) (fun x => ?_)
        have r1 := copyTerm_Rt (σ := s) (i := i) x
        by_cases z : x = i
        · rw [if_pos z] at r1
          have r2 := a2 (i + 1)
          rw [if_neg (by omega)] at r2
          rw [if_pos (by omega), z]
          rw [z] at r1
          exact r1.tr r2
        · rw [if_neg z] at r1
          have r2 := a2 x
          have : (if t ≤ x ∧ x < i + 1 then x + 1 else x) = (if t ≤ x ∧ x < i then x + 1 else x) := by
            by_cases y : t ≤ x ∧ x < i
            · rw [if_pos y, if_pos (by omega)]
            · rw [if_neg y, if_neg (by omega)]
          rw [this]
          exact r1.tr r2
      · rw [if_pos (nI_le q (by omega))]
        refine ⟨s, rfl, a1, fun x => ?_⟩
        have := a2 x
        rw [show i = b_tc B - 1 by omega] at this
        exact this
  have key2 : ∀ (s0 : Sg), s0.1 4 0 = nI (b_tc B - 1) → ∀ n i s, i ≤ b_tc B - 1 → b_tc B - 1 < n + i → Sm [9] [] s0 s → (∀ x, s.1 9 x = if x < i then dcP t (s0.1 9 x) else s0.1 9 x) → ∃ s', f_X1_removeTerm_L39 (fun (s19 : Sg) => some ((), s19)) (nI t) n s (nI i) = some ((), s') ∧ Sm [9] [] s0 s' ∧ ∀ x, x < b_tc B - 1 → s'.1 9 x = dcP t (s0.1 9 x) := by
    intro s0 h0 n
    induction n with
    | zero => intro i s h1 h2; omega
    | succ n ih =>
      intro i s h1 h2 a1 a2
      rw [f_X1_removeTerm_L39, a1.1 4 (by decide), h0]
      rcases Nat.lt_or_ge i (b_tc B - 1) with q | q
      · rw [if_neg (fun hc => by have := (nI_leI (by omega) (by omega)).mp hc; omega), rI_n (by omega) (by decide), rI_n (by omega) (by decide), wI_n (by omega) (by decide), nI_1]
        have ei : s.1 9 i = s0.1 9 i := by rw [a2 i, if_neg (by omega)]
        by_cases z : s.1 9 i ≤ nI t
        · rw [if_pos z]
          refine ih (i + 1) s (by omega) (by omega) a1 (fun x => ?_)
          rw [a2 x]
          by_cases y : x = i
          · subst y
            rw [if_neg (by omega), if_pos (by omega), ← ei]
            unfold dcP
            rw [if_pos z]
          · by_cases w : x < i
            · rw [if_pos w, if_pos (by omega)]
            · rw [if_neg w, if_neg (by omega)]
        · rw [if_neg z]
          refine ih (i + 1) _ (by omega) (by omega) (a1.i (by decide)) (fun x => ?_)
          rw [sI_1]
          by_cases y : x = i
          · subst y
            rw [if_pos ⟨rfl, rfl⟩, if_pos (by omega), ← ei]
            unfold dcP
            rw [if_neg z]
          · rw [if_neg (fun h => y h.2), a2 x]
            by_cases w : x < i
            · rw [if_pos w, if_pos (by omega)]
            · rw [if_neg w, if_neg (by omega)]
      · rw [if_pos (nI_le q (by omega))]
        refine ⟨s, rfl, a1, fun x hx => ?_⟩
        rw [a2 x, if_pos (by omega)]
  obtain ⟨s1, b0, b1, b2⟩ := key (fun (s5 : Sg) => pI s5 4 0 ((s5.1 4 0) - 1) fun s6 => (f_X1_removeTerm_L39 (fun (s19 : Sg) => some ((), s19)) (nI t) fu s6 0)) fu t σ (Nat.le_refl _) ht (by unfold fu; omega) Sm.rf (fun x => by rw [if_neg (by omega)]; exact ⟨rfl, rfl, rfl, rfl, fun _ _ => rfl⟩)
  obtain ⟨s2, c0, c1, c2⟩ := key2 (sI s1 4 0 (nI (b_tc B - 1))) (by rw [sI_1, if_pos ⟨rfl, rfl⟩]) fu 0 _ (Nat.zero_le _) (by unfold fu; omega) Sm.rf (fun x => by rw [if_neg (by omega)])
  refine ⟨s2, ?_, ?_, ((b1.up (by decide) (by decide)).i (by decide)).tr (c1.up (by decide) (by decide))⟩
  · unfold f_X1_removeTerm
    rw [b0, pI_s, b1.1 4 (by decide), hl.1, nI_s1 (by omega)]
    exact c0
  · obtain ⟨d1, d2, d3, d4⟩ := hl
    refine ⟨?_, ?_, fun x hx => ?_, fun e he => ?_⟩
    · rw [c1.1 4 (by decide), sI_1, if_pos ⟨rfl, rfl⟩]; rfl
    · rw [c1.1 4 (by decide), sI_1, if_neg (by decide), b1.1 4 (by decide)]; exact d2
    · have hx : x < b_tc B - 1 := hx
      rw [c1.1 6 (by decide), c1.1 7 (by decide), c1.1 8 (by decide), c1.2 5 (by decide), sI_ne _ (by decide), sI_ne _ (by decide), sI_ne _ (by decide), sI_2, c2 x hx, sI_ne _ (by decide)]
      obtain ⟨r1, r2, r3, r4, r5⟩ := b2 x
      rw [r1, r2, r3, r4]
      have hxy : ∃ y, y < b_tc B ∧ (if t ≤ x ∧ x < b_tc B - 1 then x + 1 else x) = y ∧ ∀ {α : Type} (f : Nat → α), shN t f x = f y := by
        by_cases q : x < t
        · exact ⟨x, by omega, by rw [if_neg (by omega)], fun f => by unfold shN; rw [if_pos q]⟩
        · exact ⟨x + 1, by omega, by rw [if_pos (by omega)], fun f => by unfold shN; rw [if_neg q]⟩
      obtain ⟨y, hy, ey, ef⟩ := hxy
      rw [ey] at r5 ⊢
      obtain ⟨f1, f2, f3, f4, f5⟩ := d3 y hy
      rw [f1, f2, f3, f4]
      show nI (b_n B y) = nI (shN t (b_n B) x) ∧ nI (b_we B y) = nI (shN t (b_we B) x) ∧ nI (b_be B y) = nI (shN t (b_be B) x) ∧ dcP t (b_pr B y) = dcP t (shN t (b_pr B) x) ∧ ∀ k, k < shN t (b_n B) x → s1.2 5 (4 * x + k) = eL (shN t (b_w B) x k)
      rw [ef, ef, ef, ef, ef]
      refine ⟨rfl, rfl, rfl, rfl, fun k hk => ?_⟩
      have := (hB.2.2.1 y hy).1
      rw [r5 k (by omega)]
      exact f5 k hk
    · rw [c1.2 10 (by decide), sI_2, b1.2 10 (by decide)]; exact d4 e he
end RT
theorem dropTerm8_L {s : Sg} {B : Bk} (hb : bookP (s.1 44) B) (hB : Bok B) {t : Nat} (ht : t < b_tc B) : ∃ s', (f_X8_dropTerm_L27 (fun (s14 : Sg) => rI s14 44 475 0 fun x15 => (wI s14 44 475 0 (x15 - 1) fun s18 => (f_X8_dropTerm_L70 (fun (s39 : Sg) => rI s39 44 475 0 fun x40 => (some (x40, s39))) (nI t) fu s18 0))) (nI t) fu s (nI (2 + 56 * t))) = some (nI (b_tc B - 1), s') ∧ bookP (s'.1 44) (rmT B t) ∧ Sm [44] [] s s' := by
  have h8 := hB.1
  have h5 := hB.2.1
  have key : ∀ (kk : Sg → Option (Int32 × Sg)) n j s2, 2 + 56 * t ≤ j → j ≤ 394 → 394 < n + j → Sm [44] [] s s2 → (∀ x, s2.1 44 x = if 2 + 56 * t ≤ x ∧ x < j then s.1 44 (x + 56) else s.1 44 x) → ∃ s3, f_X8_dropTerm_L27 kk (nI t) n s2 (nI j) = kk s3 ∧ Sm [44] [] s s3 ∧ ∀ x, s3.1 44 x = if 2 + 56 * t ≤ x ∧ x < 394 then s.1 44 (x + 56) else s.1 44 x := by
    intro kk n
    induction n with
    | zero => intro j s2 h1 h2 h3; omega
    | succ n ih =>
      intro j s2 h1 h2 h3 a1 a2
      rw [f_X8_dropTerm_L27, li 56, nI_add]
      rcases Nat.lt_or_ge (j + 56) 450 with q | q
      · rw [if_neg (fun hc => by have := (c_ge 450 (by omega) (by decide)).mp hc; omega), rI_n (by omega) (by decide), wI_n (by omega) (by decide), nI_1]
        refine ih (j + 1) _ (by omega) (by omega) (by omega) (a1.i (by decide)) (fun x => ?_)
        rw [sI_1]
        by_cases z : x = j
        · rw [if_pos ⟨rfl, z⟩, if_pos (by omega), a2 (j + 56), if_neg (by omega), z]
        · rw [if_neg (fun hc => z hc.2), a2 x]
          by_cases y : 2 + 56 * t ≤ x ∧ x < j
          · rw [if_pos y, if_pos (by omega)]
          · rw [if_neg y, if_neg (by omega)]
      · have : j = 394 := by omega
        subst this
        rw [if_pos (by decide)]
        exact ⟨s2, rfl, a1, a2⟩
  have key2 : ∀ (s0 : Sg), s0.1 44 0 = nI (b_tc B - 1) → ∀ n i s2, i ≤ b_tc B - 1 → b_tc B - 1 < n + i → Sm [44] [] s0 s2 → (∀ j, (∀ x, x < i → j ≠ 2 + 56 * x + 3) → s2.1 44 j = s0.1 44 j) → (∀ x, x < i → s2.1 44 (2 + 56 * x + 3) = dcP t (s0.1 44 (2 + 56 * x + 3))) → ∃ s', f_X8_dropTerm_L70 (fun (s39 : Sg) => rI s39 44 475 0 fun x40 => (some (x40, s39))) (nI t) n s2 (nI i) = some (nI (b_tc B - 1), s') ∧ Sm [44] [] s0 s' ∧ (∀ j, (∀ x, x < b_tc B - 1 → j ≠ 2 + 56 * x + 3) → s'.1 44 j = s0.1 44 j) ∧ (∀ x, x < b_tc B - 1 → s'.1 44 (2 + 56 * x + 3) = dcP t (s0.1 44 (2 + 56 * x + 3))) := by
    intro s0 h0 n
    induction n with
    | zero => intro i s2 h1 h2; omega
    | succ n ih =>
      intro i s2 h1 h2 a1 a2 a3
      have e0 : s2.1 44 0 = nI (b_tc B - 1) := by rw [a2 0 (fun x _ => by omega)]; exact h0
      rw [f_X8_dropTerm_L70, show (0 : Int32) = nI 0 from rfl, rI_n (by omega) (by decide), e0]
      simp only [jn_s]
      rcases Nat.lt_or_ge i (b_tc B - 1) with q | q
      · rw [if_neg (fun hc => by have := (nI_leI (by omega) (by omega)).mp hc; omega), termAt8_s, cP_s, nI_p3, rI_n (by omega) (by decide), rI_n (by omega) (by decide), wI_n (by omega) (by decide), wI_n (by omega) (by decide), nI_1]
        have ei : s2.1 44 (2 + 56 * i + 3) = s0.1 44 (2 + 56 * i + 3) := a2 _ (fun x hx => by omega)
        have go : ∀ v, v = dcP t (s0.1 44 (2 + 56 * i + 3)) → ∃ s', f_X8_dropTerm_L70 (fun (s39 : Sg) => rI s39 44 475 0 fun x40 => (some (x40, s39))) (nI t) n (sI s2 44 (2 + 56 * i + 3) v) (nI (i + 1)) = some (nI (b_tc B - 1), s') ∧ Sm [44] [] s0 s' ∧ (∀ j, (∀ x, x < b_tc B - 1 → j ≠ 2 + 56 * x + 3) → s'.1 44 j = s0.1 44 j) ∧ (∀ x, x < b_tc B - 1 → s'.1 44 (2 + 56 * x + 3) = dcP t (s0.1 44 (2 + 56 * x + 3))) := by
          intro v hv
          refine ih (i + 1) _ (by omega) (by omega) (a1.i (by decide)) (fun j hj => ?_) (fun x hx => ?_)
          · rw [sI_1, if_neg (fun z => hj i (by omega) z.2)]
            exact a2 j (fun x hx => hj x (by omega))
          · rw [sI_1]
            by_cases z : x = i
            · rw [if_pos ⟨rfl, by rw [z]⟩, hv, z]
            · rw [if_neg (by omega)]; exact a3 x (by omega)
        by_cases z : s2.1 44 (2 + 56 * i + 3) ≤ nI t
        · rw [if_pos z]
          refine go _ ?_
          rw [← ei]
          unfold dcP
          rw [if_pos z]
          exact Int32.sub_zero _
        · rw [if_neg z]
          refine go _ ?_
          rw [← ei]
          unfold dcP
          rw [if_neg z]
      · have : i = b_tc B - 1 := by omega
        subst this
        rw [if_pos (nI_le (Nat.le_refl _) (by omega)), rI_n (by omega) (by decide), e0]
        exact ⟨s2, rfl, a1, a2, a3⟩
  obtain ⟨s1, b0, b1, b2⟩ := key (fun (s14 : Sg) => rI s14 44 475 0 fun x15 => (wI s14 44 475 0 (x15 - 1) fun s18 => (f_X8_dropTerm_L70 (fun (s39 : Sg) => rI s39 44 475 0 fun x40 => (some (x40, s39))) (nI t) fu s18 0))) fu (2 + 56 * t) s (Nat.le_refl _) (by omega) (by unfold fu; omega) Sm.rf (fun x => by rw [if_neg (by omega)])
  have e0 : s1.1 44 0 = nI (b_tc B) := by rw [b2 0, if_neg (by omega)]; exact hb.1
  obtain ⟨s2, c0, c1, c2, c3⟩ := key2 (sI s1 44 0 (nI (b_tc B - 1))) (by rw [sI_1, if_pos ⟨rfl, rfl⟩]) fu 0 _ (Nat.zero_le _) (by unfold fu; omega) Sm.rf (fun _ _ => rfl) (fun x hx => absurd hx (Nat.not_lt_zero x))
  refine ⟨s2, ?_, ?_, (b1.i (by decide)).tr c1⟩
  · refine b0.trans ?_
    show (rI s1 44 475 (nI 0) fun x15 => (wI s1 44 475 (nI 0) (x15 - 1) fun s18 => (f_X8_dropTerm_L70 (fun (s39 : Sg) => rI s39 44 475 0 fun x40 => (some (x40, s39))) (nI t) fu s18 0))) = _
    rw [rI_n (by omega) (by decide), e0, wI_n (by omega) (by decide), nI_s1 (by omega)]
    exact c0
  · have f1 : ∀ j, j ≠ 0 → (∀ x, x < b_tc B - 1 → j ≠ 2 + 56 * x + 3) → s2.1 44 j = if 2 + 56 * t ≤ j ∧ j < 394 then s.1 44 (j + 56) else s.1 44 j := fun j hj hx => by
      rw [c2 j hx, sI_1, if_neg (fun z => hj z.2), b2 j]
    have f3 : ∀ x, x < b_tc B - 1 → s2.1 44 (2 + 56 * x + 3) = dcP t (if 2 + 56 * t ≤ 2 + 56 * x + 3 ∧ 2 + 56 * x + 3 < 394 then s.1 44 (2 + 56 * x + 3 + 56) else s.1 44 (2 + 56 * x + 3)) := fun x hx => by
      rw [c3 x hx, sI_1, if_neg (by omega), b2]
    obtain ⟨d1, d2, d3, d4⟩ := hb
    refine ⟨?_, ?_, fun x hx => ?_, fun e he => ?_⟩
    · rw [c2 0 (fun x _ => by omega), sI_1, if_pos ⟨rfl, rfl⟩]; rfl
    · rw [f1 1 (by omega) (fun x _ => by omega), if_neg (by omega)]; exact d2
    · have hx : x < b_tc B - 1 := hx
      have hxy : ∃ y d, y < b_tc B ∧ 56 * y = 56 * x + d ∧ (∀ j, 2 + 56 * x ≤ j → j < 2 + 56 * x + 56 → (if 2 + 56 * t ≤ j ∧ j < 394 then s.1 44 (j + 56) else s.1 44 j) = s.1 44 (j + d)) ∧ ∀ {α : Type} (f : Nat → α), shN t f x = f y := by
        by_cases q : x < t
        · exact ⟨x, 0, by omega, by omega, fun j h1 h2 => by rw [if_neg (by omega)]; rfl, fun f => by unfold shN; rw [if_pos q]⟩
        · exact ⟨x + 1, 56, by omega, by omega, fun j h1 h2 => by rw [if_pos (by omega)], fun f => by unfold shN; rw [if_neg q]⟩
      obtain ⟨y, d, hy, ey, fy, ef⟩ := hxy
      obtain ⟨g1, g2, g3, g4, g5⟩ := d3 y hy
      have hn := (hB.2.2.1 y hy).1
      show s2.1 44 (2 + 56 * x) = nI (shN t (b_n B) x) ∧ s2.1 44 (2 + 56 * x + 1) = nI (shN t (b_we B) x) ∧ s2.1 44 (2 + 56 * x + 2) = nI (shN t (b_be B) x) ∧ s2.1 44 (2 + 56 * x + 3) = dcP t (shN t (b_pr B) x) ∧ ∀ k, k < shN t (b_n B) x → wordP (s2.1 44) (2 + 56 * x + 4 + 13 * k) (shN t (b_w B) x k)
      rw [ef, ef, ef, ef, ef]
      have ad : ∀ j, 2 + 56 * x + j + d = 2 + 56 * y + j := fun j => by omega
      refine ⟨?_, ?_, ?_, ?_, fun k hk => ?_⟩
      · rw [f1 _ (by omega) (fun z _ => by omega), fy _ (by omega) (by omega), show 2 + 56 * x + d = 2 + 56 * y by omega]; exact g1
      · rw [f1 _ (by omega) (fun z _ => by omega), fy _ (by omega) (by omega), ad]; exact g2
      · rw [f1 _ (by omega) (fun z _ => by omega), fy _ (by omega) (by omega), ad]; exact g3
      · rw [f3 x hx, fy _ (by omega) (by omega), ad, g4]
      · have hw := g5 k hk
        have h12 := ((hB.2.2.1 y hy).2.2.2.2.1 k hk).2.2
        have fz : ∀ j, 4 ≤ j → j < 56 → s2.1 44 (2 + 56 * x + j) = s.1 44 (2 + 56 * y + j) := fun j h1 h2 => by
          rw [f1 _ (by omega) (fun z _ => by
            rcases Nat.lt_trichotomy z x with q | q | q
            · omega
            · omega
            · omega), fy _ (by omega) (by omega), ad]
        refine ⟨?_, fun i v hv => ?_⟩
        · rw [show 2 + 56 * x + 4 + 13 * k = 2 + 56 * x + (4 + 13 * k) by omega, fz _ (by omega) (by omega), ← hw.1, show 2 + 56 * y + (4 + 13 * k) = 2 + 56 * y + 4 + 13 * k by omega]
        · have := (List.getElem?_eq_some_iff.mp hv).1
          rw [show 2 + 56 * x + 4 + 13 * k + 1 + i = 2 + 56 * x + (4 + 13 * k + 1 + i) by omega, fz _ (by omega) (by omega), ← hw.2 i v hv, show 2 + 56 * y + (4 + 13 * k + 1 + i) = 2 + 56 * y + 4 + 13 * k + 1 + i by omega]
    · have he : e < b_ec B := he
      have h4 := (hB.2.2.2 e he).2.2
      refine (d4 e he).cg (fun j h1 h2 => ?_)
      have h2 : j < 450 + 5 * e + 1 + (b_en B e).length := h2
      rw [f1 j (by omega) (fun x hx => by omega), if_neg (by omega)]
theorem ps_dropTerm (σ : Sg) (a1 : Int32) (h : InvA σ) : ∃ (r : Int32) (σ1 σ2 : Sg), f_X7_dropTerm σ a1 = some (r, σ1) ∧ f_X8_dropTerm σ1 a1 = some (r, σ2) ∧ InvA σ2 := by
  refine step2 (f7 := fun s => f_X7_dropTerm s a1) (f8 := fun s => f_X8_dropTerm s a1) h (fun M hm => ?_)
  obtain ⟨S, B, T, im⟩ := M
  have hm0 := hm
  obtain ⟨hS, hB, hT, hI⟩ := hm
  have hB : Bok B := hB
  have h5 := hB.2.1
  have h8 := hB.1
  have n10 : ¬ (1 : Int32) = 0 := by decide
  rcases Classical.em (rg a1 (b_tc B)) with hr | hr
  · rcases Classical.em (∃ t, t < b_tc B ∧ b_pr B t = a1) with hp | hp
    · refine ⟨-1000000003, (S, B, T, im), hm0, fun hC => ⟨σ, ?_, hC, Un43.rf⟩, fun s hR => ⟨s, ?_, hR, Un42.rf⟩⟩
      · unfold f_X7_dropTerm
        rw [isTerm7_s hC.2.1 hB, cP_s, bI_t hr, if_neg n10, isPreferred7_s hC.2.1 hB, cP_s, bI_t hp, if_neg n10]
      · unfold f_X8_dropTerm
        rw [isTerm8_s hR.2.1 hB, cP_s, bI_t hr, if_neg n10, isPreferred8_s hR.2.1 hB, cP_s, bI_t hp, if_neg n10]
    · have hr0 := hr
      obtain ⟨t, ht, rfl⟩ := hr
      refine ⟨nI (b_tc B - 1), (S, rmT B t, T, im), ⟨hS, rmT_ok hB ht (fun u hu z => hp ⟨u, hu, z⟩), hT, hI⟩, fun hC => ?_, fun s hR => ?_⟩
      · obtain ⟨s7, d1, d2, d3⟩ := removeTerm7_s hC.2.1 hB ht
        obtain ⟨s', e1, e2, e3, e4, e5⟩ := hC.terms (L := [4, 6, 7, 8, 9]) (d3.up (fun x h => h) (by decide)) (by decide) d2
        refine ⟨s', ?_, e2, e3⟩
        unfold f_X7_dropTerm
        rw [isTerm7_s hC.2.1 hB, cP_s, bI_t hr0, if_neg n10, isPreferred7_s hC.2.1 hB, cP_s, bI_f hp, if_pos rfl, d1, cA_s, e1, cA_s, e5.1]
        rfl
      · obtain ⟨s', e1, e2, e3⟩ := dropTerm8_L hR.2.1 hB ht
        refine ⟨s', ?_, hR.book e3 e2, e3.u42 (by decide)⟩
        unfold f_X8_dropTerm
        rw [isTerm8_s hR.2.1 hB, cP_s, bI_t hr0, if_neg n10, isPreferred8_s hR.2.1 hB, cP_s, bI_f hp, if_pos rfl, termAt8_s, cP_s]
        exact e1
  · refine ⟨-1000000001, (S, B, T, im), hm0, fun hC => ⟨σ, ?_, hC, Un43.rf⟩, fun s hR => ⟨s, ?_, hR, Un42.rf⟩⟩
    · unfold f_X7_dropTerm
      rw [isTerm7_s hC.2.1 hB, cP_s, bI_f hr, if_pos rfl]
    · unfold f_X8_dropTerm
      rw [isTerm8_s hR.2.1 hB, cP_s, bI_f hr, if_pos rfl]
