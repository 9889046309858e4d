theorem xL4_n {α : Type} {σ : Sg} {k0 n0 k1 n1 a b c : Nat} {f : Sg → Option α} (ha : a + c ≤ n0) (hb : b + c ≤ n1) (h0 : n0 < 2 ^ 31) (h1 : n1 < 2 ^ 31) : xL4 σ k0 n0 k1 n1 (nI a) (nI b) (nI c) f = f (cL σ k0 k1 a b c) := by
  unfold xL4
  rw [nI_clamp (by omega), nI_clamp (by omega), nI_clamp (by omega), if_pos ⟨nI_pos (by omega), nI_pos (by omega), nI_pos (by omega), ha, hb⟩]
theorem cL_1 (σ : Sg) (k0 k1 a b c : Nat) : (cL σ k0 k1 a b c).1 = σ.1 := rfl
theorem cL_2 (σ : Sg) (k0 k1 a b c x : Nat) : (cL σ k0 k1 a b c).2 x = if x = k1 then (fun j => if b ≤ j ∧ j < b + c then σ.2 k0 (a + (j - b)) else σ.2 k1 j) else σ.2 x := rfl
theorem mul4 (t : Nat) : nI t * 4 = nI (4 * t) := by rw [li 4, pk_mul, Nat.mul_comm]
theorem copyTerm_12_4_s {σ : Sg} {t : Nat} (ht : t < 8) : f_X1_copyTerm_12_4 σ (nI t) (nI t) = some ((), sI (sI (sI (sI (cL σ 5 13 (4 * t) (4 * t) 4) 14 t (σ.1 6 t)) 15 t (σ.1 7 t)) 16 t (σ.1 8 t)) 17 t (σ.1 9 t)) := by
  unfold f_X1_copyTerm_12_4
  rw [mul4, show (4 : Int32) = nI 4 from rfl, xL4_n (by omega) (by omega) (by decide) (by decide), rI_n ht (by decide), wI_n ht (by decide), rI_n ht (by decide), wI_n ht (by decide), rI_n ht (by decide), wI_n ht (by decide), rI_n ht (by decide), wI_n ht (by decide)]
  simp [sI_1, cL_1]
theorem copyFrom_12_4_s {σ : Sg} {B : Bk} (hB : Bok B) (hl : lexP (σ.1 4) (σ.2 5) (σ.1 6) (σ.1 7) (σ.1 8) (σ.1 9) (σ.2 10) B) : ∃ s', f_X1_copyFrom_12_4 σ = some ((), s') ∧ lexP (s'.1 12) (s'.2 13) (s'.1 14) (s'.1 15) (s'.1 16) (s'.1 17) (s'.2 18) B ∧ Sm [12, 14, 15, 16, 17] [13, 18] σ s' ∧ s'.1 12 8 = σ.1 12 8 := by
  have h8 := hB.1
  have h5 := hB.2.1
  have key : ∀ (kk : Sg → Option (Unit × Sg)) n t s, t ≤ 8 → 8 < n + t → Sm [12, 14, 15, 16, 17] [13, 18] σ s → (∀ j, s.1 12 j = if j = 0 then σ.1 4 0 else σ.1 12 j) → (∀ j, j < 4 * t → s.2 13 j = σ.2 5 j) → (∀ j, j < t → s.1 14 j = σ.1 6 j ∧ s.1 15 j = σ.1 7 j ∧ s.1 16 j = σ.1 8 j ∧ s.1 17 j = σ.1 9 j) → ∃ s', f_X1_copyFrom_12_4_L10 kk n s (nI t) = kk s' ∧ Sm [12, 14, 15, 16, 17] [13, 18] σ s' ∧ (∀ j, s'.1 12 j = if j = 0 then σ.1 4 0 else σ.1 12 j) ∧ (∀ j, j < 32 → s'.2 13 j = σ.2 5 j) ∧ ∀ j, j < 8 → s'.1 14 j = σ.1 6 j ∧ s'.1 15 j = σ.1 7 j ∧ s'.1 16 j = σ.1 8 j ∧ s'.1 17 j = σ.1 9 j := by
    intro kk n
    induction n with
    | zero => intro t s h h'; omega
    | succ n ih =>
      intro t s ht hn a1 a2 a3 a4
      rw [f_X1_copyFrom_12_4_L10]
      rcases Nat.lt_or_ge t 8 with q | q
      · rw [if_neg (fun hc => by have := (c_ge 8 (by omega) (by decide)).mp hc; omega), copyTerm_12_4_s q, cA_s, nI_1]
        have hc : Sm [12, 14, 15, 16, 17] [13, 18] σ (cL s 5 13 (4 * t) (4 * t) 4) := ⟨a1.1, fun x hx => by
          rw [cL_2, if_neg (fun z => hx (by rw [z]; decide))]
          exact a1.2 x hx⟩
        refine ih (t + 1) _ (by omega) (by omega) ((((hc.i (by decide)).i (by decide)).i (by decide)).i (by decide)) (fun j => ?_) (fun j hj => ?_) (fun j hj => ?_)
        · rw [sI_ne _ (by decide), sI_ne _ (by decide), sI_ne _ (by decide), sI_ne _ (by decide)]; exact a2 j
        · show (cL s 5 13 (4 * t) (4 * t) 4).2 13 j = _
          rw [cL_2, if_pos rfl]
          by_cases z : 4 * t ≤ j ∧ j < 4 * t + 4
          · rw [if_pos z, a1.2 5 (by decide), show 4 * t + (j - 4 * t) = j by omega]
          · rw [if_neg z]; exact a3 j (by omega)
        · by_cases z : j = t
          · subst z
            simp only [sI_1, cL_1, a1.1 6 (by decide), a1.1 7 (by decide), a1.1 8 (by decide), a1.1 9 (by decide)]
            simp
          · simp only [sI_1, cL_1]
            simp [z]
            exact a4 j (by omega)
      · have : t = 8 := by omega
        subst this
        rw [if_pos (by decide)]
        exact ⟨s, rfl, a1, a2, a3, a4⟩
  obtain ⟨s', b0, b1, b2, b3, b4⟩ := key (fun (s7 : Sg) => pI s7 12 6 (s7.1 4 6) fun s8 => (xL4 s8 10 5 18 5 0 0 5 fun s10 => (some ((), s10)))) fu 0 (sI σ 12 0 (σ.1 4 0)) (by omega) (by unfold fu; omega) (Sm.rf.i (by decide)) (fun j => by rw [sI_1]; by_cases z : j = 0 <;> simp [z]) (fun j hj => by omega) (fun j hj => by omega)
  refine ⟨cL (sI s' 12 6 (s'.1 4 6)) 10 18 0 0 5, ?_, ?_, ?_, ?_⟩
  · unfold f_X1_copyFrom_12_4
    rw [pI_s]
    refine b0.trans ?_
    rw [pI_s, show (0 : Int32) = nI 0 from rfl, show (5 : Int32) = nI 5 from rfl, xL4_n (by omega) (by omega) (by decide) (by decide)]
  · obtain ⟨c1, c2, c3, c4⟩ := hl
    refine ⟨?_, ?_, fun t ht => ?_, fun e he => ?_⟩
    · rw [cL_1, sI_1, if_neg (by decide), b2 0, if_pos rfl]; exact c1
    · rw [cL_1, sI_1, if_pos ⟨rfl, rfl⟩, b1.1 4 (by decide)]; exact c2
    · have h4 := (hB.2.2.1 t ht).1
      obtain ⟨d1, d2, d3, d4, d5⟩ := c3 t ht
      obtain ⟨e1, e2, e3, e4⟩ := b4 t (by omega)
      rw [cL_1, sI_ne _ (by decide), sI_ne _ (by decide), sI_ne _ (by decide), sI_ne _ (by decide), e1, e2, e3, e4]
      refine ⟨d1, d2, d3, d4, fun k hk => ?_⟩
      rw [cL_2, if_neg (by decide), sI_2, b3 _ (by omega)]
      exact d5 k hk
    · rw [cL_2, if_pos rfl]
      rw [if_pos (by omega), sI_2, b1.2 10 (by decide), show 0 + (e - 0) = e by omega]
      exact c4 e he
  · have hc := b1.i (k := 12) (j := 6) (v := s'.1 4 6) (by decide)
    exact ⟨hc.1, fun x hx => by
      rw [cL_2, if_neg (fun z => hx (by rw [z]; decide))]
      exact hc.2 x hx⟩
  · rw [cL_1, sI_1, if_neg (by decide), b2 8, if_neg (by decide)]
theorem copyTerm_19_4_s {σ : Sg} {t : Nat} (ht : t < 8) : f_X1_copyTerm_19_4 σ (nI t) (nI t) = some ((), sI (sI (sI (sI (cL σ 5 20 (4 * t) (4 * t) 4) 21 t (σ.1 6 t)) 22 t (σ.1 7 t)) 23 t (σ.1 8 t)) 24 t (σ.1 9 t)) := by
  unfold f_X1_copyTerm_19_4
  rw [mul4, show (4 : Int32) = nI 4 from rfl, xL4_n (by omega) (by omega) (by decide) (by decide), rI_n ht (by decide), wI_n ht (by decide), rI_n ht (by decide), wI_n ht (by decide), rI_n ht (by decide), wI_n ht (by decide), rI_n ht (by decide), wI_n ht (by decide)]
  simp [sI_1, cL_1]
theorem copyFrom_19_4_s {σ : Sg} {B : Bk} (hB : Bok B) (hl : lexP (σ.1 4) (σ.2 5) (σ.1 6) (σ.1 7) (σ.1 8) (σ.1 9) (σ.2 10) B) : ∃ s', f_X1_copyFrom_19_4 σ = some ((), s') ∧ lexP (s'.1 19) (s'.2 20) (s'.1 21) (s'.1 22) (s'.1 23) (s'.1 24) (s'.2 25) B ∧ Sm [19, 21, 22, 23, 24] [20, 25] σ s' ∧ s'.1 19 8 = σ.1 19 8 := by
  have h8 := hB.1
  have h5 := hB.2.1
  have key : ∀ (kk : Sg → Option (Unit × Sg)) n t s, t ≤ 8 → 8 < n + t → Sm [19, 21, 22, 23, 24] [20, 25] σ s → (∀ j, s.1 19 j = if j = 0 then σ.1 4 0 else σ.1 19 j) → (∀ j, j < 4 * t → s.2 20 j = σ.2 5 j) → (∀ j, j < t → s.1 21 j = σ.1 6 j ∧ s.1 22 j = σ.1 7 j ∧ s.1 23 j = σ.1 8 j ∧ s.1 24 j = σ.1 9 j) → ∃ s', f_X1_copyFrom_19_4_L10 kk n s (nI t) = kk s' ∧ Sm [19, 21, 22, 23, 24] [20, 25] σ s' ∧ (∀ j, s'.1 19 j = if j = 0 then σ.1 4 0 else σ.1 19 j) ∧ (∀ j, j < 32 → s'.2 20 j = σ.2 5 j) ∧ ∀ j, j < 8 → s'.1 21 j = σ.1 6 j ∧ s'.1 22 j = σ.1 7 j ∧ s'.1 23 j = σ.1 8 j ∧ s'.1 24 j = σ.1 9 j := by
    intro kk n
    induction n with
    | zero => intro t s h h'; omega
    | succ n ih =>
      intro t s ht hn a1 a2 a3 a4
      rw [f_X1_copyFrom_19_4_L10]
      rcases Nat.lt_or_ge t 8 with q | q
      · rw [if_neg (fun hc => by have := (c_ge 8 (by omega) (by decide)).mp hc; omega), copyTerm_19_4_s q, cA_s, nI_1]
        have hc : Sm [19, 21, 22, 23, 24] [20, 25] σ (cL s 5 20 (4 * t) (4 * t) 4) := ⟨a1.1, fun x hx => by
          rw [cL_2, if_neg (fun z => hx (by rw [z]; decide))]
          exact a1.2 x hx⟩
        refine ih (t + 1) _ (by omega) (by omega) ((((hc.i (by decide)).i (by decide)).i (by decide)).i (by decide)) (fun j => ?_) (fun j hj => ?_) (fun j hj => ?_)
        · rw [sI_ne _ (by decide), sI_ne _ (by decide), sI_ne _ (by decide), sI_ne _ (by decide)]; exact a2 j
        · show (cL s 5 20 (4 * t) (4 * t) 4).2 20 j = _
          rw [cL_2, if_pos rfl]
          by_cases z : 4 * t ≤ j ∧ j < 4 * t + 4
          · rw [if_pos z, a1.2 5 (by decide), show 4 * t + (j - 4 * t) = j by omega]
          · rw [if_neg z]; exact a3 j (by omega)
        · by_cases z : j = t
          · subst z
            simp only [sI_1, cL_1, a1.1 6 (by decide), a1.1 7 (by decide), a1.1 8 (by decide), a1.1 9 (by decide)]
            simp
          · simp only [sI_1, cL_1]
            simp [z]
            exact a4 j (by omega)
      · have : t = 8 := by omega
        subst this
        rw [if_pos (by decide)]
        exact ⟨s, rfl, a1, a2, a3, a4⟩
  obtain ⟨s', b0, b1, b2, b3, b4⟩ := key (fun (s7 : Sg) => pI s7 19 6 (s7.1 4 6) fun s8 => (xL4 s8 10 5 25 5 0 0 5 fun s10 => (some ((), s10)))) fu 0 (sI σ 19 0 (σ.1 4 0)) (by omega) (by unfold fu; omega) (Sm.rf.i (by decide)) (fun j => by rw [sI_1]; by_cases z : j = 0 <;> simp [z]) (fun j hj => by omega) (fun j hj => by omega)
  refine ⟨cL (sI s' 19 6 (s'.1 4 6)) 10 25 0 0 5, ?_, ?_, ?_, ?_⟩
  · unfold f_X1_copyFrom_19_4
    rw [pI_s]
    refine b0.trans ?_
    rw [pI_s, show (0 : Int32) = nI 0 from rfl, show (5 : Int32) = nI 5 from rfl, xL4_n (by omega) (by omega) (by decide) (by decide)]
  · obtain ⟨c1, c2, c3, c4⟩ := hl
    refine ⟨?_, ?_, fun t ht => ?_, fun e he => ?_⟩
    · rw [cL_1, sI_1, if_neg (by decide), b2 0, if_pos rfl]; exact c1
    · rw [cL_1, sI_1, if_pos ⟨rfl, rfl⟩, b1.1 4 (by decide)]; exact c2
    · have h4 := (hB.2.2.1 t ht).1
      obtain ⟨d1, d2, d3, d4, d5⟩ := c3 t ht
      obtain ⟨e1, e2, e3, e4⟩ := b4 t (by omega)
      rw [cL_1, sI_ne _ (by decide), sI_ne _ (by decide), sI_ne _ (by decide), sI_ne _ (by decide), e1, e2, e3, e4]
      refine ⟨d1, d2, d3, d4, fun k hk => ?_⟩
      rw [cL_2, if_neg (by decide), sI_2, b3 _ (by omega)]
      exact d5 k hk
    · rw [cL_2, if_pos rfl]
      rw [if_pos (by omega), sI_2, b1.2 10 (by decide), show 0 + (e - 0) = e by omega]
      exact c4 e he
  · have hc := b1.i (k := 19) (j := 6) (v := s'.1 4 6) (by decide)
    exact ⟨hc.1, fun x hx => by
      rw [cL_2, if_neg (fun z => hx (by rw [z]; decide))]
      exact hc.2 x hx⟩
  · rw [cL_1, sI_1, if_neg (by decide), b2 8, if_neg (by decide)]
theorem copyTerm_4_12_s {σ : Sg} {t : Nat} (ht : t < 8) : f_X1_copyTerm_4_12 σ (nI t) (nI t) = some ((), sI (sI (sI (sI (cL σ 13 5 (4 * t) (4 * t) 4) 6 t (σ.1 14 t)) 7 t (σ.1 15 t)) 8 t (σ.1 16 t)) 9 t (σ.1 17 t)) := by
  unfold f_X1_copyTerm_4_12
  rw [mul4, show (4 : Int32) = nI 4 from rfl, xL4_n (by omega) (by omega) (by decide) (by decide), rI_n ht (by decide), wI_n ht (by decide), rI_n ht (by decide), wI_n ht (by decide), rI_n ht (by decide), wI_n ht (by decide), rI_n ht (by decide), wI_n ht (by decide)]
  simp [sI_1, cL_1]
theorem copyFrom_4_12_s {σ : Sg} {B : Bk} (hB : Bok B) (hl : lexP (σ.1 12) (σ.2 13) (σ.1 14) (σ.1 15) (σ.1 16) (σ.1 17) (σ.2 18) B) : ∃ s', f_X1_copyFrom_4_12 σ = some ((), s') ∧ lexP (s'.1 4) (s'.2 5) (s'.1 6) (s'.1 7) (s'.1 8) (s'.1 9) (s'.2 10) B ∧ Sm [4, 6, 7, 8, 9] [5, 10] σ s' ∧ s'.1 4 8 = σ.1 4 8 := by
  have h8 := hB.1
  have h5 := hB.2.1
  have key : ∀ (kk : Sg → Option (Unit × Sg)) n t s, t ≤ 8 → 8 < n + t → Sm [4, 6, 7, 8, 9] [5, 10] σ s → (∀ j, s.1 4 j = if j = 0 then σ.1 12 0 else σ.1 4 j) → (∀ j, j < 4 * t → s.2 5 j = σ.2 13 j) → (∀ j, j < t → s.1 6 j = σ.1 14 j ∧ s.1 7 j = σ.1 15 j ∧ s.1 8 j = σ.1 16 j ∧ s.1 9 j = σ.1 17 j) → ∃ s', f_X1_copyFrom_4_12_L10 kk n s (nI t) = kk s' ∧ Sm [4, 6, 7, 8, 9] [5, 10] σ s' ∧ (∀ j, s'.1 4 j = if j = 0 then σ.1 12 0 else σ.1 4 j) ∧ (∀ j, j < 32 → s'.2 5 j = σ.2 13 j) ∧ ∀ j, j < 8 → s'.1 6 j = σ.1 14 j ∧ s'.1 7 j = σ.1 15 j ∧ s'.1 8 j = σ.1 16 j ∧ s'.1 9 j = σ.1 17 j := by
    intro kk n
    induction n with
    | zero => intro t s h h'; omega
    | succ n ih =>
      intro t s ht hn a1 a2 a3 a4
      rw [f_X1_copyFrom_4_12_L10]
      rcases Nat.lt_or_ge t 8 with q | q
      · rw [if_neg (fun hc => by have := (c_ge 8 (by omega) (by decide)).mp hc; omega), copyTerm_4_12_s q, cA_s, nI_1]
        have hc : Sm [4, 6, 7, 8, 9] [5, 10] σ (cL s 13 5 (4 * t) (4 * t) 4) := ⟨a1.1, fun x hx => by
          rw [cL_2, if_neg (fun z => hx (by rw [z]; decide))]
          exact a1.2 x hx⟩
        refine ih (t + 1) _ (by omega) (by omega) ((((hc.i (by decide)).i (by decide)).i (by decide)).i (by decide)) (fun j => ?_) (fun j hj => ?_) (fun j hj => ?_)
        · rw [sI_ne _ (by decide), sI_ne _ (by decide), sI_ne _ (by decide), sI_ne _ (by decide)]; exact a2 j
        · show (cL s 13 5 (4 * t) (4 * t) 4).2 5 j = _
          rw [cL_2, if_pos rfl]
          by_cases z : 4 * t ≤ j ∧ j < 4 * t + 4
          · rw [if_pos z, a1.2 13 (by decide), show 4 * t + (j - 4 * t) = j by omega]
          · rw [if_neg z]; exact a3 j (by omega)
        · by_cases z : j = t
          · subst z
            simp only [sI_1, cL_1, a1.1 14 (by decide), a1.1 15 (by decide), a1.1 16 (by decide), a1.1 17 (by decide)]
            simp
          · simp only [sI_1, cL_1]
            simp [z]
            exact a4 j (by omega)
      · have : t = 8 := by omega
        subst this
        rw [if_pos (by decide)]
        exact ⟨s, rfl, a1, a2, a3, a4⟩
  obtain ⟨s', b0, b1, b2, b3, b4⟩ := key (fun (s7 : Sg) => pI s7 4 6 (s7.1 12 6) fun s8 => (xL4 s8 18 5 10 5 0 0 5 fun s10 => (some ((), s10)))) fu 0 (sI σ 4 0 (σ.1 12 0)) (by omega) (by unfold fu; omega) (Sm.rf.i (by decide)) (fun j => by rw [sI_1]; by_cases z : j = 0 <;> simp [z]) (fun j hj => by omega) (fun j hj => by omega)
  refine ⟨cL (sI s' 4 6 (s'.1 12 6)) 18 10 0 0 5, ?_, ?_, ?_, ?_⟩
  · unfold f_X1_copyFrom_4_12
    rw [pI_s]
    refine b0.trans ?_
    rw [pI_s, show (0 : Int32) = nI 0 from rfl, show (5 : Int32) = nI 5 from rfl, xL4_n (by omega) (by omega) (by decide) (by decide)]
  · obtain ⟨c1, c2, c3, c4⟩ := hl
    refine ⟨?_, ?_, fun t ht => ?_, fun e he => ?_⟩
    · rw [cL_1, sI_1, if_neg (by decide), b2 0, if_pos rfl]; exact c1
    · rw [cL_1, sI_1, if_pos ⟨rfl, rfl⟩, b1.1 12 (by decide)]; exact c2
    · have h4 := (hB.2.2.1 t ht).1
      obtain ⟨d1, d2, d3, d4, d5⟩ := c3 t ht
      obtain ⟨e1, e2, e3, e4⟩ := b4 t (by omega)
      rw [cL_1, sI_ne _ (by decide), sI_ne _ (by decide), sI_ne _ (by decide), sI_ne _ (by decide), e1, e2, e3, e4]
      refine ⟨d1, d2, d3, d4, fun k hk => ?_⟩
      rw [cL_2, if_neg (by decide), sI_2, b3 _ (by omega)]
      exact d5 k hk
    · rw [cL_2, if_pos rfl]
      rw [if_pos (by omega), sI_2, b1.2 18 (by decide), show 0 + (e - 0) = e by omega]
      exact c4 e he
  · have hc := b1.i (k := 4) (j := 6) (v := s'.1 12 6) (by decide)
    exact ⟨hc.1, fun x hx => by
      rw [cL_2, if_neg (fun z => hx (by rw [z]; decide))]
      exact hc.2 x hx⟩
  · rw [cL_1, sI_1, if_neg (by decide), b2 8, if_neg (by decide)]
theorem copyTerm_4_19_s {σ : Sg} {t : Nat} (ht : t < 8) : f_X1_copyTerm_4_19 σ (nI t) (nI t) = some ((), sI (sI (sI (sI (cL σ 20 5 (4 * t) (4 * t) 4) 6 t (σ.1 21 t)) 7 t (σ.1 22 t)) 8 t (σ.1 23 t)) 9 t (σ.1 24 t)) := by
  unfold f_X1_copyTerm_4_19
  rw [mul4, show (4 : Int32) = nI 4 from rfl, xL4_n (by omega) (by omega) (by decide) (by decide), rI_n ht (by decide), wI_n ht (by decide), rI_n ht (by decide), wI_n ht (by decide), rI_n ht (by decide), wI_n ht (by decide), rI_n ht (by decide), wI_n ht (by decide)]
  simp [sI_1, cL_1]
theorem copyFrom_4_19_s {σ : Sg} {B : Bk} (hB : Bok B) (hl : lexP (σ.1 19) (σ.2 20) (σ.1 21) (σ.1 22) (σ.1 23) (σ.1 24) (σ.2 25) B) : ∃ s', f_X1_copyFrom_4_19 σ = some ((), s') ∧ lexP (s'.1 4) (s'.2 5) (s'.1 6) (s'.1 7) (s'.1 8) (s'.1 9) (s'.2 10) B ∧ Sm [4, 6, 7, 8, 9] [5, 10] σ s' ∧ s'.1 4 8 = σ.1 4 8 := by
  have h8 := hB.1
  have h5 := hB.2.1
  have key : ∀ (kk : Sg → Option (Unit × Sg)) n t s, t ≤ 8 → 8 < n + t → Sm [4, 6, 7, 8, 9] [5, 10] σ s → (∀ j, s.1 4 j = if j = 0 then σ.1 19 0 else σ.1 4 j) → (∀ j, j < 4 * t → s.2 5 j = σ.2 20 j) → (∀ j, j < t → s.1 6 j = σ.1 21 j ∧ s.1 7 j = σ.1 22 j ∧ s.1 8 j = σ.1 23 j ∧ s.1 9 j = σ.1 24 j) → ∃ s', f_X1_copyFrom_4_19_L10 kk n s (nI t) = kk s' ∧ Sm [4, 6, 7, 8, 9] [5, 10] σ s' ∧ (∀ j, s'.1 4 j = if j = 0 then σ.1 19 0 else σ.1 4 j) ∧ (∀ j, j < 32 → s'.2 5 j = σ.2 20 j) ∧ ∀ j, j < 8 → s'.1 6 j = σ.1 21 j ∧ s'.1 7 j = σ.1 22 j ∧ s'.1 8 j = σ.1 23 j ∧ s'.1 9 j = σ.1 24 j := by
    intro kk n
    induction n with
    | zero => intro t s h h'; omega
    | succ n ih =>
      intro t s ht hn a1 a2 a3 a4
      rw [f_X1_copyFrom_4_19_L10]
      rcases Nat.lt_or_ge t 8 with q | q
      · rw [if_neg (fun hc => by have := (c_ge 8 (by omega) (by decide)).mp hc; omega), copyTerm_4_19_s q, cA_s, nI_1]
        have hc : Sm [4, 6, 7, 8, 9] [5, 10] σ (cL s 20 5 (4 * t) (4 * t) 4) := ⟨a1.1, fun x hx => by
          rw [cL_2, if_neg (fun z => hx (by rw [z]; decide))]
          exact a1.2 x hx⟩
        refine ih (t + 1) _ (by omega) (by omega) ((((hc.i (by decide)).i (by decide)).i (by decide)).i (by decide)) (fun j => ?_) (fun j hj => ?_) (fun j hj => ?_)
        · rw [sI_ne _ (by decide), sI_ne _ (by decide), sI_ne _ (by decide), sI_ne _ (by decide)]; exact a2 j
        · show (cL s 20 5 (4 * t) (4 * t) 4).2 5 j = _
          rw [cL_2, if_pos rfl]
          by_cases z : 4 * t ≤ j ∧ j < 4 * t + 4
          · rw [if_pos z, a1.2 20 (by decide), show 4 * t + (j - 4 * t) = j by omega]
          · rw [if_neg z]; exact a3 j (by omega)
        · by_cases z : j = t
          · subst z
            simp only [sI_1, cL_1, a1.1 21 (by decide), a1.1 22 (by decide), a1.1 23 (by decide), a1.1 24 (by decide)]
            simp
          · simp only [sI_1, cL_1]
            simp [z]
            exact a4 j (by omega)
      · have : t = 8 := by omega
        subst this
        rw [if_pos (by decide)]
        exact ⟨s, rfl, a1, a2, a3, a4⟩
  obtain ⟨s', b0, b1, b2, b3, b4⟩ := key (fun (s7 : Sg) => pI s7 4 6 (s7.1 19 6) fun s8 => (xL4 s8 25 5 10 5 0 0 5 fun s10 => (some ((), s10)))) fu 0 (sI σ 4 0 (σ.1 19 0)) (by omega) (by unfold fu; omega) (Sm.rf.i (by decide)) (fun j => by rw [sI_1]; by_cases z : j = 0 <;> simp [z]) (fun j hj => by omega) (fun j hj => by omega)
  refine ⟨cL (sI s' 4 6 (s'.1 19 6)) 25 10 0 0 5, ?_, ?_, ?_, ?_⟩
  · unfold f_X1_copyFrom_4_19
    rw [pI_s]
    refine b0.trans ?_
    rw [pI_s, show (0 : Int32) = nI 0 from rfl, show (5 : Int32) = nI 5 from rfl, xL4_n (by omega) (by omega) (by decide) (by decide)]
  · obtain ⟨c1, c2, c3, c4⟩ := hl
    refine ⟨?_, ?_, fun t ht => ?_, fun e he => ?_⟩
    · rw [cL_1, sI_1, if_neg (by decide), b2 0, if_pos rfl]; exact c1
    · rw [cL_1, sI_1, if_pos ⟨rfl, rfl⟩, b1.1 19 (by decide)]; exact c2
    · have h4 := (hB.2.2.1 t ht).1
      obtain ⟨d1, d2, d3, d4, d5⟩ := c3 t ht
      obtain ⟨e1, e2, e3, e4⟩ := b4 t (by omega)
      rw [cL_1, sI_ne _ (by decide), sI_ne _ (by decide), sI_ne _ (by decide), sI_ne _ (by decide), e1, e2, e3, e4]
      refine ⟨d1, d2, d3, d4, fun k hk => ?_⟩
      rw [cL_2, if_neg (by decide), sI_2, b3 _ (by omega)]
      exact d5 k hk
    · rw [cL_2, if_pos rfl]
      rw [if_pos (by omega), sI_2, b1.2 25 (by decide), show 0 + (e - 0) = e by omega]
      exact c4 e he
  · have hc := b1.i (k := 4) (j := 6) (v := s'.1 19 6) (by decide)
    exact ⟨hc.1, fun x hx => by
      rw [cL_2, if_neg (fun z => hx (by rw [z]; decide))]
      exact hc.2 x hx⟩
  · rw [cL_1, sI_1, if_neg (by decide), b2 8, if_neg (by decide)]
theorem imageOf_s {σ : Sg} (a : Int32) : f_X7_imageOf σ a = some (if a = 0 then 12 else if a = 1 then 19 else 0) := by
  unfold f_X7_imageOf
  by_cases h0 : a < 0
  · rw [if_pos h0, if_neg (fun z => by rw [z] at h0; exact absurd h0 (by decide)), if_neg (fun z => by rw [z] at h0; exact absurd h0 (by decide))]
  · rw [if_neg h0]
    obtain ⟨j, hj, rfl⟩ := nI_of h0
    by_cases h2 : 2 ≤ j
    · rw [if_pos ((c_ge 2 hj (by decide)).mpr h2), if_neg (fun z => by have := (c_eq 0 hj (by decide)).mp z; omega), if_neg (fun z => by have := (c_eq 1 hj (by decide)).mp z; omega)]
    · rw [if_neg (fun z => h2 ((c_ge 2 hj (by decide)).mp z)), nI_clamp hj, mH_t (show ¬ (nI j < 0 ∨ 2 ≤ j) from fun z => by rcases z with z | z; exact h0 z; exact h2 z)]
      rcases (show j = 0 ∨ j = 1 by omega) with rfl | rfl <;> rfl
theorem imageOf_0 {σ : Sg} : f_X7_imageOf σ 0 = some 12 := by rw [imageOf_s]; rfl
theorem imageOf_1 {σ : Sg} : f_X7_imageOf σ 1 = some 19 := by rw [imageOf_s]; rfl
theorem imageOf_o {σ : Sg} {a : Int32} (h : ¬ (a = 0 ∨ a = 1)) : f_X7_imageOf σ a = some 0 := by rw [imageOf_s, if_neg (fun z => h (Or.inl z)), if_neg (fun z => h (Or.inr z))]
theorem in01 {σ : Sg} (a : Int32) : f_X8_in σ a 0 1 = some (bI (a = 0 ∨ a = 1)) := by
  rw [in8_s, in_bI]
  congr 1
  exact bI_cg i32_01
theorem nar1 : vp_nar .boolean 1 = 1 := rfl
/-- an image is kept -/
def imK (im : Nat → Option Bk) (i : Nat) (B : Bk) : Nat → Option Bk := fun j => if j = i then some B else im j
theorem bookP.cg {f f' : Nat → Int32} {B : Bk} (h : bookP f B) (hB : Bok B) (e : ∀ j, j < 475 → f' j = f j) : bookP f' B := by
  have h8 := hB.1
  have h5 := hB.2.1
  refine ⟨by rw [e 0 (by omega)]; exact h.1, by rw [e 1 (by omega)]; exact h.2.1, fun t ht => ?_, fun x hx => ?_⟩
  · obtain ⟨c1, c2, c3, c4, c5⟩ := h.2.2.1 t ht
    have hT := hB.2.2.1 t ht
    have hn := hT.1
    refine ⟨by rw [e _ (by omega)]; exact c1, by rw [e _ (by omega)]; exact c2, by rw [e _ (by omega)]; exact c3, by rw [e _ (by omega)]; exact c4, fun k hk => (c5 k hk).cg (fun j h1 h2 => ?_)⟩
    have h12 := (hT.2.2.2.2.1 k hk).2.2
    exact e j (by omega)
  · have h4 := (hB.2.2.2 x hx).2.2
    exact (h.2.2.2 x hx).cg (fun j h1 h2 => e j (by omega))
theorem keep8_L {s : Sg} {i : Nat} (hi : i < 2) (kk : Sg → Option (Int32 × Sg)) : ∃ s', f_X8_keep_L14 kk (nI i) fu s 0 = kk s' ∧ Sm [45] [] s s' ∧ (∀ j, j < 475 → s'.1 45 (475 * i + j) = s.1 44 j) ∧ ∀ j, (j < 475 * i ∨ 475 * i + 475 ≤ j) → s'.1 45 j = s.1 45 j := by
  have key : ∀ n j s2, j ≤ 475 → 475 < n + j → Sm [45] [] s s2 → (∀ x, x < j → s2.1 45 (475 * i + x) = s.1 44 x) → (∀ x, (x < 475 * i ∨ 475 * i + 475 ≤ x) → s2.1 45 x = s.1 45 x) → ∃ s', f_X8_keep_L14 kk (nI i) n s2 (nI j) = kk s' ∧ Sm [45] [] s s' ∧ (∀ j, j < 475 → s'.1 45 (475 * i + j) = s.1 44 j) ∧ ∀ j, (j < 475 * i ∨ 475 * i + 475 ≤ j) → s'.1 45 j = s.1 45 j := by
    intro n
    induction n with
    | zero => intro j s2 h h'; omega
    | succ n ih =>
      intro j s2 hj hn a1 a2 a3
      rw [f_X8_keep_L14]
      rcases Nat.lt_or_ge j 475 with q | q
      · rw [if_neg (fun hc => by have := (c_ge 475 (by omega) (by decide)).mp hc; omega), rI_n q (by decide), li 475, pk_mul, nI_add, wI_n (by omega) (by decide), nI_1, a1.1 44 (by decide)]
        refine ih (j + 1) _ (by omega) (by omega) (a1.i (by decide)) (fun x hx => ?_) (fun x hx => by rw [sI_1, if_neg (by omega)]; exact a3 x hx)
        rw [sI_1]
        by_cases z : x = j
        · rw [if_pos ⟨rfl, by rw [z]⟩, z]
        · rw [if_neg (by omega)]; exact a2 x (by omega)
      · have : j = 475 := by omega
        subst this
        rw [if_pos (by decide)]
        exact ⟨s2, rfl, a1, a2, a3⟩
  exact key fu 0 s (by omega) (by unfold fu; omega) Sm.rf (fun x hx => by omega) (fun _ _ => rfl)
theorem goBack8_L {s : Sg} {i : Nat} (hi : i < 2) (kk : Sg → Option (Int32 × Sg)) : ∃ s', f_X8_goBack_L26 kk (nI i) fu s 0 = kk s' ∧ Sm [44] [] s s' ∧ ∀ j, j < 475 → s'.1 44 j = s.1 45 (475 * i + j) := by
  have key : ∀ n j s2, j ≤ 475 → 475 < n + j → Sm [44] [] s s2 → (∀ x, x < j → s2.1 44 x = s.1 45 (475 * i + x)) → ∃ s', f_X8_goBack_L26 kk (nI i) n s2 (nI j) = kk s' ∧ Sm [44] [] s s' ∧ ∀ j, j < 475 → s'.1 44 j = s.1 45 (475 * i + j) := by
    intro n
    induction n with
    | zero => intro j s2 h h'; omega
    | succ n ih =>
      intro j s2 hj hn a1 a2
      rw [f_X8_goBack_L26]
      rcases Nat.lt_or_ge j 475 with q | q
      · rw [if_neg (fun hc => by have := (c_ge 475 (by omega) (by decide)).mp hc; omega), li 475, pk_mul, nI_add, rI_n (by omega) (by decide), wI_n q (by decide), nI_1, a1.1 45 (by decide)]
        refine ih (j + 1) _ (by omega) (by omega) (a1.i (by decide)) (fun x hx => ?_)
        rw [sI_1]
        by_cases z : x = j
        · rw [if_pos ⟨rfl, z⟩, z]
        · rw [if_neg (by omega)]; exact a2 x (by omega)
      · have : j = 475 := by omega
        subst this
        rw [if_pos (by decide)]
        exact ⟨s2, rfl, a1, a2⟩
  exact key fu 0 s (by omega) (by unfold fu; omega) Sm.rf (fun x hx => by omega)
theorem ps_keep (σ : Sg) (a1 : Int32) (h : InvA σ) : ∃ (r : Int32) (σ1 σ2 : Sg), f_X7_keep σ a1 = some (r, σ1) ∧ f_X8_keep σ1 a1 = some (r, σ2) ∧ InvA σ2 := by
  refine step2 (f7 := fun s => f_X7_keep s a1) (f8 := fun s => f_X8_keep s a1) h (fun M hm => ?_)
  obtain ⟨S, B, T, im⟩ := M
  have hm0 := hm
  obtain ⟨hS, hB, hT, hI⟩ := hm
  have hB : Bok B := hB
  have hI : ∀ i B, im i = some B → Bok B := hI
  have h8 := hB.1
  have n10 : ¬ (1 : Int32) = 0 := by decide
  by_cases ha : a1 = 0 ∨ a1 = 1
  · rcases ha with hi | hi
    · subst hi
      refine ⟨nI (b_tc B), (S, B, T, imK im 0 B), ⟨hS, hB, hT, fun j B2 h2 => by
        have h2 : (if j = 0 then some B else im j) = some B2 := h2
        split at h2
        · cases h2; exact hB
        · exact hI j B2 h2⟩, fun hC => ?_, fun s hR => ?_⟩
      · obtain ⟨g1, g2, g3, g4, g5, g6⟩ := hC
        obtain ⟨s1, c1, c2, c3, c4⟩ := copyFrom_12_4_s (σ := σ) hB g2
        have u : Sm [12, 14, 15, 16, 17] [13, 18] σ (sI s1 12 8 1) := c3.i (by decide)
        refine ⟨sI s1 12 8 1, ?_, ⟨u.slp (by decide) g1, u.lex (by decide) (by decide) g2, u.txt (by decide) (by decide) g3, ?_, u.scn (by decide) g5, u.mnd (by decide) g6⟩, u.u43 (by decide)⟩
        · unfold f_X7_keep
          rw [imageOf_0, cP_s, if_pos rfl, c1, cA_s, pI_s, sI_ne s1 (by decide), c3.1 4 (by decide)]
          exact congrArg (fun x => some (x, sI s1 12 8 1)) g2.1
        · have hl : lexP ((sI s1 12 8 1).1 12) ((sI s1 12 8 1).2 13) ((sI s1 12 8 1).1 14) ((sI s1 12 8 1).1 15) ((sI s1 12 8 1).1 16) ((sI s1 12 8 1).1 17) ((sI s1 12 8 1).2 18) B := by
            obtain ⟨d1, d2, d3, d4⟩ := c2
            refine ⟨by rw [sI_1, if_neg (by decide)]; exact d1, by rw [sI_1, if_neg (by decide)]; exact d2, fun t ht => ?_, d4⟩
            rw [sI_ne s1 (by decide), sI_ne s1 (by decide), sI_ne s1 (by decide), sI_ne s1 (by decide)]
            exact d3 t ht
          refine ⟨⟨by rw [sI_1, if_pos ⟨rfl, rfl⟩], hl⟩, ?_⟩
          have := g4.2
          rw [u.1 19 (by decide), u.1 21 (by decide), u.1 22 (by decide), u.1 23 (by decide), u.1 24 (by decide), u.2 20 (by decide), u.2 25 (by decide)]
          exact this
      · obtain ⟨g1, g2, g3, g4, g5⟩ := hR
        obtain ⟨s1, c1, c2, c3, c4⟩ := keep8_L (s := s) (i := 0) (by omega) (fun (s10 : Sg) => wI s10 46 2 (nI 0) (vp_nar .boolean 1) fun s11 => (rI s11 44 475 0 fun x14 => (some (x14, s11))))
        have u : Sm [45, 46] [] s (sI s1 46 0 1) := (c2.up (by decide) (by decide)).i (by decide)
        refine ⟨sI s1 46 0 1, ?_, ?_, u.u42 (by decide)⟩
        · unfold f_X8_keep
          rw [in01, cP_s, bI_t (Or.inl rfl), if_neg n10]
          refine c1.trans ?_
          rw [wI_n (by omega) (by decide), nar1, show (0 : Int32) = nI 0 from rfl, rI_n (by omega) (by decide), sI_ne s1 (by decide), c2.1 44 (by decide)]
          exact congrArg (fun x => some (x, sI s1 46 0 1)) g2.1
        · refine ⟨?_, ?_, ?_, ?_, ?_⟩
          · rw [u.1 43 (by decide), u.1 47 (by decide)]; exact g1
          · rw [u.1 44 (by decide)]; exact g2
          · rw [u.1 43 (by decide), u.1 48 (by decide)]; exact g3
          · rw [show (sI s1 46 0 1).1 45 = s1.1 45 from sI_ne s1 (by decide)]
            show (sI s1 46 0 1).1 46 0 = 1 ∧ bookP (fun j => s1.1 45 j) B
            exact ⟨by rw [sI_1, if_pos ⟨rfl, rfl⟩], bookP.cg g2 hB (fun j hj => by have := c3 j hj; rw [show 475 * 0 + j = j by omega] at this; exact this)⟩
          · rw [show (sI s1 46 0 1).1 45 = s1.1 45 from sI_ne s1 (by decide)]
            rw [sI_1, if_neg (by decide), c2.1 46 (by decide)]
            show imgP (s.1 46 1) (fun j => s1.1 45 (475 + j)) (im 1)
            have h0 : imgP (s.1 46 1) (fun j => s.1 45 (475 + j)) (im 1) := g5
            cases him : im 1 with
            | none => rw [him] at h0; exact h0
            | some B2 =>
              rw [him] at h0
              exact ⟨h0.1, h0.2.cg (hI 1 B2 him) (fun j hj => c4 (475 + j) (by omega))⟩
    · subst hi
      refine ⟨nI (b_tc B), (S, B, T, imK im 1 B), ⟨hS, hB, hT, fun j B2 h2 => by
        have h2 : (if j = 1 then some B else im j) = some B2 := h2
        split at h2
        · cases h2; exact hB
        · exact hI j B2 h2⟩, fun hC => ?_, fun s hR => ?_⟩
      · obtain ⟨g1, g2, g3, g4, g5, g6⟩ := hC
        obtain ⟨s1, c1, c2, c3, c4⟩ := copyFrom_19_4_s (σ := σ) hB g2
        have u : Sm [19, 21, 22, 23, 24] [20, 25] σ (sI s1 19 8 1) := c3.i (by decide)
        refine ⟨sI s1 19 8 1, ?_, ⟨u.slp (by decide) g1, u.lex (by decide) (by decide) g2, u.txt (by decide) (by decide) g3, ?_, u.scn (by decide) g5, u.mnd (by decide) g6⟩, u.u43 (by decide)⟩
        · unfold f_X7_keep
          rw [imageOf_1, cP_s, if_neg (by decide), if_pos rfl, c1, cA_s, pI_s, sI_ne s1 (by decide), c3.1 4 (by decide)]
          exact congrArg (fun x => some (x, sI s1 19 8 1)) g2.1
        · have hl : lexP ((sI s1 19 8 1).1 19) ((sI s1 19 8 1).2 20) ((sI s1 19 8 1).1 21) ((sI s1 19 8 1).1 22) ((sI s1 19 8 1).1 23) ((sI s1 19 8 1).1 24) ((sI s1 19 8 1).2 25) B := by
            obtain ⟨d1, d2, d3, d4⟩ := c2
            refine ⟨by rw [sI_1, if_neg (by decide)]; exact d1, by rw [sI_1, if_neg (by decide)]; exact d2, fun t ht => ?_, d4⟩
            rw [sI_ne s1 (by decide), sI_ne s1 (by decide), sI_ne s1 (by decide), sI_ne s1 (by decide)]
            exact d3 t ht
          refine ⟨?_, ⟨by rw [sI_1, if_pos ⟨rfl, rfl⟩], hl⟩⟩
          have := g4.1
          rw [u.1 12 (by decide), u.1 14 (by decide), u.1 15 (by decide), u.1 16 (by decide), u.1 17 (by decide), u.2 13 (by decide), u.2 18 (by decide)]
          exact this
      · obtain ⟨g1, g2, g3, g4, g5⟩ := hR
        obtain ⟨s1, c1, c2, c3, c4⟩ := keep8_L (s := s) (i := 1) (by omega) (fun (s10 : Sg) => wI s10 46 2 (nI 1) (vp_nar .boolean 1) fun s11 => (rI s11 44 475 0 fun x14 => (some (x14, s11))))
        have u : Sm [45, 46] [] s (sI s1 46 1 1) := (c2.up (by decide) (by decide)).i (by decide)
        refine ⟨sI s1 46 1 1, ?_, ?_, u.u42 (by decide)⟩
        · unfold f_X8_keep
          rw [in01, cP_s, bI_t (Or.inr rfl), if_neg n10]
          refine c1.trans ?_
          rw [wI_n (by omega) (by decide), nar1, show (0 : Int32) = nI 0 from rfl, rI_n (by omega) (by decide), sI_ne s1 (by decide), c2.1 44 (by decide)]
          exact congrArg (fun x => some (x, sI s1 46 1 1)) g2.1
        · refine ⟨?_, ?_, ?_, ?_, ?_⟩
          · rw [u.1 43 (by decide), u.1 47 (by decide)]; exact g1
          · rw [u.1 44 (by decide)]; exact g2
          · rw [u.1 43 (by decide), u.1 48 (by decide)]; exact g3
          · rw [show (sI s1 46 1 1).1 45 = s1.1 45 from sI_ne s1 (by decide)]
            rw [sI_1, if_neg (by decide), c2.1 46 (by decide)]
            show imgP (s.1 46 0) (fun j => s1.1 45 j) (im 0)
            have h0 : imgP (s.1 46 0) (fun j => s.1 45 j) (im 0) := g4
            cases him : im 0 with
            | none => rw [him] at h0; exact h0
            | some B2 =>
              rw [him] at h0
              exact ⟨h0.1, h0.2.cg (hI 0 B2 him) (fun j hj => c4 j (by omega))⟩
          · rw [show (sI s1 46 1 1).1 45 = s1.1 45 from sI_ne s1 (by decide)]
            show (sI s1 46 1 1).1 46 1 = 1 ∧ bookP (fun j => s1.1 45 (475 + j)) B
            exact ⟨by rw [sI_1, if_pos ⟨rfl, rfl⟩], bookP.cg g2 hB (fun j hj => c3 j hj)⟩
  · have q0 : ¬ a1 = 0 := fun z => ha (Or.inl z)
    have q1 : ¬ a1 = 1 := fun z => ha (Or.inr z)
    refine ⟨-1000000001, (S, B, T, im), hm0, fun hC => ⟨σ, ?_, hC, Un43.rf⟩, fun s hR => ⟨s, ?_, hR, Un42.rf⟩⟩
    · unfold f_X7_keep
      rw [imageOf_o ha, cP_s, if_neg (by decide), if_neg (by decide), if_pos rfl]
    · unfold f_X8_keep
      rw [in01, cP_s, bI_f ha, if_pos rfl]
theorem ps_goBack (σ : Sg) (a1 : Int32) (h : InvA σ) : ∃ (r : Int32) (σ1 σ2 : Sg), f_X7_goBack σ a1 = some (r, σ1) ∧ f_X8_goBack σ1 a1 = some (r, σ2) ∧ InvA σ2 := by
  refine step2 (f7 := fun s => f_X7_goBack s a1) (f8 := fun s => f_X8_goBack s a1) h (fun M hm => ?_)
  obtain ⟨S, B, T, im⟩ := M
  have hm0 := hm
  obtain ⟨hS, hB, hT, hI⟩ := hm
  have hB : Bok B := hB
  have hI : ∀ i B, im i = some B → Bok B := hI
  have h8 := hB.1
  have n10 : ¬ (1 : Int32) = 0 := by decide
  by_cases ha : a1 = 0 ∨ a1 = 1
  · rcases ha with hi | hi
    · subst hi
      cases him : im 0 with
      | none =>
        refine ⟨-1000000003, (S, B, T, im), hm0, fun hC => ⟨σ, ?_, hC, Un43.rf⟩, fun s hR => ⟨s, ?_, hR, Un42.rf⟩⟩
        · have g4 := hC.2.2.2.1.1
          have g4 : imgC (σ.1 12) (σ.2 13) (σ.1 14) (σ.1 15) (σ.1 16) (σ.1 17) (σ.2 18) (im 0) := g4
          rw [him] at g4
          unfold f_X7_goBack
          have g5 : σ.1 12 8 = 0 := g4
          rw [imageOf_0, cP_s, if_pos rfl, if_pos g5]
        · have g4 : imgP (s.1 46 0) (fun j => s.1 45 (j)) (im 0) := hR.2.2.2.1
          rw [him] at g4
          unfold f_X8_goBack
          rw [in01, cP_s, bI_t (Or.inl rfl), if_neg n10, show (0 : Int32) = nI 0 from rfl, rI_n (by omega) (by decide)]
          exact if_pos g4
      | some B2 =>
        have hB2 := hI 0 B2 him
        have h82 := hB2.1
        refine ⟨nI (b_tc B2), (S, B2, T, im), ⟨hS, hB2, hT, hI⟩, fun hC => ?_, fun s hR => ?_⟩
        · have g4 : imgC (σ.1 12) (σ.2 13) (σ.1 14) (σ.1 15) (σ.1 16) (σ.1 17) (σ.2 18) (im 0) := hC.2.2.2.1.1
          rw [him] at g4
          have k1 : ¬ σ.1 12 8 = 0 := by rw [g4.1]; exact n10
          obtain ⟨s1, c1, c2, c3, c4⟩ := copyFrom_4_12_s (σ := σ) hB2 g4.2
          obtain ⟨s', e1, e2, e3, e4, e5⟩ := hC.terms (L := [4, 6, 7, 8, 9]) (c3.up (by decide) (by decide)) (by decide) (show lexC s1 B2 from c2)
          refine ⟨s', ?_, e2, e3⟩
          unfold f_X7_goBack
          rw [imageOf_0, cP_s, if_pos rfl, if_neg k1, c1, cA_s, e1, cA_s, e5.1]
        · have g4 : imgP (s.1 46 0) (fun j => s.1 45 (j)) (im 0) := hR.2.2.2.1
          rw [him] at g4
          have k1 : ¬ s.1 46 0 = 0 := by rw [g4.1]; exact n10
          obtain ⟨s1, c1, c2, c3⟩ := goBack8_L (s := s) (i := 0) (by omega) (fun (s13 : Sg) => rI s13 44 475 0 fun x14 => (some (x14, s13)))
          have hb2 : bookP (s1.1 44) B2 := g4.2.cg hB2 (fun j hj => by rw [c3 j hj]; exact congrArg (s.1 45) (by omega))
          refine ⟨s1, ?_, hR.book c2 hb2, c2.u42 (by decide)⟩
          unfold f_X8_goBack
          rw [in01, cP_s, bI_t (Or.inl rfl), if_neg n10]
          have r0 : ∀ (F : Int32 → Option (Int32 × Sg)), rI s 46 2 0 F = F (s.1 46 0) := fun F => by rw [show (0 : Int32) = nI 0 from rfl, rI_n (by omega) (by decide)]
          rw [r0, if_neg k1]
          refine c1.trans ?_
          rw [show (0 : Int32) = nI 0 from rfl, rI_n (by omega) (by decide), hb2.1]
    · subst hi
      cases him : im 1 with
      | none =>
        refine ⟨-1000000003, (S, B, T, im), hm0, fun hC => ⟨σ, ?_, hC, Un43.rf⟩, fun s hR => ⟨s, ?_, hR, Un42.rf⟩⟩
        · have g4 := hC.2.2.2.1.2
          have g4 : imgC (σ.1 19) (σ.2 20) (σ.1 21) (σ.1 22) (σ.1 23) (σ.1 24) (σ.2 25) (im 1) := g4
          rw [him] at g4
          unfold f_X7_goBack
          have g5 : σ.1 19 8 = 0 := g4
          rw [imageOf_1, cP_s, if_neg (by decide), if_pos rfl, if_pos g5]
        · have g4 : imgP (s.1 46 1) (fun j => s.1 45 (475 + j)) (im 1) := hR.2.2.2.2
          rw [him] at g4
          unfold f_X8_goBack
          rw [in01, cP_s, bI_t (Or.inr rfl), if_neg n10, show (1 : Int32) = nI 1 from rfl, rI_n (by omega) (by decide)]
          exact if_pos g4
      | some B2 =>
        have hB2 := hI 1 B2 him
        have h82 := hB2.1
        refine ⟨nI (b_tc B2), (S, B2, T, im), ⟨hS, hB2, hT, hI⟩, fun hC => ?_, fun s hR => ?_⟩
        · have g4 : imgC (σ.1 19) (σ.2 20) (σ.1 21) (σ.1 22) (σ.1 23) (σ.1 24) (σ.2 25) (im 1) := hC.2.2.2.1.2
          rw [him] at g4
          have k1 : ¬ σ.1 19 8 = 0 := by rw [g4.1]; exact n10
          obtain ⟨s1, c1, c2, c3, c4⟩ := copyFrom_4_19_s (σ := σ) hB2 g4.2
          obtain ⟨s', e1, e2, e3, e4, e5⟩ := hC.terms (L := [4, 6, 7, 8, 9]) (c3.up (by decide) (by decide)) (by decide) (show lexC s1 B2 from c2)
          refine ⟨s', ?_, e2, e3⟩
          unfold f_X7_goBack
          rw [imageOf_1, cP_s, if_neg (by decide), if_pos rfl, if_neg k1, c1, cA_s, e1, cA_s, e5.1]
        · have g4 : imgP (s.1 46 1) (fun j => s.1 45 (475 + j)) (im 1) := hR.2.2.2.2
          rw [him] at g4
          have k1 : ¬ s.1 46 1 = 0 := by rw [g4.1]; exact n10
          obtain ⟨s1, c1, c2, c3⟩ := goBack8_L (s := s) (i := 1) (by omega) (fun (s13 : Sg) => rI s13 44 475 0 fun x14 => (some (x14, s13)))
          have hb2 : bookP (s1.1 44) B2 := g4.2.cg hB2 (fun j hj => by rw [c3 j hj])
          refine ⟨s1, ?_, hR.book c2 hb2, c2.u42 (by decide)⟩
          unfold f_X8_goBack
          rw [in01, cP_s, bI_t (Or.inr rfl), if_neg n10]
          have r0 : ∀ (F : Int32 → Option (Int32 × Sg)), rI s 46 2 1 F = F (s.1 46 1) := fun F => by rw [show (1 : Int32) = nI 1 from rfl, rI_n (by omega) (by decide)]
          rw [r0, if_neg k1]
          refine c1.trans ?_
          rw [show (0 : Int32) = nI 0 from rfl, rI_n (by omega) (by decide), hb2.1]
  · have q0 : ¬ a1 = 0 := fun z => ha (Or.inl z)
    have q1 : ¬ a1 = 1 := fun z => ha (Or.inr z)
    refine ⟨-1000000001, (S, B, T, im), hm0, fun hC => ⟨σ, ?_, hC, Un43.rf⟩, fun s hR => ⟨s, ?_, hR, Un42.rf⟩⟩
    · unfold f_X7_goBack
      rw [imageOf_o ha, cP_s, if_neg (by decide), if_neg (by decide), if_pos rfl]
    · unfold f_X8_goBack
      rw [in01, cP_s, bI_f ha, if_pos rfl]
