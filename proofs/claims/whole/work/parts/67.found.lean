/-! the k-th found -/
theorem bc8 : ∀ k, k < 256 → bcI (nI k) = nI (sumN (fun u => if bt (nI k) u = true then 1 else 0) 8) := by decide +kernel
noncomputable def QF (B : Bk) (T : Tx) : Nat → Nat → Bool := fun j u => fB B T u j
noncomputable def QC (B : Bk) (T : Tx) : Nat → Nat → Bool := fun j u => decide (ch B T j = nI u)
section FD
variable {B : Bk} {T : Tx} {s : Sg}
theorem bc_starts (hB : Bok B) (hk : lookP (s.1 32) (s.1 33) B T (t_c T)) {j : Nat} (hj : j < t_c T) : bcI (s.1 33 j) = nI (rcn (QF B T) (b_tc B) j) := by
  have h8 := hB.1
  have hbit : ∀ u, u < 32 → (bt (s.1 33 j) u = true ↔ u < b_tc B ∧ fnd B T u j) := fun u hu => hk.2 j hj u hu
  have e : s.1 33 j &&& 255 = s.1 33 j := by
    apply b_ext
    intro i hi
    rw [b_and, b_255]
    by_cases z : i < 8
    · simp [z]
    · have : bt (s.1 33 j) i = false := ts_nt (fun g => by have := ((hbit i hi).mp g).1; omega)
      rw [this]; rfl
  obtain ⟨k, hk8, ek⟩ := pk_andE (s.1 33 j) (m := 255) 8 (by decide)
  rw [e] at ek
  rw [ek, bc8 k hk8, ← ek]
  congr 1
  unfold rcn
  rw [sumN_ext (a := b_tc B) (b := 8) h8 (fun u h1 h2 => if_neg (fun g => by have := ((hbit u (by omega)).mp g).1; omega))]
  refine sumN_cg (fun u hu => ?_)
  unfold ind QF
  by_cases z : bt (s.1 33 j) u = true
  · rw [if_pos z, if_pos (fB_iff.mpr ((hbit u (by omega)).mp z).2)]
  · rw [if_neg z, if_neg (fun g => z ((hbit u (by omega)).mpr ⟨hu, fB_iff.mp g⟩))]
theorem rcn_le {Q : Nat → Nat → Bool} {j : Nat} : ∀ m, sumN (ind Q j) m ≤ m := by
  intro m
  induction m with
  | zero => exact Nat.le_refl _
  | succ m ih =>
    show sumN (ind Q j) m + ind Q j m ≤ m + 1
    have : ind Q j m ≤ 1 := by unfold ind; split <;> omega
    omega
theorem tot_le {Q : Nat → Nat → Bool} {m : Nat} (hm : m ≤ 8) : ∀ c, sumN (rcn Q m) c ≤ 8 * c := by
  intro c
  induction c with
  | zero => exact Nat.le_refl _
  | succ c ih =>
    show sumN (rcn Q m) c + rcn Q m c ≤ 8 * (c + 1)
    have := rcn_le (Q := Q) (j := c) m
    unfold rcn at this ih ⊢
    omega
theorem foundAt7_A (hB : Bok B) (hT : Tok T) (hx : txtC s T) (hk : lookP (s.1 32) (s.1 33) B T (t_c T)) {k i t : Nat} (hk2 : k < 2 ^ 31) (hi : i < t_c T) (ht : t < b_tc B) (hq : QF B T i t = true) (hp : pf (QF B T) (b_tc B) i t = k) : f_X4_foundAt s (nI k) = some (nI i) := by
  have h60 := hT.1
  have h8 := hB.1
  have key : ∀ n j, j ≤ i → t_c T < n + j → f_X4_foundAt_L4 (some (-1)) s (nI k) n (nI (sumN (rcn (QF B T) (b_tc B)) j)) (nI j) = some (nI i) := by
    intro n
    induction n with
    | zero => intro j h1 h2; omega
    | succ n ih =>
      intro j h1 h2
      have hto := tot_le (Q := QF B T) h8 (j + 1)
      have es : sumN (rcn (QF B T) (b_tc B)) (j + 1) = sumN (rcn (QF B T) (b_tc B)) j + rcn (QF B T) (b_tc B) j := rfl
      rw [f_X4_foundAt_L4, hx.1, if_neg (fun z => by have := (nI_leI (by omega) (by omega)).mp z; omega), rI_n (by omega) (by decide), bitCount_s, cP_s, bc_starts hB hk (by omega), nI_add, ← es, nI_1]
      by_cases z : j = i
      · subst z
        have := pf_le (Q := QF B T) (m := b_tc B) (j := j) (u := t + 1) (i := j + 1) (t := 0) (by omega) (Or.inl (by omega))
        rw [pf_t hq] at this
        have : pf (QF B T) (b_tc B) j t + 1 ≤ sumN (rcn (QF B T) (b_tc B)) (j + 1) := this
        rw [if_neg (fun z => by have := (nI_leI (by omega) (by omega)).mp z; omega)]
      · have := pf_le (Q := QF B T) (m := b_tc B) (j := j + 1) (u := 0) (i := i) (t := t) (Nat.zero_le _) (by omega)
        have : sumN (rcn (QF B T) (b_tc B)) (j + 1) ≤ pf (QF B T) (b_tc B) i t := this
        rw [if_pos (nI_le (by omega) (by omega))]
        exact ih (j + 1) (by omega) (by omega)
  exact key fu 0 (Nat.zero_le _) (by unfold fu; omega)
theorem foundAt7_B (hB : Bok B) (hT : Tok T) (hx : txtC s T) (hk : lookP (s.1 32) (s.1 33) B T (t_c T)) {k : Nat} (hk2 : k < 2 ^ 31) (ht : sumN (rcn (QF B T) (b_tc B)) (t_c T) ≤ k) : f_X4_foundAt s (nI k) = some (-1) := by
  have h60 := hT.1
  have h8 := hB.1
  have key : ∀ n j, j ≤ t_c T → t_c T < n + j → f_X4_foundAt_L4 (some (-1)) s (nI k) n (nI (sumN (rcn (QF B T) (b_tc B)) j)) (nI j) = some (-1) := by
    intro n
    induction n with
    | zero => intro j h1 h2; omega
    | succ n ih =>
      intro j h1 h2
      have hto := tot_le (Q := QF B T) h8 (j + 1)
      have es : sumN (rcn (QF B T) (b_tc B)) (j + 1) = sumN (rcn (QF B T) (b_tc B)) j + rcn (QF B T) (b_tc B) j := rfl
      rw [f_X4_foundAt_L4, hx.1]
      by_cases z : j = t_c T
      · subst z
        rw [if_pos (nI_le (Nat.le_refl _) (by omega))]
      · have := sumN_mono (f := rcn (QF B T) (b_tc B)) (show j + 1 ≤ t_c T by omega)
        rw [if_neg (fun z => by have := (nI_leI (by omega) (by omega)).mp z; omega), rI_n (by omega) (by decide), bitCount_s, cP_s, bc_starts hB hk (by omega), nI_add, ← es, nI_1, if_pos (nI_le (by omega) (by omega))]
        exact ih (j + 1) (by omega) (by omega)
  exact key fu 0 (Nat.zero_le _) (by unfold fu; omega)
theorem foundCount7_s (hB : Bok B) (hT : Tok T) (hx : txtC s T) (hk : lookP (s.1 32) (s.1 33) B T (t_c T)) : f_X4_foundCount s = some (nI (sumN (rcn (QF B T) (b_tc B)) (t_c T))) := by
  have h60 := hT.1
  have h8 := hB.1
  have key : ∀ n j, j ≤ t_c T → t_c T < n + j → f_X4_foundCount_L4 (fun (v7 : Int32) => some v7) s n (nI (sumN (rcn (QF B T) (b_tc B)) j)) (nI j) = some (nI (sumN (rcn (QF B T) (b_tc B)) (t_c T))) := by
    intro n
    induction n with
    | zero => intro j h1 h2; omega
    | succ n ih =>
      intro j h1 h2
      have es : sumN (rcn (QF B T) (b_tc B)) (j + 1) = sumN (rcn (QF B T) (b_tc B)) j + rcn (QF B T) (b_tc B) j := rfl
      rw [f_X4_foundCount_L4, hx.1]
      by_cases z : j = t_c T
      · subst z
        rw [if_pos (nI_le (Nat.le_refl _) (by omega))]
      · rw [if_neg (fun z => by have := (nI_leI (by omega) (by omega)).mp z; omega), rI_n (by omega) (by decide), bitCount_s, cP_s, bc_starts hB hk (by omega), nI_add, ← es, nI_1]
        exact ih (j + 1) (by omega) (by omega)
  exact key fu 0 (Nat.zero_le _) (by unfold fu; omega)
/-- a row without it -/
theorem foundTerm7_row (hB : Bok B) (hT : Tok T) (hl : lexC s B) (hk : lookP (s.1 32) (s.1 33) B T (t_c T)) {k j : Nat} (hk2 : k < 2 ^ 31) (hj : j < t_c T) (hno : ∀ u, u < b_tc B → QF B T j u = true → pf (QF B T) (b_tc B) j u ≠ k) (kk : Int32 → Option Int32) : ∀ n u, u ≤ b_tc B → b_tc B < n + u → f_X4_foundTerm_L18 kk s (nI k) (nI j) n (nI (pf (QF B T) (b_tc B) j u)) (nI u) = kk (nI (pf (QF B T) (b_tc B) j (b_tc B))) := by
  have h60 := hT.1
  have h8 := hB.1
  intro n
  induction n with
  | zero => intro u h1 h2; omega
  | succ n ih =>
    intro u h1 h2
    have hto := tot_le (Q := QF B T) h8 j
    have hro := rcn_le (Q := QF B T) (j := j) u
    rw [f_X4_foundTerm_L18, hl.1]
    by_cases z : u = b_tc B
    · subst z
      rw [if_pos (nI_le (Nat.le_refl _) (by omega))]
    · rw [if_neg (fun z => by have := (nI_leI (by omega) (by omega)).mp z; omega), isFound7_t hk hT hB hj (by omega), cP_s, nI_1, nI_1]
      by_cases q : fB B T u j = true
      · have hne := hno u (by omega) q
        have hb : pf (QF B T) (b_tc B) j u < 2 ^ 31 := by unfold pf; omega
        rw [bI_t q, if_neg (by decide), if_neg (fun g => hne ((nI_eq hb hk2).mp g)), ← pf_t (Q := QF B T) (m := b_tc B) (j := j) (u := u) q]
        exact ih (u + 1) (by omega) (by omega)
      · rw [bI_f q, if_pos rfl, ← pf_f (Q := QF B T) (m := b_tc B) (j := j) (u := u) q]
        exact ih (u + 1) (by omega) (by omega)
theorem foundTerm7_hit (hB : Bok B) (hT : Tok T) (hl : lexC s B) (hk : lookP (s.1 32) (s.1 33) B T (t_c T)) {k j t : Nat} (hk2 : k < 2 ^ 31) (hj : j < t_c T) (ht : t < b_tc B) (hq : QF B T j t = true) (hp : pf (QF B T) (b_tc B) j t = k) (kk : Int32 → Option Int32) : ∀ n u, u ≤ t → b_tc B < n + u → f_X4_foundTerm_L18 kk s (nI k) (nI j) n (nI (pf (QF B T) (b_tc B) j u)) (nI u) = some (nI t) := by
  have h60 := hT.1
  have h8 := hB.1
  intro n
  induction n with
  | zero => intro u h1 h2; omega
  | succ n ih =>
    intro u h1 h2
    rw [f_X4_foundTerm_L18, hl.1, if_neg (fun z => by have := (nI_leI (by omega) (by omega)).mp z; omega), isFound7_t hk hT hB hj (by omega), cP_s, nI_1, nI_1]
    by_cases z : u = t
    · subst z
      rw [bI_t (show fB B T u j = true from hq), if_neg (by decide), if_pos (by rw [hp])]
    · by_cases q : fB B T u j = true
      · have hlt := pf_lt (Q := QF B T) (m := b_tc B) (j := j) (u := u) (i := j) (t := t) (by omega) q (Or.inr ⟨rfl, by omega⟩)
        rw [bI_t q, if_neg (by decide), if_neg (fun g => by have := (nI_eq (by omega) hk2).mp g; omega), ← pf_t (Q := QF B T) (m := b_tc B) (j := j) (u := u) q]
        exact ih (u + 1) (by omega) (by omega)
      · rw [bI_f q, if_pos rfl, ← pf_f (Q := QF B T) (m := b_tc B) (j := j) (u := u) q]
        exact ih (u + 1) (by omega) (by omega)
theorem foundTerm7_A (hB : Bok B) (hT : Tok T) (hl : lexC s B) (hx : txtC s T) (hk : lookP (s.1 32) (s.1 33) B T (t_c T)) {k i t : Nat} (hk2 : k < 2 ^ 31) (hi : i < t_c T) (ht : t < b_tc B) (hq : QF B T i t = true) (hp : pf (QF B T) (b_tc B) i t = k) : f_X4_foundTerm s (nI k) = some (nI t) := by
  have h60 := hT.1
  have h8 := hB.1
  have key : ∀ n j, j ≤ i → t_c T < n + j → f_X4_foundTerm_L4 (some (-1)) s (nI k) n (nI (pf (QF B T) (b_tc B) j 0)) (nI j) = some (nI t) := by
    intro n
    induction n with
    | zero => intro j h1 h2; omega
    | succ n ih =>
      intro j h1 h2
      rw [f_X4_foundTerm_L4, hx.1, if_neg (fun z => by have := (nI_leI (by omega) (by omega)).mp z; omega), nI_1]
      by_cases z : j = i
      · subst z
        exact foundTerm7_hit hB hT hl hk hk2 hi ht hq hp _ fu 0 (Nat.zero_le _) (by unfold fu; omega)
      · refine (foundTerm7_row hB hT hl hk hk2 (by omega) (fun u hu q => by have := pf_lt (Q := QF B T) (m := b_tc B) (i := i) (t := t) hu q (Or.inl (show j < i by omega)); omega) (fun (v6 : Int32) => f_X4_foundTerm_L4 (some (-1)) s (nI k) n (v6) (nI (j + 1))) fu 0 (Nat.zero_le _) (by unfold fu; omega)).trans ?_
        rw [← pf_n]
        exact ih (j + 1) (by omega) (by omega)
  exact key fu 0 (Nat.zero_le _) (by unfold fu; omega)
theorem foundTerm7_B (hB : Bok B) (hT : Tok T) (hl : lexC s B) (hx : txtC s T) (hk : lookP (s.1 32) (s.1 33) B T (t_c T)) {k : Nat} (hk2 : k < 2 ^ 31) (ht : sumN (rcn (QF B T) (b_tc B)) (t_c T) ≤ k) : f_X4_foundTerm s (nI k) = some (-1) := by
  have h60 := hT.1
  have h8 := hB.1
  have key : ∀ n j, j ≤ t_c T → t_c T < n + j → f_X4_foundTerm_L4 (some (-1)) s (nI k) n (nI (pf (QF B T) (b_tc B) j 0)) (nI j) = some (-1) := by
    intro n
    induction n with
    | zero => intro j h1 h2; omega
    | succ n ih =>
      intro j h1 h2
      rw [f_X4_foundTerm_L4, hx.1]
      by_cases z : j = t_c T
      · subst z
        rw [if_pos (nI_le (Nat.le_refl _) (by omega))]
      · rw [if_neg (fun z => by have := (nI_leI (by omega) (by omega)).mp z; omega), nI_1]
        refine (foundTerm7_row hB hT hl hk hk2 (by omega) (fun u hu q => by have := pf_tot (Q := QF B T) (m := b_tc B) (c := t_c T) (i := j) (by omega) hu q; omega) (fun (v6 : Int32) => f_X4_foundTerm_L4 (some (-1)) s (nI k) n (v6) (nI (j + 1))) fu 0 (Nat.zero_le _) (by unfold fu; omega)).trans ?_
        rw [← pf_n]
        exact ih (j + 1) (by omega) (by omega)
  exact key fu 0 (Nat.zero_le _) (by unfold fu; omega)
/-- where what stands over word i begins -/
theorem fr_back (hB : Bok B) : ∀ i, 0 < fr B T i → ∃ k u, k < i ∧ u < b_tc B ∧ fnd B T u k ∧ ch B T k = nI u ∧ fr B T i = k + b_n B u ∧ fr B T (k + 1) = k + b_n B u ∧ cc B T (k + 1) = cc B T k + 1 := by
  intro i
  induction i with
  | zero => intro h; exact absurd h (Nat.lt_irrefl 0)
  | succ i ih =>
    intro h
    rcases ch_or (T := T) hB i with ⟨-, g2, -, -⟩ | ⟨-, u, hu, hf, -, g1, g2, g3⟩
    · rw [g2] at h ⊢
      obtain ⟨k, u, a1, a2⟩ := ih h
      exact ⟨k, u, by omega, a2⟩
    · exact ⟨i, u, by omega, hu, hf, g1, g2, g2, g3⟩
theorem co_or (hB : Bok B) (i : Nat) : (fr B T (i + 1) ≤ i ∧ co B T i = -1) ∨ ∃ k u, k ≤ i ∧ u < b_tc B ∧ fnd B T u k ∧ ch B T k = nI u ∧ i < k + b_n B u ∧ fr B T (k + 1) = k + b_n B u ∧ co B T i = nI (cc B T k) := by
  rcases Nat.lt_or_ge i (fr B T (i + 1)) with q | q
  · obtain ⟨k, u, a1, a2, a3, a4, a5, a6, a7⟩ := fr_back (T := T) hB (i + 1) (by omega)
    exact Or.inr ⟨k, u, by omega, a2, a3, a4, by omega, a6, co_at hB (by omega) a6 a7 (by omega)⟩
  · exact Or.inl ⟨q, by unfold co; rw [if_neg (by omega)]⟩
theorem isChosen7_s (hB : Bok B) (hT : Tok T) (hst : stl s B T) {i t : Nat} (hi : i < t_c T) (ht : t < b_tc B) : f_X4_isChosen s (nI i) (nI t) = some (bI (ch B T i = nI t)) := by
  have h60 := hT.1
  have h8 := hB.1
  obtain ⟨-, -, -, -, g4, g5⟩ := hst
  unfold f_X4_isChosen
  rw [rI_n (by omega) (by decide), g5 i hi]
  rcases co_or (T := T) hB i with ⟨a1, a2⟩ | ⟨k, u, a1, a2, a3, a4, a5, a6, a7⟩
  · rw [a2, if_pos rfl]
    refine congrArg some (bI_f (fun g => ?_)).symm
    rcases ch_or (T := T) hB i with ⟨c1, -⟩ | ⟨-, u, hu, hf, -, c1, c2, c3⟩
    · rw [c1] at g; exact nI_m1 (by omega) g.symm
    · have := (hB.2.2.1 u hu).1
      omega
  · have hcl := cc_le (B := B) (T := T) k
    have hr := g4 k (by omega) (by rw [a4]; exact nI_m1 (by omega))
    rw [a7, if_neg (nI_m1 (by omega)), rI_n (by omega) (by decide), hr.1]
    by_cases z : k = i
    · subst z
      rw [if_pos rfl, rI_n (by omega) (by decide), hr.2]
      by_cases y : ch B T k = nI t
      · rw [if_pos y, bI_t y]
      · rw [if_neg y, bI_f y]
    · rw [if_neg (fun g => z ((nI_eq (by omega) (by omega)).mp g))]
      refine congrArg some (bI_f (fun g => ?_)).symm
      rw [ch_in a6 (by omega) a5] at g
      exact nI_m1 (by omega) g.symm
end FD
