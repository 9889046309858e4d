/-! the k-th of those that are so, by word, then by term -/
theorem sumN_mono {f : Nat → Nat} {a : Nat} : ∀ {b : Nat}, a ≤ b → sumN f a ≤ sumN f b
  | 0, h => by
    have : a = 0 := by omega
    rw [this]; exact Nat.le_refl _
  | b + 1, h => by
    by_cases z : a = b + 1
    · rw [z]; exact Nat.le_refl _
    · have := sumN_mono (f := f) (a := a) (b := b) (by omega)
      show sumN f a ≤ sumN f b + f b
      omega
theorem sumN_ext {f : Nat → Nat} {a : Nat} : ∀ {b : Nat}, a ≤ b → (∀ u, a ≤ u → u < b → f u = 0) → sumN f b = sumN f a
  | 0, h, _ => by
    have : a = 0 := by omega
    rw [this]
  | b + 1, h, hz => by
    by_cases z : a = b + 1
    · rw [z]
    · show sumN f b + f b = _
      rw [sumN_ext (by omega) (fun u h1 h2 => hz u h1 (by omega)), hz b (by omega) (by omega)]
      rfl
theorem ivt {f : Nat → Nat} {k : Nat} : ∀ n, k < sumN f n → ∃ j, j < n ∧ sumN f j ≤ k ∧ k < sumN f j + f j := by
  intro n
  induction n with
  | zero => intro h; exact absurd h (Nat.not_lt_zero k)
  | succ n ih =>
    intro h
    have h : k < sumN f n + f n := h
    rcases Nat.lt_or_ge k (sumN f n) with q | q
    · obtain ⟨j, h1, h2⟩ := ih q
      exact ⟨j, by omega, h2⟩
    · exact ⟨n, by omega, q, h⟩
def ind (Q : Nat → Nat → Bool) (j u : Nat) : Nat := if Q j u = true then 1 else 0
def rcn (Q : Nat → Nat → Bool) (m j : Nat) : Nat := sumN (ind Q j) m
def pf (Q : Nat → Nat → Bool) (m j u : Nat) : Nat := sumN (rcn Q m) j + sumN (ind Q j) u
section PF
variable {Q : Nat → Nat → Bool} {c m k : Nat}
theorem ind_t {j u : Nat} (h : Q j u = true) : ind Q j u = 1 := by unfold ind; rw [if_pos h]
theorem ind_f {j u : Nat} (h : ¬ Q j u = true) : ind Q j u = 0 := by unfold ind; rw [if_neg h]
theorem pf_t {j u : Nat} (h : Q j u = true) : pf Q m j (u + 1) = pf Q m j u + 1 := by
  show sumN (rcn Q m) j + (sumN (ind Q j) u + ind Q j u) = _
  rw [ind_t h]; rfl
theorem pf_f {j u : Nat} (h : ¬ Q j u = true) : pf Q m j (u + 1) = pf Q m j u := by
  show sumN (rcn Q m) j + (sumN (ind Q j) u + ind Q j u) = _
  rw [ind_f h]; rfl
theorem pf_n {j : Nat} : pf Q m (j + 1) 0 = pf Q m j m := rfl
theorem pf_le {i j t u : Nat} (hu : u ≤ m) (h : j < i ∨ (j = i ∧ u ≤ t)) : pf Q m j u ≤ pf Q m i t := by
  rcases h with h | ⟨rfl, h⟩
  · have h1 := sumN_mono (f := rcn Q m) (show j + 1 ≤ i by omega)
    have h2 := sumN_mono (f := ind Q j) hu
    have h1 : sumN (rcn Q m) j + sumN (ind Q j) m ≤ sumN (rcn Q m) i := h1
    unfold pf
    omega
  · have h2 := sumN_mono (f := ind Q j) h
    unfold pf
    omega
theorem pf_lt {i j t u : Nat} (hu : u < m) (hq : Q j u = true) (h : j < i ∨ (j = i ∧ u < t)) : pf Q m j u < pf Q m i t := by
  have h1 := pf_t (m := m) hq
  have h2 := pf_le (Q := Q) (m := m) (i := i) (t := t) (j := j) (u := u + 1) (by omega) (by omega)
  omega
theorem pf_ex (h : k < sumN (rcn Q m) c) : ∃ i t, i < c ∧ t < m ∧ Q i t = true ∧ pf Q m i t = k := by
  obtain ⟨i, h1, h2, h3⟩ := ivt c h
  have h3 : k < sumN (rcn Q m) i + sumN (ind Q i) m := h3
  obtain ⟨t, g1, g2, g3⟩ := ivt (f := ind Q i) (k := k - sumN (rcn Q m) i) m (by omega)
  have hq : Q i t = true := by
    by_cases z : Q i t = true
    · exact z
    · rw [ind_f z] at g3; omega
  refine ⟨i, t, h1, g1, hq, ?_⟩
  rw [ind_t hq] at g3
  unfold pf
  omega
theorem pf_tot {i t : Nat} (hi : i < c) (ht : t < m) (hq : Q i t = true) : pf Q m i t < sumN (rcn Q m) c := by
  have := pf_lt (Q := Q) (m := m) (i := c) (t := 0) ht hq (Or.inl hi)
  exact this
end PF
/-! the reference's place -/
theorem nI_m0 (y : Nat) : nI y - 0 = nI y := pk_sub (Nat.zero_le y)
/-- the loop's step, by what is asked -/
def plH (s : Sg) (c2 : Int32) (Q : Nat → Nat → Bool) (c m : Nat) : Prop := ∀ (kk : Int32 → Option (Int32 × Sg)) (n j u y : Nat), j < c → (u < m → (Q j u = true → f_X8_place_L21 kk s c2 (nI j) (n + 1) (nI y) (nI u) = if nI y = 0 then some (nI (8 * j + u), s) else f_X8_place_L21 kk s c2 (nI j) n (nI y - 1) (nI (u + 1))) ∧ (¬ Q j u = true → f_X8_place_L21 kk s c2 (nI j) (n + 1) (nI y) (nI u) = f_X8_place_L21 kk s c2 (nI j) n (nI y) (nI (u + 1)))) ∧ (u = m → f_X8_place_L21 kk s c2 (nI j) (n + 1) (nI y) (nI u) = kk (nI y))
section PL
variable {s : Sg} {c2 : Int32} {Q : Nat → Nat → Bool} {c m k : Nat}
theorem place8_row (H : plH s c2 Q c m) (hk : k < 2 ^ 31) {j : Nat} (hj : j < c) (hno : ∀ u, u < m → Q j u = true → pf Q m j u ≠ k) (kk : Int32 → Option (Int32 × Sg)) : ∀ n u, u ≤ m → m < n + u → pf Q m j u ≤ k → f_X8_place_L21 kk s c2 (nI j) n (nI (k - pf Q m j u)) (nI u) = kk (nI (k - pf Q m j m)) := by
  intro n
  induction n with
  | zero => intro u h1 h2; omega
  | succ n ih =>
    intro u h1 h2 h3
    by_cases z : u = m
    · rw [z] at *
      exact (H kk n j m _ hj).2 rfl
    · obtain ⟨a1, a2⟩ := (H kk n j u (k - pf Q m j u) hj).1 (by omega)
      by_cases q : Q j u = true
      · have hne := hno u (by omega) q
        have e := pf_t (m := m) q
        rw [a1 q, if_neg (nI_ne0 (by omega) (by omega)), nI_s1 (by omega), show k - pf Q m j u - 1 = k - pf Q m j (u + 1) by omega]
        exact ih (u + 1) (by omega) (by omega) (by omega)
      · rw [a2 q, ← pf_f (m := m) q]
        exact ih (u + 1) (by omega) (by omega) (by rw [pf_f q]; exact h3)
theorem place8_hit (H : plH s c2 Q c m) (hk : k < 2 ^ 31) {j t : Nat} (hj : j < c) (ht : t < m) (hq : Q j t = true) (hp : pf Q m j t = k) (kk : Int32 → Option (Int32 × Sg)) : ∀ n u, u ≤ t → m < n + u → f_X8_place_L21 kk s c2 (nI j) n (nI (k - pf Q m j u)) (nI u) = some (nI (8 * j + t), s) := by
  intro n
  induction n with
  | zero => intro u h1 h2; omega
  | succ n ih =>
    intro u h1 h2
    obtain ⟨a1, a2⟩ := (H kk n j u (k - pf Q m j u) hj).1 (by omega)
    by_cases z : u = t
    · subst z
      rw [a1 hq, if_pos (by rw [hp, Nat.sub_self]; rfl)]
    · by_cases q : Q j u = true
      · have hlt := pf_lt (Q := Q) (m := m) (i := j) (t := t) (show u < m by omega) q (Or.inr ⟨rfl, by omega⟩)
        have e := pf_t (m := m) q
        rw [a1 q, if_neg (nI_ne0 (by omega) (by omega)), nI_s1 (by omega), show k - pf Q m j u - 1 = k - pf Q m j (u + 1) by omega]
        exact ih (u + 1) (by omega) (by omega)
      · rw [a2 q, ← pf_f (m := m) q]
        exact ih (u + 1) (by omega) (by omega)
theorem place8_A (H : plH s c2 Q c m) (hk : k < 2 ^ 31) (hc : c ≤ 60) (hm : m ≤ 8) (hx : s.1 43 6 = nI c) {i t : Nat} (hi : i < c) (ht : t < m) (hq : Q i t = true) (hp : pf Q m i t = k) : f_X8_place_L9 (some ((-1), s)) s c2 fu (nI k) 0 = some (nI (8 * i + t), s) := by
  have key : ∀ n j, j ≤ i → c < n + j → f_X8_place_L9 (some ((-1), s)) s c2 n (nI (k - pf Q m j 0)) (nI j) = some (nI (8 * i + t), s) := by
    intro n
    induction n with
    | zero => intro j h1 h2; omega
    | succ n ih =>
      intro j h1 h2
      rw [f_X8_place_L9, hx, if_neg (fun z => by have := (nI_leI (by omega) (by omega)).mp z; omega), nI_1]
      by_cases z : j = i
      · subst z
        exact place8_hit H hk hi ht hq hp _ fu 0 (Nat.zero_le _) (by unfold fu; omega)
      · have hle := pf_le (Q := Q) (m := m) (i := i) (t := t) (j := j) (u := 0) (Nat.zero_le _) (Or.inl (by omega))
        refine (place8_row H hk (by omega) (fun u hu q => by have := pf_lt (Q := Q) (m := m) (i := i) (t := t) hu q (Or.inl (by omega)); omega) (fun (v23 : Int32) => f_X8_place_L9 (some ((-1), s)) s c2 n (v23) (nI (j + 1))) fu 0 (Nat.zero_le _) (by unfold fu; omega) (by omega)).trans ?_
        rw [← pf_n]
        exact ih (j + 1) (by omega) (by omega)
  exact key fu 0 (Nat.zero_le _) (by unfold fu; omega)
theorem place8_B (H : plH s c2 Q c m) (hk : k < 2 ^ 31) (hc : c ≤ 60) (hm : m ≤ 8) (hx : s.1 43 6 = nI c) (ht : sumN (rcn Q m) c ≤ k) : f_X8_place_L9 (some ((-1), s)) s c2 fu (nI k) 0 = some ((-1), s) := by
  have key : ∀ n j, j ≤ c → c < n + j → f_X8_place_L9 (some ((-1), s)) s c2 n (nI (k - pf Q m j 0)) (nI j) = some ((-1), s) := by
    intro n
    induction n with
    | zero => intro j h1 h2; omega
    | succ n ih =>
      intro j h1 h2
      rw [f_X8_place_L9, hx]
      by_cases z : j = c
      · subst z
        rw [if_pos (nI_le (Nat.le_refl _) (by omega))]
      · rw [if_neg (fun z => by have := (nI_leI (by omega) (by omega)).mp z; omega), nI_1]
        have hle := pf_le (Q := Q) (m := m) (i := c) (t := 0) (j := j) (u := 0) (Nat.zero_le _) (Or.inl (by omega))
        have hle : pf Q m j 0 ≤ sumN (rcn Q m) c := hle
        refine (place8_row H hk (by omega) (fun u hu q => by have := pf_tot (Q := Q) (m := m) (c := c) (i := j) (by omega) hu q; omega) (fun (v23 : Int32) => f_X8_place_L9 (some ((-1), s)) s c2 n (v23) (nI (j + 1))) fu 0 (Nat.zero_le _) (by unfold fu; omega) (by omega)).trans ?_
        rw [← pf_n]
        exact ih (j + 1) (by omega) (by omega)
  exact key fu 0 (Nat.zero_le _) (by unfold fu; omega)
end PL
section PH
variable {B : Bk} {T : Tx} {s : Sg}
theorem place8_F (hB : Bok B) (hT : Tok T) (hb : bookP (s.1 44) B) (hx : txR s T) : plH s 0 (fun j u => fB B T u j) (t_c T) (b_tc B) := by
  have h8 := hB.1
  have h60 := hT.1
  intro kk n j u y hj
  rw [f_X8_place_L21, show rI s 44 475 0 = rI (α := Int32 × Sg) s 44 475 (nI 0) from rfl, rI_n (by omega) (by decide), hb.1]
  refine ⟨fun hu => ?_, fun hu => ?_⟩
  · rw [if_neg (fun z => by have := (nI_leI (by omega) (by omega)).mp z; omega)]
    simp only [jn_s]
    rw [if_pos trivial, isFound8_s hx hT hb hB (by omega) hu, cP_s, nI_1, li 8, pk_mul, nI_add]
    refine ⟨fun hq => ?_, fun hq => ?_⟩
    · rw [bI_t hq, if_neg (show ¬ (1 : Int32) = 0 by decide), if_neg (show ¬ (1 : Int32) = 0 by decide)]
    · rw [bI_f hq, if_pos rfl, if_pos rfl, nI_m0]
  · subst hu
    rw [if_pos (nI_le (Nat.le_refl _) (by omega))]
theorem place8_C (hB : Bok B) (hT : Tok T) (hb : bookP (s.1 44) B) (hc : ∀ j, j < t_c T → s.1 53 j = ch B T j) : plH s 1 (fun j u => decide (ch B T j = nI u)) (t_c T) (b_tc B) := by
  have h8 := hB.1
  have h60 := hT.1
  intro kk n j u y hj
  rw [f_X8_place_L21, show rI s 44 475 0 = rI (α := Int32 × Sg) s 44 475 (nI 0) from rfl, rI_n (by omega) (by decide), hb.1]
  refine ⟨fun hu => ?_, fun hu => ?_⟩
  · rw [if_neg (fun z => by have := (nI_leI (by omega) (by omega)).mp z; omega)]
    simp only [jn_s]
    rw [if_neg (show ¬ (1 : Int32) = 0 by decide), rI_n (by omega) (by decide), hc j hj, nI_1, li 8, pk_mul, nI_add]
    refine ⟨fun hq => ?_, fun hq => ?_⟩
    · rw [if_pos (of_decide_eq_true hq), if_neg (show ¬ (1 : Int32) = 0 by decide), if_neg (show ¬ (1 : Int32) = 0 by decide)]
    · rw [if_neg (fun g => hq (decide_eq_true g)), if_pos trivial, if_pos trivial, nI_m0]
  · subst hu
    rw [if_pos (nI_le (Nat.le_refl _) (by omega))]
end PH
