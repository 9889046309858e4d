theorem sI_1 (σ : Sg) (k j : Nat) (v : Int32) (a b : Nat) : (sI σ k j v).1 a b = if a = k ∧ b = j then v else σ.1 a b := rfl
theorem sI_2 (σ : Sg) (k j : Nat) (v : Int32) : (sI σ k j v).2 = σ.2 := rfl
theorem sL_1 (σ : Sg) (k j : Nat) (v : Int64) : (sL σ k j v).1 = σ.1 := rfl
theorem sL_2 (σ : Sg) (k j : Nat) (v : Int64) (a b : Nat) : (sL σ k j v).2 a b = if a = k ∧ b = j then v else σ.2 a b := rfl
theorem rI_n {α : Type} {σ : Sg} {k n j : Nat} {f : Int32 → Option α} (h : j < n) (hn : n < 2 ^ 31) : rI σ k n (nI j) f = f (σ.1 k j) := by
  unfold rI
  rw [if_pos (nI_in h hn), nI_clamp (Nat.lt_trans h hn)]
theorem rL_n {α : Type} {σ : Sg} {k n j : Nat} {f : Int64 → Option α} (h : j < n) (hn : n < 2 ^ 31) : rL σ k n (nI j) f = f (σ.2 k j) := by
  unfold rL
  rw [if_pos (nI_in h hn), nI_clamp (Nat.lt_trans h hn)]
theorem wI_n {α : Type} {σ : Sg} {k n j : Nat} {v : Int32} {f : Sg → Option α} (h : j < n) (hn : n < 2 ^ 31) : wI σ k n (nI j) v f = f (sI σ k j v) := by
  unfold wI
  rw [if_pos (nI_in h hn), nI_clamp (Nat.lt_trans h hn)]
theorem wL_n {α : Type} {σ : Sg} {k n j : Nat} {v : Int64} {f : Sg → Option α} (h : j < n) (hn : n < 2 ^ 31) : wL σ k n (nI j) v f = f (sL σ k j v) := by
  unfold wL
  rw [if_pos (nI_in h hn), nI_clamp (Nat.lt_trans h hn)]
theorem cP_s {α β : Type} (r : β) (f : β → Option α) : cP (some r) f = f r := rfl
theorem cA_s {α β : Type} (r : β) (σ : Sg) (f : β → Sg → Option α) : cA (some (r, σ)) f = f r σ := rfl
theorem pI_s {α : Type} (σ : Sg) (k j : Nat) (v : Int32) (f : Sg → Option α) : pI σ k j v f = f (sI σ k j v) := rfl
theorem pL_s {α : Type} (σ : Sg) (k j : Nat) (v : Int64) (f : Sg → Option α) : pL σ k j v f = f (sL σ k j v) := rfl
theorem jn_s {α β : Type} (k : α) (b : α → β) : jn k b = b k := rfl
theorem mH_t {α : Type} {c : Prop} [Decidable c] {o : Option α} (h : c) : mH c o = o := if_pos h
/-- a number that is written out -/
theorem li (n : Nat) : (OfNat.ofNat n : Int32) = nI n := rfl
theorem liL (n : Nat) : (OfNat.ofNat n : Int64) = lN n := rfl
theorem nI_m1 {n : Nat} (h : n < 2 ^ 31) : ¬ nI n = -1 := by
  intro e
  have h2 := congrArg Int32.toInt e
  rw [nI_toInt h] at h2
  have h3 : (-1 : Int32).toInt = -1 := by decide
  rw [h3] at h2
  omega
theorem lg_cmp_0 (x y : Int64) : lg_cmp x y = 0 ↔ x = y := by
  unfold lg_cmp
  have h1 : ¬ (1 : Int32) = 0 := by decide
  have h2 : ¬ (-1 : Int32) = 0 := by decide
  by_cases h : x = y
  · subst h
    have : ¬ x > x := by
      show ¬ x < x
      rw [Int64.lt_iff_toInt_lt]; omega
    simp [this]
  · by_cases g : x > y
    · simp [g, h]
    · simp [g, h]
theorem c_lt {a : Nat} (n : Nat) (ha : a < 2 ^ 31) (hn : n < 2 ^ 31) : nI a < (OfNat.ofNat n : Int32) ↔ a < n := nI_ltI ha hn
theorem c_le {a : Nat} (n : Nat) (ha : a < 2 ^ 31) (hn : n < 2 ^ 31) : nI a ≤ (OfNat.ofNat n : Int32) ↔ a ≤ n := nI_leI ha hn
theorem c_gt {a : Nat} (n : Nat) (ha : a < 2 ^ 31) (hn : n < 2 ^ 31) : (OfNat.ofNat n : Int32) < nI a ↔ n < a := nI_ltI hn ha
theorem c_ge {a : Nat} (n : Nat) (ha : a < 2 ^ 31) (hn : n < 2 ^ 31) : (OfNat.ofNat n : Int32) ≤ nI a ↔ n ≤ a := nI_leI hn ha
theorem c_eq {a : Nat} (n : Nat) (ha : a < 2 ^ 31) (hn : n < 2 ^ 31) : nI a = (OfNat.ofNat n : Int32) ↔ a = n := nI_eq ha hn
theorem c_eq' {a : Nat} (n : Nat) (ha : a < 2 ^ 31) (hn : n < 2 ^ 31) : (OfNat.ofNat n : Int32) = nI a ↔ n = a := nI_eq hn ha
