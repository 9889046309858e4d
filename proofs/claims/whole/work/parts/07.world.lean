/-! the world's cells by their numbers: kind (0 int[], 1 boolean[], 2 char[], 3 long[], 4 Lexicon[], 5 + class), size, fields (0 int, 1 long, 2 the cell of that number) -/
def shp : List (Nat × Nat × List (Nat × Nat)) := [
  (11, 0, [(2, 1), (2, 4), (2, 11), (2, 26), (2, 30), (2, 40), (2, 42)]),
  (9, 0, [(2, 2), (0, 0), (2, 3)]),
  (0, 50, []),
  (3, 4, []),
  (5, 0, [(0, 0), (2, 5), (2, 6), (2, 7), (2, 8), (2, 9), (0, 0), (2, 10), (0, 0)]),
  (3, 32, []),
  (0, 8, []),
  (0, 8, []),
  (0, 8, []),
  (0, 8, []),
  (3, 5, []),
  (4, 2, [(2, 12), (2, 19)]),
  (5, 0, [(0, 0), (2, 13), (2, 14), (2, 15), (2, 16), (2, 17), (0, 0), (2, 18), (0, 0)]),
  (3, 32, []),
  (0, 8, []),
  (0, 8, []),
  (0, 8, []),
  (0, 8, []),
  (3, 5, []),
  (5, 0, [(0, 0), (2, 20), (2, 21), (2, 22), (2, 23), (2, 24), (0, 0), (2, 25), (0, 0)]),
  (3, 32, []),
  (0, 8, []),
  (0, 8, []),
  (0, 8, []),
  (0, 8, []),
  (3, 5, []),
  (10, 0, [(0, 0), (2, 27), (2, 28), (2, 29), (0, 0), (1, 0), (0, 0)]),
  (3, 60, []),
  (1, 60, []),
  (0, 60, []),
  (8, 0, [(2, 4), (2, 26), (0, 0), (0, 0), (2, 31), (0, 0), (2, 32), (2, 33), (2, 34), (2, 35), (2, 36), (0, 0), (2, 37), (2, 38), (2, 39)]),
  (3, 6, []),
  (0, 60, []),
  (0, 60, []),
  (0, 61, []),
  (0, 61, []),
  (0, 60, []),
  (0, 60, []),
  (0, 60, []),
  (0, 60, []),
  (7, 0, [(2, 4), (2, 26), (2, 30), (2, 41), (0, 0), (0, 0)]),
  (2, 3120, []),
  (6, 0, [(1, 0)]),
  (12, 0, [(2, 44), (2, 45), (2, 46), (2, 47), (0, 0), (2, 48), (0, 0), (0, 0), (2, 49), (2, 50), (2, 51), (2, 52), (2, 53), (2, 54)]),
  (0, 475, []),
  (0, 950, []),
  (1, 2, []),
  (0, 50, []),
  (0, 915, []),
  (0, 25, []),
  (0, 25, []),
  (0, 65, []),
  (0, 65, []),
  (0, 60, []),
  (0, 3300, [])]
/-- what the cells hold: ints, longs, by cell and place -/
abbrev Sg : Type := (Nat → Nat → Int32) × (Nat → Nat → Int64)
def sI (σ : Sg) (k j : Nat) (v : Int32) : Sg := (fun a b => if a = k ∧ b = j then v else σ.1 a b, σ.2)
def sL (σ : Sg) (k j : Nat) (v : Int64) : Sg := (σ.1, fun a b => if a = k ∧ b = j then v else σ.2 a b)
def cL (σ : Sg) (k0 k1 sp dp n : Nat) : Sg := (σ.1, fun a => if a = k1 then va_cpy (σ.2 k0) (σ.2 k1) sp dp n else σ.2 a)
/-! the words that the programs below are made of -/
/-- an int, a long of a row: its place must be within the row -/
def rI {α : Type} (σ : Sg) (k n : Nat) (i : Int32) (f : Int32 → Option α) : Option α := if ¬ (i < 0 ∨ n ≤ i.toNatClampNeg) then f (σ.1 k i.toNatClampNeg) else none
def rL {α : Type} (σ : Sg) (k n : Nat) (i : Int32) (f : Int64 → Option α) : Option α := if ¬ (i < 0 ∨ n ≤ i.toNatClampNeg) then f (σ.2 k i.toNatClampNeg) else none
def wI {α : Type} (σ : Sg) (k n : Nat) (i v : Int32) (f : Sg → Option α) : Option α := if ¬ (i < 0 ∨ n ≤ i.toNatClampNeg) then f (sI σ k i.toNatClampNeg v) else none
def wL {α : Type} (σ : Sg) (k n : Nat) (i : Int32) (v : Int64) (f : Sg → Option α) : Option α := if ¬ (i < 0 ∨ n ≤ i.toNatClampNeg) then f (sL σ k i.toNatClampNeg v) else none
/-- a field of a cell is written -/
def pI {α : Type} (σ : Sg) (k j : Nat) (v : Int32) (f : Sg → Option α) : Option α := f (sI σ k j v)
def pL {α : Type} (σ : Sg) (k j : Nat) (v : Int64) (f : Sg → Option α) : Option α := f (sL σ k j v)
def xL4 {α : Type} (σ : Sg) (k0 n0 k1 n1 : Nat) (sp dp n : Int32) (f : Sg → Option α) : Option α := if ¬ sp < 0 ∧ ¬ dp < 0 ∧ ¬ n < 0 ∧ sp.toNatClampNeg + n.toNatClampNeg ≤ n0 ∧ dp.toNatClampNeg + n.toNatClampNeg ≤ n1 then f (cL σ k0 k1 sp.toNatClampNeg dp.toNatClampNeg n.toNatClampNeg) else none
/-- a call: its answer and the world behind it -/
def cA {α β : Type} (o : Option (β × Sg)) (f : β → Sg → Option α) : Option α := match o with
  | none => none
  | some (r, σ) => f r σ
/-- a call that writes nothing -/
def cP {α β : Type} (o : Option β) (f : β → Option α) : Option α := match o with
  | none => none
  | some r => f r
/-- a way on that several roads come to -/
def jn {α β : Type} (k : α) (b : α → β) : β := b k
/-- how often a loop may go round -/
def fu : Nat := 5000
/-- what must hold -/
def mH {α : Type} (c : Prop) [Decidable c] (o : Option α) : Option α := if c then o else none
theorem rI_ok {α : Type} {σ : Sg} {k n : Nat} {i : Int32} {f : Int32 → Option α} {r : α} (h : rI σ k n i f = some r) : vp_in i n ∧ ∃ x, x = σ.1 k i.toNatClampNeg ∧ f x = some r := by
  unfold rI at h
  split at h
  · exact ⟨by assumption, _, rfl, h⟩
  · cases h
theorem rL_ok {α : Type} {σ : Sg} {k n : Nat} {i : Int32} {f : Int64 → Option α} {r : α} (h : rL σ k n i f = some r) : vp_in i n ∧ ∃ x, x = σ.2 k i.toNatClampNeg ∧ f x = some r := by
  unfold rL at h
  split at h
  · exact ⟨by assumption, _, rfl, h⟩
  · cases h
theorem wI_ok {α : Type} {σ : Sg} {k n : Nat} {i v : Int32} {f : Sg → Option α} {r : α} (h : wI σ k n i v f = some r) : vp_in i n ∧ ∃ x, x = sI σ k i.toNatClampNeg v ∧ f x = some r := by
  unfold wI at h
  split at h
  · exact ⟨by assumption, _, rfl, h⟩
  · cases h
theorem wL_ok {α : Type} {σ : Sg} {k n : Nat} {i : Int32} {v : Int64} {f : Sg → Option α} {r : α} (h : wL σ k n i v f = some r) : vp_in i n ∧ ∃ x, x = sL σ k i.toNatClampNeg v ∧ f x = some r := by
  unfold wL at h
  split at h
  · exact ⟨by assumption, _, rfl, h⟩
  · cases h
theorem pI_ok {α : Type} {σ : Sg} {k j : Nat} {v : Int32} {f : Sg → Option α} {r : α} (h : pI σ k j v f = some r) : ∃ x, x = sI σ k j v ∧ f x = some r := ⟨_, rfl, h⟩
theorem pL_ok {α : Type} {σ : Sg} {k j : Nat} {v : Int64} {f : Sg → Option α} {r : α} (h : pL σ k j v f = some r) : ∃ x, x = sL σ k j v ∧ f x = some r := ⟨_, rfl, h⟩
theorem xL4_ok {α : Type} {σ : Sg} {k0 n0 k1 n1 : Nat} {sp dp n : Int32} {f : Sg → Option α} {r : α} (h : xL4 σ k0 n0 k1 n1 sp dp n f = some r) : (¬ sp < 0 ∧ ¬ dp < 0 ∧ ¬ n < 0 ∧ sp.toNatClampNeg + n.toNatClampNeg ≤ n0 ∧ dp.toNatClampNeg + n.toNatClampNeg ≤ n1) ∧ ∃ x, x = cL σ k0 k1 sp.toNatClampNeg dp.toNatClampNeg n.toNatClampNeg ∧ f x = some r := by
  unfold xL4 at h
  split at h
  · exact ⟨by assumption, _, rfl, h⟩
  · cases h
theorem cA_ok {α β : Type} {o : Option (β × Sg)} {f : β → Sg → Option α} {r : α} (h : cA o f = some r) : ∃ x s, o = some (x, s) ∧ f x s = some r := by
  unfold cA at h
  split at h
  · cases h
  · exact ⟨_, _, rfl, h⟩
theorem cP_ok {α β : Type} {o : Option β} {f : β → Option α} {r : α} (h : cP o f = some r) : ∃ x, o = some x ∧ f x = some r := by
  unfold cP at h
  split at h
  · cases h
  · exact ⟨_, rfl, h⟩
theorem jn_ok {α β : Type} {k : α} {b : α → Option β} {r : β} (h : jn k b = some r) : ∃ k', k' = k ∧ b k' = some r := ⟨_, rfl, h⟩
theorem mH_ok {α : Type} {c : Prop} [Decidable c] {o : Option α} {r : α} (h : mH c o = some r) : c ∧ o = some r := by
  unfold mH at h
  split at h
  · exact ⟨by assumption, h⟩
  · cases h
theorem it {α : Type} {c : Prop} [Decidable c] {a b : Option α} {r : Option α} (h : (if c then a else b) = r) (hc : c) : a = r := (if_pos hc).symm.trans h
theorem ie {α : Type} {c : Prop} [Decidable c] {a b : Option α} {r : Option α} (h : (if c then a else b) = r) (hc : ¬ c) : b = r := (if_neg hc).symm.trans h
