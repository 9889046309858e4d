section
/-! the world's cells by their numbers: kind (0 int[], 1 boolean[], 2 char[], 3 long[], 4 Lexicon[], 5 + class), size, fields (0 int, 1 long, 2 the cell of that number) -/
def shp : List (Nat × Nat × List (Nat × Nat)) := [
  (11, 0, [(2, 1), (2, 4), (2, 11), (2, 26), (2, 30), (2, 40), (2, 42)]),
  (9, 0, [(2, 2), (0, 0), (2, 3)]),
  (0, 50, []),
  (3, 4, []),
  (5, 0, [(0, 0), (2, 5), (2, 6), (2, 7), (2, 8), (2, 9), (0, 0), (2, 10), (0, 0)]),
  (3, 32, []),
  (0, 8, []),
  (0, 8, []),
  (0, 8, []),
  (0, 8, []),
  (3, 5, []),
  (4, 2, [(2, 12), (2, 19)]),
  (5, 0, [(0, 0), (2, 13), (2, 14), (2, 15), (2, 16), (2, 17), (0, 0), (2, 18), (0, 0)]),
  (3, 32, []),
  (0, 8, []),
  (0, 8, []),
  (0, 8, []),
  (0, 8, []),
  (3, 5, []),
  (5, 0, [(0, 0), (2, 20), (2, 21), (2, 22), (2, 23), (2, 24), (0, 0), (2, 25), (0, 0)]),
  (3, 32, []),
  (0, 8, []),
  (0, 8, []),
  (0, 8, []),
  (0, 8, []),
  (3, 5, []),
  (10, 0, [(0, 0), (2, 27), (2, 28), (2, 29), (0, 0), (1, 0), (0, 0)]),
  (3, 60, []),
  (1, 60, []),
  (0, 60, []),
  (8, 0, [(2, 4), (2, 26), (0, 0), (0, 0), (2, 31), (0, 0), (2, 32), (2, 33), (2, 34), (2, 35), (2, 36), (0, 0), (2, 37), (2, 38), (2, 39)]),
  (3, 6, []),
  (0, 60, []),
  (0, 60, []),
  (0, 61, []),
  (0, 61, []),
  (0, 60, []),
  (0, 60, []),
  (0, 60, []),
  (0, 60, []),
  (7, 0, [(2, 4), (2, 26), (2, 30), (2, 41), (0, 0), (0, 0)]),
  (2, 3120, []),
  (6, 0, [(1, 0)]),
  (12, 0, [(2, 44), (2, 45), (2, 46), (2, 47), (0, 0), (2, 48), (0, 0), (0, 0), (2, 49), (2, 50), (2, 51), (2, 52), (2, 53), (2, 54)]),
  (0, 475, []),
  (0, 950, []),
  (1, 2, []),
  (0, 50, []),
  (0, 915, []),
  (0, 25, []),
  (0, 25, []),
  (0, 65, []),
  (0, 65, []),
  (0, 60, []),
  (0, 3300, [])]
/-- what the cells hold: ints, longs, by cell and place -/
abbrev Sg : Type := (Nat → Nat → Int32) × (Nat → Nat → Int64)
def sI (σ : Sg) (k j : Nat) (v : Int32) : Sg := (fun a b => if a = k ∧ b = j then v else σ.1 a b, σ.2)
def sL (σ : Sg) (k j : Nat) (v : Int64) : Sg := (σ.1, fun a b => if a = k ∧ b = j then v else σ.2 a b)
def cL (σ : Sg) (k0 k1 sp dp n : Nat) : Sg := (σ.1, fun a => if a = k1 then va_cpy (σ.2 k0) (σ.2 k1) sp dp n else σ.2 a)
/-! the words that the programs below are made of -/
/-- an int, a long of a row: its place must be within the row -/
def rI {α : Type} (σ : Sg) (k n : Nat) (i : Int32) (f : Int32 → Option α) : Option α := if ¬ (i < 0 ∨ n ≤ i.toNatClampNeg) then f (σ.1 k i.toNatClampNeg) else none
def rL {α : Type} (σ : Sg) (k n : Nat) (i : Int32) (f : Int64 → Option α) : Option α := if ¬ (i < 0 ∨ n ≤ i.toNatClampNeg) then f (σ.2 k i.toNatClampNeg) else none
def wI {α : Type} (σ : Sg) (k n : Nat) (i v : Int32) (f : Sg → Option α) : Option α := if ¬ (i < 0 ∨ n ≤ i.toNatClampNeg) then f (sI σ k i.toNatClampNeg v) else none
def wL {α : Type} (σ : Sg) (k n : Nat) (i : Int32) (v : Int64) (f : Sg → Option α) : Option α := if ¬ (i < 0 ∨ n ≤ i.toNatClampNeg) then f (sL σ k i.toNatClampNeg v) else none
/-- a field of a cell is written -/
def pI {α : Type} (σ : Sg) (k j : Nat) (v : Int32) (f : Sg → Option α) : Option α := f (sI σ k j v)
def pL {α : Type} (σ : Sg) (k j : Nat) (v : Int64) (f : Sg → Option α) : Option α := f (sL σ k j v)
def xL4 {α : Type} (σ : Sg) (k0 n0 k1 n1 : Nat) (sp dp n : Int32) (f : Sg → Option α) : Option α := if ¬ sp < 0 ∧ ¬ dp < 0 ∧ ¬ n < 0 ∧ sp.toNatClampNeg + n.toNatClampNeg ≤ n0 ∧ dp.toNatClampNeg + n.toNatClampNeg ≤ n1 then f (cL σ k0 k1 sp.toNatClampNeg dp.toNatClampNeg n.toNatClampNeg) else none
/-- a call: its answer and the world behind it -/
def cA {α β : Type} (o : Option (β × Sg)) (f : β → Sg → Option α) : Option α := match o with
  | none => none
  | some (r, σ) => f r σ
/-- a call that writes nothing -/
def cP {α β : Type} (o : Option β) (f : β → Option α) : Option α := match o with
  | none => none
  | some r => f r
/-- a way on that several roads come to -/
def jn {α β : Type} (k : α) (b : α → β) : β := b k
/-- how often a loop may go round -/
def fu : Nat := 5000
/-- what must hold -/
def mH {α : Type} (c : Prop) [Decidable c] (o : Option α) : Option α := if c then o else none
theorem rI_ok {α : Type} {σ : Sg} {k n : Nat} {i : Int32} {f : Int32 → Option α} {r : α} (h : rI σ k n i f = some r) : vp_in i n ∧ ∃ x, x = σ.1 k i.toNatClampNeg ∧ f x = some r := by
  unfold rI at h
  split at h
  · exact ⟨by assumption, _, rfl, h⟩
  · cases h
theorem rL_ok {α : Type} {σ : Sg} {k n : Nat} {i : Int32} {f : Int64 → Option α} {r : α} (h : rL σ k n i f = some r) : vp_in i n ∧ ∃ x, x = σ.2 k i.toNatClampNeg ∧ f x = some r := by
  unfold rL at h
  split at h
  · exact ⟨by assumption, _, rfl, h⟩
  · cases h
theorem wI_ok {α : Type} {σ : Sg} {k n : Nat} {i v : Int32} {f : Sg → Option α} {r : α} (h : wI σ k n i v f = some r) : vp_in i n ∧ ∃ x, x = sI σ k i.toNatClampNeg v ∧ f x = some r := by
  unfold wI at h
  split at h
  · exact ⟨by assumption, _, rfl, h⟩
  · cases h
theorem wL_ok {α : Type} {σ : Sg} {k n : Nat} {i : Int32} {v : Int64} {f : Sg → Option α} {r : α} (h : wL σ k n i v f = some r) : vp_in i n ∧ ∃ x, x = sL σ k i.toNatClampNeg v ∧ f x = some r := by
  unfold wL at h
  split at h
  · exact ⟨by assumption, _, rfl, h⟩
  · cases h
theorem pI_ok {α : Type} {σ : Sg} {k j : Nat} {v : Int32} {f : Sg → Option α} {r : α} (h : pI σ k j v f = some r) : ∃ x, x = sI σ k j v ∧ f x = some r := ⟨_, rfl, h⟩
theorem pL_ok {α : Type} {σ : Sg} {k j : Nat} {v : Int64} {f : Sg → Option α} {r : α} (h : pL σ k j v f = some r) : ∃ x, x = sL σ k j v ∧ f x = some r := ⟨_, rfl, h⟩
theorem xL4_ok {α : Type} {σ : Sg} {k0 n0 k1 n1 : Nat} {sp dp n : Int32} {f : Sg → Option α} {r : α} (h : xL4 σ k0 n0 k1 n1 sp dp n f = some r) : (¬ sp < 0 ∧ ¬ dp < 0 ∧ ¬ n < 0 ∧ sp.toNatClampNeg + n.toNatClampNeg ≤ n0 ∧ dp.toNatClampNeg + n.toNatClampNeg ≤ n1) ∧ ∃ x, x = cL σ k0 k1 sp.toNatClampNeg dp.toNatClampNeg n.toNatClampNeg ∧ f x = some r := by
  unfold xL4 at h
  split at h
  · exact ⟨by assumption, _, rfl, h⟩
  · cases h
theorem cA_ok {α β : Type} {o : Option (β × Sg)} {f : β → Sg → Option α} {r : α} (h : cA o f = some r) : ∃ x s, o = some (x, s) ∧ f x s = some r := by
  unfold cA at h
  split at h
  · cases h
  · exact ⟨_, _, rfl, h⟩
theorem cP_ok {α β : Type} {o : Option β} {f : β → Option α} {r : α} (h : cP o f = some r) : ∃ x, o = some x ∧ f x = some r := by
  unfold cP at h
  split at h
  · cases h
  · exact ⟨_, rfl, h⟩
theorem jn_ok {α β : Type} {k : α} {b : α → Option β} {r : β} (h : jn k b = some r) : ∃ k', k' = k ∧ b k' = some r := ⟨_, rfl, h⟩
theorem mH_ok {α : Type} {c : Prop} [Decidable c] {o : Option α} {r : α} (h : mH c o = some r) : c ∧ o = some r := by
  unfold mH at h
  split at h
  · exact ⟨by assumption, h⟩
  · cases h
theorem it {α : Type} {c : Prop} [Decidable c] {a b : Option α} {r : Option α} (h : (if c then a else b) = r) (hc : c) : a = r := (if_pos hc).symm.trans h
theorem ie {α : Type} {c : Prop} [Decidable c] {a b : Option α} {r : Option α} (h : (if c then a else b) = r) (hc : ¬ c) : b = r := (if_neg hc).symm.trans h
end
section
def f_X0_isLetter (σ : Sg) (a1 : Int32) : Option Int32 :=
  if a1 < 97 then (some 0) else (if 122 < a1 then (some 0) else (some 1))
def f_X5_add (σ : Sg) (a1 : Int32) : Option (Int32 × Sg) :=
  if (σ.1 1 1) < 50 then (wI σ 2 50 (σ.1 1 1) a1 fun s1 => (pI s1 1 1 ((s1.1 1 1) + 1) fun s4 => (some (1, s4)))) else (some (0, σ))
def f_X7_spell (σ : Sg) (a1 : Int32) : Option (Int32 × Sg) :=
  cP (f_X0_isLetter σ a1) fun x1 => (jn (cA (f_X5_add σ a1) fun x4 s6 => (if x4 = 0 then (some ((-1000000004 : Int32), s6)) else (some ((s6.1 1 1), s6)))) fun k3 => (if x1 = 0 then (if a1 = 32 then (k3) else (some ((-1000000002 : Int32), σ))) else (k3)))
def f_X8_in (σ : Sg) (a1 : Int32) (a2 : Int32) (a3 : Int32) : Option Int32 :=
  if a1 < a2 then (some 0) else (if a3 < a1 then (some 0) else (some 1))
def f_X8_isLetter (σ : Sg) (a1 : Int32) : Option Int32 :=
  cP (f_X8_in σ a1 97 122) fun x1 => (mH (x1 = 0 ∨ x1 = 1) (some x1))
def f_X8_spell (σ : Sg) (a1 : Int32) : Option (Int32 × Sg) :=
  cP (f_X8_isLetter σ a1) fun x1 => (jn (if (σ.1 43 4) = 50 then (some ((-1000000004 : Int32), σ)) else (wI σ 47 50 (σ.1 43 4) a1 fun s4 => (pI s4 43 4 ((s4.1 43 4) + 1) fun s7 => (some ((s7.1 43 4), s7))))) fun k3 => (if x1 = 0 then (if a1 = 32 then (k3) else (some ((-1000000002 : Int32), σ))) else (k3)))
def f_X7_isWeight (σ : Sg) (a1 : Int32) : Option Int32 :=
  if a1 < 1 then (some 0) else (if 9 < a1 then (some 0) else (some 1))
def f_X7_isBent (σ : Sg) (a1 : Int32) : Option Int32 :=
  if a1 = 0 then (some 1) else (if a1 = 1 then (some 1) else (some 0))
def f_X0_with (σ : Sg) (a1 : Int64) (a2 : Int32) (a3 : Int32) : Option Int64 :=
  if a2 < 0 then (some a1) else (if a2 < 12 then (some (a1 ||| ((Int32.toInt64 (a3 - 96)) <<< ((Int32.toInt64 (5 * a2)) &&& 63)))) else (some a1))
def f_X5_takeWords_L9 (k : Sg → Int32 → Int32 → Option (Int32 × Sg)) : Nat → Sg → Int32 → Int32 → Int32 → Int32 → Option (Int32 × Sg)
  | 0, _, _, _, _, _ => none
  | n + 1, s, i1, i2, i3, i4 =>
  if (s.1 1 1) ≤ i4 then (k s i1 i3) else (rI s 2 50 i4 fun x1 => (if x1 = 32 then (f_X5_takeWords_L9 k n (s) (i1) (0) (i3) ((i4 + 1))) else (jn (fun (v5 : Int32) => jn (fun (v7 : Int32) => if v7 = 0 then (f_X5_takeWords_L9 k n (s) (v5) ((i2 + 1)) (v7) ((i4 + 1))) else (jn (fun (v9 : Int64) => rI s 2 50 i4 fun x10 => (cP (f_X0_with s v9 ((i2 + 1) - 1) x10) fun x13 => (wL s 3 4 (v5 - 1) x13 fun s15 => (f_X5_takeWords_L9 k n (s15) (v5) ((i2 + 1)) (v7) ((i4 + 1)))))) fun k8 => (if (i2 + 1) = 1 then (k8 0) else (rL s 3 4 (v5 - 1) fun x18 => (k8 x18))))) fun k6 => (if i3 = 0 then (k6 0) else (if 12 < (i2 + 1) then (k6 0) else (if 4 < v5 then (k6 0) else (k6 1))))) fun k4 => (if i2 = 0 then (k4 (i1 + 1)) else (k4 i1)))))
def f_X5_takeWords (σ : Sg)  : Option (Int32 × Sg) :=
  f_X5_takeWords_L9 (fun (s29 : Sg) (v30 : Int32) (v31 : Int32) => pI s29 1 1 0 fun s32 => (if v31 = 0 then (some (0, s32)) else (some (v30, s32)))) fu σ 0 0 1 0
def f_X1_wordOf (σ : Sg) (a1 : Int32) (a2 : Int32) : Option Int64 :=
  rL σ 5 32 ((a1 * 4) + a2) fun x1 => (some x1)
def f_X1_hasWords_L2 (k : Option Int32) (σ : Sg) (c1 : Int32) : Nat → Int32 → Option Int32
  | 0, _ => none
  | n + 1, i3 =>
  rI σ 6 8 c1 fun x1 => (if x1 ≤ i3 then (k) else (if 4 ≤ i3 then (k) else (cP (f_X1_wordOf σ c1 i3) fun x4 => (rL σ 3 4 i3 fun x6 => (if (lg_cmp x4 x6) = 0 then (f_X1_hasWords_L2 k σ c1 n ((i3 + 1))) else (some 0))))))
def f_X1_hasWords (σ : Sg) (a1 : Int32) : Option Int32 :=
  f_X1_hasWords_L2 (some 1) σ a1 fu 0
def f_X1_hasTerm_L2 (k : Option Int32) (σ : Sg) (c2 : Int32) : Nat → Int32 → Option Int32
  | 0, _ => none
  | n + 1, i3 =>
  if (σ.1 4 0) ≤ i3 then (k) else (rI σ 6 8 i3 fun x1 => (if x1 = c2 then (cP (f_X1_hasWords σ i3) fun x4 => (if x4 = 0 then (f_X1_hasTerm_L2 k σ c2 n ((i3 + 1))) else (some 1))) else (f_X1_hasTerm_L2 k σ c2 n ((i3 + 1)))))
def f_X1_hasTerm (σ : Sg) (a1 : Int32) : Option Int32 :=
  f_X1_hasTerm_L2 (some 0) σ a1 fu 0
def f_X1_addTerm_4_3_L20 (k : Sg → Option (Int32 × Sg)) (c2 : Int32) (c3 : Int32) (c4 : Int32) (c5 : Int32) : Nat → Sg → Int32 → Option (Int32 × Sg)
  | 0, _, _ => none
  | n + 1, s, i6 =>
  if c2 ≤ i6 then (k s) else (if 4 ≤ i6 then (k s) else (rL s 3 4 i6 fun x1 => (wL s 5 32 ((c5 * 4) + i6) x1 fun s4 => (f_X1_addTerm_4_3_L20 k c2 c3 c4 c5 n (s4) ((i6 + 1))))))
def f_X1_addTerm_4_3 (σ : Sg) (a1 : Int32) (a2 : Int32) (a3 : Int32) : Option (Int32 × Sg) :=
  if (σ.1 4 0) < 8 then (f_X1_addTerm_4_3_L20 (fun (s9 : Sg) => wI s9 6 8 (σ.1 4 0) a1 fun s10 => (wI s10 7 8 (σ.1 4 0) a2 fun s13 => (wI s13 8 8 (σ.1 4 0) a3 fun s16 => (wI s16 9 8 (σ.1 4 0) (-1) fun s19 => (pI s19 4 0 ((s19.1 4 0) + 1) fun s22 => (some ((σ.1 4 0), s22))))))) a1 a2 a3 (σ.1 4 0) fu σ 0) else (some ((-1), σ))
def f_X4_forget (σ : Sg)  : Option (Unit × Sg) :=
  pI σ 30 2 0 fun s1 => (pI s1 30 3 0 fun s3 => (some ((), s3)))
def f_X3_forget (σ : Sg)  : Option (Unit × Sg) :=
  pI σ 40 5 0 fun s1 => (some ((), s1))
def f_X7_termsChanged (σ : Sg)  : Option (Unit × Sg) :=
  cA (f_X4_forget σ) fun x1 s3 => (cA (f_X3_forget s3) fun x4 s6 => (some ((), s6)))
def f_X7_term (σ : Sg) (a1 : Int32) (a2 : Int32) : Option (Int32 × Sg) :=
  cP (f_X7_isWeight σ a1) fun x1 => (if x1 = 0 then (some ((-1000000002 : Int32), σ)) else (cP (f_X7_isBent σ a2) fun x3 => (if x3 = 0 then (some ((-1000000002 : Int32), σ)) else (cA (f_X5_takeWords σ) fun x5 s7 => (if x5 = 0 then (some ((-1000000003 : Int32), s7)) else (cP (f_X1_hasTerm s7 x5) fun x8 => (if x8 = 0 then (cA (f_X1_addTerm_4_3 s7 x5 a1 a2) fun x10 s12 => (if x10 = (-1) then (some ((-1000000004 : Int32), s12)) else (cA (f_X7_termsChanged s12) fun x13 s15 => (some (x10, s15))))) else (some ((-1000000003 : Int32), s7)))))))))
def f_X8_parts_L6 (k : Sg → Int32 → Option (Int32 × Sg)) : Nat → Sg → Int32 → Int32 → Int32 → Option (Int32 × Sg)
  | 0, _, _, _, _ => none
  | n + 1, s, i1, i2, i3 =>
  if (s.1 43 4) ≤ i3 then (k s i1) else (rI s 47 50 i3 fun x1 => (jn (fun (v5 : Int32) => jn (fun (s7 : Sg) (v8 : Int32) => jn (fun (s10 : Sg) => f_X8_parts_L6 k n (s10) (v8) (v5) ((i3 + 1))) fun k9 => (if v5 = 0 then (k9 s7) else (rI s7 50 25 (v8 - 1) fun x11 => (wI s7 50 25 (v8 - 1) (x11 + 1) fun s14 => (k9 s14))))) fun k6 => (if v5 = 0 then (k6 s i1) else (if i2 = 0 then (wI s 49 25 i1 i3 fun s18 => (wI s18 50 25 i1 0 fun s21 => (k6 s21 (i1 + 1)))) else (k6 s i1)))) fun k4 => (if x1 = 32 then (k4 0) else (k4 1))))
def f_X8_parts (σ : Sg)  : Option (Int32 × Sg) :=
  f_X8_parts_L6 (fun (s28 : Sg) (v29 : Int32) => some (v29, s28)) fu σ 0 0 0
def f_X8_termAt (σ : Sg) (a1 : Int32) : Option Int32 :=
  some (2 + (56 * a1))
def f_X8_wordAt (σ : Sg) (a1 : Int32) (a2 : Int32) : Option Int32 :=
  some (((2 + (56 * a1)) + 4) + (13 * a2))
def f_X8_isSame_L24 (k : Int32 → Option Int32) (σ : Sg) (c1 : Int32) (c2 : Int32) : Nat → Int32 → Int32 → Option Int32
  | 0, _, _ => none
  | n + 1, i3, i4 =>
  rI σ 50 25 c1 fun x9 => (if x9 ≤ i4 then (k i3) else (if i3 = 0 then (k i3) else (rI σ 49 25 c1 fun x12 => (rI σ 47 50 (x12 + i4) fun x15 => (rI σ 44 475 ((c2 + 1) + i4) fun x18 => (if x15 = x18 then (f_X8_isSame_L24 k σ c1 c2 n (1) ((i4 + 1))) else (f_X8_isSame_L24 k σ c1 c2 n (0) ((i4 + 1)))))))))
def f_X8_isSame (σ : Sg) (a1 : Int32) (a2 : Int32) : Option Int32 :=
  rI σ 50 25 a1 fun x1 => (rI σ 44 475 a2 fun x4 => (jn (fun (v8 : Int32) => f_X8_isSame_L24 (fun (v24 : Int32) => mH (v24 = 0 ∨ v24 = 1) (some v24)) σ a1 a2 fu v8 0) fun k7 => (if x1 = x4 then (k7 1) else (k7 0))))
def f_X8_isTermThere_L39 (k : Int32 → Option Int32) (σ : Sg) (c1 : Int32) (c2 : Int32) (c3 : Int32) : Nat → Int32 → Int32 → Option Int32
  | 0, _, _ => none
  | n + 1, i4, i5 =>
  if c1 ≤ i5 then (k i4) else (if i4 = 0 then (k i4) else (cP (f_X8_wordAt σ c3 i5) fun x11 => (cP (f_X8_isSame σ i5 x11) fun x13 => (f_X8_isTermThere_L39 k σ c1 c2 c3 n (x13) ((i5 + 1))))))
def f_X8_isTermThere_L4 (k : Int32 → Option Int32) (σ : Sg) (c1 : Int32) : Nat → Int32 → Int32 → Option Int32
  | 0, _, _ => none
  | n + 1, i2, i3 =>
  rI σ 44 475 0 fun x1 => (if x1 ≤ i3 then (k i2) else (cP (f_X8_termAt σ i3) fun x4 => (rI σ 44 475 (x4 + 0) fun x6 => (jn (fun (v10 : Int32) => f_X8_isTermThere_L39 (fun (v17 : Int32) => jn (fun (v19 : Int32) => f_X8_isTermThere_L4 k σ c1 n (1) ((v19 + 1))) fun k18 => (if i2 = 0 then (if v17 = 0 then (f_X8_isTermThere_L4 k σ c1 n (0) ((i3 + 1))) else (k18 i3)) else (k18 i3))) σ c1 i2 i3 fu v10 0) fun k9 => (if x6 = c1 then (k9 1) else (k9 0))))))
def f_X8_isTermThere (σ : Sg) (a1 : Int32) : Option Int32 :=
  f_X8_isTermThere_L4 (fun (v24 : Int32) => mH (v24 = 0 ∨ v24 = 1) (some v24)) σ a1 fu 0 0
def f_X8_writes_L14 (k : Sg → Option (Unit × Sg)) (c1 : Int32) (c2 : Int32) : Nat → Sg → Int32 → Option (Unit × Sg)
  | 0, _, _ => none
  | n + 1, s, i3 =>
  rI s 50 25 c1 fun x7 => (if x7 ≤ i3 then (k s) else (rI s 49 25 c1 fun x10 => (rI s 47 50 (x10 + i3) fun x13 => (wI s 44 475 ((c2 + 1) + i3) x13 fun s16 => (f_X8_writes_L14 k c1 c2 n (s16) ((i3 + 1)))))))
def f_X8_writes (σ : Sg) (a1 : Int32) (a2 : Int32) : Option (Unit × Sg) :=
  rI σ 50 25 a1 fun x1 => (wI σ 44 475 a2 x1 fun s4 => (f_X8_writes_L14 (fun (s20 : Sg) => some ((), s20)) a1 a2 fu s4 0))
def f_X8_term_L43 (k : Int32 → Option (Int32 × Sg)) (σ : Sg) (c1 : Int32) (c2 : Int32) (c3 : Int32) : Nat → Int32 → Int32 → Option (Int32 × Sg)
  | 0, _, _ => none
  | n + 1, i4, i5 =>
  if c3 ≤ i5 then (k i4) else (jn (fun (v13 : Int32) => f_X8_term_L43 k σ c1 c2 c3 n (0) ((v13 + 1))) fun k12 => (if i4 = 0 then (k12 i5) else (rI σ 50 25 i5 fun x14 => (if 12 < x14 then (k12 i5) else (f_X8_term_L43 k σ c1 c2 c3 n (1) ((i5 + 1)))))))
def f_X8_term_L172 (k : Sg → Option (Int32 × Sg)) (c3 : Int32) (c5 : Int32) : Nat → Sg → Int32 → Option (Int32 × Sg)
  | 0, _, _ => none
  | n + 1, s, i6 =>
  if c3 ≤ i6 then (k s) else (cP (f_X8_wordAt s c5 i6) fun x49 => (cA (f_X8_writes s i6 x49) fun x51 s53 => (f_X8_term_L172 k c3 c5 n (s53) ((i6 + 1)))))
def f_X8_term (σ : Sg) (a1 : Int32) (a2 : Int32) : Option (Int32 × Sg) :=
  cP (f_X8_in σ a1 1 9) fun x1 => (if x1 = 0 then (some ((-1000000002 : Int32), σ)) else (cP (f_X8_in σ a2 0 1) fun x3 => (if x3 = 0 then (some ((-1000000002 : Int32), σ)) else (cA (f_X8_parts σ) fun x5 s7 => (pI s7 43 4 0 fun s8 => (cP (f_X8_in s8 x5 1 4) fun x10 => (f_X8_term_L43 (fun (v20 : Int32) => if v20 = 0 then (some ((-1000000003 : Int32), s8)) else (cP (f_X8_isTermThere s8 x5) fun x21 => (if x21 = 0 then (rI s8 44 475 0 fun x23 => (if x23 = 8 then (some ((-1000000004 : Int32), s8)) else (rI s8 44 475 0 fun x26 => (cP (f_X8_termAt s8 x26) fun x29 => (wI s8 44 475 (x29 + 0) x5 fun s31 => (cP (f_X8_termAt s31 x26) fun x34 => (wI s31 44 475 (x34 + 1) a1 fun s36 => (cP (f_X8_termAt s36 x26) fun x39 => (wI s36 44 475 (x39 + 2) a2 fun s41 => (cP (f_X8_termAt s41 x26) fun x44 => (wI s41 44 475 (x44 + 3) (-1) fun s46 => (f_X8_term_L172 (fun (s55 : Sg) => rI s55 44 475 0 fun x56 => (wI s55 44 475 0 (x56 + 1) fun s59 => (some (x26, s59)))) x5 x26 fu s46 0)))))))))))) else (some ((-1000000003 : Int32), s8))))) s8 a1 a2 x5 fu x10 0)))))))
def f_X0_sizeOf_L2 (k : Option Int32) (σ : Sg) (c0 : Int64) : Nat → Int32 → Option Int32
  | 0, _ => none
  | n + 1, i2 =>
  if 12 ≤ i2 then (k) else (if (lg_cmp ((Int64.toUInt64 c0 >>> ((Int32.toInt64 (5 * i2)).toUInt64 &&& Int64.toUInt64 63)).toInt64) 0) = 0 then (some i2) else (f_X0_sizeOf_L2 k σ c0 n ((i2 + 1))))
def f_X0_sizeOf (σ : Sg) (a1 : Int64) : Option Int32 :=
  f_X0_sizeOf_L2 (some 12) σ a1 fu 0
def f_X1_hasEnding_L2 (k : Option Int32) (σ : Sg) (c1 : Int64) : Nat → Int32 → Option Int32
  | 0, _ => none
  | n + 1, i3 =>
  if (σ.1 4 6) ≤ i3 then (k) else (rL σ 10 5 i3 fun x1 => (if (lg_cmp x1 c1) = 0 then (some 1) else (f_X1_hasEnding_L2 k σ c1 n ((i3 + 1)))))
def f_X1_hasEnding (σ : Sg) (a1 : Int64) : Option Int32 :=
  f_X1_hasEnding_L2 (some 0) σ a1 fu 0
def f_X1_addEnding (σ : Sg) (a1 : Int64) : Option (Int32 × Sg) :=
  if (σ.1 4 6) < 5 then (wL σ 10 5 (σ.1 4 6) a1 fun s1 => (pI s1 4 6 ((s1.1 4 6) + 1) fun s4 => (some (((s4.1 4 6) - 1), s4)))) else (some ((-1), σ))
def f_X7_ending (σ : Sg)  : Option (Int32 × Sg) :=
  cA (f_X5_takeWords σ) fun x1 s3 => (rL s3 3 4 0 fun x4 => (if x1 = 1 then (cP (f_X0_sizeOf s3 x4) fun x7 => (if 4 < x7 then (some ((-1000000003 : Int32), s3)) else (cP (f_X1_hasEnding s3 x4) fun x9 => (if x9 = 0 then (cA (f_X1_addEnding s3 x4) fun x11 s13 => (if x11 = (-1) then (some ((-1000000004 : Int32), s13)) else (cA (f_X7_termsChanged s13) fun x14 s16 => (some (x11, s16))))) else (some ((-1000000003 : Int32), s3)))))) else (some ((-1000000003 : Int32), s3))))
def f_X8_endingAt (σ : Sg) (a1 : Int32) : Option Int32 :=
  some (450 + (5 * a1))
def f_X8_ending_L33 (k : Int32 → Option (Int32 × Sg)) (σ : Sg) : Nat → Int32 → Int32 → Option (Int32 × Sg)
  | 0, _, _ => none
  | n + 1, i2, i3 =>
  rI σ 44 475 1 fun x8 => (if x8 ≤ i3 then (k i2) else (if i2 = 0 then (k i2) else (cP (f_X8_endingAt σ i3) fun x11 => (cP (f_X8_isSame σ 0 x11) fun x13 => (if x13 = 0 then (f_X8_ending_L33 k σ n (1) ((i3 + 1))) else (f_X8_ending_L33 k σ n (0) ((i3 + 1))))))))
def f_X8_ending (σ : Sg)  : Option (Int32 × Sg) :=
  cA (f_X8_parts σ) fun x1 s3 => (pI s3 43 4 0 fun s4 => (jn (fun (v7 : Int32) => f_X8_ending_L33 (fun (v18 : Int32) => if v18 = 0 then (some ((-1000000003 : Int32), s4)) else (rI s4 44 475 1 fun x19 => (if x19 = 5 then (some ((-1000000004 : Int32), s4)) else (rI s4 44 475 1 fun x22 => (cP (f_X8_endingAt s4 x22) fun x25 => (cA (f_X8_writes s4 0 x25) fun x27 s29 => (rI s29 44 475 1 fun x30 => (wI s29 44 475 1 (x30 + 1) fun s33 => (rI s33 44 475 1 fun x36 => (some ((x36 - 1), s33))))))))))) s4 fu v7 0) fun k6 => (if x1 = 1 then (rI s4 50 25 0 fun x41 => (if 4 < x41 then (k6 0) else (k6 1))) else (k6 0))))
def f_X1_isTerm (σ : Sg) (a1 : Int32) : Option Int32 :=
  if a1 < 0 then (some 0) else (if (σ.1 4 0) ≤ a1 then (some 0) else (some 1))
def f_X1_isPreferred_L2 (k : Option Int32) (σ : Sg) (c1 : Int32) : Nat → Int32 → Option Int32
  | 0, _ => none
  | n + 1, i2 =>
  if (σ.1 4 0) ≤ i2 then (k) else (rI σ 9 8 i2 fun x1 => (if x1 = c1 then (some 1) else (f_X1_isPreferred_L2 k σ c1 n ((i2 + 1)))))
def f_X1_isPreferred (σ : Sg) (a1 : Int32) : Option Int32 :=
  f_X1_isPreferred_L2 (some 0) σ a1 fu 0
def f_X1_copyTerm_4_4 (σ : Sg) (a1 : Int32) (a2 : Int32) : Option (Unit × Sg) :=
  xL4 σ 5 32 5 32 (a1 * 4) (a2 * 4) 4 fun s1 => (rI s1 6 8 a1 fun x4 => (wI s1 6 8 a2 x4 fun s7 => (rI s7 7 8 a1 fun x10 => (wI s7 7 8 a2 x10 fun s13 => (rI s13 8 8 a1 fun x16 => (wI s13 8 8 a2 x16 fun s19 => (rI s19 9 8 a1 fun x22 => (wI s19 9 8 a2 x22 fun s25 => (some ((), s25))))))))))
def f_X1_removeTerm_L2 (k : Sg → Option (Unit × Sg)) (c1 : Int32) : Nat → Sg → Int32 → Option (Unit × Sg)
  | 0, _, _ => none
  | n + 1, s, i2 =>
  if (s.1 4 0) ≤ (i2 + 1) then (k s) else (cA (f_X1_copyTerm_4_4 s (i2 + 1) i2) fun x1 s3 => (f_X1_removeTerm_L2 k c1 n (s3) ((i2 + 1))))
def f_X1_removeTerm_L39 (k : Sg → Option (Unit × Sg)) (c1 : Int32) : Nat → Sg → Int32 → Option (Unit × Sg)
  | 0, _, _ => none
  | n + 1, s, i2 =>
  if (s.1 4 0) ≤ i2 then (k s) else (rI s 9 8 i2 fun x8 => (if x8 ≤ c1 then (f_X1_removeTerm_L39 k c1 n (s) ((i2 + 1))) else (rI s 9 8 i2 fun x11 => (wI s 9 8 i2 (x11 - 1) fun s14 => (f_X1_removeTerm_L39 k c1 n (s14) ((i2 + 1)))))))
def f_X1_removeTerm (σ : Sg) (a1 : Int32) : Option (Unit × Sg) :=
  f_X1_removeTerm_L2 (fun (s5 : Sg) => pI s5 4 0 ((s5.1 4 0) - 1) fun s6 => (f_X1_removeTerm_L39 (fun (s19 : Sg) => some ((), s19)) a1 fu s6 0)) a1 fu σ a1
def f_X7_dropTerm (σ : Sg) (a1 : Int32) : Option (Int32 × Sg) :=
  cP (f_X1_isTerm σ a1) fun x1 => (if x1 = 0 then (some ((-1000000001 : Int32), σ)) else (cP (f_X1_isPreferred σ a1) fun x3 => (if x3 = 0 then (cA (f_X1_removeTerm σ a1) fun x5 s7 => (cA (f_X7_termsChanged s7) fun x8 s10 => (some ((s10.1 4 0), s10)))) else (some ((-1000000003 : Int32), σ)))))
def f_X8_isTerm (σ : Sg) (a1 : Int32) : Option Int32 :=
  rI σ 44 475 0 fun x1 => (cP (f_X8_in σ a1 0 (x1 - 1)) fun x4 => (mH (x4 = 0 ∨ x4 = 1) (some x4)))
def f_X8_isPreferred_L4 (k : Int32 → Option Int32) (σ : Sg) (c1 : Int32) : Nat → Int32 → Int32 → Option Int32
  | 0, _, _ => none
  | n + 1, i2, i3 =>
  rI σ 44 475 0 fun x1 => (if x1 ≤ i3 then (k i2) else (jn (fun (v5 : Int32) => f_X8_isPreferred_L4 k σ c1 n (1) ((v5 + 1))) fun k4 => (if i2 = 0 then (cP (f_X8_termAt σ i3) fun x6 => (rI σ 44 475 (x6 + 3) fun x8 => (if x8 = c1 then (k4 i3) else (f_X8_isPreferred_L4 k σ c1 n (0) ((i3 + 1)))))) else (k4 i3))))
def f_X8_isPreferred (σ : Sg) (a1 : Int32) : Option Int32 :=
  f_X8_isPreferred_L4 (fun (v14 : Int32) => mH (v14 = 0 ∨ v14 = 1) (some v14)) σ a1 fu 0 0
def f_X8_dropTerm_L27 (k : Sg → Option (Int32 × Sg)) (c1 : Int32) : Nat → Sg → Int32 → Option (Int32 × Sg)
  | 0, _, _ => none
  | n + 1, s, i2 =>
  if 450 ≤ (i2 + 56) then (k s) else (rI s 44 475 (i2 + 56) fun x7 => (wI s 44 475 i2 x7 fun s10 => (f_X8_dropTerm_L27 k c1 n (s10) ((i2 + 1)))))
def f_X8_dropTerm_L70 (k : Sg → Option (Int32 × Sg)) (c1 : Int32) : Nat → Sg → Int32 → Option (Int32 × Sg)
  | 0, _, _ => none
  | n + 1, s, i2 =>
  rI s 44 475 0 fun x21 => (if x21 ≤ i2 then (k s) else (cP (f_X8_termAt s i2) fun x24 => (rI s 44 475 (x24 + 3) fun x26 => (rI s 44 475 (x24 + 3) fun x29 => (jn (fun (v33 : Int32) => wI s 44 475 (x24 + 3) (x26 - v33) fun s34 => (f_X8_dropTerm_L70 k c1 n (s34) ((i2 + 1)))) fun k32 => (if x29 ≤ c1 then (k32 0) else (k32 1)))))))
def f_X8_dropTerm (σ : Sg) (a1 : Int32) : Option (Int32 × Sg) :=
  cP (f_X8_isTerm σ a1) fun x1 => (if x1 = 0 then (some ((-1000000001 : Int32), σ)) else (cP (f_X8_isPreferred σ a1) fun x3 => (if x3 = 0 then (cP (f_X8_termAt σ a1) fun x5 => (f_X8_dropTerm_L27 (fun (s14 : Sg) => rI s14 44 475 0 fun x15 => (wI s14 44 475 0 (x15 - 1) fun s18 => (f_X8_dropTerm_L70 (fun (s39 : Sg) => rI s39 44 475 0 fun x40 => (some (x40, s39))) a1 fu s18 0))) a1 fu σ x5)) else (some ((-1000000003 : Int32), σ)))))
def f_X1_isEnding (σ : Sg) (a1 : Int32) : Option Int32 :=
  if a1 < 0 then (some 0) else (if (σ.1 4 6) ≤ a1 then (some 0) else (some 1))
def f_X1_removeEnding_L2 (k : Sg → Option (Unit × Sg)) : Nat → Sg → Int32 → Option (Unit × Sg)
  | 0, _, _ => none
  | n + 1, s, i2 =>
  if (s.1 4 6) ≤ (i2 + 1) then (k s) else (rL s 10 5 (i2 + 1) fun x1 => (wL s 10 5 i2 x1 fun s4 => (f_X1_removeEnding_L2 k n (s4) ((i2 + 1)))))
def f_X1_removeEnding (σ : Sg) (a1 : Int32) : Option (Unit × Sg) :=
  f_X1_removeEnding_L2 (fun (s8 : Sg) => pI s8 4 6 ((s8.1 4 6) - 1) fun s9 => (some ((), s9))) fu σ a1
def f_X7_dropEnding (σ : Sg) (a1 : Int32) : Option (Int32 × Sg) :=
  cP (f_X1_isEnding σ a1) fun x1 => (if x1 = 0 then (some ((-1000000001 : Int32), σ)) else (cA (f_X1_removeEnding σ a1) fun x3 s5 => (cA (f_X7_termsChanged s5) fun x6 s8 => (some ((s8.1 4 6), s8)))))
def f_X8_isEnding (σ : Sg) (a1 : Int32) : Option Int32 :=
  rI σ 44 475 1 fun x1 => (cP (f_X8_in σ a1 0 (x1 - 1)) fun x4 => (mH (x4 = 0 ∨ x4 = 1) (some x4)))
def f_X8_dropEnding_L16 (k : Sg → Option (Int32 × Sg)) : Nat → Sg → Int32 → Option (Int32 × Sg)
  | 0, _, _ => none
  | n + 1, s, i2 =>
  if 475 ≤ (i2 + 5) then (k s) else (rI s 44 475 (i2 + 5) fun x5 => (wI s 44 475 i2 x5 fun s8 => (f_X8_dropEnding_L16 k n (s8) ((i2 + 1)))))
def f_X8_dropEnding (σ : Sg) (a1 : Int32) : Option (Int32 × Sg) :=
  cP (f_X8_isEnding σ a1) fun x1 => (if x1 = 0 then (some ((-1000000001 : Int32), σ)) else (cP (f_X8_endingAt σ a1) fun x3 => (f_X8_dropEnding_L16 (fun (s12 : Sg) => rI s12 44 475 1 fun x13 => (wI s12 44 475 1 (x13 - 1) fun s16 => (rI s16 44 475 1 fun x19 => (some (x19, s16))))) fu σ x3)))
def f_X1_isForbidden (σ : Sg) (a1 : Int32) : Option Int32 :=
  rI σ 9 8 a1 fun x1 => (if x1 = (-1) then (some 0) else (some 1))
def f_X1_forbiddenSet_L4 (k : Int32 → Option Int32) (σ : Sg) : Nat → Int32 → Int32 → Option Int32
  | 0, _, _ => none
  | n + 1, i1, i2 =>
  if (σ.1 4 0) ≤ i2 then (k i1) else (cP (f_X1_isForbidden σ i2) fun x1 => (if x1 = 0 then (f_X1_forbiddenSet_L4 k σ n (i1) ((i2 + 1))) else (f_X1_forbiddenSet_L4 k σ n ((i1 ||| (1 <<< (i2 &&& 31)))) ((i2 + 1)))))
def f_X1_forbiddenSet (σ : Sg)  : Option Int32 :=
  f_X1_forbiddenSet_L4 (fun (v5 : Int32) => some v5) σ fu 0 0
def f_J6_bitCount_0f7a4 (σ : Sg) (a1 : Int32) : Option Int32 :=
  some ((((((((a1 - (((a1.toUInt32 >>> (Int32.toUInt32 1 &&& Int32.toUInt32 31)).toInt32) &&& (1431655765 : Int32))) &&& (858993459 : Int32)) + ((((a1 - (((a1.toUInt32 >>> (Int32.toUInt32 1 &&& Int32.toUInt32 31)).toInt32) &&& (1431655765 : Int32))).toUInt32 >>> (Int32.toUInt32 2 &&& Int32.toUInt32 31)).toInt32) &&& (858993459 : Int32))) + (((((a1 - (((a1.toUInt32 >>> (Int32.toUInt32 1 &&& Int32.toUInt32 31)).toInt32) &&& (1431655765 : Int32))) &&& (858993459 : Int32)) + ((((a1 - (((a1.toUInt32 >>> (Int32.toUInt32 1 &&& Int32.toUInt32 31)).toInt32) &&& (1431655765 : Int32))).toUInt32 >>> (Int32.toUInt32 2 &&& Int32.toUInt32 31)).toInt32) &&& (858993459 : Int32))).toUInt32 >>> (Int32.toUInt32 4 &&& Int32.toUInt32 31)).toInt32)) &&& (252645135 : Int32)) + (((((((a1 - (((a1.toUInt32 >>> (Int32.toUInt32 1 &&& Int32.toUInt32 31)).toInt32) &&& (1431655765 : Int32))) &&& (858993459 : Int32)) + ((((a1 - (((a1.toUInt32 >>> (Int32.toUInt32 1 &&& Int32.toUInt32 31)).toInt32) &&& (1431655765 : Int32))).toUInt32 >>> (Int32.toUInt32 2 &&& Int32.toUInt32 31)).toInt32) &&& (858993459 : Int32))) + (((((a1 - (((a1.toUInt32 >>> (Int32.toUInt32 1 &&& Int32.toUInt32 31)).toInt32) &&& (1431655765 : Int32))) &&& (858993459 : Int32)) + ((((a1 - (((a1.toUInt32 >>> (Int32.toUInt32 1 &&& Int32.toUInt32 31)).toInt32) &&& (1431655765 : Int32))).toUInt32 >>> (Int32.toUInt32 2 &&& Int32.toUInt32 31)).toInt32) &&& (858993459 : Int32))).toUInt32 >>> (Int32.toUInt32 4 &&& Int32.toUInt32 31)).toInt32)) &&& (252645135 : Int32)).toUInt32 >>> (Int32.toUInt32 8 &&& Int32.toUInt32 31)).toInt32)) + ((((((((a1 - (((a1.toUInt32 >>> (Int32.toUInt32 1 &&& Int32.toUInt32 31)).toInt32) &&& (1431655765 : Int32))) &&& (858993459 : Int32)) + ((((a1 - (((a1.toUInt32 >>> (Int32.toUInt32 1 &&& Int32.toUInt32 31)).toInt32) &&& (1431655765 : Int32))).toUInt32 >>> (Int32.toUInt32 2 &&& Int32.toUInt32 31)).toInt32) &&& (858993459 : Int32))) + (((((a1 - (((a1.toUInt32 >>> (Int32.toUInt32 1 &&& Int32.toUInt32 31)).toInt32) &&& (1431655765 : Int32))) &&& (858993459 : Int32)) + ((((a1 - (((a1.toUInt32 >>> (Int32.toUInt32 1 &&& Int32.toUInt32 31)).toInt32) &&& (1431655765 : Int32))).toUInt32 >>> (Int32.toUInt32 2 &&& Int32.toUInt32 31)).toInt32) &&& (858993459 : Int32))).toUInt32 >>> (Int32.toUInt32 4 &&& Int32.toUInt32 31)).toInt32)) &&& (252645135 : Int32)) + (((((((a1 - (((a1.toUInt32 >>> (Int32.toUInt32 1 &&& Int32.toUInt32 31)).toInt32) &&& (1431655765 : Int32))) &&& (858993459 : Int32)) + ((((a1 - (((a1.toUInt32 >>> (Int32.toUInt32 1 &&& Int32.toUInt32 31)).toInt32) &&& (1431655765 : Int32))).toUInt32 >>> (Int32.toUInt32 2 &&& Int32.toUInt32 31)).toInt32) &&& (858993459 : Int32))) + (((((a1 - (((a1.toUInt32 >>> (Int32.toUInt32 1 &&& Int32.toUInt32 31)).toInt32) &&& (1431655765 : Int32))) &&& (858993459 : Int32)) + ((((a1 - (((a1.toUInt32 >>> (Int32.toUInt32 1 &&& Int32.toUInt32 31)).toInt32) &&& (1431655765 : Int32))).toUInt32 >>> (Int32.toUInt32 2 &&& Int32.toUInt32 31)).toInt32) &&& (858993459 : Int32))).toUInt32 >>> (Int32.toUInt32 4 &&& Int32.toUInt32 31)).toInt32)) &&& (252645135 : Int32)).toUInt32 >>> (Int32.toUInt32 8 &&& Int32.toUInt32 31)).toInt32)).toUInt32 >>> (Int32.toUInt32 16 &&& Int32.toUInt32 31)).toInt32)) &&& 63)
def f_X7_forbid (σ : Sg) (a1 : Int32) (a2 : Int32) : Option (Int32 × Sg) :=
  cP (f_X1_isTerm σ a1) fun x1 => (if x1 = 0 then (some ((-1000000001 : Int32), σ)) else (cP (f_X1_isTerm σ a2) fun x3 => (if x3 = 0 then (some ((-1000000001 : Int32), σ)) else (if a1 = a2 then (some ((-1000000001 : Int32), σ)) else (cP (f_X1_isPreferred σ a1) fun x5 => (if x5 = 0 then (cP (f_X1_isForbidden σ a2) fun x7 => (if x7 = 0 then (wI σ 9 8 a1 a2 fun s9 => (cA (f_X7_termsChanged s9) fun x12 s14 => (cP (f_X1_forbiddenSet s14) fun x15 => (cP (f_J6_bitCount_0f7a4 s14 x15) fun x17 => (some (x17, s14)))))) else (some ((-1000000003 : Int32), σ)))) else (some ((-1000000003 : Int32), σ))))))))
def f_X8_forbidden_L4 (k : Int32 → Option Int32) (σ : Sg) : Nat → Int32 → Int32 → Option Int32
  | 0, _, _ => none
  | n + 1, i1, i2 =>
  rI σ 44 475 0 fun x1 => (if x1 ≤ i2 then (k i1) else (cP (f_X8_termAt σ i2) fun x4 => (rI σ 44 475 (x4 + 3) fun x6 => (jn (fun (v10 : Int32) => f_X8_forbidden_L4 k σ n ((i1 ||| v10)) ((i2 + 1))) fun k9 => (if x6 = (-1) then (k9 0) else (k9 (1 <<< (i2 &&& 31))))))))
def f_X8_forbidden (σ : Sg)  : Option Int32 :=
  f_X8_forbidden_L4 (fun (v13 : Int32) => some v13) σ fu 0 0
def f_X8_ones_L4 (k : Int32 → Option Int32) (σ : Sg) (c0 : Int32) : Nat → Int32 → Int32 → Option Int32
  | 0, _, _ => none
  | n + 1, i1, i2 =>
  if 8 ≤ i2 then (k i1) else (f_X8_ones_L4 k σ c0 n ((i1 + ((c0 >>> (i2 &&& 31)) &&& 1))) ((i2 + 1)))
def f_X8_ones (σ : Sg) (a1 : Int32) : Option Int32 :=
  f_X8_ones_L4 (fun (v2 : Int32) => some v2) σ a1 fu 0 0
def f_X8_forbid (σ : Sg) (a1 : Int32) (a2 : Int32) : Option (Int32 × Sg) :=
  cP (f_X8_isTerm σ a1) fun x1 => (if x1 = 0 then (some ((-1000000001 : Int32), σ)) else (cP (f_X8_isTerm σ a2) fun x3 => (if x3 = 0 then (some ((-1000000001 : Int32), σ)) else (if a1 = a2 then (some ((-1000000001 : Int32), σ)) else (cP (f_X8_isPreferred σ a1) fun x5 => (if x5 = 0 then (cP (f_X8_termAt σ a2) fun x7 => (rI σ 44 475 (x7 + 3) fun x9 => (if x9 = (-1) then (cP (f_X8_termAt σ a1) fun x12 => (wI σ 44 475 (x12 + 3) a2 fun s14 => (cP (f_X8_forbidden s14) fun x17 => (cP (f_X8_ones s14 x17) fun x19 => (some (x19, s14)))))) else (some ((-1000000003 : Int32), σ))))) else (some ((-1000000003 : Int32), σ))))))))
def f_X7_allow (σ : Sg) (a1 : Int32) : Option (Int32 × Sg) :=
  cP (f_X1_isTerm σ a1) fun x1 => (if x1 = 0 then (some ((-1000000001 : Int32), σ)) else (cP (f_X1_isForbidden σ a1) fun x3 => (if x3 = 0 then (some ((-1000000003 : Int32), σ)) else (wI σ 9 8 a1 (-1) fun s5 => (cA (f_X7_termsChanged s5) fun x8 s10 => (cP (f_X1_forbiddenSet s10) fun x11 => (cP (f_J6_bitCount_0f7a4 s10 x11) fun x13 => (some (x13, s10)))))))))
def f_X8_allow (σ : Sg) (a1 : Int32) : Option (Int32 × Sg) :=
  cP (f_X8_isTerm σ a1) fun x1 => (if x1 = 0 then (some ((-1000000001 : Int32), σ)) else (cP (f_X8_termAt σ a1) fun x3 => (rI σ 44 475 (x3 + 3) fun x5 => (if x5 = (-1) then (some ((-1000000003 : Int32), σ)) else (cP (f_X8_termAt σ a1) fun x8 => (wI σ 44 475 (x8 + 3) (-1) fun s10 => (cP (f_X8_forbidden s10) fun x13 => (cP (f_X8_ones s10 x13) fun x15 => (some (x15, s10))))))))))
def f_X7_change (σ : Sg) (a1 : Int32) (a2 : Int32) (a3 : Int32) : Option (Int32 × Sg) :=
  cP (f_X1_isTerm σ a1) fun x1 => (if x1 = 0 then (some ((-1000000001 : Int32), σ)) else (jn (fun (s4 : Sg) => if a2 = 1 then (cP (f_X7_isBent s4 a3) fun x5 => (if x5 = 0 then (some ((-1000000002 : Int32), s4)) else (rI s4 8 8 a1 fun x7 => (wI s4 8 8 a1 a3 fun s10 => (cA (f_X7_termsChanged s10) fun x13 s15 => (some (x7, s15))))))) else (some ((-1000000002 : Int32), s4))) fun k3 => (if a2 = 0 then (cP (f_X7_isWeight σ a3) fun x18 => (if x18 = 0 then (k3 σ) else (rI σ 7 8 a1 fun x20 => (wI σ 7 8 a1 a3 fun s23 => (cA (f_X7_termsChanged s23) fun x26 s28 => (some (x20, s28))))))) else (k3 σ))))
def f_X8_change (σ : Sg) (a1 : Int32) (a2 : Int32) (a3 : Int32) : Option (Int32 × Sg) :=
  cP (f_X8_isTerm σ a1) fun x1 => (if x1 = 0 then (some ((-1000000001 : Int32), σ)) else (jn (fun (v4 : Int32) => if v4 = 0 then (some ((-1000000002 : Int32), σ)) else (cP (f_X8_termAt σ a1) fun x5 => (jn (fun (v8 : Int32) => rI σ 44 475 (x5 + v8) fun x9 => (wI σ 44 475 (x5 + v8) a3 fun s12 => (some (x9, s12)))) fun k7 => (if a2 = 0 then (k7 1) else (k7 2))))) fun k3 => (if a2 = 0 then (cP (f_X8_in σ a3 1 9) fun x21 => (if x21 = 0 then (if a2 = 1 then (cP (f_X8_in σ a3 0 1) fun x23 => (if x23 = 0 then (k3 0) else (k3 1))) else (k3 0)) else (k3 1))) else (if a2 = 1 then (cP (f_X8_in σ a3 0 1) fun x17 => (if x17 = 0 then (k3 0) else (k3 1))) else (k3 0)))))
def f_X6_beginsSentence (σ : Sg) (a1 : Int32) : Option Int32 :=
  if a1 = 0 then (some 1) else (rI σ 29 60 (a1 - 1) fun x1 => (rI σ 29 60 a1 fun x4 => (if x1 = x4 then (some 0) else (some 1))))
def f_X0_without (σ : Sg) (a1 : Int64) (a2 : Int64) (a3 : Int32) : Option Int64 :=
  if a3 ≤ 0 then (some 0) else (if 12 ≤ a3 then (some 0) else (if (lg_cmp ((Int64.toUInt64 a1 >>> ((Int32.toInt64 (5 * a3)).toUInt64 &&& Int64.toUInt64 63)).toInt64) a2) = 0 then (some (a1 &&& ((1 <<< ((Int32.toInt64 (5 * a3)) &&& 63)) - 1))) else (some 0)))
def f_X4_makeForms_L20 (k : Sg → Option (Unit × Sg)) (c1 : Int64) (c3 : Int32) : Nat → Sg → Int32 → Option (Unit × Sg)
  | 0, _, _ => none
  | n + 1, s, i4 =>
  if (s.1 4 6) ≤ i4 then (k s) else (if 6 ≤ (s.1 30 5) then (k s) else (rL s 10 5 i4 fun x8 => (cP (f_X0_sizeOf s x8) fun x11 => (cP (f_X0_without s c1 x8 (c3 - x11)) fun x13 => (if (lg_cmp x13 0) = 0 then (f_X4_makeForms_L20 k c1 c3 n (s) ((i4 + 1))) else (wL s 31 6 (s.1 30 5) x13 fun s15 => (pI s15 30 5 ((s15.1 30 5) + 1) fun s18 => (f_X4_makeForms_L20 k c1 c3 n (s18) ((i4 + 1))))))))))
def f_X4_makeForms (σ : Sg) (a1 : Int64) : Option (Unit × Sg) :=
  cP (f_X0_sizeOf σ a1) fun x1 => (wL σ 31 6 0 a1 fun s3 => (pI s3 30 5 1 fun s6 => (f_X4_makeForms_L20 (fun (s23 : Sg) => some ((), s23)) a1 x1 fu s6 0)))
def f_X4_isForm_L3 (k : Option Int32) (σ : Sg) (c1 : Int64) (c3 : Int32) : Nat → Int32 → Option Int32
  | 0, _ => none
  | n + 1, i4 =>
  if c3 ≤ i4 then (k) else (if 6 ≤ i4 then (k) else (rL σ 31 6 i4 fun x1 => (if (lg_cmp x1 c1) = 0 then (some 1) else (f_X4_isForm_L3 k σ c1 c3 n ((i4 + 1))))))
def f_X4_isForm (σ : Sg) (a1 : Int64) (a2 : Int32) : Option Int32 :=
  f_X4_isForm_L3 (some 0) σ a1 a2 fu 0
def f_X4_meets_L68 (k : Int32 → Option (Int32 × Sg)) (σ : Sg) (c3 : Int32) (c4 : Int32) : Nat → Int32 → Int32 → Option (Int32 × Sg)
  | 0, _, _ => none
  | n + 1, i2, i5 =>
  rI σ 6 8 c3 fun x15 => (if x15 ≤ i5 then (k i2) else (cP (f_X1_wordOf σ c3 i5) fun x18 => (cP (f_X4_isForm σ x18 c4) fun x20 => (if x20 = 0 then (f_X4_meets_L68 k σ c3 c4 n (i2) ((i5 + 1))) else (f_X4_meets_L68 k σ c3 c4 n ((i2 ||| (1 <<< (((c3 * 4) + i5) &&& 31)))) ((i5 + 1)))))))
def f_X4_meets_L31 (k : Int32 → Option (Int32 × Sg)) (σ : Sg) : Nat → Int32 → Int32 → Option (Int32 × Sg)
  | 0, _, _ => none
  | n + 1, i2, i3 =>
  if (σ.1 4 0) ≤ i3 then (k i2) else (rI σ 8 8 i3 fun x10 => (jn (fun (v14 : Int32) => f_X4_meets_L68 (fun (v24 : Int32) => f_X4_meets_L31 k σ n (v24) ((i3 + 1))) σ i3 v14 fu i2 0) fun k13 => (if x10 = 1 then (k13 (σ.1 30 5)) else (k13 1))))
def f_X4_meets (σ : Sg) (a1 : Int32) : Option (Int32 × Sg) :=
  rI σ 28 60 a1 fun x1 => (if x1 = 0 then (rL σ 27 60 a1 fun x4 => (cA (f_X4_makeForms σ x4) fun x7 s9 => (f_X4_meets_L31 (fun (v27 : Int32) => some (v27, s9)) s9 fu 0 0))) else (some (0, σ)))
def f_X4_hasBegun (σ : Sg) (a1 : Int32) (a2 : Int32) (a3 : Int32) : Option Int32 :=
  rI σ 32 60 a1 fun x1 => (if (((x1.toUInt32 >>> (Int32.toUInt32 (((a2 * 4) + a3) - 1) &&& Int32.toUInt32 31)).toInt32) &&& 1) = 0 then (some 0) else (some 1))
def f_X4_look_L51 (k : Sg → Option (Unit × Sg)) (c1 : Int32) : Nat → Sg → Int32 → Option (Unit × Sg)
  | 0, _, _ => none
  | n + 1, s, i3 =>
  if (s.1 4 0) ≤ i3 then (k s) else (rI s 6 8 i3 fun x14 => (if ((c1 - x14) + 1) < 0 then (f_X4_look_L51 k c1 n (s) ((i3 + 1))) else (cP (f_X4_hasBegun s c1 i3 x14) fun x17 => (if x17 = 0 then (f_X4_look_L51 k c1 n (s) ((i3 + 1))) else (rI s 33 60 ((c1 - x14) + 1) fun x19 => (wI s 33 60 ((c1 - x14) + 1) (x19 ||| (1 <<< (i3 &&& 31))) fun s22 => (f_X4_look_L51 k c1 n (s22) ((i3 + 1)))))))))
def f_X4_look (σ : Sg) (a1 : Int32) : Option (Unit × Sg) :=
  cP (f_X6_beginsSentence σ a1) fun x1 => (jn (fun (v4 : Int32) => cA (f_X4_meets σ a1) fun x5 s7 => (wI s7 32 60 a1 (((v4 <<< (1 &&& 31)) ||| (286331153 : Int32)) &&& x5) fun s8 => (wI s8 33 60 a1 0 fun s11 => (f_X4_look_L51 (fun (s28 : Sg) => some ((), s28)) a1 fu s11 0)))) fun k3 => (if x1 = 0 then (rI σ 32 60 (a1 - 1) fun x29 => (k3 x29)) else (k3 0)))
def f_X4_isFound (σ : Sg) (a1 : Int32) (a2 : Int32) : Option Int32 :=
  rI σ 33 60 a1 fun x1 => (if (((x1.toUInt32 >>> (Int32.toUInt32 a2 &&& Int32.toUInt32 31)).toInt32) &&& 1) = 0 then (some 0) else (some 1))
def f_X1_worthOf (σ : Sg) (a1 : Int32) : Option Int32 :=
  rI σ 7 8 a1 fun x1 => (rI σ 6 8 a1 fun x4 => (some (x1 * x4)))
def f_X4_isBetter (σ : Sg) (a1 : Int32) (a2 : Int32) (a3 : Int32) (a4 : Int32) : Option Int32 :=
  rI σ 34 61 a1 fun x1 => (if a3 = x1 then (rI σ 35 61 a1 fun x4 => (if a4 = x4 then (rI σ 36 60 a1 fun x7 => (if x7 = (-1) then (some 1) else (rI σ 6 8 a2 fun x10 => (rI σ 36 60 a1 fun x13 => (rI σ 6 8 x13 fun x16 => (if x10 ≤ x16 then (some 0) else (some 1))))))) else (rI σ 35 61 a1 fun x21 => (if x21 ≤ a4 then (some 0) else (some 1))))) else (rI σ 34 61 a1 fun x26 => (if a3 ≤ x26 then (some 0) else (some 1))))
def f_X4_weighFrom_L37 (k : Sg → Option (Unit × Sg)) (c1 : Int32) : Nat → Sg → Int32 → Option (Unit × Sg)
  | 0, _, _ => none
  | n + 1, s, i2 =>
  if (s.1 4 0) ≤ i2 then (k s) else (rI s 6 8 i2 fun x16 => (cP (f_X4_isFound s c1 i2) fun x19 => (if x19 = 0 then (f_X4_weighFrom_L37 k c1 n (s) ((i2 + 1))) else (if (s.1 26 0) < (c1 + x16) then (f_X4_weighFrom_L37 k c1 n (s) ((i2 + 1))) else (cP (f_X1_worthOf s i2) fun x21 => (rI s 34 61 (c1 + x16) fun x23 => (rI s 35 61 (c1 + x16) fun x26 => (cP (f_X4_isBetter s c1 i2 (x21 + x23) (1 + x26)) fun x29 => (if x29 = 0 then (f_X4_weighFrom_L37 k c1 n (s) ((i2 + 1))) else (wI s 36 60 c1 i2 fun s31 => (wI s31 34 61 c1 (x21 + x23) fun s34 => (wI s34 35 61 c1 (1 + x26) fun s37 => (f_X4_weighFrom_L37 k c1 n (s37) ((i2 + 1)))))))))))))))
def f_X4_weighFrom (σ : Sg) (a1 : Int32) : Option (Unit × Sg) :=
  wI σ 36 60 a1 (-1) fun s1 => (rI s1 34 61 (a1 + 1) fun x4 => (wI s1 34 61 a1 x4 fun s7 => (rI s7 35 61 (a1 + 1) fun x10 => (wI s7 35 61 a1 x10 fun s13 => (f_X4_weighFrom_L37 (fun (s44 : Sg) => some ((), s44)) a1 fu s13 0)))))
def f_X4_weigh_L36 (k : Sg → Option (Unit × Sg)) : Nat → Sg → Int32 → Option (Unit × Sg)
  | 0, _, _ => none
  | n + 1, s, i1 =>
  if i1 < 0 then (k s) else (cA (f_X4_weighFrom s i1) fun x7 s9 => (f_X4_weigh_L36 k n (s9) ((i1 + (-1)))))
def f_X4_weigh (σ : Sg)  : Option (Unit × Sg) :=
  wI σ 34 61 (σ.1 26 0) 0 fun s1 => (wI s1 35 61 (s1.1 26 0) 0 fun s4 => (f_X4_weigh_L36 (fun (s11 : Sg) => some ((), s11)) fu s4 ((s4.1 26 0) - 1)))
def f_X4_choose_L9 (k : Sg → Option (Unit × Sg)) : Nat → Sg → Int32 → Int32 → Option (Unit × Sg)
  | 0, _, _, _ => none
  | n + 1, s, i1, i2 =>
  if (s.1 26 0) ≤ i2 then (k s) else (jn (fun (s4 : Sg) (v5 : Int32) => jn (fun (v7 : Int32) => wI s4 39 60 i2 v7 fun s8 => (f_X4_choose_L9 k n (s8) (v5) ((i2 + 1)))) fun k6 => (if v5 ≤ i2 then (k6 (-1)) else (k6 ((s4.1 30 11) - 1)))) fun k3 => (if i2 < i1 then (k3 s i1) else (rI s 36 60 i2 fun x12 => (if x12 = (-1) then (k3 s i1) else (wI s 37 60 (s.1 30 11) i2 fun s15 => (rI s15 36 60 i2 fun x18 => (wI s15 38 60 (s15.1 30 11) x18 fun s21 => (pI s21 30 11 ((s21.1 30 11) + 1) fun s24 => (rI s24 36 60 i2 fun x26 => (rI s24 6 8 x26 fun x29 => (k3 s24 (i2 + x29))))))))))))
def f_X4_choose (σ : Sg)  : Option (Unit × Sg) :=
  pI σ 30 11 0 fun s1 => (f_X4_choose_L9 (fun (s35 : Sg) => some ((), s35)) fu s1 0 0)
def f_X4_settle_L13 (k : Sg → Option (Unit × Sg)) : Nat → Sg → Int32 → Option (Unit × Sg)
  | 0, _, _ => none
  | n + 1, s, i1 =>
  if (s.1 26 0) ≤ i1 then (k s) else (cA (f_X4_look s i1) fun x1 s3 => (f_X4_settle_L13 k n (s3) ((i1 + 1))))
def f_X4_settle (σ : Sg)  : Option (Unit × Sg) :=
  if (σ.1 30 3) = 0 then (f_X4_settle_L13 (fun (s5 : Sg) => pI s5 30 2 (s5.1 26 0) fun s6 => (cA (f_X4_weigh s6) fun x8 s10 => (cA (f_X4_choose s10) fun x11 s13 => (pI s13 30 3 1 fun s14 => (some ((), s14)))))) fu σ (σ.1 30 2)) else (some ((), σ))
def f_X7_settled (σ : Sg)  : Option (Unit × Sg) :=
  cA (f_X4_settle σ) fun x1 s3 => (some ((), s3))
def f_X4_timesFound_L4 (k : Int32 → Option Int32) (σ : Sg) (c1 : Int32) : Nat → Int32 → Int32 → Option Int32
  | 0, _, _ => none
  | n + 1, i2, i3 =>
  if (σ.1 26 0) ≤ i3 then (k i2) else (cP (f_X4_isFound σ i3 c1) fun x1 => (jn (fun (v4 : Int32) => f_X4_timesFound_L4 k σ c1 n ((i2 + v4)) ((i3 + 1))) fun k3 => (if x1 = 0 then (k3 0) else (k3 1))))
def f_X4_timesFound (σ : Sg) (a1 : Int32) : Option Int32 :=
  f_X4_timesFound_L4 (fun (v7 : Int32) => some v7) σ a1 fu 0 0
def f_X4_timesChosen_L4 (k : Int32 → Option Int32) (σ : Sg) (c1 : Int32) : Nat → Int32 → Int32 → Option Int32
  | 0, _, _ => none
  | n + 1, i2, i3 =>
  if (σ.1 30 11) ≤ i3 then (k i2) else (rI σ 38 60 i3 fun x1 => (jn (fun (v5 : Int32) => f_X4_timesChosen_L4 k σ c1 n ((i2 + v5)) ((i3 + 1))) fun k4 => (if x1 = c1 then (k4 1) else (k4 0))))
def f_X4_timesChosen (σ : Sg) (a1 : Int32) : Option Int32 :=
  f_X4_timesChosen_L4 (fun (v8 : Int32) => some v8) σ a1 fu 0 0
def f_X7_termOf (σ : Sg) (a1 : Int32) (a2 : Int32) : Option (Int32 × Sg) :=
  cP (f_X1_isTerm σ a1) fun x1 => (if x1 = 0 then (some ((-1000000001 : Int32), σ)) else (if a2 = 0 then (rI σ 6 8 a1 fun x4 => (some (x4, σ))) else (if a2 = 1 then (rI σ 7 8 a1 fun x8 => (some (x8, σ))) else (if a2 = 2 then (rI σ 8 8 a1 fun x12 => (some (x12, σ))) else (if a2 = 3 then (rI σ 9 8 a1 fun x16 => (some (x16, σ))) else (if a2 = 4 then (cA (f_X7_settled σ) fun x20 s22 => (cP (f_X4_timesFound s22 a1) fun x23 => (some (x23, s22)))) else (if a2 = 5 then (cA (f_X7_settled σ) fun x26 s28 => (cP (f_X4_timesChosen s28 a1) fun x29 => (some (x29, s28)))) else (some ((-1000000002 : Int32), σ)))))))))
def f_X8_isBegun_L27 (k : Int32 → Option Int32) (σ : Sg) (c1 : Int32) (c2 : Int32) : Nat → Int32 → Int32 → Option Int32
  | 0, _, _ => none
  | n + 1, i3, i4 =>
  rI σ 44 475 c2 fun x9 => (if x9 ≤ i4 then (k i3) else (if i3 = 0 then (k i3) else (rI σ 48 915 (((15 * c1) + 3) + i4) fun x12 => (rI σ 44 475 ((c2 + 1) + i4) fun x15 => (if x12 = x15 then (f_X8_isBegun_L27 k σ c1 c2 n (1) ((i4 + 1))) else (f_X8_isBegun_L27 k σ c1 c2 n (0) ((i4 + 1))))))))
def f_X8_isBegun (σ : Sg) (a1 : Int32) (a2 : Int32) : Option Int32 :=
  rI σ 48 915 (15 * a1) fun x1 => (rI σ 44 475 a2 fun x4 => (jn (fun (v8 : Int32) => f_X8_isBegun_L27 (fun (v21 : Int32) => mH (v21 = 0 ∨ v21 = 1) (some v21)) σ a1 a2 fu v8 0) fun k7 => (if x1 < x4 then (k7 0) else (k7 1))))
def f_X8_isAs_L30 (k : Int32 → Option Int32) (σ : Sg) (c1 : Int32) (c2 : Int32) (c3 : Int32) : Nat → Int32 → Int32 → Option Int32
  | 0, _, _ => none
  | n + 1, i4, i5 =>
  rI σ 44 475 c3 fun x9 => (if x9 ≤ i5 then (k i4) else (if i4 = 0 then (k i4) else (rI σ 48 915 ((((15 * c1) + 3) + c2) + i5) fun x12 => (rI σ 44 475 ((c3 + 1) + i5) fun x15 => (if x12 = x15 then (f_X8_isAs_L30 k σ c1 c2 c3 n (1) ((i5 + 1))) else (f_X8_isAs_L30 k σ c1 c2 c3 n (0) ((i5 + 1))))))))
def f_X8_isAs (σ : Sg) (a1 : Int32) (a2 : Int32) (a3 : Int32) : Option Int32 :=
  rI σ 48 915 (15 * a1) fun x1 => (rI σ 44 475 a3 fun x4 => (jn (fun (v8 : Int32) => f_X8_isAs_L30 (fun (v21 : Int32) => mH (v21 = 0 ∨ v21 = 1) (some v21)) σ a1 a2 a3 fu v8 0) fun k7 => (if (x1 - a2) = x4 then (k7 1) else (k7 0))))
def f_X8_meets_L63 (k : Int32 → Option Int32) (σ : Sg) (c1 : Int32) (c2 : Int32) (c4 : Int32) : Nat → Int32 → Int32 → Option Int32
  | 0, _, _ => none
  | n + 1, i5, i6 =>
  rI σ 44 475 1 fun x16 => (if x16 ≤ i6 then (k i5) else (cP (f_X8_termAt σ c2) fun x19 => (rI σ 44 475 (x19 + 2) fun x21 => (if x21 = 1 then (jn (fun (v25 : Int32) => f_X8_meets_L63 k σ c1 c2 c4 n (1) ((v25 + 1))) fun k24 => (if i5 = 0 then (rI σ 44 475 c4 fun x26 => (cP (f_X8_endingAt σ i6) fun x29 => (cP (f_X8_isAs σ c1 x26 x29) fun x31 => (if x31 = 0 then (f_X8_meets_L63 k σ c1 c2 c4 n (0) ((i6 + 1))) else (k24 i6))))) else (k24 i6))) else (k i5)))))
def f_X8_meets (σ : Sg) (a1 : Int32) (a2 : Int32) (a3 : Int32) : Option Int32 :=
  cP (f_X8_wordAt σ a2 a3) fun x1 => (rI σ 48 915 ((15 * a1) + 2) fun x3 => (if x3 = 1 then (some 0) else (cP (f_X8_isBegun σ a1 x1) fun x6 => (if x6 = 0 then (some 0) else (rI σ 48 915 (15 * a1) fun x8 => (rI σ 44 475 x1 fun x11 => (jn (fun (v15 : Int32) => f_X8_meets_L63 (fun (v37 : Int32) => mH (v37 = 0 ∨ v37 = 1) (some v37)) σ a1 a2 x1 fu v15 0) fun k14 => (if x8 = x11 then (k14 1) else (k14 0)))))))))
def f_X8_isMet_L24 (k : Int32 → Option Int32) (σ : Sg) (c1 : Int32) (c2 : Int32) (c3 : Int32) : Nat → Int32 → Int32 → Option Int32
  | 0, _, _ => none
  | n + 1, i4, i5 =>
  if c3 ≤ i5 then (k i4) else (if i4 = 0 then (k i4) else (rI σ 48 915 ((15 * (c2 + i5)) + 1) fun x2 => (rI σ 48 915 ((15 * c2) + 1) fun x5 => (jn (fun (v9 : Int32) => f_X8_isMet_L24 k σ c1 c2 c3 n (0) ((v9 + 1))) fun k8 => (if x2 = x5 then (cP (f_X8_meets σ (c2 + i5) c1 i5) fun x10 => (if x10 = 0 then (k8 i5) else (f_X8_isMet_L24 k σ c1 c2 c3 n (1) ((i5 + 1))))) else (k8 i5))))))
def f_X8_isMet (σ : Sg) (a1 : Int32) (a2 : Int32) (a3 : Int32) : Option Int32 :=
  jn (f_X8_isMet_L24 (fun (v16 : Int32) => mH (v16 = 0 ∨ v16 = 1) (some v16)) σ a1 a2 a3 fu 0 0) fun k1 => (if a2 < 0 then (k1) else (if (σ.1 43 6) < (a2 + a3) then (k1) else (f_X8_isMet_L24 (fun (v18 : Int32) => mH (v18 = 0 ∨ v18 = 1) (some v18)) σ a1 a2 a3 fu 1 0)))
def f_X8_isFound (σ : Sg) (a1 : Int32) (a2 : Int32) : Option Int32 :=
  cP (f_X8_termAt σ a1) fun x1 => (rI σ 44 475 (x1 + 0) fun x3 => (cP (f_X8_isMet σ a1 a2 x3) fun x6 => (mH (x6 = 0 ∨ x6 = 1) (some x6))))
def f_X8_worthOf (σ : Sg) (a1 : Int32) : Option Int32 :=
  cP (f_X8_termAt σ a1) fun x1 => (rI σ 44 475 (x1 + 1) fun x3 => (cP (f_X8_termAt σ a1) fun x6 => (rI σ 44 475 (x6 + 0) fun x8 => (some (x3 * x8)))))
def f_X8_choose_L74 (k : Sg → Option (Unit × Sg)) (c1 : Int32) (c2 : Int32) : Nat → Sg → Int32 → Option (Unit × Sg)
  | 0, _, _ => none
  | n + 1, s, i3 =>
  rI s 44 475 0 fun x22 => (if x22 ≤ i3 then (k s) else (cP (f_X8_termAt s i3) fun x25 => (rI s 44 475 (x25 + 0) fun x27 => (if x27 = c2 then (cP (f_X8_isFound s i3 c1) fun x30 => (if x30 = 0 then (f_X8_choose_L74 k c1 c2 n (s) ((i3 + 1))) else (cP (f_X8_worthOf s i3) fun x32 => (rI s 51 65 (c1 + c2) fun x34 => (rI s 52 65 (c1 + c2) fun x37 => (rI s 51 65 c1 fun x40 => (jn (fun (v44 : Int32) => if v44 = 0 then (f_X8_choose_L74 k c1 c2 n (s) ((i3 + 1))) else (wI s 51 65 c1 (x32 + x34) fun s45 => (wI s45 52 65 c1 (1 + x37) fun s48 => (wI s48 53 60 c1 i3 fun s51 => (f_X8_choose_L74 k c1 c2 n (s51) ((i3 + 1))))))) fun k43 => (if x40 < (x32 + x34) then (k43 1) else (rI s 51 65 c1 fun x55 => (if (x32 + x34) = x55 then (rI s 52 65 c1 fun x58 => (if (1 + x37) < x58 then (k43 1) else (rI s 52 65 c1 fun x61 => (if (1 + x37) = x61 then (rI s 53 60 c1 fun x64 => (if x64 = (-1) then (k43 1) else (k43 0))) else (k43 0))))) else (k43 0))))))))))) else (f_X8_choose_L74 k c1 c2 n (s) ((i3 + 1)))))))
def f_X8_choose_L68 (k : Sg → Option (Unit × Sg)) (c1 : Int32) : Nat → Sg → Int32 → Option (Unit × Sg)
  | 0, _, _ => none
  | n + 1, s, i2 =>
  if i2 ≤ 0 then (k s) else (f_X8_choose_L74 (fun (s75 : Sg) => f_X8_choose_L68 k c1 n (s75) ((i2 + (-1)))) c1 i2 fu s 0)
def f_X8_choose_L27 (k : Sg → Option (Unit × Sg)) : Nat → Sg → Int32 → Option (Unit × Sg)
  | 0, _, _ => none
  | n + 1, s, i1 =>
  if i1 < 0 then (k s) else (wI s 53 60 i1 (-1) fun s7 => (rI s7 51 65 (i1 + 1) fun x10 => (wI s7 51 65 i1 x10 fun s13 => (rI s13 52 65 (i1 + 1) fun x16 => (wI s13 52 65 i1 x16 fun s19 => (f_X8_choose_L68 (fun (s77 : Sg) => f_X8_choose_L27 k n (s77) ((i1 + (-1)))) i1 fu s19 4))))))
def f_X8_choose_L286 (k : Sg → Option (Unit × Sg)) (c1 : Int32) (c2 : Int32) : Nat → Sg → Int32 → Option (Unit × Sg)
  | 0, _, _ => none
  | n + 1, s, i3 =>
  if c2 ≤ i3 then (k s) else (wI s 53 60 (c1 + i3) (-1) fun s85 => (f_X8_choose_L286 k c1 c2 n (s85) ((i3 + 1))))
def f_X8_choose_L245 (k : Sg → Option (Unit × Sg)) : Nat → Sg → Int32 → Option (Unit × Sg)
  | 0, _, _ => none
  | n + 1, s, i1 =>
  if (s.1 43 6) ≤ i1 then (k s) else (rI s 53 60 i1 fun x80 => (jn (fun (v84 : Int32) => f_X8_choose_L286 (fun (s89 : Sg) => f_X8_choose_L245 k n (s89) ((i1 + v84))) i1 v84 fu s 1) fun k83 => (if x80 = (-1) then (k83 1) else (rI s 53 60 i1 fun x90 => (cP (f_X8_termAt s x90) fun x93 => (rI s 44 475 (x93 + 0) fun x95 => (k83 x95)))))))
def f_X8_choose (σ : Sg)  : Option (Unit × Sg) :=
  wI σ 51 65 (σ.1 43 6) 0 fun s1 => (wI s1 52 65 (s1.1 43 6) 0 fun s4 => (f_X8_choose_L27 (fun (s79 : Sg) => f_X8_choose_L245 (fun (s100 : Sg) => some ((), s100)) fu s79 0) fu s4 ((s4.1 43 6) - 1)))
def f_X8_termOf_L49 (k : Int32 → Option (Int32 × Sg)) (σ : Sg) (c1 : Int32) (c2 : Int32) : Nat → Int32 → Int32 → Option (Int32 × Sg)
  | 0, _, _ => none
  | n + 1, i3, i4 =>
  if (σ.1 43 6) ≤ i4 then (k i3) else (jn (fun (v9 : Int32) => f_X8_termOf_L49 k σ c1 c2 n ((i3 + v9)) ((i4 + 1))) fun k8 => (if c2 = 4 then (cP (f_X8_isFound σ c1 i4) fun x14 => (if x14 = 0 then (k8 0) else (k8 1))) else (rI σ 53 60 i4 fun x10 => (if x10 = c1 then (k8 1) else (k8 0)))))
def f_X8_termOf (σ : Sg) (a1 : Int32) (a2 : Int32) : Option (Int32 × Sg) :=
  cP (f_X8_isTerm σ a1) fun x1 => (if x1 = 0 then (some ((-1000000001 : Int32), σ)) else (cP (f_X8_in σ a2 0 5) fun x3 => (if x3 = 0 then (some ((-1000000002 : Int32), σ)) else (if 4 ≤ a2 then (cA (f_X8_choose σ) fun x5 s7 => (f_X8_termOf_L49 (fun (v19 : Int32) => some (v19, s7)) s7 a1 a2 fu 0 0)) else (cP (f_X8_termAt σ a1) fun x20 => (rI σ 44 475 (x20 + a2) fun x22 => (some (x22, σ))))))))
def f_X0_at (σ : Sg) (a1 : Int64) (a2 : Int32) : Option Int32 :=
  if a2 < 0 then (some (-1)) else (if a2 < 12 then (if ((Int64.toInt32 ((Int64.toUInt64 a1 >>> ((Int32.toInt64 (5 * a2)).toUInt64 &&& Int64.toUInt64 63)).toInt64)) &&& 31) = 0 then (some (-1)) else (some (((Int64.toInt32 ((Int64.toUInt64 a1 >>> ((Int32.toInt64 (5 * a2)).toUInt64 &&& Int64.toUInt64 63)).toInt64)) &&& 31) + 96))) else (some (-1)))
def f_X7_letter (σ : Sg) (a1 : Int32) (a2 : Int32) (a3 : Int32) : Option Int32 :=
  jn (fun (v2 : Int32) => if v2 = 0 then (some (-1000000001 : Int32)) else (if 0 ≤ a3 then (if a2 = (-1) then (rL σ 10 5 a1 fun x12 => (cP (f_X0_at σ x12 a3) fun x15 => (some x15))) else (if a2 < 0 then (some (-1000000002 : Int32)) else (rI σ 6 8 a1 fun x3 => (if a2 < x3 then (cP (f_X1_wordOf σ a1 a2) fun x6 => (cP (f_X0_at σ x6 a3) fun x8 => (some x8))) else (some (-1000000002 : Int32)))))) else (some (-1000000002 : Int32)))) fun k1 => (if a2 = (-1) then (cP (f_X1_isEnding σ a1) fun x22 => (k1 x22)) else (cP (f_X1_isTerm σ a1) fun x20 => (k1 x20)))
def f_X8_letter (σ : Sg) (a1 : Int32) (a2 : Int32) (a3 : Int32) : Option Int32 :=
  jn (if a3 < 0 then (some (-1000000002 : Int32)) else (if a2 < (-1) then (some (-1000000002 : Int32)) else (jn (jn (fun (v4 : Int32) => rI σ 44 475 v4 fun x5 => (if x5 ≤ a3 then (some (-1)) else (rI σ 44 475 ((v4 + 1) + a3) fun x8 => (some x8)))) fun k3 => (if a2 = (-1) then (cP (f_X8_endingAt σ a1) fun x14 => (k3 x14)) else (cP (f_X8_wordAt σ a1 a2) fun x12 => (k3 x12)))) fun k2 => (if a2 = (-1) then (k2) else (cP (f_X8_termAt σ a1) fun x17 => (rI σ 44 475 (x17 + 0) fun x19 => (if a2 < x19 then (k2) else (some (-1000000002 : Int32))))))))) fun k1 => (if a2 = (-1) then (cP (f_X8_isEnding σ a1) fun x29 => (if x29 = 0 then (some (-1000000001 : Int32)) else (k1))) else (cP (f_X8_isTerm σ a1) fun x26 => (if x26 = 0 then (some (-1000000001 : Int32)) else (k1))))
def f_X6_endWord (σ : Sg)  : Option (Unit × Sg) :=
  if (lg_cmp (σ.2 26 5) 0) = 0 then (some ((), σ)) else (if (σ.1 26 0) < 60 then (wL σ 27 60 (σ.1 26 0) (σ.2 26 5) fun s1 => (wI s1 28 60 (s1.1 26 0) (vp_nar .boolean (s1.1 26 6)) fun s4 => (wI s4 29 60 (s4.1 26 0) (s4.1 26 4) fun s7 => (pI s7 26 0 ((s7.1 26 0) + 1) fun s10 => (pL s10 26 5 0 fun s12 => (pI s12 26 6 0 fun s14 => (some ((), s14)))))))) else (some ((), σ)))
def f_X6_endSentence (σ : Sg)  : Option (Unit × Sg) :=
  if (σ.1 26 0) ≤ 0 then (some ((), σ)) else (rI σ 29 60 ((σ.1 26 0) - 1) fun x1 => (if x1 = (σ.1 26 4) then (pI σ 26 4 ((σ.1 26 4) + 1) fun s4 => (some ((), s4))) else (some ((), σ))))
def f_X6_addLetter (σ : Sg) (a1 : Int32) : Option (Unit × Sg) :=
  cP (f_X0_sizeOf σ (σ.2 26 5)) fun x1 => (if 12 ≤ x1 then (pI σ 26 6 1 fun s3 => (some ((), s3))) else (cP (f_X0_with σ (σ.2 26 5) x1 a1) fun x5 => (pL σ 26 5 x5 fun s7 => (some ((), s7)))))
def f_X6_take (σ : Sg) (a1 : Int32) : Option (Unit × Sg) :=
  cP (f_X0_isLetter σ a1) fun x1 => (if x1 = 0 then (cA (f_X6_endWord σ) fun x3 s5 => (if a1 = 46 then (cA (f_X6_endSentence s5) fun x6 s8 => (some ((), s8))) else (some ((), s5)))) else (cA (f_X6_addLetter σ a1) fun x10 s12 => (some ((), s12))))
def f_X4_unsettle (σ : Sg)  : Option (Unit × Sg) :=
  pI σ 30 3 0 fun s1 => (some ((), s1))
def f_X7_textChanged (σ : Sg)  : Option (Unit × Sg) :=
  cA (f_X4_unsettle σ) fun x1 s3 => (cA (f_X3_forget s3) fun x4 s6 => (some ((), s6)))
def f_X6_hasRoom (σ : Sg)  : Option Int32 :=
  if 60 ≤ (σ.1 26 0) then (some 0) else (some 1)
def f_X7_read (σ : Sg) (a1 : Int32) : Option (Int32 × Sg) :=
  if a1 < 0 then (some ((-1000000002 : Int32), σ)) else (if a1 ≤ 255 then (cP (f_X0_isLetter σ a1) fun x1 => (jn (cA (f_X6_take σ a1) fun x4 s6 => (cA (f_X7_textChanged s6) fun x7 s9 => (some ((s9.1 26 0), s9)))) fun k3 => (if x1 = 0 then (k3) else (cP (f_X6_hasRoom σ) fun x10 => (if x10 = 0 then (some ((-1000000004 : Int32), σ)) else (k3)))))) else (some ((-1000000002 : Int32), σ)))
def f_X8_clears_L2 (k : Sg → Option (Unit × Sg)) (c1 : Int32) : Nat → Sg → Int32 → Option (Unit × Sg)
  | 0, _, _ => none
  | n + 1, s, i2 =>
  if 15 ≤ i2 then (k s) else (wI s 48 915 ((15 * c1) + i2) 0 fun s1 => (f_X8_clears_L2 k c1 n (s1) ((i2 + 1))))
def f_X8_clears (σ : Sg) (a1 : Int32) : Option (Unit × Sg) :=
  f_X8_clears_L2 (fun (s5 : Sg) => some ((), s5)) a1 fu σ 0
def f_X8_ends (σ : Sg)  : Option (Unit × Sg) :=
  if 60 ≤ (σ.1 43 6) then (some ((), σ)) else (rI σ 48 915 (15 * (σ.1 43 6)) fun x1 => (if x1 ≤ 0 then (some ((), σ)) else (wI σ 48 915 ((15 * (σ.1 43 6)) + 1) (σ.1 43 7) fun s4 => (pI s4 43 6 ((s4.1 43 6) + 1) fun s7 => (cA (f_X8_clears s7 (s7.1 43 6)) fun x9 s11 => (some ((), s11)))))))
def f_X8_hasWord (σ : Sg)  : Option Int32 :=
  if (σ.1 43 6) ≤ 0 then (some 0) else (rI σ 48 915 ((15 * ((σ.1 43 6) - 1)) + 1) fun x1 => (if x1 = (σ.1 43 7) then (some 1) else (some 0)))
def f_X8_comes (σ : Sg) (a1 : Int32) : Option (Unit × Sg) :=
  cP (f_X8_isLetter σ a1) fun x1 => (if x1 = 0 then (cA (f_X8_ends σ) fun x3 s5 => (jn (fun (v7 : Int32) => pI s5 43 7 ((s5.1 43 7) + v7) fun s8 => (some ((), s8))) fun k6 => (if a1 = 46 then (cP (f_X8_hasWord s5) fun x10 => (if x10 = 0 then (k6 0) else (k6 1))) else (k6 0)))) else (rI σ 48 915 (15 * (σ.1 43 6)) fun x14 => (if x14 = 12 then (wI σ 48 915 ((15 * (σ.1 43 6)) + 2) 1 fun s29 => (some ((), s29))) else (rI σ 48 915 (15 * (σ.1 43 6)) fun x17 => (wI σ 48 915 (((15 * (σ.1 43 6)) + 3) + x17) a1 fun s20 => (rI s20 48 915 (15 * (σ.1 43 6)) fun x23 => (wI s20 48 915 (15 * (σ.1 43 6)) (x23 + 1) fun s26 => (some ((), s26)))))))))
def f_X8_read (σ : Sg) (a1 : Int32) : Option (Int32 × Sg) :=
  cP (f_X8_in σ a1 0 255) fun x1 => (if x1 = 0 then (some ((-1000000002 : Int32), σ)) else (cP (f_X8_isLetter σ a1) fun x3 => (jn (cA (f_X8_comes σ a1) fun x6 s8 => (some ((s8.1 43 6), s8))) fun k5 => (if x3 = 0 then (k5) else (if (σ.1 43 6) = 60 then (some ((-1000000004 : Int32), σ)) else (k5))))))
def f_X6_clear (σ : Sg)  : Option (Unit × Sg) :=
  pI σ 26 0 0 fun s1 => (pI s1 26 4 0 fun s3 => (pL s3 26 5 0 fun s5 => (pI s5 26 6 0 fun s7 => (some ((), s7)))))
def f_X7_wipe (σ : Sg)  : Option (Int32 × Sg) :=
  cA (f_X6_clear σ) fun x1 s3 => (cA (f_X4_forget s3) fun x4 s6 => (cA (f_X7_textChanged s6) fun x7 s9 => (some ((σ.1 26 0), s9))))
def f_X8_wipe (σ : Sg)  : Option (Int32 × Sg) :=
  pI σ 43 6 0 fun s1 => (pI s1 43 7 0 fun s3 => (cA (f_X8_clears s3 0) fun x5 s7 => (some ((σ.1 43 6), s7))))
def f_X2_start (σ : Sg) (a1 : Int32) : Option (Unit × Sg) :=
  pL σ 42 0 (Int32.toInt64 a1) fun s1 => (some ((), s1))
def f_X2_below (σ : Sg) (a1 : Int32) : Option (Int32 × Sg) :=
  pL σ 42 0 (((σ.2 42 0) * (16807 : Int64)) - ((σ.2 42 0) * (16807 : Int64)) / (2147483647 : Int64) * (2147483647 : Int64)) fun s1 => (if a1 ≤ 0 then (some (0, s1)) else (mH (¬ (Int32.toInt64 a1) = 0) (some ((Int64.toInt32 ((s1.2 42 0) - (s1.2 42 0) / (Int32.toInt64 a1) * (Int32.toInt64 a1))), s1))))
def f_X6_takeLetters_L8 (k : Sg → Option (Unit × Sg)) (c1 : Int64) (c3 : Int32) : Nat → Sg → Int32 → Option (Unit × Sg)
  | 0, _, _ => none
  | n + 1, s, i4 =>
  if c3 ≤ i4 then (k s) else (cP (f_X0_at s c1 i4) fun x3 => (cA (f_X6_addLetter s x3) fun x5 s7 => (f_X6_takeLetters_L8 k c1 c3 n (s7) ((i4 + 1)))))
def f_X6_takeLetters (σ : Sg) (a1 : Int64) : Option (Unit × Sg) :=
  cP (f_X0_sizeOf σ a1) fun x1 => (f_X6_takeLetters_L8 (fun (s9 : Sg) => some ((), s9)) a1 x1 fu σ 0)
def f_X7_takeLot (σ : Sg)  : Option (Int32 × Sg) :=
  cA (f_X2_below σ 8) fun x1 s3 => (if x1 = 0 then (cA (f_X6_take s3 46) fun x41 s43 => (some (1, s43))) else (if (s3.1 4 0) = 0 then (some (1, s3)) else (cP (f_X6_hasRoom s3) fun x4 => (if x4 = 0 then (some (0, s3)) else (cA (f_X2_below s3 (s3.1 4 0)) fun x6 s8 => (rI s8 6 8 x6 fun x9 => (cA (f_X2_below s8 x9) fun x12 s14 => (cP (f_X1_wordOf s14 x6 x12) fun x15 => (cA (f_X6_takeLetters s14 x15) fun x17 s19 => (cA (f_X2_below s19 3) fun x20 s22 => (jn (fun (s24 : Sg) => cA (f_X6_take s24 32) fun x25 s27 => (some (1, s27))) fun k23 => (if x20 = 0 then (if (s22.1 4 6) ≤ 0 then (k23 s22) else (cA (f_X2_below s22 (s22.1 4 6)) fun x28 s30 => (rL s30 10 5 x28 fun x31 => (cA (f_X6_takeLetters s30 x31) fun x34 s36 => (k23 s36))))) else (k23 s22)))))))))))))
def f_X7_drift_L38 (k : Sg → Option (Int32 × Sg)) (c1 : Int32) : Nat → Sg → Int32 → Int32 → Option (Int32 × Sg)
  | 0, _, _, _ => none
  | n + 1, s, i3, i4 =>
  if c1 ≤ i4 then (k s) else (if i3 = 0 then (k s) else (cA (f_X7_takeLot s) fun x4 s6 => (f_X7_drift_L38 k c1 n (s6) (x4) ((i4 + 1)))))
def f_X7_drift (σ : Sg) (a1 : Int32) (a2 : Int32) : Option (Int32 × Sg) :=
  if a1 < 1 then (some ((-1000000002 : Int32), σ)) else (if 30 < a1 then (some ((-1000000002 : Int32), σ)) else (if a2 < 1 then (some ((-1000000002 : Int32), σ)) else (if a2 ≤ (999999 : Int32) then (cA (f_X2_start σ a2) fun x1 s3 => (f_X7_drift_L38 (fun (s9 : Sg) => cA (f_X7_textChanged s9) fun x10 s12 => (some ((s12.1 26 0), s12))) a1 fu s3 1 0)) else (some ((-1000000002 : Int32), σ)))))
def f_X8_next (σ : Sg) (a1 : Int64) : Option Int64 :=
  some ((a1 * (16807 : Int64)) - (a1 * (16807 : Int64)) / (2147483647 : Int64) * (2147483647 : Int64))
def f_X8_comesAll_L2 (k : Sg → Option (Unit × Sg)) (c1 : Int32) : Nat → Sg → Int32 → Option (Unit × Sg)
  | 0, _, _ => none
  | n + 1, s, i2 =>
  rI s 44 475 c1 fun x1 => (if x1 ≤ i2 then (k s) else (rI s 44 475 ((c1 + 1) + i2) fun x4 => (cA (f_X8_comes s x4) fun x7 s9 => (f_X8_comesAll_L2 k c1 n (s9) ((i2 + 1))))))
def f_X8_comesAll (σ : Sg) (a1 : Int32) : Option (Unit × Sg) :=
  f_X8_comesAll_L2 (fun (s11 : Sg) => some ((), s11)) a1 fu σ 0
def f_X8_drift_L32 (k : Sg → Option (Int32 × Sg)) (c1 : Int32) : Nat → Sg → Int64 → Int32 → Int32 → Option (Int32 × Sg)
  | 0, _, _, _, _ => none
  | n + 1, s, i3, i5, i6 =>
  if c1 ≤ i6 then (k s) else (if i5 = 0 then (k s) else (cP (f_X8_next s i3) fun x5 => (if (lg_cmp (x5 - x5 / (8 : Int64) * (8 : Int64)) 0) = 0 then (cA (f_X8_comes s 46) fun x62 s64 => (f_X8_drift_L32 k c1 n (s64) (x5) (i5) ((i6 + 1)))) else (rI s 44 475 0 fun x7 => (jn (fun (v11 : Int32) (v12 : Int32) => rI s 44 475 0 fun x13 => (if x13 ≤ 0 then (f_X8_drift_L32 k c1 n (s) (x5) (v11) ((v12 + 1))) else (cP (f_X8_next s x5) fun x16 => (rI s 44 475 0 fun x18 => (mH (¬ (Int32.toInt64 x18) = 0) (cP (f_X8_next s x16) fun x22 => (cP (f_X8_termAt s (Int64.toInt32 (x16 - x16 / (Int32.toInt64 x18) * (Int32.toInt64 x18)))) fun x24 => (rI s 44 475 (x24 + 0) fun x26 => (mH (¬ (Int32.toInt64 x26) = 0) (cP (f_X8_wordAt s (Int64.toInt32 (x16 - x16 / (Int32.toInt64 x18) * (Int32.toInt64 x18))) (Int64.toInt32 (x22 - x22 / (Int32.toInt64 x26) * (Int32.toInt64 x26)))) fun x30 => (cA (f_X8_comesAll s x30) fun x32 s34 => (cP (f_X8_next s34 x22) fun x35 => (jn (fun (s38 : Sg) (v39 : Int64) => cA (f_X8_comes s38 32) fun x40 s42 => (f_X8_drift_L32 k c1 n (s42) (v39) (v11) ((v12 + 1)))) fun k37 => (if (lg_cmp (x35 - x35 / (3 : Int64) * (3 : Int64)) 0) = 0 then (rI s34 44 475 1 fun x43 => (if x43 ≤ 0 then (k37 s34 x35) else (cP (f_X8_next s34 x35) fun x46 => (rI s34 44 475 1 fun x48 => (mH (¬ (Int32.toInt64 x48) = 0) (cP (f_X8_endingAt s34 (Int64.toInt32 (x46 - x46 / (Int32.toInt64 x48) * (Int32.toInt64 x48)))) fun x52 => (cA (f_X8_comesAll s34 x52) fun x54 s56 => (k37 s56 x46)))))))) else (k37 s34 x35))))))))))))))) fun k10 => (if x7 ≤ 0 then (k10 i5 i6) else (if (s.1 43 6) = 60 then (f_X8_drift_L32 k c1 n (s) (x5) (0) ((i6 + 1))) else (k10 i5 i6))))))))
def f_X8_drift (σ : Sg) (a1 : Int32) (a2 : Int32) : Option (Int32 × Sg) :=
  cP (f_X8_in σ a1 1 30) fun x1 => (if x1 = 0 then (some ((-1000000002 : Int32), σ)) else (cP (f_X8_in σ a2 1 (999999 : Int32)) fun x3 => (if x3 = 0 then (some ((-1000000002 : Int32), σ)) else (f_X8_drift_L32 (fun (s68 : Sg) => some ((s68.1 43 6), s68)) a1 fu σ (Int32.toInt64 a2) 1 0))))
def f_X6_isWord (σ : Sg) (a1 : Int32) : Option Int32 :=
  if a1 < 0 then (some 0) else (if (σ.1 26 0) ≤ a1 then (some 0) else (some 1))
def f_X4_reach_L8 (k : Option Int32) (σ : Sg) (c1 : Int32) (c2 : Int32) : Nat → Int32 → Option Int32
  | 0, _ => none
  | n + 1, i3 =>
  if (σ.1 4 0) ≤ i3 then (k) else (cP (f_X4_hasBegun σ c1 i3 c2) fun x1 => (if x1 = 0 then (f_X4_reach_L8 k σ c1 c2 n ((i3 + 1))) else (some c2)))
def f_X4_reach_L2 (k : Option Int32) (σ : Sg) (c1 : Int32) : Nat → Int32 → Option Int32
  | 0, _ => none
  | n + 1, i2 =>
  if i2 ≤ 0 then (k) else (f_X4_reach_L8 (f_X4_reach_L2 k σ c1 n ((i2 + (-1)))) σ c1 i2 fu 0)
def f_X4_reach (σ : Sg) (a1 : Int32) : Option Int32 :=
  f_X4_reach_L2 (some 0) σ a1 fu 4
def f_X4_termsOver_L18 (k : Int32 → Option Int32) (σ : Sg) (c1 : Int32) (c3 : Int32) : Nat → Int32 → Int32 → Option Int32
  | 0, _, _ => none
  | n + 1, i2, i4 =>
  rI σ 6 8 c3 fun x1 => (if x1 ≤ i4 then (k i2) else (if c1 < i4 then (k i2) else (cP (f_X4_isFound σ (c1 - i4) c3) fun x4 => (if x4 = 0 then (f_X4_termsOver_L18 k σ c1 c3 n (i2) ((i4 + 1))) else (f_X4_termsOver_L18 k σ c1 c3 n ((i2 ||| (1 <<< (c3 &&& 31)))) ((i4 + 1)))))))
def f_X4_termsOver_L4 (k : Int32 → Option Int32) (σ : Sg) (c1 : Int32) : Nat → Int32 → Int32 → Option Int32
  | 0, _, _ => none
  | n + 1, i2, i3 =>
  if (σ.1 4 0) ≤ i3 then (k i2) else (f_X4_termsOver_L18 (fun (v9 : Int32) => f_X4_termsOver_L4 k σ c1 n (v9) ((i3 + 1))) σ c1 i3 fu i2 0)
def f_X4_termsOver (σ : Sg) (a1 : Int32) : Option Int32 :=
  f_X4_termsOver_L4 (fun (v11 : Int32) => some v11) σ a1 fu 0 0
def f_X7_word (σ : Sg) (a1 : Int32) (a2 : Int32) : Option (Int32 × Sg) :=
  cP (f_X6_isWord σ a1) fun x1 => (if x1 = 0 then (some ((-1000000001 : Int32), σ)) else (if a2 = 0 then (rL σ 27 60 a1 fun x4 => (cP (f_X0_sizeOf σ x4) fun x7 => (some (x7, σ)))) else (if a2 = 1 then (rI σ 29 60 a1 fun x10 => (some (x10, σ))) else (if a2 = 2 then (rI σ 28 60 a1 fun x14 => (if x14 = 0 then (some (0, σ)) else (some (1, σ)))) else (if a2 = 3 then (cA (f_X7_settled σ) fun x19 s21 => (cP (f_X4_reach s21 a1) fun x22 => (some (x22, s21)))) else (if a2 = 4 then (cA (f_X7_settled σ) fun x25 s27 => (cP (f_X4_termsOver s27 a1) fun x28 => (some (x28, s27)))) else (if a2 = 5 then (cA (f_X7_settled σ) fun x31 s33 => (rI s33 39 60 a1 fun x34 => (some (x34, s33)))) else (some ((-1000000002 : Int32), σ)))))))))
def f_X8_isWord (σ : Sg) (a1 : Int32) : Option Int32 :=
  cP (f_X8_in σ a1 0 ((σ.1 43 6) - 1)) fun x1 => (mH (x1 = 0 ∨ x1 = 1) (some x1))
def f_X8_reach_L17 (k : Int32 → Option Int32) (σ : Sg) (c1 : Int32) (c3 : Int32) : Nat → Int32 → Int32 → Option Int32
  | 0, _, _ => none
  | n + 1, i2, i4 =>
  cP (f_X8_termAt σ c3) fun x4 => (rI σ 44 475 (x4 + 0) fun x6 => (if x6 < i4 then (k i2) else (jn (fun (v10 : Int32) (v11 : Int32) => f_X8_reach_L17 k σ c1 c3 n (v10) ((v11 + 1))) fun k9 => (if i4 ≤ i2 then (k9 i2 i4) else (cP (f_X8_isMet σ c3 ((c1 - i4) + 1) i4) fun x12 => (if x12 = 0 then (k9 i2 i4) else (f_X8_reach_L17 k σ c1 c3 n (i4) ((i4 + 1)))))))))
def f_X8_reach_L4 (k : Int32 → Option Int32) (σ : Sg) (c1 : Int32) : Nat → Int32 → Int32 → Option Int32
  | 0, _, _ => none
  | n + 1, i2, i3 =>
  rI σ 44 475 0 fun x1 => (if x1 ≤ i3 then (k i2) else (f_X8_reach_L17 (fun (v17 : Int32) => f_X8_reach_L4 k σ c1 n (v17) ((i3 + 1))) σ c1 i3 fu i2 1))
def f_X8_reach (σ : Sg) (a1 : Int32) : Option Int32 :=
  f_X8_reach_L4 (fun (v19 : Int32) => some v19) σ a1 fu 0 0
def f_X8_foundOver_L17 (k : Int32 → Option Int32) (σ : Sg) (c1 : Int32) (c3 : Int32) : Nat → Int32 → Int32 → Option Int32
  | 0, _, _ => none
  | n + 1, i2, i4 =>
  cP (f_X8_termAt σ c3) fun x4 => (rI σ 44 475 (x4 + 0) fun x6 => (if x6 ≤ i4 then (k i2) else (cP (f_X8_isFound σ c3 (c1 - i4)) fun x9 => (jn (fun (v12 : Int32) => f_X8_foundOver_L17 k σ c1 c3 n ((i2 ||| v12)) ((i4 + 1))) fun k11 => (if x9 = 0 then (k11 0) else (k11 (1 <<< (c3 &&& 31))))))))
def f_X8_foundOver_L4 (k : Int32 → Option Int32) (σ : Sg) (c1 : Int32) : Nat → Int32 → Int32 → Option Int32
  | 0, _, _ => none
  | n + 1, i2, i3 =>
  rI σ 44 475 0 fun x1 => (if x1 ≤ i3 then (k i2) else (f_X8_foundOver_L17 (fun (v15 : Int32) => f_X8_foundOver_L4 k σ c1 n (v15) ((i3 + 1))) σ c1 i3 fu i2 0))
def f_X8_foundOver (σ : Sg) (a1 : Int32) : Option Int32 :=
  f_X8_foundOver_L4 (fun (v17 : Int32) => some v17) σ a1 fu 0 0
def f_X8_chosenOver_L8 (k : Option (Int32 × Sg)) (σ : Sg) (c1 : Int32) : Nat → Int32 → Int32 → Option (Int32 × Sg)
  | 0, _, _ => none
  | n + 1, i2, i3 =>
  if c1 < i3 then (k) else (rI σ 53 60 i3 fun x4 => (if x4 = (-1) then (f_X8_chosenOver_L8 k σ c1 n (i2) ((i3 + 1))) else (rI σ 53 60 i3 fun x7 => (cP (f_X8_termAt σ x7) fun x10 => (rI σ 44 475 (x10 + 0) fun x12 => (if (i3 + x12) ≤ c1 then (f_X8_chosenOver_L8 k σ c1 n ((i2 + 1)) ((i3 + 1))) else (some (i2, σ))))))))
def f_X8_chosenOver (σ : Sg) (a1 : Int32) : Option (Int32 × Sg) :=
  cA (f_X8_choose σ) fun x1 s3 => (f_X8_chosenOver_L8 (some ((-1), s3)) s3 a1 fu 0 0)
def f_X8_word (σ : Sg) (a1 : Int32) (a2 : Int32) : Option (Int32 × Sg) :=
  cP (f_X8_isWord σ a1) fun x1 => (if x1 = 0 then (some ((-1000000001 : Int32), σ)) else (if a2 = 0 then (rI σ 48 915 ((15 * a1) + a2) fun x4 => (some (x4, σ))) else (if a2 = 1 then (rI σ 48 915 ((15 * a1) + a2) fun x8 => (some (x8, σ))) else (if a2 = 2 then (rI σ 48 915 ((15 * a1) + a2) fun x12 => (some (x12, σ))) else (if a2 = 3 then (cP (f_X8_reach σ a1) fun x16 => (some (x16, σ))) else (if a2 = 4 then (cP (f_X8_foundOver σ a1) fun x19 => (some (x19, σ))) else (if a2 = 5 then (cA (f_X8_chosenOver σ a1) fun x22 s24 => (some (x22, s24))) else (some ((-1000000002 : Int32), σ)))))))))
def f_X4_foundCount_L4 (k : Int32 → Option Int32) (σ : Sg) : Nat → Int32 → Int32 → Option Int32
  | 0, _, _ => none
  | n + 1, i1, i2 =>
  if (σ.1 26 0) ≤ i2 then (k i1) else (rI σ 33 60 i2 fun x1 => (cP (f_J6_bitCount_0f7a4 σ x1) fun x4 => (f_X4_foundCount_L4 k σ n ((i1 + x4)) ((i2 + 1)))))
def f_X4_foundCount (σ : Sg)  : Option Int32 :=
  f_X4_foundCount_L4 (fun (v7 : Int32) => some v7) σ fu 0 0
def f_X4_wordsChosen_L4 (k : Int32 → Option Int32) (σ : Sg) : Nat → Int32 → Int32 → Option Int32
  | 0, _, _ => none
  | n + 1, i1, i2 =>
  if (σ.1 30 11) ≤ i2 then (k i1) else (rI σ 38 60 i2 fun x1 => (rI σ 6 8 x1 fun x4 => (f_X4_wordsChosen_L4 k σ n ((i1 + x4)) ((i2 + 1)))))
def f_X4_wordsChosen (σ : Sg)  : Option Int32 :=
  f_X4_wordsChosen_L4 (fun (v8 : Int32) => some v8) σ fu 0 0
def f_X4_insteadCount_L4 (k : Int32 → Option Int32) (σ : Sg) : Nat → Int32 → Int32 → Option Int32
  | 0, _, _ => none
  | n + 1, i1, i2 =>
  if (σ.1 30 11) ≤ i2 then (k i1) else (rI σ 38 60 i2 fun x1 => (cP (f_X1_isForbidden σ x1) fun x4 => (jn (fun (v7 : Int32) => f_X4_insteadCount_L4 k σ n ((i1 + v7)) ((i2 + 1))) fun k6 => (if x4 = 0 then (k6 0) else (k6 1)))))
def f_X4_insteadCount (σ : Sg)  : Option Int32 :=
  f_X4_insteadCount_L4 (fun (v10 : Int32) => some v10) σ fu 0 0
def f_X4_insteadOver (σ : Sg) (a1 : Int32) : Option Int32 :=
  rI σ 39 60 a1 fun x1 => (if x1 = (-1) then (some (-1)) else (rI σ 38 60 x1 fun x4 => (rI σ 9 8 x4 fun x7 => (some x7))))
def f_X6_endsSentence (σ : Sg) (a1 : Int32) : Option Int32 :=
  jn (if (1 : Int32) = 0 then (some 0) else (rI σ 29 60 a1 fun x2 => (if (σ.1 26 4) ≤ x2 then (some 0) else (some 1)))) fun k1 => (if (a1 + 1) = (σ.1 26 0) then (k1) else (rI σ 29 60 (a1 + 1) fun x7 => (rI σ 29 60 a1 fun x10 => (if x7 = x10 then (if (0 : Int32) = 0 then (some 0) else (rI σ 29 60 a1 fun x13 => (if (σ.1 26 4) ≤ x13 then (some 0) else (some 1)))) else (k1)))))
def f_X3_addSign (σ : Sg) (a1 : Int32) : Option (Unit × Sg) :=
  if 3120 ≤ (σ.1 40 4) then (some ((), σ)) else (wI σ 41 3120 (σ.1 40 4) (vp_nar .char ((Int32.toUInt32 a1 % 65536).toInt32)) fun s1 => (pI s1 40 4 ((s1.1 40 4) + 1) fun s4 => (some ((), s4))))
def f_X3_addWord_L21 (k : Sg → Option (Unit × Sg)) (c1 : Int64) (c3 : Int32) : Nat → Sg → Int32 → Option (Unit × Sg)
  | 0, _, _ => none
  | n + 1, s, i4 =>
  if c3 ≤ i4 then (k s) else (cP (f_X0_at s c1 i4) fun x5 => (cA (f_X3_addSign s x5) fun x7 s9 => (f_X3_addWord_L21 k c1 c3 n (s9) ((i4 + 1)))))
def f_X3_addWord (σ : Sg) (a1 : Int64) : Option (Unit × Sg) :=
  jn (fun (s2 : Sg) => cP (f_X0_sizeOf s2 a1) fun x3 => (f_X3_addWord_L21 (fun (s11 : Sg) => some ((), s11)) a1 x3 fu s2 0)) fun k1 => (if (σ.1 40 4) ≤ 0 then (k1 σ) else (cA (f_X3_addSign σ 32) fun x12 s14 => (k1 s14)))
def f_X3_addWordsOf_L2 (k : Sg → Option (Unit × Sg)) (c1 : Int32) : Nat → Sg → Int32 → Option (Unit × Sg)
  | 0, _, _ => none
  | n + 1, s, i2 =>
  rI s 6 8 c1 fun x1 => (if x1 ≤ i2 then (k s) else (cP (f_X1_wordOf s c1 i2) fun x4 => (cA (f_X3_addWord s x4) fun x6 s8 => (f_X3_addWordsOf_L2 k c1 n (s8) ((i2 + 1))))))
def f_X3_addWordsOf (σ : Sg) (a1 : Int32) : Option (Unit × Sg) :=
  f_X3_addWordsOf_L2 (fun (s10 : Sg) => some ((), s10)) a1 fu σ 0
def f_X3_write_L15 (k : Sg → Option (Unit × Sg)) : Nat → Sg → Int32 → Option (Unit × Sg)
  | 0, _, _ => none
  | n + 1, s, i1 =>
  if (s.1 26 0) ≤ i1 then (k s) else (cP (f_X4_insteadOver s i1) fun x3 => (jn (fun (s6 : Sg) => cP (f_X6_endsSentence s6 i1) fun x7 => (if x7 = 0 then (f_X3_write_L15 k n (s6) ((i1 + 1))) else (cA (f_X3_addSign s6 46) fun x9 s11 => (f_X3_write_L15 k n (s11) ((i1 + 1)))))) fun k5 => (if x3 = (-1) then (rL s 27 60 i1 fun x23 => (cA (f_X3_addWord s x23) fun x26 s28 => (k5 s28))) else (rI s 39 60 i1 fun x13 => (rI s 37 60 x13 fun x16 => (if x16 = i1 then (cA (f_X3_addWordsOf s x3) fun x19 s21 => (k5 s21)) else (k5 s)))))))
def f_X3_write (σ : Sg)  : Option (Unit × Sg) :=
  if (σ.1 40 5) = 0 then (pI σ 40 4 0 fun s1 => (f_X3_write_L15 (fun (s31 : Sg) => pI s31 40 5 1 fun s32 => (some ((), s32))) fu s1 0)) else (some ((), σ))
def f_X7_written (σ : Sg)  : Option (Unit × Sg) :=
  cA (f_X4_settle σ) fun x1 s3 => (cA (f_X3_write s3) fun x4 s6 => (some ((), s6)))
def f_X7_told (σ : Sg) (a1 : Int32) : Option (Int32 × Sg) :=
  if a1 = 0 then (some ((σ.1 4 0), σ)) else (if a1 = 1 then (some ((σ.1 4 6), σ)) else (if a1 = 2 then (some ((σ.1 1 1), σ)) else (if a1 = 3 then (some ((σ.1 26 0), σ)) else (if a1 = 4 then (some ((σ.1 26 4), σ)) else (if a1 = 5 then (cP (f_X0_sizeOf σ (σ.2 26 5)) fun x7 => (some (x7, σ))) else (if a1 = 6 then (cA (f_X7_settled σ) fun x10 s12 => (cP (f_X4_foundCount s12) fun x13 => (some (x13, s12)))) else (if a1 = 7 then (cA (f_X7_settled σ) fun x16 s18 => (some ((s18.1 30 11), s18))) else (if a1 = 8 then (cA (f_X7_settled σ) fun x20 s22 => (rI s22 34 61 0 fun x23 => (some (x23, s22)))) else (if a1 = 9 then (cA (f_X7_settled σ) fun x27 s29 => (cP (f_X4_wordsChosen s29) fun x30 => (some (x30, s29)))) else (if a1 = 10 then (cA (f_X7_settled σ) fun x33 s35 => (cP (f_X4_insteadCount s35) fun x36 => (some (x36, s35)))) else (if a1 = 11 then (cA (f_X7_written σ) fun x39 s41 => (some ((s41.1 40 4), s41))) else (if a1 = 12 then (cP (f_X1_forbiddenSet σ) fun x43 => (some (x43, σ))) else (some ((-1000000002 : Int32), σ))))))))))))))
def f_X8_counts_L19 (k : Int32 → Option (Int32 × Sg)) (σ : Sg) (c1 : Int32) (c3 : Int32) : Nat → Int32 → Int32 → Option (Int32 × Sg)
  | 0, _, _ => none
  | n + 1, i2, i4 =>
  rI σ 44 475 0 fun x4 => (if x4 ≤ i4 then (k i2) else (rI σ 53 60 c3 fun x7 => (jn (fun (v11 : Int32) => jn (fun (v13 : Int32) => jn (fun (v15 : Int32) => f_X8_counts_L19 k σ c1 c3 n ((i2 + v15)) ((i4 + 1))) fun k14 => (if v13 = 0 then (k14 0) else (if c1 = 2 then (cP (f_X8_termAt σ i4) fun x16 => (rI σ 44 475 (x16 + 0) fun x18 => (k14 x18))) else (k14 1)))) fun k12 => (if c1 = 0 then (cP (f_X8_isFound σ i4 c3) fun x31 => (k12 x31)) else (if v11 = 0 then (k12 0) else (if c1 < 3 then (k12 1) else (cP (f_X8_termAt σ i4) fun x23 => (rI σ 44 475 (x23 + 3) fun x25 => (if x25 = (-1) then (k12 0) else (k12 1)))))))) fun k10 => (if x7 = i4 then (k10 1) else (k10 0)))))
def f_X8_counts_L8 (k : Int32 → Option (Int32 × Sg)) (σ : Sg) (c1 : Int32) : Nat → Int32 → Int32 → Option (Int32 × Sg)
  | 0, _, _ => none
  | n + 1, i2, i3 =>
  if (σ.1 43 6) ≤ i3 then (k i2) else (f_X8_counts_L19 (fun (v36 : Int32) => f_X8_counts_L8 k σ c1 n (v36) ((i3 + 1))) σ c1 i3 fu i2 0)
def f_X8_counts (σ : Sg) (a1 : Int32) : Option (Int32 × Sg) :=
  cA (f_X8_choose σ) fun x1 s3 => (f_X8_counts_L8 (fun (v38 : Int32) => some (v38, s3)) s3 a1 fu 0 0)
def f_X8_mends_L154 (k : Sg → Int32 → Option (Int32 × Sg)) (c2 : Int32) (c4 : Int32) (c5 : Int32) (c6 : Int32) (c7 : Int32) (c8 : Int32) : Nat → Sg → Int32 → Int32 → Option (Int32 × Sg)
  | 0, _, _, _ => none
  | n + 1, s, i1, i9 =>
  if c8 ≤ i9 then (k s i1) else (jn (fun (v19 : Int32) => wI s 54 3300 i1 v19 fun s20 => (f_X8_mends_L154 k c2 c4 c5 c6 c7 c8 n (s20) ((i1 + 1)) ((i9 + 1)))) fun k18 => (if c4 = (-1) then (rI s 48 915 (((15 * c2) + 3) + i9) fun x28 => (k18 x28)) else (cP (f_X8_wordAt s c4 c7) fun x23 => (rI s 44 475 ((x23 + 1) + i9) fun x25 => (k18 x25)))))
def f_X8_mends_L97 (k : Sg → Int32 → Option (Int32 × Sg)) (c2 : Int32) (c4 : Int32) (c5 : Int32) (c6 : Int32) : Nat → Sg → Int32 → Int32 → Option (Int32 × Sg)
  | 0, _, _, _ => none
  | n + 1, s, i1, i7 =>
  if c6 ≤ i7 then (k s i1) else (jn (fun (s14 : Sg) (v15 : Int32) => jn (fun (v17 : Int32) => f_X8_mends_L154 (fun (s33 : Sg) (v34 : Int32) => f_X8_mends_L97 k c2 c4 c5 c6 n (s33) (v34) ((i7 + 1))) c2 c4 c5 c6 i7 v17 fu s14 v15 0) fun k16 => (if c4 = (-1) then (rI s14 48 915 (15 * c2) fun x40 => (k16 x40)) else (cP (f_X8_wordAt s14 c4 i7) fun x35 => (rI s14 44 475 x35 fun x37 => (k16 x37))))) fun k13 => (if i1 ≤ 0 then (k13 s i1) else (wI s 54 3300 i1 32 fun s44 => (k13 s44 (i1 + 1)))))
def f_X8_mends_L8 (k : Sg → Int32 → Option (Int32 × Sg)) : Nat → Sg → Int32 → Int32 → Option (Int32 × Sg)
  | 0, _, _, _ => none
  | n + 1, s, i1, i2 =>
  if (s.1 43 6) ≤ i2 then (k s i1) else (rI s 53 60 i2 fun x4 => (jn (fun (v8 : Int32) => jn (fun (v10 : Int32) => jn (fun (v12 : Int32) => f_X8_mends_L97 (fun (s49 : Sg) (v50 : Int32) => rI s49 48 915 ((15 * ((i2 + v10) - 1)) + 1) fun x51 => (jn (fun (v55 : Int32) => if v55 = 0 then (f_X8_mends_L8 k n (s49) (v50) ((i2 + v10))) else (if (s49.1 43 7) ≤ x51 then (f_X8_mends_L8 k n (s49) (v50) ((i2 + v10))) else (wI s49 54 3300 v50 46 fun s56 => (f_X8_mends_L8 k n (s56) ((v50 + 1)) ((i2 + v10)))))) fun k54 => (if (i2 + v10) = (s49.1 43 6) then (k54 1) else (rI s49 48 915 ((15 * (i2 + v10)) + 1) fun x61 => (if x61 = x51 then (k54 0) else (k54 1)))))) i2 v8 (i2 + v10) v12 fu s i1 0) fun k11 => (if v8 = (-1) then (k11 1) else (cP (f_X8_termAt s v8) fun x66 => (rI s 44 475 (x66 + 0) fun x68 => (k11 x68))))) fun k9 => (if v8 = (-1) then (k9 1) else (cP (f_X8_termAt s x4) fun x72 => (rI s 44 475 (x72 + 0) fun x74 => (k9 x74))))) fun k7 => (if x4 = (-1) then (k7 (-1)) else (cP (f_X8_termAt s x4) fun x78 => (rI s 44 475 (x78 + 3) fun x80 => (k7 x80))))))
def f_X8_mends (σ : Sg)  : Option (Int32 × Sg) :=
  cA (f_X8_choose σ) fun x1 s3 => (f_X8_mends_L8 (fun (s85 : Sg) (v86 : Int32) => some (v86, s85)) fu s3 0 0)
def f_X8_told (σ : Sg) (a1 : Int32) : Option (Int32 × Sg) :=
  if a1 = 0 then (rI σ 44 475 0 fun x2 => (some (x2, σ))) else (if a1 = 1 then (rI σ 44 475 1 fun x6 => (some (x6, σ))) else (if a1 = 2 then (some ((σ.1 43 4), σ)) else (if a1 = 3 then (some ((σ.1 43 6), σ)) else (if a1 = 4 then (some ((σ.1 43 7), σ)) else (if a1 = 5 then (if 60 ≤ (σ.1 43 6) then (some (0, σ)) else (rI σ 48 915 (15 * (σ.1 43 6)) fun x13 => (some (x13, σ)))) else (if a1 = 6 then (cA (f_X8_counts σ 0) fun x18 s20 => (some (x18, s20))) else (if a1 = 7 then (cA (f_X8_counts σ 1) fun x22 s24 => (some (x22, s24))) else (if a1 = 8 then (cA (f_X8_choose σ) fun x26 s28 => (rI s28 51 65 0 fun x29 => (some (x29, s28)))) else (if a1 = 9 then (cA (f_X8_counts σ 2) fun x33 s35 => (some (x33, s35))) else (if a1 = 10 then (cA (f_X8_counts σ 3) fun x37 s39 => (some (x37, s39))) else (if a1 = 11 then (cA (f_X8_mends σ) fun x41 s43 => (some (x41, s43))) else (if a1 = 12 then (cP (f_X8_forbidden σ) fun x45 => (some (x45, σ))) else (some ((-1000000002 : Int32), σ))))))))))))))
def f_X4_foundAt_L4 (k : Option Int32) (σ : Sg) (c1 : Int32) : Nat → Int32 → Int32 → Option Int32
  | 0, _, _ => none
  | n + 1, i2, i3 =>
  if (σ.1 26 0) ≤ i3 then (k) else (rI σ 33 60 i3 fun x1 => (cP (f_J6_bitCount_0f7a4 σ x1) fun x4 => (if (i2 + x4) ≤ c1 then (f_X4_foundAt_L4 k σ c1 n ((i2 + x4)) ((i3 + 1))) else (some i3))))
def f_X4_foundAt (σ : Sg) (a1 : Int32) : Option Int32 :=
  f_X4_foundAt_L4 (some (-1)) σ a1 fu 0 0
def f_X4_foundTerm_L18 (k : Int32 → Option Int32) (σ : Sg) (c1 : Int32) (c3 : Int32) : Nat → Int32 → Int32 → Option Int32
  | 0, _, _ => none
  | n + 1, i2, i4 =>
  if (σ.1 4 0) ≤ i4 then (k i2) else (cP (f_X4_isFound σ c3 i4) fun x1 => (if x1 = 0 then (f_X4_foundTerm_L18 k σ c1 c3 n (i2) ((i4 + 1))) else (if i2 = c1 then (some i4) else (f_X4_foundTerm_L18 k σ c1 c3 n ((i2 + 1)) ((i4 + 1))))))
def f_X4_foundTerm_L4 (k : Option Int32) (σ : Sg) (c1 : Int32) : Nat → Int32 → Int32 → Option Int32
  | 0, _, _ => none
  | n + 1, i2, i3 =>
  if (σ.1 26 0) ≤ i3 then (k) else (f_X4_foundTerm_L18 (fun (v6 : Int32) => f_X4_foundTerm_L4 k σ c1 n (v6) ((i3 + 1))) σ c1 i3 fu i2 0)
def f_X4_foundTerm (σ : Sg) (a1 : Int32) : Option Int32 :=
  f_X4_foundTerm_L4 (some (-1)) σ a1 fu 0 0
def f_X4_isChosen (σ : Sg) (a1 : Int32) (a2 : Int32) : Option Int32 :=
  rI σ 39 60 a1 fun x1 => (if x1 = (-1) then (some 0) else (rI σ 37 60 x1 fun x4 => (if x4 = a1 then (rI σ 38 60 x1 fun x7 => (if x7 = a2 then (some 1) else (some 0))) else (some 0))))
def f_X7_found (σ : Sg) (a1 : Int32) (a2 : Int32) : Option (Int32 × Sg) :=
  if a1 < 0 then (some ((-1000000002 : Int32), σ)) else (if a2 < 0 then (some ((-1000000002 : Int32), σ)) else (if a2 ≤ 3 then (cA (f_X7_settled σ) fun x1 s3 => (cP (f_X4_foundAt s3 a1) fun x4 => (cP (f_X4_foundTerm s3 a1) fun x6 => (if x4 = (-1) then (some ((-1), s3)) else (if x6 = (-1) then (some ((-1), s3)) else (if a2 = 0 then (some (x4, s3)) else (if a2 = 1 then (some (x6, s3)) else (if a2 = 2 then (cP (f_X1_worthOf s3 x6) fun x11 => (some (x11, s3))) else (cP (f_X4_isChosen s3 x4 x6) fun x13 => (if x13 = 0 then (some (0, s3)) else (some (1, s3)))))))))))) else (some ((-1000000002 : Int32), σ))))
def f_X8_place_L21 (k : Int32 → Option (Int32 × Sg)) (σ : Sg) (c2 : Int32) (c4 : Int32) : Nat → Int32 → Int32 → Option (Int32 × Sg)
  | 0, _, _ => none
  | n + 1, i3, i5 =>
  rI σ 44 475 0 fun x4 => (if x4 ≤ i5 then (k i3) else (jn (fun (v8 : Int32) => jn (jn (fun (v11 : Int32) => f_X8_place_L21 k σ c2 c4 n ((i3 - v11)) ((i5 + 1))) fun k10 => (if v8 = 0 then (k10 0) else (k10 1))) fun k9 => (if v8 = 0 then (k9) else (if i3 = 0 then (some (((8 * c4) + i5), σ)) else (k9)))) fun k7 => (if c2 = 0 then (cP (f_X8_isFound σ i5 c4) fun x15 => (k7 x15)) else (rI σ 53 60 c4 fun x17 => (if x17 = i5 then (k7 1) else (k7 0))))))
def f_X8_place_L9 (k : Option (Int32 × Sg)) (σ : Sg) (c2 : Int32) : Nat → Int32 → Int32 → Option (Int32 × Sg)
  | 0, _, _ => none
  | n + 1, i3, i4 =>
  if (σ.1 43 6) ≤ i4 then (k) else (f_X8_place_L21 (fun (v23 : Int32) => f_X8_place_L9 k σ c2 n (v23) ((i4 + 1))) σ c2 i4 fu i3 0)
def f_X8_place (σ : Sg) (a1 : Int32) (a2 : Int32) : Option (Int32 × Sg) :=
  cA (f_X8_choose σ) fun x1 s3 => (f_X8_place_L9 (some ((-1), s3)) s3 a2 fu a1 0)
def f_X8_found (σ : Sg) (a1 : Int32) (a2 : Int32) : Option (Int32 × Sg) :=
  if a1 < 0 then (some ((-1000000002 : Int32), σ)) else (cP (f_X8_in σ a2 0 3) fun x1 => (if x1 = 0 then (some ((-1000000002 : Int32), σ)) else (cA (f_X8_place σ a1 0) fun x3 s5 => (if x3 = (-1) then (some ((-1), s5)) else (if a2 = 0 then (some ((x3 / 8), s5)) else (if a2 = 1 then (some ((x3 - x3 / 8 * 8), s5)) else (if a2 = 2 then (cP (f_X8_worthOf s5 (x3 - x3 / 8 * 8)) fun x10 => (some (x10, s5))) else (rI s5 53 60 (x3 / 8) fun x6 => (if x6 = (x3 - x3 / 8 * 8) then (some (1, s5)) else (some (0, s5)))))))))))
def f_X7_chosen (σ : Sg) (a1 : Int32) (a2 : Int32) : Option (Int32 × Sg) :=
  if a1 < 0 then (some ((-1000000002 : Int32), σ)) else (if a2 < 0 then (some ((-1000000002 : Int32), σ)) else (if a2 ≤ 3 then (cA (f_X7_settled σ) fun x1 s3 => (if a1 < (s3.1 30 11) then (rI s3 38 60 a1 fun x4 => (if a2 = 0 then (rI s3 37 60 a1 fun x8 => (some (x8, s3))) else (if a2 = 1 then (some (x4, s3)) else (if a2 = 2 then (cP (f_X1_worthOf s3 x4) fun x13 => (some (x13, s3))) else (rI s3 9 8 x4 fun x15 => (some (x15, s3))))))) else (some ((-1), s3)))) else (some ((-1000000002 : Int32), σ))))
def f_X8_chosen (σ : Sg) (a1 : Int32) (a2 : Int32) : Option (Int32 × Sg) :=
  if a1 < 0 then (some ((-1000000002 : Int32), σ)) else (cP (f_X8_in σ a2 0 3) fun x1 => (if x1 = 0 then (some ((-1000000002 : Int32), σ)) else (cA (f_X8_place σ a1 1) fun x3 s5 => (if x3 = (-1) then (some ((-1), s5)) else (if a2 = 0 then (some ((x3 / 8), s5)) else (if a2 = 1 then (some ((x3 - x3 / 8 * 8), s5)) else (if a2 = 2 then (cP (f_X8_worthOf s5 (x3 - x3 / 8 * 8)) fun x11 => (some (x11, s5))) else (cP (f_X8_termAt s5 (x3 - x3 / 8 * 8)) fun x6 => (rI s5 44 475 (x6 + 3) fun x8 => (some (x8, s5)))))))))))
def f_X4_isLonger (σ : Sg) (a1 : Int32) (a2 : Int32) : Option Int32 :=
  rI σ 6 8 a1 fun x1 => (rI σ 6 8 a2 fun x4 => (if x1 = x4 then (rI σ 7 8 a1 fun x7 => (rI σ 7 8 a2 fun x10 => (if x7 ≤ x10 then (some 0) else (some 1)))) else (rI σ 6 8 a1 fun x14 => (rI σ 6 8 a2 fun x17 => (if x14 ≤ x17 then (some 0) else (some 1))))))
def f_X4_longestAt_L4 (k : Int32 → Option Int32) (σ : Sg) (c1 : Int32) : Nat → Int32 → Int32 → Option Int32
  | 0, _, _ => none
  | n + 1, i2, i3 =>
  if (σ.1 4 0) ≤ i3 then (k i2) else (cP (f_X4_isFound σ c1 i3) fun x1 => (if x1 = 0 then (f_X4_longestAt_L4 k σ c1 n (i2) ((i3 + 1))) else (jn (fun (v4 : Int32) => f_X4_longestAt_L4 k σ c1 n (v4) ((v4 + 1))) fun k3 => (if i2 = (-1) then (k3 i3) else (cP (f_X4_isLonger σ i3 i2) fun x5 => (if x5 = 0 then (f_X4_longestAt_L4 k σ c1 n (i2) ((i3 + 1))) else (k3 i3)))))))
def f_X4_longestAt (σ : Sg) (a1 : Int32) : Option Int32 :=
  f_X4_longestAt_L4 (fun (v11 : Int32) => some v11) σ a1 fu (-1) 0
def f_X7_longest (σ : Sg) (a1 : Int32) : Option (Int32 × Sg) :=
  cP (f_X6_isWord σ a1) fun x1 => (if x1 = 0 then (some ((-1000000001 : Int32), σ)) else (cA (f_X7_settled σ) fun x3 s5 => (cP (f_X4_longestAt s5 a1) fun x6 => (some (x6, s5)))))
def f_X8_longest_L18 (k : Int32 → Option Int32) (σ : Sg) (c1 : Int32) : Nat → Int32 → Int32 → Int32 → Option Int32
  | 0, _, _, _ => none
  | n + 1, i2, i3, i4 =>
  rI σ 44 475 0 fun x3 => (if x3 ≤ i4 then (k i2) else (cP (f_X8_termAt σ i4) fun x6 => (rI σ 44 475 (x6 + 0) fun x8 => (cP (f_X8_termAt σ i4) fun x11 => (rI σ 44 475 (x11 + 1) fun x13 => (jn (fun (v17 : Int32) => jn (fun (v19 : Int32) => if v17 = 0 then (f_X8_longest_L18 k σ c1 n (v19) (i3) ((i4 + 1))) else (f_X8_longest_L18 k σ c1 n (v19) (((10 * x8) + x13)) ((i4 + 1)))) fun k18 => (if v17 = 0 then (k18 i2) else (k18 i4))) fun k16 => (if ((10 * x8) + x13) ≤ i3 then (k16 0) else (cP (f_X8_isFound σ i4 c1) fun x22 => (if x22 = 0 then (k16 0) else (k16 1))))))))))
def f_X8_longest (σ : Sg) (a1 : Int32) : Option Int32 :=
  cP (f_X8_isWord σ a1) fun x1 => (if x1 = 0 then (some (-1000000001 : Int32)) else (f_X8_longest_L18 (fun (v27 : Int32) => some v27) σ a1 fu (-1) 0 0))
def f_X7_sign (σ : Sg) (a1 : Int32) : Option (Int32 × Sg) :=
  if 0 ≤ a1 then (cA (f_X7_written σ) fun x1 s3 => (if (s3.1 40 4) ≤ a1 then (some ((-1), s3)) else (rI s3 41 3120 a1 fun x4 => (some (x4, s3))))) else (some ((-1000000002 : Int32), σ))
def f_X8_sign (σ : Sg) (a1 : Int32) : Option (Int32 × Sg) :=
  if 0 ≤ a1 then (cA (f_X8_mends σ) fun x1 s3 => (if x1 ≤ a1 then (some ((-1), s3)) else (rI s3 54 3300 a1 fun x4 => (some (x4, s3))))) else (some ((-1000000002 : Int32), σ))
def f_X7_same (σ : Sg) (a1 : Int32) (a2 : Int32) : Option Int32 :=
  cP (f_X6_isWord σ a1) fun x1 => (if x1 = 0 then (some (-1000000001 : Int32)) else (cP (f_X6_isWord σ a2) fun x3 => (if x3 = 0 then (some (-1000000001 : Int32)) else (if a1 = a2 then (some (-1000000001 : Int32)) else (rL σ 27 60 a1 fun x5 => (rL σ 27 60 a2 fun x8 => (jn (if (0 : Int32) = 0 then (some 0) else (some 1)) fun k11 => (if (lg_cmp x5 x8) = 0 then (rI σ 28 60 a1 fun x13 => (if x13 = 0 then (rI σ 28 60 a2 fun x16 => (if x16 = 0 then (if (1 : Int32) = 0 then (some 0) else (some 1)) else (k11))) else (k11))) else (k11)))))))))
def f_X8_same_L82 (k : Int32 → Option Int32) (σ : Sg) (c1 : Int32) (c2 : Int32) : Nat → Int32 → Int32 → Option Int32
  | 0, _, _ => none
  | n + 1, i3, i4 =>
  rI σ 48 915 (15 * c1) fun x12 => (if x12 ≤ i4 then (k i3) else (if i3 = 0 then (k i3) else (rI σ 48 915 (((15 * c1) + 3) + i4) fun x15 => (rI σ 48 915 (((15 * c2) + 3) + i4) fun x18 => (if x15 = x18 then (f_X8_same_L82 k σ c1 c2 n (1) ((i4 + 1))) else (f_X8_same_L82 k σ c1 c2 n (0) ((i4 + 1))))))))
def f_X8_same (σ : Sg) (a1 : Int32) (a2 : Int32) : Option Int32 :=
  cP (f_X8_isWord σ a1) fun x1 => (if x1 = 0 then (some (-1000000001 : Int32)) else (cP (f_X8_isWord σ a2) fun x3 => (if x3 = 0 then (some (-1000000001 : Int32)) else (if a1 = a2 then (some (-1000000001 : Int32)) else (rI σ 48 915 (15 * a1) fun x5 => (rI σ 48 915 (15 * a2) fun x8 => (jn (f_X8_same_L82 (fun (v24 : Int32) => if v24 = 0 then (some 0) else (some 1)) σ a1 a2 fu 0 0) fun k11 => (if x5 = x8 then (rI σ 48 915 ((15 * a1) + 2) fun x26 => (if x26 = 0 then (rI σ 48 915 ((15 * a2) + 2) fun x29 => (if x29 = 0 then (f_X8_same_L82 (fun (v32 : Int32) => if v32 = 0 then (some 0) else (some 1)) σ a1 a2 fu 1 0) else (k11))) else (k11))) else (k11)))))))))
def f_X7_imageOf (σ : Sg) (a1 : Int32) : Option Nat :=
  if a1 < 0 then (some 0) else (if 2 ≤ a1 then (some 0) else (mH (¬ (a1 < 0 ∨ 2 ≤ Int32.toNatClampNeg a1)) (if a1 = 0 then (some 12) else (if a1 = 1 then (some 19) else (none)))))
def f_X1_copyTerm_12_4 (σ : Sg) (a1 : Int32) (a2 : Int32) : Option (Unit × Sg) :=
  xL4 σ 5 32 13 32 (a1 * 4) (a2 * 4) 4 fun s1 => (rI s1 6 8 a1 fun x4 => (wI s1 14 8 a2 x4 fun s7 => (rI s7 7 8 a1 fun x10 => (wI s7 15 8 a2 x10 fun s13 => (rI s13 8 8 a1 fun x16 => (wI s13 16 8 a2 x16 fun s19 => (rI s19 9 8 a1 fun x22 => (wI s19 17 8 a2 x22 fun s25 => (some ((), s25))))))))))
def f_X1_copyFrom_12_4_L10 (k : Sg → Option (Unit × Sg)) : Nat → Sg → Int32 → Option (Unit × Sg)
  | 0, _, _ => none
  | n + 1, s, i2 =>
  if 8 ≤ i2 then (k s) else (cA (f_X1_copyTerm_12_4 s i2 i2) fun x3 s5 => (f_X1_copyFrom_12_4_L10 k n (s5) ((i2 + 1))))
def f_X1_copyFrom_12_4 (σ : Sg)  : Option (Unit × Sg) :=
  pI σ 12 0 (σ.1 4 0) fun s1 => (f_X1_copyFrom_12_4_L10 (fun (s7 : Sg) => pI s7 12 6 (s7.1 4 6) fun s8 => (xL4 s8 10 5 18 5 0 0 5 fun s10 => (some ((), s10)))) fu s1 0)
def f_X1_copyTerm_19_4 (σ : Sg) (a1 : Int32) (a2 : Int32) : Option (Unit × Sg) :=
  xL4 σ 5 32 20 32 (a1 * 4) (a2 * 4) 4 fun s1 => (rI s1 6 8 a1 fun x4 => (wI s1 21 8 a2 x4 fun s7 => (rI s7 7 8 a1 fun x10 => (wI s7 22 8 a2 x10 fun s13 => (rI s13 8 8 a1 fun x16 => (wI s13 23 8 a2 x16 fun s19 => (rI s19 9 8 a1 fun x22 => (wI s19 24 8 a2 x22 fun s25 => (some ((), s25))))))))))
def f_X1_copyFrom_19_4_L10 (k : Sg → Option (Unit × Sg)) : Nat → Sg → Int32 → Option (Unit × Sg)
  | 0, _, _ => none
  | n + 1, s, i2 =>
  if 8 ≤ i2 then (k s) else (cA (f_X1_copyTerm_19_4 s i2 i2) fun x3 s5 => (f_X1_copyFrom_19_4_L10 k n (s5) ((i2 + 1))))
def f_X1_copyFrom_19_4 (σ : Sg)  : Option (Unit × Sg) :=
  pI σ 19 0 (σ.1 4 0) fun s1 => (f_X1_copyFrom_19_4_L10 (fun (s7 : Sg) => pI s7 19 6 (s7.1 4 6) fun s8 => (xL4 s8 10 5 25 5 0 0 5 fun s10 => (some ((), s10)))) fu s1 0)
def f_X7_keep (σ : Sg) (a1 : Int32) : Option (Int32 × Sg) :=
  cP (f_X7_imageOf σ a1) fun x1 => (if x1 = 12 then (cA (f_X1_copyFrom_12_4 σ) fun x4 s6 => (pI s6 12 8 1 fun s7 => (some ((s7.1 4 0), s7)))) else (if x1 = 19 then (cA (f_X1_copyFrom_19_4 σ) fun x10 s12 => (pI s12 19 8 1 fun s13 => (some ((s13.1 4 0), s13)))) else (if x1 = 0 then (some ((-1000000001 : Int32), σ)) else (none))))
def f_X8_keep_L14 (k : Sg → Option (Int32 × Sg)) (c1 : Int32) : Nat → Sg → Int32 → Option (Int32 × Sg)
  | 0, _, _ => none
  | n + 1, s, i2 =>
  if 475 ≤ i2 then (k s) else (rI s 44 475 i2 fun x3 => (wI s 45 950 ((475 * c1) + i2) x3 fun s6 => (f_X8_keep_L14 k c1 n (s6) ((i2 + 1)))))
def f_X8_keep (σ : Sg) (a1 : Int32) : Option (Int32 × Sg) :=
  cP (f_X8_in σ a1 0 1) fun x1 => (if x1 = 0 then (some ((-1000000001 : Int32), σ)) else (f_X8_keep_L14 (fun (s10 : Sg) => wI s10 46 2 a1 (vp_nar .boolean 1) fun s11 => (rI s11 44 475 0 fun x14 => (some (x14, s11)))) a1 fu σ 0))
def f_X1_copyTerm_4_12 (σ : Sg) (a1 : Int32) (a2 : Int32) : Option (Unit × Sg) :=
  xL4 σ 13 32 5 32 (a1 * 4) (a2 * 4) 4 fun s1 => (rI s1 14 8 a1 fun x4 => (wI s1 6 8 a2 x4 fun s7 => (rI s7 15 8 a1 fun x10 => (wI s7 7 8 a2 x10 fun s13 => (rI s13 16 8 a1 fun x16 => (wI s13 8 8 a2 x16 fun s19 => (rI s19 17 8 a1 fun x22 => (wI s19 9 8 a2 x22 fun s25 => (some ((), s25))))))))))
def f_X1_copyFrom_4_12_L10 (k : Sg → Option (Unit × Sg)) : Nat → Sg → Int32 → Option (Unit × Sg)
  | 0, _, _ => none
  | n + 1, s, i2 =>
  if 8 ≤ i2 then (k s) else (cA (f_X1_copyTerm_4_12 s i2 i2) fun x3 s5 => (f_X1_copyFrom_4_12_L10 k n (s5) ((i2 + 1))))
def f_X1_copyFrom_4_12 (σ : Sg)  : Option (Unit × Sg) :=
  pI σ 4 0 (σ.1 12 0) fun s1 => (f_X1_copyFrom_4_12_L10 (fun (s7 : Sg) => pI s7 4 6 (s7.1 12 6) fun s8 => (xL4 s8 18 5 10 5 0 0 5 fun s10 => (some ((), s10)))) fu s1 0)
def f_X1_copyTerm_4_19 (σ : Sg) (a1 : Int32) (a2 : Int32) : Option (Unit × Sg) :=
  xL4 σ 20 32 5 32 (a1 * 4) (a2 * 4) 4 fun s1 => (rI s1 21 8 a1 fun x4 => (wI s1 6 8 a2 x4 fun s7 => (rI s7 22 8 a1 fun x10 => (wI s7 7 8 a2 x10 fun s13 => (rI s13 23 8 a1 fun x16 => (wI s13 8 8 a2 x16 fun s19 => (rI s19 24 8 a1 fun x22 => (wI s19 9 8 a2 x22 fun s25 => (some ((), s25))))))))))
def f_X1_copyFrom_4_19_L10 (k : Sg → Option (Unit × Sg)) : Nat → Sg → Int32 → Option (Unit × Sg)
  | 0, _, _ => none
  | n + 1, s, i2 =>
  if 8 ≤ i2 then (k s) else (cA (f_X1_copyTerm_4_19 s i2 i2) fun x3 s5 => (f_X1_copyFrom_4_19_L10 k n (s5) ((i2 + 1))))
def f_X1_copyFrom_4_19 (σ : Sg)  : Option (Unit × Sg) :=
  pI σ 4 0 (σ.1 19 0) fun s1 => (f_X1_copyFrom_4_19_L10 (fun (s7 : Sg) => pI s7 4 6 (s7.1 19 6) fun s8 => (xL4 s8 25 5 10 5 0 0 5 fun s10 => (some ((), s10)))) fu s1 0)
def f_X7_goBack (σ : Sg) (a1 : Int32) : Option (Int32 × Sg) :=
  cP (f_X7_imageOf σ a1) fun x1 => (if x1 = 12 then (if (σ.1 12 8) = 0 then (some ((-1000000003 : Int32), σ)) else (cA (f_X1_copyFrom_4_12 σ) fun x4 s6 => (cA (f_X7_termsChanged s6) fun x7 s9 => (some ((s9.1 4 0), s9))))) else (if x1 = 19 then (if (σ.1 19 8) = 0 then (some ((-1000000003 : Int32), σ)) else (cA (f_X1_copyFrom_4_19 σ) fun x12 s14 => (cA (f_X7_termsChanged s14) fun x15 s17 => (some ((s17.1 4 0), s17))))) else (if x1 = 0 then (some ((-1000000001 : Int32), σ)) else (none))))
def f_X8_goBack_L26 (k : Sg → Option (Int32 × Sg)) (c1 : Int32) : Nat → Sg → Int32 → Option (Int32 × Sg)
  | 0, _, _ => none
  | n + 1, s, i2 =>
  if 475 ≤ i2 then (k s) else (rI s 45 950 ((475 * c1) + i2) fun x6 => (wI s 44 475 i2 x6 fun s9 => (f_X8_goBack_L26 k c1 n (s9) ((i2 + 1)))))
def f_X8_goBack (σ : Sg) (a1 : Int32) : Option (Int32 × Sg) :=
  cP (f_X8_in σ a1 0 1) fun x1 => (if x1 = 0 then (some ((-1000000001 : Int32), σ)) else (rI σ 46 2 a1 fun x3 => (if x3 = 0 then (some ((-1000000003 : Int32), σ)) else (f_X8_goBack_L26 (fun (s13 : Sg) => rI s13 44 475 0 fun x14 => (some (x14, s13))) a1 fu σ 0))))
end
section
/-! rows on bits, shifts and unsigned numbers, to paste: each family out of a closed proof of our own, whole with what it rests on; each by itself clean at Lean in its own claim (generation 39, form 5). Take a family whole -/
/-! ===== Int32 by its bits: bt x i ===== -/
def bt (x : Int32) (i : Nat) : Bool := x.toBitVec.getLsbD i
theorem b_ext {x y : Int32} (h : ∀ i, i < 32 → bt x i = bt y i) : x = y := Int32.toBitVec_inj.mp (BitVec.eq_of_getLsbD_eq (fun i hi => h i hi))
theorem b_or (x y : Int32) (i : Nat) : bt (x ||| y) i = (bt x i || bt y i) := by unfold bt; rw [Int32.toBitVec_or, BitVec.getLsbD_or]
theorem b_and (x y : Int32) (i : Nat) : bt (x &&& y) i = (bt x i && bt y i) := by unfold bt; rw [Int32.toBitVec_and, BitVec.getLsbD_and]
theorem b_xor (x y : Int32) (i : Nat) : bt (x ^^^ y) i = (bt x i ^^ bt y i) := by unfold bt; rw [Int32.toBitVec_xor, BitVec.getLsbD_xor]
theorem b_big {x : Int32} {i : Nat} (h : 32 ≤ i) : bt x i = false := BitVec.getLsbD_of_ge _ _ h
theorem b_255 (i : Nat) : bt 255 i = decide (i < 8) := by
  rcases Nat.lt_or_ge i 32 with h | h
  · exact (by decide +kernel : ∀ i, i < 32 → bt 255 i = decide (i < 8)) i h
  · rw [b_big h, decide_eq_false (by omega)]
theorem b_65535 (i : Nat) : bt 65535 i = decide (i < 16) := by
  rcases Nat.lt_or_ge i 32 with h | h
  · exact (by decide +kernel : ∀ i, i < 32 → bt 65535 i = decide (i < 16)) i h
  · rw [b_big h, decide_eq_false (by omega)]
theorem b_m1 : ∀ i, i < 32 → bt (-1) i = true := by decide +kernel
theorem b_0 (i : Nat) : bt 0 i = false := BitVec.getLsbD_zero
theorem s_l : ∀ n, n < 32 → ((nI n &&& 31).toBitVec.smod 32).toNat = n := by decide +kernel
theorem s_u : ∀ n, n < 32 → (((nI n).toUInt32 &&& Int32.toUInt32 31).toBitVec % 32).toNat = n := by decide +kernel
theorem b_shl (n : Nat) (hn : n < 32) (x : Int32) {i : Nat} (hi : i < 32) : bt (x <<< (nI n &&& 31)) i = (decide (n ≤ i) && bt x (i - n)) := by
  unfold bt
  rw [Int32.toBitVec_shiftLeft]
  show (x.toBitVec <<< ((nI n &&& 31).toBitVec.smod 32).toNat).getLsbD i = _
  rw [s_l n hn, BitVec.getLsbD_shiftLeft]
  rcases Nat.lt_or_ge i n with h | h
  · simp [h, Nat.not_le.mpr h]
  · simp [hi, h, Nat.not_lt.mpr h]
theorem b_ushr (n : Nat) (hn : n < 32) (x : Int32) (i : Nat) : bt ((x.toUInt32 >>> ((nI n).toUInt32 &&& Int32.toUInt32 31)).toInt32) i = bt x (n + i) := by
  show (x.toUInt32 >>> ((nI n).toUInt32 &&& Int32.toUInt32 31)).toBitVec.getLsbD i = x.toUInt32.toBitVec.getLsbD (n + i)
  rw [UInt32.toBitVec_shiftRight]
  show (x.toUInt32.toBitVec >>> (((nI n).toUInt32 &&& Int32.toUInt32 31).toBitVec % 32).toNat).getLsbD i = _
  rw [s_u n hn, BitVec.getLsbD_ushiftRight]
theorem b_sshr (n : Nat) (hn : n < 32) (x : Int32) {i : Nat} (hi : i < 32) : bt (x >>> (nI n &&& 31)) i = if n + i < 32 then bt x (n + i) else bt x 31 := by
  unfold bt
  rw [Int32.toBitVec_shiftRight]
  show (x.toBitVec.sshiftRight ((nI n &&& 31).toBitVec.smod 32).toNat).getLsbD i = _
  rw [s_l n hn, BitVec.getLsbD_sshiftRight, BitVec.msb_eq_getLsbD_last]
  simp [hi]
theorem b_shl8 (x : Int32) {i : Nat} (hi : i < 32) : bt (x <<< ((8 : Int32) &&& 31)) i = (decide (8 ≤ i) && bt x (i - 8)) := b_shl 8 (by omega) x hi
theorem b_shl16 (x : Int32) {i : Nat} (hi : i < 32) : bt (x <<< ((16 : Int32) &&& 31)) i = (decide (16 ≤ i) && bt x (i - 16)) := b_shl 16 (by omega) x hi
theorem b_shl24 (x : Int32) {i : Nat} (hi : i < 32) : bt (x <<< ((24 : Int32) &&& 31)) i = (decide (24 ≤ i) && bt x (i - 24)) := b_shl 24 (by omega) x hi
theorem b_sshr8 (x : Int32) {i : Nat} (hi : i < 32) : bt (x >>> ((8 : Int32) &&& 31)) i = if 8 + i < 32 then bt x (8 + i) else bt x 31 := b_sshr 8 (by omega) x hi
/-! ===== nI under and, xor, >>>, one bit, 65535 ===== -/
theorem nx_and (a b : Nat) : nI a &&& nI b = nI (a &&& b) := by
  apply Int32.toBitVec_inj.1
  show BitVec.ofNat 32 a &&& BitVec.ofNat 32 b = BitVec.ofNat 32 (a &&& b)
  apply BitVec.eq_of_getLsbD_eq
  intro i hi
  simp [hi]
theorem nx_xor (a b : Nat) : nI a ^^^ nI b = nI (a ^^^ b) := by
  apply Int32.toBitVec_inj.1
  show BitVec.ofNat 32 a ^^^ BitVec.ofNat 32 b = BitVec.ofNat 32 (a ^^^ b)
  apply BitVec.eq_of_getLsbD_eq
  intro i hi
  simp [hi]
theorem nx_cnt : ∀ j : Fin 32, (UInt32.ofNat j.val &&& Int32.toUInt32 31).toNat % 32 = j.val := by decide +kernel
theorem nx_ush {k j : Nat} (hk : k < 65536) (hj : j < 32) : ((nI k).toUInt32 >>> ((nI j).toUInt32 &&& Int32.toUInt32 31)).toInt32 = nI (k >>> j) := by
  have hs : k >>> j ≤ k := by
    rw [Nat.shiftRight_eq_div_pow]
    exact Nat.div_le_self _ _
  have e2 : UInt32.ofNat k >>> (UInt32.ofNat j &&& Int32.toUInt32 31) = UInt32.ofNat (k >>> j) := by
    apply UInt32.toNat_inj.1
    have h1 : (UInt32.ofNat k).toNat = k := Nat.mod_eq_of_lt (by omega)
    have h2 : (UInt32.ofNat (k >>> j)).toNat = k >>> j := Nat.mod_eq_of_lt (by omega)
    rw [UInt32.toNat_shiftRight, nx_cnt ⟨j, hj⟩, h1, h2]
  show (UInt32.ofNat k >>> (UInt32.ofNat j &&& Int32.toUInt32 31)).toInt32 = _
  rw [e2]
  rfl
theorem nx_bit {k j : Nat} (hk : k < 65536) (hj : j < 16) : (((nI k).toUInt32 >>> ((nI j).toUInt32 &&& Int32.toUInt32 31)).toInt32 &&& 1) = 0 ↔ k.testBit j = false := by
  rw [nx_ush hk (by omega)]
  show nI (k >>> j) &&& nI 1 = 0 ↔ _
  rw [nx_and, Nat.and_one_is_mod, ← nI_0, nI_eq (by omega) (by omega), Nat.testBit_eq_decide_div_mod_eq, Nat.shiftRight_eq_div_pow, decide_eq_false_iff_not]
  generalize k / 2 ^ j = z
  omega
theorem nx_mod (k : Nat) : nI k &&& 65535 = nI (k % 65536) := by
  show nI k &&& nI 65535 = _
  rw [nx_and, show (65535 : Nat) = 2 ^ 16 - 1 from rfl, Nat.and_two_pow_sub_one_eq_mod]
theorem nx_m16 {k : Nat} (h : k < 65536) : nI k &&& 65535 = nI k := by rw [nx_mod, Nat.mod_eq_of_lt h]
theorem nx_mask (x : Int32) : ∃ k, k < 65536 ∧ x &&& 65535 = nI k := by
  have e : x = nI x.toBitVec.toNat := by
    apply Int32.toBitVec_inj.1
    show x.toBitVec = BitVec.ofNat 32 x.toBitVec.toNat
    simp
  refine ⟨x.toBitVec.toNat % 65536, Nat.mod_lt _ (by omega), ?_⟩
  rw [← nx_mod, ← e]
/-! ===== Int32 as a set of bits: test, set ===== -/
def nf_M (m : Int32) : Nat := 4294967296 - m.toBitVec.toNat
theorem nf_sh : ∀ l, l < 32 → ((1 : Int32) <<< (nI l &&& 31)).toBitVec = BitVec.twoPow 32 l := by decide +kernel
theorem nf_sl : ∀ l, l < 32 → (((nI l).toUInt32 &&& Int32.toUInt32 31).toBitVec % 32).toNat = l := by decide +kernel
theorem nf_tp : ∀ l, l < 32 → BitVec.twoPow 32 l ≠ 0#32 := by decide +kernel
theorem nf_bit (m : Int32) (l : Nat) (hl : l < 32) : ((m.toUInt32 >>> ((nI l).toUInt32 &&& Int32.toUInt32 31)).toInt32 &&& 1) = 0 ↔ (m &&& ((1 : Int32) <<< (nI l &&& 31))) = 0 := by
  have e : ((m.toUInt32 >>> ((nI l).toUInt32 &&& Int32.toUInt32 31)).toInt32).toBitVec = m.toBitVec >>> l := by
    show m.toBitVec >>> (((nI l).toUInt32 &&& Int32.toUInt32 31).toBitVec % 32) = m.toBitVec >>> l
    rw [BitVec.ushiftRight_eq', nf_sl l hl]
  rw [← Int32.toBitVec_inj, ← Int32.toBitVec_inj, Int32.toBitVec_and, Int32.toBitVec_and, nf_sh l hl, e, BitVec.and_twoPow]
  show (m.toBitVec >>> l &&& 1#32) = 0#32 ↔ _ = 0#32
  rw [BitVec.and_one_eq_setWidth_ofBool_getLsbD, BitVec.getLsbD_ushiftRight, Nat.add_zero]
  cases hb : m.toBitVec.getLsbD l
  · exact ⟨fun _ => by simp, fun _ => by decide⟩
  · exact ⟨fun z => absurd z (by decide), fun z => absurd ((if_pos rfl).symm.trans z) (nf_tp l hl)⟩
theorem nf_gr (m k : Int32) (h : m &&& k = 0) (hk : k ≠ 0) : nf_M (m ||| k) < nf_M m := by
  have hm := m.toBitVec.isLt
  have hm' := (m ||| k).toBitVec.isLt
  have h1 : m.toBitVec.toNat ≤ (m ||| k).toBitVec.toNat := by
    rw [Int32.toBitVec_or, BitVec.toNat_or]
    exact Nat.left_le_or
  have h2 : m.toBitVec.toNat ≠ (m ||| k).toBitVec.toNat := by
    intro e
    have e2 : m = m ||| k := Int32.toBitVec_inj.mp (BitVec.eq_of_toNat_eq e)
    apply hk
    apply Int32.toBitVec_inj.mp
    show k.toBitVec = 0#32
    apply BitVec.eq_of_getLsbD_eq
    intro i hi
    have a : m.toBitVec.getLsbD i = (m.toBitVec.getLsbD i || k.toBitVec.getLsbD i) := by rw [← BitVec.getLsbD_or, ← Int32.toBitVec_or, ← e2]
    have b : (m.toBitVec.getLsbD i && k.toBitVec.getLsbD i) = false := by
      rw [← BitVec.getLsbD_and, ← Int32.toBitVec_and, h]
      exact BitVec.getLsbD_zero
    rw [BitVec.getLsbD_zero]
    revert a b
    cases m.toBitVec.getLsbD i <;> cases k.toBitVec.getLsbD i <;> simp
  unfold nf_M
  omega
/-! ===== a byte read unsigned ===== -/
theorem bp_b (x : Int32) : x.toInt8.toInt32 &&& 255 = x &&& 255 := by
  apply Int32.toBitVec_inj.mp
  rw [Int32.toBitVec_and, Int32.toBitVec_and, Int8.toBitVec_toInt32, Int32.toBitVec_toInt8]
  apply BitVec.eq_of_getLsbD_eq
  intro i hi
  rw [BitVec.getLsbD_and, BitVec.getLsbD_and]
  have hm : ∀ i < 32, 8 ≤ i → (255 : Int32).toBitVec.getLsbD i = false := by decide
  rcases Nat.lt_or_ge i 8 with z | z
  · rw [BitVec.getLsbD_signExtend, BitVec.getLsbD_signExtend, if_pos z, if_pos hi]
    simp only [z, hi, decide_true, Bool.true_and]
  · rw [hm i hi z]; simp
/-! ===== the char cast and 65535 ===== -/
/-! ===== Int64 as a set of bits: test, set, clear ===== -/
theorem ts_nf {x : Bool} (h : ¬ x = false) : x = true := by cases x <;> first | rfl | exact absurd rfl h
theorem ts_nt {x : Bool} (h : ¬ x = true) : x = false := by cases x <;> first | rfl | exact absurd rfl h
theorem ts_bit {w : Int64} {s : UInt64} {j : Nat} (hj : j < 64) (hs : s.toNat = j) : ((w.toUInt64 >>> s).toInt64 &&& 1) = 0 ↔ w.toBitVec.getLsbD j = false := by
  have e : (w.toUInt64 >>> s).toInt64.toBitVec = w.toBitVec >>> j := by
    apply BitVec.eq_of_toNat_eq
    show (w.toUInt64 >>> s).toNat = _
    rw [UInt64.toNat_shiftRight, hs, Nat.mod_eq_of_lt hj, BitVec.toNat_ushiftRight]
    rfl
  rw [← Int64.toBitVec_inj, Int64.toBitVec_and, e]
  show w.toBitVec >>> j &&& 1#64 = 0#64 ↔ _
  constructor
  · intro h
    have t := congrArg (fun x => x.getLsbD 0) h
    simpa using t
  · intro h
    apply BitVec.eq_of_getLsbD_eq
    intro i hi
    cases i with
    | zero => simp [h]
    | succ i => simp
theorem ts_or {w m : Int64} {j : Nat} (hj : j < 64) (hm : m.toBitVec = BitVec.twoPow 64 j) : (w ||| m) = w ↔ w.toBitVec.getLsbD j = true := by
  rw [← Int64.toBitVec_inj, Int64.toBitVec_or, hm]
  constructor
  · intro h
    have t := congrArg (fun x => x.getLsbD j) h
    simp only [BitVec.getLsbD_or, BitVec.getLsbD_twoPow] at t
    simpa [hj] using t.symm
  · intro h
    apply BitVec.eq_of_getLsbD_eq
    intro i hi
    rw [BitVec.getLsbD_or, BitVec.getLsbD_twoPow]
    by_cases e : j = i
    · subst e; rw [h, Bool.true_or]
    · simp [e]
theorem ts_and {w m : Int64} {j : Nat} (hj : j < 64) (hm : m.toBitVec = BitVec.twoPow 64 j) : (w &&& (m ^^^ (-1))) = w ↔ w.toBitVec.getLsbD j = false := by
  have ha : (-1 : Int64).toBitVec = BitVec.allOnes 64 := by decide
  rw [← Int64.toBitVec_inj, Int64.toBitVec_and, Int64.toBitVec_xor, hm, ha]
  constructor
  · intro h
    have t := congrArg (fun x => x.getLsbD j) h
    simp only [BitVec.getLsbD_and, BitVec.getLsbD_xor, BitVec.getLsbD_twoPow, BitVec.getLsbD_allOnes] at t
    simpa [hj] using t.symm
  · intro h
    apply BitVec.eq_of_getLsbD_eq
    intro i hi
    rw [BitVec.getLsbD_and, BitVec.getLsbD_xor, BitVec.getLsbD_twoPow, BitVec.getLsbD_allOnes]
    by_cases e : j = i
    · subst e; rw [h, Bool.false_and]
    · simp [e, hi]
/-! ===== lN n to 2^64: shifts, and, or, masks, one bit ===== -/
theorem wb_tb (n : Nat) : (lN n).toBitVec = BitVec.ofNat 64 n := rfl
theorem wb_inj {a b : Int64} (h : a.toBitVec = b.toBitVec) : a = b := Int64.toBitVec_inj.mp h
theorem wb_tn {n : Nat} (h : n < 2 ^ 64) : (lN n).toBitVec.toNat = n := by rw [wb_tb, BitVec.toNat_ofNat, Nat.mod_eq_of_lt h]
theorem wb_of (x : Int64) : ∃ n, n < 2 ^ 64 ∧ x = lN n := ⟨x.toBitVec.toNat, x.toBitVec.isLt, wb_inj (by rw [wb_tb]; simp)⟩
theorem wb_of32 (x : Int32) : ∃ n, n < 2 ^ 32 ∧ x = nI n := ⟨x.toBitVec.toNat, x.toBitVec.isLt, Int32.toBitVec_inj.mp (by show _ = BitVec.ofNat 32 _; simp)⟩
theorem wb_c : ∀ k, k < 64 → ((nI k).toInt64 &&& 63) = lN k := by decide +kernel
theorem wb_cu : ∀ k, k < 64 → ((nI k).toInt64.toUInt64 &&& Int64.toUInt64 63) = UInt64.ofNat k := by decide +kernel
theorem wb_sm : ∀ k, k < 64 → (BitVec.ofNat 64 k).smod 64 = BitVec.ofNat 64 k := by decide +kernel
theorem wb_pw {a b : Nat} (h : a ≤ b) : 2 ^ b = 2 ^ a * 2 ^ (b - a) := by rw [← Nat.pow_add]; congr 1; omega
theorem wb_lt2 {a b : Nat} (h : a < b) : 2 ^ a < 2 ^ b := Nat.pow_lt_pow_right (by decide) h
theorem wb_mod (n : Nat) : lN n = lN (n % 2 ^ 64) := wb_inj (by rw [wb_tb, wb_tb]; apply BitVec.eq_of_toNat_eq; rw [BitVec.toNat_ofNat, BitVec.toNat_ofNat, Nat.mod_mod])
theorem wb_shr {n k : Nat} (hn : n < 2 ^ 64) (hk : k < 64) : ((lN n).toUInt64 >>> ((nI k).toInt64.toUInt64 &&& Int64.toUInt64 63)).toInt64 = lN (n / 2 ^ k) := by
  rw [wb_cu k hk]
  apply wb_inj
  apply BitVec.eq_of_toNat_eq
  show ((lN n).toUInt64 >>> UInt64.ofNat k).toNat = (BitVec.ofNat 64 _).toNat
  have h1 : (UInt64.ofNat k).toNat = k := by
    show (BitVec.ofNat 64 k).toNat = k
    rw [BitVec.toNat_ofNat, Nat.mod_eq_of_lt (by omega)]
  have h2 : (lN n).toUInt64.toNat = n := wb_tn hn
  rw [UInt64.toNat_shiftRight, h1, h2, Nat.mod_eq_of_lt hk, Nat.shiftRight_eq_div_pow, BitVec.toNat_ofNat, Nat.mod_eq_of_lt (Nat.lt_of_le_of_lt (Nat.div_le_self _ _) hn)]
theorem wb_shl (n : Nat) {k : Nat} (hk : k < 64) : lN n <<< ((nI k).toInt64 &&& 63) = lN (n * 2 ^ k) := by
  rw [wb_c k hk]
  apply wb_inj
  rw [Int64.toBitVec_shiftLeft, wb_tb, wb_tb, wb_tb, wb_sm k hk]
  apply BitVec.eq_of_toNat_eq
  rw [BitVec.shiftLeft_eq', BitVec.toNat_shiftLeft, BitVec.toNat_ofNat, BitVec.toNat_ofNat, BitVec.toNat_ofNat, Nat.mod_eq_of_lt (show k < 2 ^ 64 by omega), Nat.shiftLeft_eq, Nat.mul_mod, Nat.mod_mod, ← Nat.mul_mod]
theorem wb_and {a b : Nat} (ha : a < 2 ^ 64) (hb : b < 2 ^ 64) : lN a &&& lN b = lN (a &&& b) := by
  apply wb_inj
  rw [Int64.toBitVec_and, wb_tb, wb_tb, wb_tb]
  apply BitVec.eq_of_toNat_eq
  rw [BitVec.toNat_and, BitVec.toNat_ofNat, BitVec.toNat_ofNat, BitVec.toNat_ofNat, Nat.mod_eq_of_lt ha, Nat.mod_eq_of_lt hb, Nat.mod_eq_of_lt (Nat.and_lt_two_pow _ hb)]
theorem wb_or {a b : Nat} (ha : a < 2 ^ 64) (hb : b < 2 ^ 64) : lN a ||| lN b = lN (a ||| b) := by
  apply wb_inj
  rw [Int64.toBitVec_or, wb_tb, wb_tb, wb_tb]
  apply BitVec.eq_of_toNat_eq
  rw [BitVec.toNat_or, BitVec.toNat_ofNat, BitVec.toNat_ofNat, BitVec.toNat_ofNat, Nat.mod_eq_of_lt ha, Nat.mod_eq_of_lt hb, Nat.mod_eq_of_lt (Nat.or_lt_two_pow ha hb)]
theorem wb_mask {n k : Nat} (hn : n < 2 ^ 64) (hk : k < 64) : lN n &&& lN (2 ^ k - 1) = lN (n % 2 ^ k) := by
  rw [wb_and hn (by have := wb_lt2 hk; omega), Nat.and_two_pow_sub_one_eq_mod]
theorem wb_a1 {n : Nat} (hn : n < 2 ^ 64) : lN n &&& 1 = lN (n % 2) := wb_mask (k := 1) hn (by decide)
theorem wb_bit {n k : Nat} (hn : n < 2 ^ 64) (hk : k < 64) : ((lN n).toUInt64 >>> ((nI k).toInt64.toUInt64 &&& Int64.toUInt64 63)).toInt64 &&& 1 = lN (n / 2 ^ k % 2) := by
  rw [wb_shr hn hk, wb_a1 (Nat.lt_of_le_of_lt (Nat.div_le_self _ _) hn)]
theorem wb_xor {q k : Nat} (hk : k < 63) (h : 2 ^ k ≤ q) (h2 : q < 2 ^ (k + 1)) : lN q ^^^ lN (2 ^ k) = lN (q - 2 ^ k) := by
  obtain ⟨r, rfl⟩ : ∃ r, q = 2 ^ k + r := ⟨q - 2 ^ k, by omega⟩
  have hr : r < 2 ^ k := by rw [Nat.pow_succ] at h2; omega
  have hx : (2 ^ k + r) ^^^ 2 ^ k = r := by
    apply Nat.eq_of_testBit_eq
    intro i
    rw [Nat.testBit_xor, Nat.testBit_two_pow]
    rcases Nat.lt_trichotomy i k with h | h | h
    · rw [Nat.testBit_two_pow_add_gt h]
      simp [show ¬ k = i by omega]
    · subst h
      rw [Nat.testBit_two_pow_add_eq]
      simp
    · have a1 : 2 ^ (k + 1) ≤ 2 ^ i := Nat.pow_le_pow_right (by decide) h
      rw [Nat.testBit_lt_two_pow (show 2 ^ k + r < 2 ^ i by omega), Nat.testBit_lt_two_pow (show r < 2 ^ i by omega)]
      simp [show ¬ k = i by omega]
  have b1 := wb_lt2 (show k + 1 < 64 by omega)
  have b2 := wb_lt2 (show k < 64 by omega)
  apply wb_inj
  rw [Int64.toBitVec_xor, wb_tb, wb_tb, wb_tb]
  apply BitVec.eq_of_toNat_eq
  rw [BitVec.toNat_xor, BitVec.toNat_ofNat, BitVec.toNat_ofNat, BitVec.toNat_ofNat, Nat.mod_eq_of_lt (by omega : 2 ^ k + r < 2 ^ 64), Nat.mod_eq_of_lt b2, hx, Nat.add_sub_cancel_left, Nat.mod_eq_of_lt (by omega)]
/-! ===== lN: masks, 'or' of parts that don't overlap is a sum ===== -/
theorem u_tn {n : Nat} (h : n < 2 ^ 64) : (UInt64.ofNat n).toNat = n := Nat.mod_eq_of_lt h
theorem g_and {a b c : Nat} (ha : a < 2 ^ 64) (hb : b < 2 ^ 64) (hc : a &&& b = c) : lN a &&& lN b = lN c := by
  subst hc
  have h : UInt64.ofNat a &&& UInt64.ofNat b = UInt64.ofNat (a &&& b) := UInt64.toNat_inj.mp (by rw [UInt64.toNat_and, u_tn ha, u_tn hb, u_tn (Nat.and_lt_two_pow a hb)])
  have h2 := congrArg UInt64.toInt64 h
  exact h2
theorem g_and1 {a : Nat} (ha : a < 2 ^ 64) : lN a &&& 1 = lN (a % 2) := g_and (b := 1) ha (by decide) (Nat.and_two_pow_sub_one_eq_mod a 1)
theorem g_mask {a s p : Nat} (hp : 2 ^ s = p) (hs : s < 64) (ha : a < 2 ^ 64) : lN a &&& lN (p - 1) = lN (a % p) := by
  subst hp
  have := Nat.pow_lt_pow_right (show 1 < 2 by decide) hs
  exact g_and ha (by omega) (Nat.and_two_pow_sub_one_eq_mod a s)
theorem g_or {k p a b : Nat} (hp : 2 ^ k = p) (ha : a < p) (h : b * p + a < 2 ^ 64) : lN (b * p) ||| lN a = lN (b * p + a) := by
  subst hp
  have h1 : b * 2 ^ k ||| a = b * 2 ^ k + a := by rw [← Nat.shiftLeft_eq, Nat.shiftLeft_add_eq_or_of_lt ha]
  have h3 : UInt64.ofNat (b * 2 ^ k) ||| UInt64.ofNat a = UInt64.ofNat (b * 2 ^ k + a) := UInt64.toNat_inj.mp (by rw [UInt64.toNat_or, u_tn (by omega), u_tn (by omega), u_tn h, h1])
  have h2 := congrArg UInt64.toInt64 h3
  exact h2
theorem g_or' {k p a b : Nat} (hp : 2 ^ k = p) (ha : a < p) (h : a + b * p < 2 ^ 64) : lN a ||| lN (b * p) = lN (a + b * p) := by
  rw [Int64.or_comm, g_or hp ha (by omega), Nat.add_comm]
theorem g_ushr {a k p : Nat} {y : UInt64} (hy : y = UInt64.ofNat k) (hk : k < 64) (hp : 2 ^ k = p) (ha : a < 2 ^ 64) : ((lN a).toUInt64 >>> y).toInt64 = lN (a / p) := by
  subst hy hp
  have h : UInt64.ofNat a >>> UInt64.ofNat k = UInt64.ofNat (a / 2 ^ k) := UInt64.toNat_inj.mp (by rw [UInt64.toNat_shiftRight, u_tn ha, u_tn (by omega), u_tn (Nat.lt_of_le_of_lt (Nat.div_le_self _ _) ha), Nat.mod_eq_of_lt hk, Nat.shiftRight_eq_div_pow])
  have h2 := congrArg UInt64.toInt64 h
  exact h2
theorem g_shl {a k p : Nat} {y : Int64} (hy : y.toBitVec.smod 64 = BitVec.ofNat 64 k) (hk : k < 64) (hp : 2 ^ k = p) (ha : a < 2 ^ 64) : lN a <<< y = lN (a * p) := by
  subst hp
  apply Int64.toBitVec_inj.mp
  rw [Int64.toBitVec_shiftLeft, hy]
  apply BitVec.eq_of_toNat_eq
  have hb : (lN a).toBitVec.toNat = a := Nat.mod_eq_of_lt ha
  have hk' : (BitVec.ofNat 64 k).toNat = k := Nat.mod_eq_of_lt (by omega)
  have h : ((lN a).toBitVec <<< BitVec.ofNat 64 k).toNat = (a * 2 ^ k) % 2 ^ 64 := by simp only [BitVec.shiftLeft_eq', BitVec.toNat_shiftLeft, hb, hk', Nat.shiftLeft_eq]
  exact h
/-! ===== lN to 2^62 under >> and >>> ===== -/
theorem pf_lI {a : Nat} (h : a < 2 ^ 63) : (lN a).toInt = (a : Int) := lg_ofNat_toInt h
theorem pf_shr {a d : Nat} {D : Int64} (hD : (D.toBitVec.smod 64).toNat = d) (h : a < 2 ^ 62) : lN a >>> D = lN (a / 2 ^ d) := by
  have hd : a / 2 ^ d ≤ a := Nat.div_le_self _ _
  apply Int64.toInt_inj.mp
  have e : (lN a >>> D).toInt = (lN a).toInt >>> d := by
    rw [← hD]
    exact BitVec.toInt_sshiftRight ..
  rw [e, Int.shiftRight_eq_div_pow, pf_lI (by omega), pf_lI (by omega)]
  rfl
theorem pf_ushr {a d : Nat} {D : UInt64} (hD : D.toNat % 64 = d) (h : a < 2 ^ 62) : ((lN a).toUInt64 >>> D).toInt64 = lN (a / 2 ^ d) := by
  have hd : a / 2 ^ d ≤ a := Nat.div_le_self _ _
  have e : (lN a).toUInt64 >>> D = UInt64.ofNat (a / 2 ^ d) := UInt64.toNat_inj.mp (by
    rw [UInt64.toNat_shiftRight, hD, Nat.shiftRight_eq_div_pow, UInt64.toNat_ofNat']
    show (UInt64.ofNat a).toNat / 2 ^ d = _
    rw [UInt64.toNat_ofNat', Nat.mod_eq_of_lt (by omega), Nat.mod_eq_of_lt (by omega)])
  rw [e]
  rfl
theorem pf_andw (x : Int64) : ∃ m, m < 2 ^ 32 ∧ x &&& 4294967295 = lN m := ⟨x.toBitVec.toNat % 2 ^ 32, Nat.mod_lt _ (by decide), Int64.toBitVec_inj.mp (BitVec.eq_of_toNat_eq (by
  show (x.toBitVec &&& 4294967295#64).toNat = (BitVec.ofNat 64 (x.toBitVec.toNat % 2 ^ 32)).toNat
  rw [BitVec.toNat_and, show (4294967295#64).toNat = 2 ^ 32 - 1 from by decide, Nat.and_two_pow_sub_one_eq_mod, BitVec.toNat_ofNat]
  omega))⟩
/-! ===== Int64 as an unsigned number: uN x ===== -/
def uN (x : Int64) : Nat := x.toUInt64.toNat
theorem uN_lt (x : Int64) : uN x < 18446744073709551616 := x.toUInt64.toNat_lt
theorem uN_inj {x y : Int64} (h : uN x = uN y) : x = y := congrArg UInt64.toInt64 (UInt64.toNat_inj.mp h)
theorem uN_add (x y : Int64) : uN (x + y) = (uN x + uN y) % 18446744073709551616 := by
  show (x.toUInt64 + y.toUInt64).toNat = _
  exact UInt64.toNat_add _ _
theorem uN_mul (x y : Int64) : uN (x * y) = (uN x * uN y) % 18446744073709551616 := by
  show (x.toUInt64 * y.toUInt64).toNat = _
  exact UInt64.toNat_mul _ _
theorem uN_shl (x : Int64) : uN (x <<< ((1 : Int32).toInt64 &&& 63)) = (2 * uN x) % 18446744073709551616 := by
  have h : (((1 : Int32).toInt64 &&& 63).toBitVec.smod 64).toNat = 1 := by decide
  show (x.toBitVec <<< (((1 : Int32).toInt64 &&& 63).toBitVec.smod 64).toNat).toNat = _
  rw [h, BitVec.toNat_shiftLeft, Nat.shiftLeft_eq, Nat.mul_comm]
  rfl
theorem uN_shr (x : Int64) (s : UInt64) : uN (x.toUInt64 >>> s).toInt64 = uN x / 2 ^ (s.toNat % 64) := by
  show (x.toUInt64 >>> s).toNat = _
  rw [UInt64.toNat_shiftRight, Nat.shiftRight_eq_div_pow]
  rfl
theorem uN_s32 (x : Int64) : uN (x.toUInt64 >>> ((32 : Int32).toInt64.toUInt64 &&& Int64.toUInt64 63)).toInt64 = uN x / 4294967296 := by
  have h : ((32 : Int32).toInt64.toUInt64 &&& Int64.toUInt64 63).toNat % 64 = 32 := by decide
  rw [uN_shr, h]
theorem uN_s63 (x : Int64) : uN (x.toUInt64 >>> ((63 : Int32).toInt64.toUInt64 &&& Int64.toUInt64 63)).toInt64 = uN x / 9223372036854775808 := by
  have h : ((63 : Int32).toInt64.toUInt64 &&& Int64.toUInt64 63).toNat % 64 = 63 := by decide
  rw [uN_shr, h]
theorem uN_lo (x : Int64) : uN (x &&& 4294967295) = uN x % 4294967296 := by
  show (x.toUInt64 &&& Int64.toUInt64 4294967295).toNat = _
  rw [UInt64.toNat_and]
  exact Nat.and_two_pow_sub_one_eq_mod _ 32
theorem uN_bit (x : Int64) : (x &&& 1) = 0 ↔ uN x % 2 = 0 := by
  have h : uN (x &&& 1) = uN x % 2 := by
    show (x.toUInt64 &&& Int64.toUInt64 1).toNat = _
    rw [UInt64.toNat_and]
    exact Nat.and_two_pow_sub_one_eq_mod _ 1
  rw [← h]
  exact ⟨fun z => by rw [z]; rfl, fun z => uN_inj (z.trans rfl)⟩
theorem uN_or {x y : Int64} (hy : uN y < 2) : uN ((x <<< ((1 : Int32).toInt64 &&& 63)) ||| y) = (2 * uN x) % 18446744073709551616 + uN y := by
  have h1 : uN ((x <<< ((1 : Int32).toInt64 &&& 63)) ||| y) = uN (x <<< ((1 : Int32).toInt64 &&& 63)) ||| uN y := UInt64.toNat_or _ _
  have h2 : (2 * uN x) % 18446744073709551616 = 2 ^ 1 * (uN x % 9223372036854775808) := by omega
  rw [h1, uN_shl, h2]
  exact (Nat.two_pow_add_eq_or_of_lt (i := 1) hy _).symm
theorem nat_xor {a : Nat} (h : a < 18446744073709551616) : a ^^^ 2 ^ 63 = (a + 9223372036854775808) % 18446744073709551616 := by
  have h1 : (a ^^^ 2 ^ 63) % 2 ^ 63 = a % 2 ^ 63 := by rw [Nat.xor_mod_two_pow, Nat.mod_self, Nat.xor_zero]
  have h2 : (a ^^^ 2 ^ 63) / 2 ^ 63 = (a / 2 ^ 63) ^^^ 1 := by rw [Nat.xor_div_two_pow, Nat.div_self (Nat.two_pow_pos 63)]
  have h3 : a / 2 ^ 63 = 0 ∨ a / 2 ^ 63 = 1 := by omega
  generalize a ^^^ 2 ^ 63 = t at h1 h2
  rcases h3 with h3 | h3
  · rw [h3] at h2
    have h2 : t / 2 ^ 63 = 1 := h2
    omega
  · rw [h3] at h2
    have h2 : t / 2 ^ 63 = 0 := h2
    omega
theorem uN_xor (x : Int64) : uN (x ^^^ (-9223372036854775808)) = (uN x + 9223372036854775808) % 18446744073709551616 := by
  rw [← nat_xor (uN_lt x)]
  exact UInt64.toNat_xor _ _
theorem uN_int (x : Int64) : x.toInt = if 2 * uN x < 18446744073709551616 then (uN x : Int) else (uN x : Int) - 18446744073709551616 := BitVec.toInt_eq_toNat_cond _
theorem uN_le (x y : Int64) : (x ^^^ (-9223372036854775808)) ≤ (y ^^^ (-9223372036854775808)) ↔ uN x ≤ uN y := by
  have hx := uN_lt x
  have hy := uN_lt y
  rw [Int64.le_iff_toInt_le, uN_int, uN_int, uN_xor, uN_xor]
  omega
theorem uN_sk (x : Int64) {k : Nat} (hk : k < 64) : uN (x.toUInt64 >>> ((nI k).toInt64.toUInt64 &&& Int64.toUInt64 63)).toInt64 = uN x / 2 ^ k := by
  have h : ((nI k).toInt64.toUInt64 &&& Int64.toUInt64 63).toNat % 64 = k := by
    rw [nI_l (by omega), UInt64.toNat_and]
    have e : (lN k).toUInt64.toNat = k % 2 ^ 64 := rfl
    have e2 : (Int64.toUInt64 63).toNat = 2 ^ 6 - 1 := by decide
    rw [e, e2, Nat.and_two_pow_sub_one_eq_mod]
    omega
  rw [uN_shr, h]
/-! ===== unsigned comparison by xor with the least ===== -/
theorem lN_bv (n : Nat) : (lN n).toBitVec = BitVec.ofNat 64 n := rfl
theorem lN_nat {n : Nat} (h : n < 2 ^ 64) : (lN n).toBitVec.toNat = n := by rw [lN_bv, BitVec.toNat_ofNat]; exact Nat.mod_eq_of_lt h
theorem lN_xor (a b : Nat) : lN a ^^^ lN b = lN (a ^^^ b) := by
  apply Int64.toBitVec_inj.mp; rw [Int64.toBitVec_xor, lN_bv, lN_bv, lN_bv]; apply BitVec.eq_of_getLsbD_eq; intro i hi; simp [BitVec.getLsbD_ofNat, Nat.testBit_xor, hi]
theorem lN_ti {m : Nat} (h : m < 2 ^ 64) : (lN m).toInt = if m < 2 ^ 63 then (m : Int) else (m : Int) - 2 ^ 64 := by
  have c := BitVec.toInt_eq_toNat_cond (lN m).toBitVec
  rw [lN_nat h] at c
  show (lN m).toBitVec.toInt = _
  rw [c]
  split <;> split <;> omega
theorem xor63 {x : Nat} (h : x < 2 ^ 63) : x ^^^ 2 ^ 63 = 2 ^ 63 + x := by
  apply Nat.eq_of_testBit_eq
  intro i
  rw [Nat.testBit_xor, Nat.testBit_two_pow]
  rcases Nat.lt_trichotomy i 63 with z | z | z
  · rw [Nat.testBit_two_pow_add_gt z, decide_eq_false (by omega)]; simp
  · subst z; rw [Nat.testBit_two_pow_add_eq]; simp
  · have hp : 2 ^ 64 ≤ 2 ^ i := Nat.pow_le_pow_right (by decide) z
    rw [Nat.testBit_lt_two_pow (show x < 2 ^ i by omega), Nat.testBit_lt_two_pow (show 2 ^ 63 + x < 2 ^ i by omega), decide_eq_false (by omega)]; rfl
theorem xorS {a : Nat} (h : a < 2 ^ 64) : (lN a ^^^ (-9223372036854775808)).toInt = (a : Int) - 2 ^ 63 := by
  rw [show (-9223372036854775808 : Int64) = lN (2 ^ 63) from by decide +kernel, lN_xor]
  rcases Nat.lt_or_ge a (2 ^ 63) with z | z
  · rw [xor63 z, lN_ti (by omega), if_neg (by omega)]; omega
  · obtain ⟨x, rfl⟩ : ∃ x, a = 2 ^ 63 + x := ⟨a - 2 ^ 63, by omega⟩
    rw [← xor63 (by omega), Nat.xor_assoc, Nat.xor_self, Nat.xor_zero, lN_ti (by omega), if_pos (by omega), xor63 (by omega)]; omega
theorem ultL {a b : Nat} (ha : a < 2 ^ 64) (hb : b < 2 ^ 64) : ((lN b ^^^ (-9223372036854775808)) ≤ (lN a ^^^ (-9223372036854775808))) ↔ b ≤ a := by
  rw [Int64.le_iff_toInt_le, xorS ha, xorS hb]; omega
/-! ===== Int64 masks of n low bits ===== -/
theorem cr_bits (W U M : BitVec 64) : ((W &&& U) &&& (U &&& (M ^^^ BitVec.allOnes 64))) = 0#64 ↔ (W &&& U) &&& M = W &&& U := by
  constructor
  · intro h
    apply BitVec.eq_of_getLsbD_eq
    intro i hi
    have e := congrArg (fun x => BitVec.getLsbD x i) h
    simp only [BitVec.getLsbD_and, BitVec.getLsbD_xor, BitVec.getLsbD_allOnes, BitVec.getLsbD_zero, hi, decide_true] at e ⊢
    revert e
    cases W.getLsbD i <;> cases U.getLsbD i <;> cases M.getLsbD i <;> decide
  · intro h
    apply BitVec.eq_of_getLsbD_eq
    intro i hi
    have e := congrArg (fun x => BitVec.getLsbD x i) h
    simp only [BitVec.getLsbD_and, BitVec.getLsbD_xor, BitVec.getLsbD_allOnes, BitVec.getLsbD_zero, hi, decide_true] at e ⊢
    revert e
    cases W.getLsbD i <;> cases U.getLsbD i <;> cases M.getLsbD i <;> decide
theorem cr_mask (w U m : Int64) (n : Nat) (hm : m.toBitVec.toNat = 2 ^ n - 1) : ((w &&& U) &&& (U &&& (m ^^^ (-1)))) = 0 ↔ (w &&& U).toBitVec.toNat < 2 ^ n := by
  have e0 : (-1 : Int64).toBitVec = BitVec.allOnes 64 := by decide
  have z0 : (0 : Int64).toBitVec = 0#64 := by decide
  rw [← Int64.toBitVec_inj, z0, Int64.toBitVec_and, Int64.toBitVec_and, Int64.toBitVec_and, Int64.toBitVec_xor, e0, cr_bits]
  generalize w.toBitVec &&& U.toBitVec = T
  rw [← BitVec.toNat_inj, BitVec.toNat_and, hm, Nat.and_two_pow_sub_one_eq_mod]
  constructor
  · intro h
    have t := Nat.mod_lt T.toNat (Nat.two_pow_pos n)
    rw [h] at t
    exact t
  · exact Nat.mod_eq_of_lt
theorem cr_shr (t : Int64) (x : UInt64) (n : Nat) (hx : x.toNat % 64 = n) : (t.toUInt64 >>> x).toInt64 = 0 ↔ t.toBitVec.toNat < 2 ^ n := by
  rw [← Int64.toBitVec_inj, ← BitVec.toNat_inj]
  show (t.toUInt64 >>> x).toNat = 0 ↔ t.toUInt64.toNat < 2 ^ n
  rw [UInt64.toNat_shiftRight, hx, Nat.shiftRight_eq_div_pow]
  constructor
  · intro h
    have d : t.toUInt64.toNat / 2 ^ n < 1 := by
      rw [h]
      decide
    have e := (Nat.div_lt_iff_lt_mul (Nat.two_pow_pos n)).mp d
    rw [Nat.one_mul] at e
    exact e
  · exact Nat.div_eq_of_lt
theorem cr_amt (s : Int64) : ∃ n, n < 64 ∧ s &&& 63 = lN n ∧ (s.toUInt64 &&& Int64.toUInt64 63).toNat % 64 = n := by
  have e : (s.toUInt64 &&& Int64.toUInt64 63).toNat = s.toUInt64.toNat % 2 ^ 6 := by
    rw [UInt64.toNat_and, show (Int64.toUInt64 63).toNat = 2 ^ 6 - 1 from by decide, Nat.and_two_pow_sub_one_eq_mod]
  refine ⟨s.toUInt64.toNat % 2 ^ 6, by omega, ?_, by omega⟩
  rw [← Int64.toBitVec_inj, ← BitVec.toNat_inj]
  show (s.toUInt64 &&& Int64.toUInt64 63).toNat = (BitVec.ofNat 64 (s.toUInt64.toNat % 2 ^ 6)).toNat
  rw [e, BitVec.toNat_ofNat]
  omega
end
section
theorem sI_1 (σ : Sg) (k j : Nat) (v : Int32) (a b : Nat) : (sI σ k j v).1 a b = if a = k ∧ b = j then v else σ.1 a b := rfl
theorem sI_2 (σ : Sg) (k j : Nat) (v : Int32) : (sI σ k j v).2 = σ.2 := rfl
theorem sL_1 (σ : Sg) (k j : Nat) (v : Int64) : (sL σ k j v).1 = σ.1 := rfl
theorem sL_2 (σ : Sg) (k j : Nat) (v : Int64) (a b : Nat) : (sL σ k j v).2 a b = if a = k ∧ b = j then v else σ.2 a b := rfl
theorem rI_n {α : Type} {σ : Sg} {k n j : Nat} {f : Int32 → Option α} (h : j < n) (hn : n < 2 ^ 31) : rI σ k n (nI j) f = f (σ.1 k j) := by
  unfold rI
  rw [if_pos (nI_in h hn), nI_clamp (Nat.lt_trans h hn)]
theorem rL_n {α : Type} {σ : Sg} {k n j : Nat} {f : Int64 → Option α} (h : j < n) (hn : n < 2 ^ 31) : rL σ k n (nI j) f = f (σ.2 k j) := by
  unfold rL
  rw [if_pos (nI_in h hn), nI_clamp (Nat.lt_trans h hn)]
theorem wI_n {α : Type} {σ : Sg} {k n j : Nat} {v : Int32} {f : Sg → Option α} (h : j < n) (hn : n < 2 ^ 31) : wI σ k n (nI j) v f = f (sI σ k j v) := by
  unfold wI
  rw [if_pos (nI_in h hn), nI_clamp (Nat.lt_trans h hn)]
theorem wL_n {α : Type} {σ : Sg} {k n j : Nat} {v : Int64} {f : Sg → Option α} (h : j < n) (hn : n < 2 ^ 31) : wL σ k n (nI j) v f = f (sL σ k j v) := by
  unfold wL
  rw [if_pos (nI_in h hn), nI_clamp (Nat.lt_trans h hn)]
theorem cP_s {α β : Type} (r : β) (f : β → Option α) : cP (some r) f = f r := rfl
theorem cA_s {α β : Type} (r : β) (σ : Sg) (f : β → Sg → Option α) : cA (some (r, σ)) f = f r σ := rfl
theorem pI_s {α : Type} (σ : Sg) (k j : Nat) (v : Int32) (f : Sg → Option α) : pI σ k j v f = f (sI σ k j v) := rfl
theorem pL_s {α : Type} (σ : Sg) (k j : Nat) (v : Int64) (f : Sg → Option α) : pL σ k j v f = f (sL σ k j v) := rfl
theorem jn_s {α β : Type} (k : α) (b : α → β) : jn k b = b k := rfl
theorem mH_t {α : Type} {c : Prop} [Decidable c] {o : Option α} (h : c) : mH c o = o := if_pos h
/-- a number that is written out -/
theorem li (n : Nat) : (OfNat.ofNat n : Int32) = nI n := rfl
theorem liL (n : Nat) : (OfNat.ofNat n : Int64) = lN n := rfl
theorem nI_m1 {n : Nat} (h : n < 2 ^ 31) : ¬ nI n = -1 := by
  intro e
  have h2 := congrArg Int32.toInt e
  rw [nI_toInt h] at h2
  have h3 : (-1 : Int32).toInt = -1 := by decide
  rw [h3] at h2
  omega
theorem lg_cmp_0 (x y : Int64) : lg_cmp x y = 0 ↔ x = y := by
  unfold lg_cmp
  have h1 : ¬ (1 : Int32) = 0 := by decide
  have h2 : ¬ (-1 : Int32) = 0 := by decide
  by_cases h : x = y
  · subst h
    have : ¬ x > x := by
      show ¬ x < x
      rw [Int64.lt_iff_toInt_lt]; omega
    simp [this]
  · by_cases g : x > y
    · simp [g, h]
    · simp [g, h]
theorem c_lt {a : Nat} (n : Nat) (ha : a < 2 ^ 31) (hn : n < 2 ^ 31) : nI a < (OfNat.ofNat n : Int32) ↔ a < n := nI_ltI ha hn
theorem c_le {a : Nat} (n : Nat) (ha : a < 2 ^ 31) (hn : n < 2 ^ 31) : nI a ≤ (OfNat.ofNat n : Int32) ↔ a ≤ n := nI_leI ha hn
theorem c_gt {a : Nat} (n : Nat) (ha : a < 2 ^ 31) (hn : n < 2 ^ 31) : (OfNat.ofNat n : Int32) < nI a ↔ n < a := nI_ltI hn ha
theorem c_ge {a : Nat} (n : Nat) (ha : a < 2 ^ 31) (hn : n < 2 ^ 31) : (OfNat.ofNat n : Int32) ≤ nI a ↔ n ≤ a := nI_leI hn ha
theorem c_eq {a : Nat} (n : Nat) (ha : a < 2 ^ 31) (hn : n < 2 ^ 31) : nI a = (OfNat.ofNat n : Int32) ↔ a = n := nI_eq ha hn
theorem c_eq' {a : Nat} (n : Nat) (ha : a < 2 ^ 31) (hn : n < 2 ^ 31) : (OfNat.ofNat n : Int32) = nI a ↔ n = a := nI_eq hn ha
end
section
/-! words as numbers, five bits a letter -/
def enc : List Nat → Nat
  | [] => 0
  | x :: w => x + 32 * enc w
/-- letters 1 .. 26 -/
def lok1 (w : List Nat) : Prop := ∀ x ∈ w, 1 ≤ x ∧ x ≤ 26
theorem lok1_tail {x : Nat} {w : List Nat} (h : lok1 (x :: w)) : lok1 w := fun y hy => h y (List.mem_cons_of_mem _ hy)
theorem lok1_drop {w : List Nat} (h : lok1 w) (i : Nat) : lok1 (w.drop i) := fun y hy => h y (List.mem_of_mem_drop hy)
theorem lok1_take {w : List Nat} (h : lok1 w) (i : Nat) : lok1 (w.take i) := fun y hy => h y (List.mem_of_mem_take hy)
theorem enc_lt : ∀ {w : List Nat}, lok1 w → enc w < 32 ^ w.length
  | [], _ => by simp [enc]
  | x :: w, h => by
    have h1 := enc_lt (lok1_tail h)
    have h2 := h x List.mem_cons_self
    simp only [enc, List.length_cons, Nat.pow_succ]
    omega
theorem enc_pos : ∀ {w : List Nat}, lok1 w → w ≠ [] → 0 < enc w
  | [], _, h => absurd rfl h
  | x :: w, h, _ => by
    have h2 := h x List.mem_cons_self
    simp only [enc]
    omega
theorem enc_0 {w : List Nat} (h : lok1 w) : enc w = 0 ↔ w = [] := by
  constructor
  · intro e
    by_cases hw : w = []
    · exact hw
    · have := enc_pos h hw
      omega
  · rintro rfl; rfl
theorem enc_div : ∀ {w : List Nat} (i : Nat), lok1 w → enc w / 32 ^ i = enc (w.drop i)
  | w, 0, _ => by simp
  | [], i + 1, _ => by simp [enc]
  | x :: w, i + 1, h => by
    have h2 := h x List.mem_cons_self
    have h3 := enc_div (w := w) i (lok1_tail h)
    simp only [enc, List.drop_succ_cons]
    rw [← h3, Nat.pow_succ, Nat.mul_comm (32 ^ i) 32, ← Nat.div_div_eq_div_mul]
    congr 1
    omega
theorem enc_mod1 {w : List Nat} (h : lok1 w) : enc w % 32 = w.headD 0 := by
  cases w with
  | nil => rfl
  | cons x w =>
    have h2 := h x List.mem_cons_self
    simp only [enc, List.headD]
    omega
theorem enc_app (a b : List Nat) : enc (a ++ b) = enc a + 32 ^ a.length * enc b := by
  induction a with
  | nil => simp [enc]
  | cons x a ih =>
    simp only [List.cons_append, enc, ih, List.length_cons, Nat.pow_succ]
    rw [Nat.mul_add, Nat.add_assoc, Nat.mul_comm (32 ^ a.length) 32, Nat.mul_assoc]
theorem enc_inj : ∀ {a b : List Nat}, lok1 a → lok1 b → enc a = enc b → a = b
  | [], b, _, hb, h => ((enc_0 hb).mp h.symm).symm
  | x :: a, [], ha, _, h => (enc_0 ha).mp h
  | x :: a, y :: b, ha, hb, h => by
    have h1 := ha x List.mem_cons_self
    have h2 := hb y List.mem_cons_self
    simp only [enc] at h
    have h3 : x = y := by omega
    have h4 : enc a = enc b := by omega
    rw [h3, enc_inj (lok1_tail ha) (lok1_tail hb) h4]
theorem enc_take {w : List Nat} (i : Nat) (h : lok1 w) : enc w % 32 ^ i = enc (w.take i) := by
  rcases Nat.lt_or_ge i w.length with hi | hi
  · have h1 := enc_app (w.take i) (w.drop i)
    rw [List.take_append_drop, List.length_take, Nat.min_eq_left (Nat.le_of_lt hi)] at h1
    have h2 := enc_lt (lok1_take h i)
    rw [List.length_take, Nat.min_eq_left (Nat.le_of_lt hi)] at h2
    rw [h1, Nat.add_mul_mod_self_left, Nat.mod_eq_of_lt h2]
  · rw [List.take_of_length_le hi]
    apply Nat.mod_eq_of_lt
    exact Nat.lt_of_lt_of_le (enc_lt h) (Nat.pow_le_pow_right (by decide) hi)
theorem pow32 (i : Nat) : (2 : Nat) ^ (5 * i) = 32 ^ i := by rw [Nat.pow_mul]
theorem enc_60 {w : List Nat} (h : lok1 w) (hl : w.length ≤ 12) : enc w < 2 ^ 60 := by
  have h1 := enc_lt h
  have h2 : (32 : Nat) ^ w.length ≤ 32 ^ 12 := Nat.pow_le_pow_right (by decide) hl
  have h3 : (32 : Nat) ^ 12 = 2 ^ 60 := by decide
  omega
/-- a word as the program has it -/
def eL (w : List Nat) : Int64 := lN (enc w)
theorem eL_nil : eL [] = 0 := rfl
theorem eL_inj {a b : List Nat} (ha : lok1 a) (hb : lok1 b) (la : a.length ≤ 12) (lb : b.length ≤ 12) : eL a = eL b ↔ a = b := by
  unfold eL
  have h1 := enc_60 ha la
  have h2 := enc_60 hb lb
  rw [pk_lEQ (by omega) (by omega)]
  exact ⟨enc_inj ha hb, fun h => by rw [h]⟩
theorem eL_0 {w : List Nat} (h : lok1 w) (hl : w.length ≤ 12) : eL w = 0 ↔ w = [] := by
  rw [← eL_nil, eL_inj h (fun _ h => by cases h) hl (by simp)]
theorem eL_shr {w : List Nat} (h : lok1 w) (hl : w.length ≤ 12) {i : Nat} (hi : i ≤ 12) : (Int64.toUInt64 (eL w) >>> ((Int32.toInt64 (5 * nI i)).toUInt64 &&& Int64.toUInt64 63)).toInt64 = eL (w.drop i) := by
  have h1 := enc_60 h hl
  rw [li 5, pk_mul]
  unfold eL
  rw [wb_shr (by omega) (by omega), pow32, enc_div i h]
theorem sizeOf_L {σ : Sg} {w : List Nat} (h : lok1 w) (hl : w.length ≤ 12) : ∀ (n i : Nat), i ≤ w.length → w.length < n + i → f_X0_sizeOf_L2 (some 12) σ (eL w) n (nI i) = some (nI w.length) := by
  intro n
  induction n with
  | zero => intro i h1 h2; omega
  | succ n ih =>
    intro i h1 h2
    rw [f_X0_sizeOf_L2]
    by_cases h12 : 12 ≤ i
    · have hi : i = 12 := by omega
      have : w.length = 12 := by omega
      subst hi
      rw [if_pos (show (12 : Int32) ≤ nI 12 by decide), this]
      rfl
    · rw [if_neg (show ¬ (12 : Int32) ≤ nI i from fun hc => h12 ((nI_leI (a := 12) (by omega) (by omega)).mp hc)), eL_shr h hl (by omega)]
      by_cases hi : i = w.length
      · subst hi
        rw [if_pos (by rw [lg_cmp_0, List.drop_length]; rfl)]
      · rw [if_neg, nI_1, ih (i + 1) (by omega) (by omega)]
        rw [lg_cmp_0, eL_0 (lok1_drop h i) (by rw [List.length_drop]; omega), List.drop_eq_nil_iff]
        omega
theorem sizeOf_s {σ : Sg} {w : List Nat} (h : lok1 w) (hl : w.length ≤ 12) : f_X0_sizeOf σ (eL w) = some (nI w.length) :=
  sizeOf_L h hl fu 0 (Nat.zero_le _) (by unfold fu; omega)
/-- letter i of a word, as it is answered -/
def letA (w : List Nat) (i : Nat) : Int32 := match w[i]? with
  | some x => nI (x + 96)
  | none => -1
theorem toI32 {n : Nat} (h : n < 2 ^ 64) : Int64.toInt32 (lN n) = nI n := by
  rw [lN_i]
theorem and31 (n : Nat) : nI n &&& 31 = nI (n % 32) := by
  have := pk_and (nI n) (m := 31) 5 (by decide)
  rw [this]
  have h : (nI n).toBitVec.toNat = n % 2 ^ 32 := by
    unfold nI
    simp
  rw [h]
  congr 1
  omega
theorem at_s {σ : Sg} {w : List Nat} (h : lok1 w) (hl : w.length ≤ 12) {i : Nat} (hi : i < 2 ^ 31) : f_X0_at σ (eL w) (nI i) = some (letA w i) := by
  unfold f_X0_at
  rw [if_neg (nI_pos hi)]
  by_cases h12 : i < 12
  · rw [if_pos (show nI i < 12 from (nI_ltI (b := 12) hi (by decide)).mpr h12), eL_shr h hl (by omega)]
    have e : (Int64.toInt32 (eL (w.drop i)) &&& 31) = nI ((w.drop i).headD 0) := by
      unfold eL
      rw [lN_i, and31, enc_mod1 (lok1_drop h i)]
    rw [e]
    unfold letA
    cases hw : w[i]? with
    | none =>
      have hd : w.drop i = [] := by
        rw [List.drop_eq_nil_iff]
        exact List.getElem?_eq_none_iff.mp hw
      rw [hd]
      rfl
    | some x =>
      obtain ⟨hlt, hx⟩ := List.getElem?_eq_some_iff.mp hw
      have hd : w.drop i = x :: w.drop (i + 1) := by rw [List.drop_eq_getElem_cons hlt, hx]
      have hx1 := h x (by rw [← hx]; exact List.getElem_mem hlt)
      rw [show (w.drop i).headD 0 = x by rw [hd]; rfl]
      rw [if_neg (nI_ne0 (show 0 < x by omega) (by omega)), li 96, nI_add]
  · rw [if_neg (show ¬ nI i < 12 from fun hc => h12 ((nI_ltI (b := 12) hi (by decide)).mp hc))]
    unfold letA
    rw [List.getElem?_eq_none_iff.mpr (by omega)]
theorem with_s {σ : Sg} {w : List Nat} (h : lok1 w) (hl : w.length < 12) {x : Nat} (hx : 1 ≤ x ∧ x ≤ 26) : f_X0_with σ (eL w) (nI w.length) (nI (x + 96)) = some (eL (w ++ [x])) := by
  unfold f_X0_with
  rw [if_neg (nI_pos (by omega)), if_pos (show nI w.length < 12 from (nI_ltI (b := 12) (by omega) (by decide)).mpr hl)]
  have e1 : nI (x + 96) - 96 = nI x := by
    have := pk_sub (a := x + 96) (b := 96) (by omega)
    rw [li 96, this]
    congr 1
  have h60 := enc_60 h (by omega)
  have hlt := enc_lt h
  rw [e1, nI_l (by omega), li 5, pk_mul, wb_shl x (by omega), pow32]
  unfold eL
  have hb : enc w + x * 32 ^ w.length < 2 ^ 64 := by
    have h2 : (32 : Nat) ^ w.length ≤ 32 ^ 11 := Nat.pow_le_pow_right (by decide) (by omega)
    have h3 : x * 32 ^ w.length ≤ 26 * 32 ^ 11 := Nat.mul_le_mul hx.2 h2
    have h4 : 26 * (32 : Nat) ^ 11 < 2 ^ 60 := by decide
    omega
  rw [g_or' (k := 5 * w.length) (pow32 w.length) hlt hb, enc_app]
  simp only [enc]
  rw [Nat.mul_comm]
  congr 2
theorem lN_sub1 {n : Nat} (h : 1 ≤ n) : lN n - 1 = lN (n - 1) := lN_sub h
/-- the word without its last letters, if these are the ending -/
theorem without_s {σ : Sg} {w e : List Nat} (h : lok1 w) (he : lok1 e) (hl : w.length ≤ 12) (hle : e.length ≤ 12) (hne : e ≠ []) : f_X0_without σ (eL w) (eL e) (nI w.length - nI e.length) = some (if w.drop (w.length - e.length) = e ∧ e.length < w.length then eL (w.take (w.length - e.length)) else 0) := by
  have he0 : 0 < e.length := List.length_pos_iff.mpr hne
  unfold f_X0_without
  by_cases hlt : e.length < w.length
  · have e1 : nI w.length - nI e.length = nI (w.length - e.length) := pk_sub (by omega)
    rw [e1, if_neg (show ¬ nI (w.length - e.length) ≤ 0 from fun hc => by have := (nI_leI (b := 0) (by omega) (by decide)).mp hc; omega), if_neg (show ¬ (12 : Int32) ≤ nI (w.length - e.length) from fun hc => by have := (nI_leI (a := 12) (by decide) (by omega)).mp hc; omega), eL_shr h hl (by omega)]
    have hdl : (w.drop (w.length - e.length)).length ≤ 12 := by rw [List.length_drop]; omega
    by_cases hd : w.drop (w.length - e.length) = e
    · rw [if_pos (by rw [lg_cmp_0, hd]), if_pos ⟨hd, hlt⟩]
      congr 1
      rw [li 5, pk_mul]
      have e2 : (1 : Int64) <<< ((nI (5 * (w.length - e.length))).toInt64 &&& 63) = lN (2 ^ (5 * (w.length - e.length))) := by
        have := wb_shl 1 (k := 5 * (w.length - e.length)) (by omega)
        rw [Nat.one_mul] at this
        exact this
      rw [e2, lN_sub1 (Nat.one_le_two_pow)]
      unfold eL
      have h60 := enc_60 h hl
      rw [wb_mask (by omega) (by omega), pow32, enc_take _ h]
    · rw [if_neg (by rw [lg_cmp_0, eL_inj (lok1_drop h _) he hdl hle]; exact hd), if_neg (fun hc => hd hc.1)]
  · rw [if_pos, if_neg (fun hc => hlt hc.2)]
    rw [Int32.le_iff_toInt_le, pk_sub_toInt (by omega) (by omega)]
    have : (0 : Int32).toInt = 0 := by decide
    omega
theorem isLetter7_s {σ : Sg} (a : Int32) : f_X0_isLetter σ a = some (if 97 ≤ a ∧ a ≤ 122 then 1 else 0) := by
  unfold f_X0_isLetter
  by_cases h1 : a < 97
  · rw [if_pos h1, if_neg]
    intro h
    rw [Int32.le_iff_toInt_le] at h
    rw [Int32.lt_iff_toInt_lt] at h1
    omega
  · rw [if_neg h1]
    have h1' : 97 ≤ a := by rw [Int32.le_iff_toInt_le]; rw [Int32.lt_iff_toInt_lt] at h1; omega
    by_cases h2 : 122 < a
    · rw [if_pos h2, if_neg]
      intro h
      have := h.2
      rw [Int32.le_iff_toInt_le] at this
      rw [Int32.lt_iff_toInt_lt] at h2
      omega
    · rw [if_neg h2, if_pos]
      refine ⟨h1', ?_⟩
      rw [Int32.le_iff_toInt_le]; rw [Int32.lt_iff_toInt_lt] at h2; omega
/-- a letter is its number from 1 on -/
theorem letter_of {a : Int32} (h : 97 ≤ a ∧ a ≤ 122) : ∃ x : Nat, 1 ≤ x ∧ x ≤ 26 ∧ a = nI (x + 96) := by
  obtain ⟨h1, h2⟩ := h
  rw [Int32.le_iff_toInt_le] at h1 h2
  have e1 : (97 : Int32).toInt = 97 := by decide
  have e2 : (122 : Int32).toInt = 122 := by decide
  rw [e1] at h1
  rw [e2] at h2
  have h0 : ¬ a < 0 := by
    rw [Int32.lt_iff_toInt_lt]
    have : (0 : Int32).toInt = 0 := by decide
    omega
  obtain ⟨j, hj, rfl⟩ := nI_of h0
  rw [nI_toInt hj] at h1 h2
  exact ⟨j - 96, by omega, by omega, by congr 1; omega⟩
end
section
/-! the mathematical state -/
theorem sI_row (σ : Sg) (k j : Nat) (v : Int32) (a : Nat) : (sI σ k j v).1 a = if a = k then (fun b => if b = j then v else σ.1 k b) else σ.1 a := by
  by_cases h : a = k
  · subst h
    rw [if_pos rfl]
    funext b
    simp [sI]
  · rw [if_neg h]
    funext b
    simp [sI, h]
theorem sL_row (σ : Sg) (k j : Nat) (v : Int64) (a : Nat) : (sL σ k j v).2 a = if a = k then (fun b => if b = j then v else σ.2 k b) else σ.2 a := by
  by_cases h : a = k
  · subst h
    rw [if_pos rfl]
    funext b
    simp [sL]
  · rw [if_neg h]
    funext b
    simp [sL, h]
theorem sI_ne (σ : Sg) {k j : Nat} {v : Int32} {a : Nat} (h : a ≠ k) : (sI σ k j v).1 a = σ.1 a := by rw [sI_row, if_neg h]
theorem sL_ne (σ : Sg) {k j : Nat} {v : Int64} {a : Nat} (h : a ≠ k) : (sL σ k j v).2 a = σ.2 a := by rw [sL_row, if_neg h]
/-- terms and endings: how many terms, endings; a term's number of words, its words, weight, bent, preferred; the endings -/
abbrev Bk : Type := Nat × Nat × (Nat → Nat) × (Nat → Nat → List Nat) × (Nat → Nat) × (Nat → Nat) × (Nat → Int32) × (Nat → List Nat)
def b_tc (B : Bk) : Nat := B.1
def b_ec (B : Bk) : Nat := B.2.1
def b_n (B : Bk) : Nat → Nat := B.2.2.1
def b_w (B : Bk) : Nat → Nat → List Nat := B.2.2.2.1
def b_we (B : Bk) : Nat → Nat := B.2.2.2.2.1
def b_be (B : Bk) : Nat → Nat := B.2.2.2.2.2.1
def b_pr (B : Bk) : Nat → Int32 := B.2.2.2.2.2.2.1
def b_en (B : Bk) : Nat → List Nat := B.2.2.2.2.2.2.2
/-- a word -/
def wok (m : Nat) (w : List Nat) : Prop := lok1 w ∧ 1 ≤ w.length ∧ w.length ≤ m
/-- how many signs the first words have, each with one behind it -/
def b_sum (f : Nat → List Nat) : Nat → Nat
  | 0 => 0
  | k + 1 => b_sum f k + ((f k).length + 1)
def Tmok (B : Bk) (t : Nat) : Prop := (1 ≤ b_n B t ∧ b_n B t ≤ 4) ∧ (1 ≤ b_we B t ∧ b_we B t ≤ 9) ∧ b_be B t ≤ 1 ∧ (b_pr B t = -1 ∨ ∃ u, u < b_tc B ∧ b_pr B t = nI u) ∧ (∀ k, k < b_n B t → wok 12 (b_w B t k)) ∧ b_sum (b_w B t) (b_n B t) ≤ 51
def Bok (B : Bk) : Prop := b_tc B ≤ 8 ∧ b_ec B ≤ 5 ∧ (∀ t, t < b_tc B → Tmok B t) ∧ ∀ e, e < b_ec B → wok 4 (b_en B e)
/-- the text: how many words; a word's letters, too long, sentence; sentences that have ended; the word that comes, too long -/
abbrev Tx : Type := Nat × (Nat → List Nat) × (Nat → Nat) × (Nat → Nat) × Nat × List Nat × Nat
def t_c (T : Tx) : Nat := T.1
def t_w (T : Tx) : Nat → List Nat := T.2.1
def t_l (T : Tx) : Nat → Nat := T.2.2.1
def t_s (T : Tx) : Nat → Nat := T.2.2.2.1
def t_se (T : Tx) : Nat := T.2.2.2.2.1
def t_cw (T : Tx) : List Nat := T.2.2.2.2.2.1
def t_cl (T : Tx) : Nat := T.2.2.2.2.2.2
def Tok (T : Tx) : Prop := t_c T ≤ 60 ∧ (∀ i, i < t_c T → wok 12 (t_w T i) ∧ t_l T i ≤ 1 ∧ t_s T i ≤ i) ∧ t_se T ≤ t_c T ∧ (lok1 (t_cw T) ∧ (t_cw T).length ≤ 12) ∧ t_cl T ≤ 1 ∧ (t_c T = 60 → t_cw T = []) ∧ (t_cw T = [] → t_cl T = 0)
/-- the slip: 0 a blank, else a letter -/
def Sok (S : List Nat) : Prop := S.length ≤ 50 ∧ ∀ x ∈ S, x ≤ 26
def sgn (x : Nat) : Int32 := if x = 0 then 32 else nI (x + 96)
/-- the whole: slip, terms, text, images -/
abbrev Ms : Type := List Nat × Bk × Tx × (Nat → Option Bk)
def Mok (M : Ms) : Prop := Sok M.1 ∧ Bok M.2.1 ∧ Tok M.2.2.1 ∧ ∀ i B, M.2.2.2 i = some B → Bok B
/-! what is met, found -/
/-- word i of the text meets word k of term t -/
def mt (B : Bk) (T : Tx) (i t k : Nat) : Prop := t_l T i = 0 ∧ (t_w T i = b_w B t k ∨ (b_be B t = 1 ∧ ∃ e, e < b_ec B ∧ t_w T i = b_w B t k ++ b_en B e))
/-- n words from i on, of one sentence, meet the first ones of term t -/
def met (B : Bk) (T : Tx) (t i n : Nat) : Prop := ∀ k, k < n → t_s T (i + k) = t_s T i ∧ mt B T (i + k) t k
def fnd (B : Bk) (T : Tx) (t i : Nat) : Prop := i + b_n B t ≤ t_c T ∧ met B T t i (b_n B t)
/-! rows of the cells -/
def slipP (n : Int32) (f : Nat → Int32) (S : List Nat) : Prop := n = nI S.length ∧ ∀ i x, S[i]? = some x → f i = sgn x
def lexP (f0 : Nat → Int32) (l1 : Nat → Int64) (f2 f3 f4 f5 : Nat → Int32) (l6 : Nat → Int64) (B : Bk) : Prop :=
  f0 0 = nI (b_tc B) ∧ f0 6 = nI (b_ec B) ∧ (∀ t, t < b_tc B → f2 t = nI (b_n B t) ∧ f3 t = nI (b_we B t) ∧ f4 t = nI (b_be B t) ∧ f5 t = b_pr B t ∧ ∀ k, k < b_n B t → l1 (4 * t + k) = eL (b_w B t k)) ∧ ∀ e, e < b_ec B → l6 e = eL (b_en B e)
def wordP (f : Nat → Int32) (p : Nat) (w : List Nat) : Prop := f p = nI w.length ∧ ∀ i x, w[i]? = some x → f (p + 1 + i) = nI (x + 96)
def bookP (f : Nat → Int32) (B : Bk) : Prop :=
  f 0 = nI (b_tc B) ∧ f 1 = nI (b_ec B) ∧ (∀ t, t < b_tc B → f (2 + 56 * t) = nI (b_n B t) ∧ f (2 + 56 * t + 1) = nI (b_we B t) ∧ f (2 + 56 * t + 2) = nI (b_be B t) ∧ f (2 + 56 * t + 3) = b_pr B t ∧ ∀ k, k < b_n B t → wordP f (2 + 56 * t + 4 + 13 * k) (b_w B t k)) ∧ ∀ e, e < b_ec B → wordP f (450 + 5 * e) (b_en B e)
def textC (f : Nat → Int32) (l : Nat → Int64) (lw : Nat → Int64) (fl fs : Nat → Int32) (T : Tx) : Prop :=
  f 0 = nI (t_c T) ∧ f 4 = nI (t_se T) ∧ l 5 = eL (t_cw T) ∧ f 6 = nI (t_cl T) ∧ ∀ i, i < t_c T → lw i = eL (t_w T i) ∧ fl i = nI (t_l T i) ∧ fs i = nI (t_s T i)
def textP (f : Nat → Int32) (x : Nat → Int32) (T : Tx) : Prop :=
  f 6 = nI (t_c T) ∧ f 7 = nI (t_se T) ∧ (∀ i, i < t_c T → (x (15 * i) = nI (t_w T i).length ∧ ∀ j y, (t_w T i)[j]? = some y → x (15 * i + 3 + j) = nI (y + 96)) ∧ x (15 * i + 1) = nI (t_s T i) ∧ x (15 * i + 2) = nI (t_l T i)) ∧ (x (15 * t_c T) = nI (t_cw T).length ∧ ∀ j y, (t_cw T)[j]? = some y → x (15 * t_c T + 3 + j) = nI (y + 96)) ∧ x (15 * t_c T + 2) = nI (t_cl T)
/-- what the scan knows of the first lk words -/
def lookP (fb fs : Nat → Int32) (B : Bk) (T : Tx) (lk : Nat) : Prop :=
  (∀ i, i < lk → ∀ t k, t < 8 → k < 4 → (bt (fb i) (4 * t + k) = true ↔ t < b_tc B ∧ k < b_n B t ∧ k ≤ i ∧ met B T t (i - k) (k + 1))) ∧
  ∀ i, i < lk → ∀ j, j < 32 → (bt (fs i) j = true ↔ j < b_tc B ∧ i + b_n B j ≤ lk ∧ met B T j i (b_n B j))
/-- both agree on what the other side has -/
def Un43 (σ σ' : Sg) : Prop := ∀ k, 43 ≤ k → σ'.1 k = σ.1 k
def Un42 (σ σ' : Sg) : Prop := σ'.2 = σ.2 ∧ ∀ k, k ≤ 42 → σ'.1 k = σ.1 k
theorem Un43.rf {σ : Sg} : Un43 σ σ := fun _ _ => rfl
theorem Un42.rf {σ : Sg} : Un42 σ σ := ⟨rfl, fun _ _ => rfl⟩
theorem Un43.tr {a b c : Sg} (h1 : Un43 a b) (h2 : Un43 b c) : Un43 a c := fun k h => (h2 k h).trans (h1 k h)
theorem Un42.tr {a b c : Sg} (h1 : Un42 a b) (h2 : Un42 b c) : Un42 a c := ⟨h2.1.trans h1.1, fun k h => (h2.2 k h).trans (h1.2 k h)⟩
theorem Un43.i {a b : Sg} {k j : Nat} {v : Int32} (hk : k < 43) (h : Un43 a b) : Un43 a (sI b k j v) := fun x hx => by
  rw [sI_ne b (by omega)]
  exact h x hx
theorem Un43.l {a b : Sg} {k j : Nat} {v : Int64} (h : Un43 a b) : Un43 a (sL b k j v) := h
theorem Un42.i {a b : Sg} {k j : Nat} {v : Int32} (hk : 42 < k) (h : Un42 a b) : Un42 a (sI b k j v) := ⟨h.1, fun x hx => by
  rw [sI_ne b (by omega)]
  exact h.2 x hx⟩
end
section
/-! what is chosen, and the mended text, as mathematics -/
noncomputable def fB (B : Bk) (T : Tx) (t i : Nat) : Bool := @decide (fnd B T t i) (Classical.propDecidable _)
theorem fB_iff {B : Bk} {T : Tx} {t i : Nat} : fB B T t i = true ↔ fnd B T t i := @decide_eq_true_iff _ (Classical.propDecidable _)
theorem fB_f {B : Bk} {T : Tx} {t i : Nat} : fB B T t i = false ↔ ¬ fnd B T t i := by
  rw [← fB_iff]
  cases fB B T t i <;> simp
/-- whether term t, of that worth with that few, is better than what is best so far -/
def bet (B : Bk) (p : Nat × Nat × Int32) (wo fe t : Nat) : Prop := p.1 < wo ∨ (wo = p.1 ∧ (fe < p.2.1 ∨ (fe = p.2.1 ∧ (p.2.2 = -1 ∨ b_n B p.2.2.toNatClampNeg < b_n B t))))
def betD (B : Bk) (p : Nat × Nat × Int32) (wo fe t : Nat) : Decidable (bet B p wo fe t) := by unfold bet; exact inferInstance
/-- the best at word i out of the first terms -/
noncomputable def stp (B : Bk) (T : Tx) (W F : Nat → Nat) (i : Nat) : Nat → Nat × Nat × Int32
  | 0 => (W (i + 1), F (i + 1), -1)
  | t + 1 => @ite _ (fB B T t i = true ∧ bet B (stp B T W F i t) (b_we B t * b_n B t + W (i + b_n B t)) (1 + F (i + b_n B t)) t) (Classical.propDecidable _) (b_we B t * b_n B t + W (i + b_n B t), 1 + F (i + b_n B t), nI t) (stp B T W F i t)
/-- the last d words are weighed -/
noncomputable def dp (B : Bk) (T : Tx) : Nat → (Nat → Nat) × (Nat → Nat) × (Nat → Int32)
  | 0 => (fun _ => 0, fun _ => 0, fun _ => -1)
  | d + 1 => (fun j => if j = t_c T - (d + 1) then (stp B T (dp B T d).1 (dp B T d).2.1 (t_c T - (d + 1)) (b_tc B)).1 else (dp B T d).1 j,
      fun j => if j = t_c T - (d + 1) then (stp B T (dp B T d).1 (dp B T d).2.1 (t_c T - (d + 1)) (b_tc B)).2.1 else (dp B T d).2.1 j,
      fun j => if j = t_c T - (d + 1) then (stp B T (dp B T d).1 (dp B T d).2.1 (t_c T - (d + 1)) (b_tc B)).2.2 else (dp B T d).2.2 j)
noncomputable def wth (B : Bk) (T : Tx) : Nat → Nat := (dp B T (t_c T)).1
noncomputable def few (B : Bk) (T : Tx) : Nat → Nat := (dp B T (t_c T)).2.1
noncomputable def tk (B : Bk) (T : Tx) : Nat → Int32 := (dp B T (t_c T)).2.2
/-- the words of the term that is taken -/
def kn (B : Bk) (x : Int32) : Nat := b_n B x.toNatClampNeg
/-- the first word that is free ahead of word i -/
noncomputable def fr (B : Bk) (T : Tx) : Nat → Nat
  | 0 => 0
  | i + 1 => if fr B T i ≤ i ∧ tk B T i ≠ -1 then i + kn B (tk B T i) else fr B T i
/-- the term that is chosen at word i; -1 -/
noncomputable def ch (B : Bk) (T : Tx) (i : Nat) : Int32 := if fr B T i ≤ i then tk B T i else -1
/-- how many are chosen ahead of word i -/
noncomputable def cc (B : Bk) (T : Tx) : Nat → Nat
  | 0 => 0
  | i + 1 => if ch B T i = -1 then cc B T i else cc B T i + 1
/-- the number of what is chosen over word i; -1 -/
noncomputable def co (B : Bk) (T : Tx) (i : Nat) : Int32 := if i < fr B T (i + 1) then nI (cc B T (i + 1) - 1) else -1
def setP (f30 fw ff ft fca fct fco : Nat → Int32) (B : Bk) (T : Tx) : Prop :=
  (∀ i, i ≤ t_c T → fw i = nI (wth B T i) ∧ ff i = nI (few B T i)) ∧ (∀ i, i < t_c T → ft i = tk B T i) ∧ f30 11 = nI (cc B T (t_c T)) ∧ (∀ i, i < t_c T → ch B T i ≠ -1 → fca (cc B T i) = nI i ∧ fct (cc B T i) = ch B T i) ∧ ∀ i, i < t_c T → fco i = co B T i
/-! the mended text -/
def lts (w : List Nat) : List Nat := w.map (fun x => x + 96)
def addW (a : List Nat) (w : List Nat) : List Nat := (if a = [] then [] else a ++ [32]) ++ lts w
/-- the first k words of a term -/
def addT (a : List Nat) (f : Nat → List Nat) : Nat → List Nat
  | 0 => a
  | k + 1 => addW (addT a f k) (f k)
/-- whether word i is the last of a sentence that has ended -/
def eS (T : Tx) (i : Nat) : Prop := (i + 1 = t_c T ∨ t_s T (i + 1) ≠ t_s T i) ∧ t_s T i < t_se T
def eSD (T : Tx) (i : Nat) : Decidable (eS T i) := by unfold eS; exact inferInstance
/-- the term that is chosen over word i, from its start; -1 -/
noncomputable def ov (B : Bk) (T : Tx) : Nat → Int32
  | 0 => ch B T 0
  | i + 1 => if ch B T (i + 1) ≠ -1 then ch B T (i + 1) else if i + 1 < fr B T (i + 2) then ov B T i else -1
/-- what is to be said instead over word i -/
noncomputable def ins (B : Bk) (T : Tx) (i : Nat) : Int32 := if ov B T i = -1 then -1 else b_pr B (ov B T i).toNatClampNeg
noncomputable def mnd (B : Bk) (T : Tx) : Nat → List Nat
  | 0 => []
  | i + 1 => (if ins B T i = -1 then addW (mnd B T i) (t_w T i) else if ch B T i ≠ -1 then addT (mnd B T i) (b_w B (ins B T i).toNatClampNeg) (kn B (ins B T i)) else mnd B T i) ++ (@ite _ (eS T i) (eSD T i) [46] [])
def mndP (f40 f41 : Nat → Int32) (m : List Nat) : Prop := f40 4 = nI m.length ∧ ∀ i x, m[i]? = some x → f41 i = nI x
/-! the invariant -/
def scanP (f30 fb fs fw ff ft fca fct fco : Nat → Int32) (B : Bk) (T : Tx) : Prop :=
  ∃ lk, lk ≤ t_c T ∧ f30 2 = nI lk ∧ lookP fb fs B T lk ∧ (f30 3 = 0 ∨ (f30 3 = 1 ∧ lk = t_c T ∧ setP f30 fw ff ft fca fct fco B T))
def mendP (f40 f41 : Nat → Int32) (B : Bk) (T : Tx) : Prop := f40 5 = 0 ∨ (f40 5 = 1 ∧ mndP f40 f41 (mnd B T (t_c T)))
/-- an image: kept or not -/
def imgC (f0 : Nat → Int32) (l1 : Nat → Int64) (f2 f3 f4 f5 : Nat → Int32) (l6 : Nat → Int64) (o : Option Bk) : Prop := match o with
  | none => f0 8 = 0
  | some B => f0 8 = 1 ∧ lexP f0 l1 f2 f3 f4 f5 l6 B
def imgP (k : Int32) (f : Nat → Int32) (o : Option Bk) : Prop := match o with
  | none => k = 0
  | some B => k = 1 ∧ bookP f B
/-- the parts of the class's side that terms and endings, the text, the slip, the images stand in; and what the scan and the mended text keep -/
def lexC (σ : Sg) (B : Bk) : Prop := lexP (σ.1 4) (σ.2 5) (σ.1 6) (σ.1 7) (σ.1 8) (σ.1 9) (σ.2 10) B
def txtC (σ : Sg) (T : Tx) : Prop := textC (σ.1 26) (σ.2 26) (σ.2 27) (σ.1 28) (σ.1 29) T
def slpC (σ : Sg) (S : List Nat) : Prop := slipP (σ.1 1 1) (σ.1 2) S
def imsC (σ : Sg) (im : Nat → Option Bk) : Prop := imgC (σ.1 12) (σ.2 13) (σ.1 14) (σ.1 15) (σ.1 16) (σ.1 17) (σ.2 18) (im 0) ∧ imgC (σ.1 19) (σ.2 20) (σ.1 21) (σ.1 22) (σ.1 23) (σ.1 24) (σ.2 25) (im 1)
def scnC (σ : Sg) (B : Bk) (T : Tx) : Prop := scanP (σ.1 30) (σ.1 32) (σ.1 33) (σ.1 34) (σ.1 35) (σ.1 36) (σ.1 37) (σ.1 38) (σ.1 39) B T
def mndC (σ : Sg) (B : Bk) (T : Tx) : Prop := mendP (σ.1 40) (σ.1 41) B T
def InvC (σ : Sg) (M : Ms) : Prop := slpC σ M.1 ∧ lexC σ M.2.1 ∧ txtC σ M.2.2.1 ∧ imsC σ M.2.2.2 ∧ scnC σ M.2.1 M.2.2.1 ∧ mndC σ M.2.1 M.2.2.1
def InvR (σ : Sg) (M : Ms) : Prop := slipP (σ.1 43 4) (σ.1 47) M.1 ∧ bookP (σ.1 44) M.2.1 ∧ textP (σ.1 43) (σ.1 48) M.2.2.1 ∧ imgP (σ.1 46 0) (fun j => σ.1 45 j) (M.2.2.2 0) ∧ imgP (σ.1 46 1) (fun j => σ.1 45 (475 + j)) (M.2.2.2 1)
def InvA (σ : Sg) : Prop := ∃ M, Mok M ∧ InvC σ M ∧ InvR σ M
theorem InvR.cg {σ σ' : Sg} {M : Ms} (h : InvR σ M) (u : Un43 σ σ') : InvR σ' M := by
  unfold InvR
  rw [u 43 (by omega), u 44 (by omega), u 45 (by omega), u 46 (by omega), u 47 (by omega), u 48 (by omega)]
  exact h
theorem InvC.cg {σ σ' : Sg} {M : Ms} (h : InvC σ M) (u : Un42 σ σ') : InvC σ' M := by
  unfold InvC slpC lexC txtC imsC scnC mndC
  rw [u.1, u.2 1 (by omega), u.2 2 (by omega), u.2 4 (by omega), u.2 6 (by omega), u.2 7 (by omega), u.2 8 (by omega), u.2 9 (by omega), u.2 12 (by omega), u.2 14 (by omega), u.2 15 (by omega), u.2 16 (by omega), u.2 17 (by omega), u.2 19 (by omega), u.2 21 (by omega), u.2 22 (by omega), u.2 23 (by omega), u.2 24 (by omega), u.2 26 (by omega), u.2 28 (by omega), u.2 29 (by omega), u.2 30 (by omega), u.2 32 (by omega), u.2 33 (by omega), u.2 34 (by omega), u.2 35 (by omega), u.2 36 (by omega), u.2 37 (by omega), u.2 38 (by omega), u.2 39 (by omega), u.2 40 (by omega), u.2 41 (by omega)]
  exact h
/-- a call: the class's step, then the reference's, over one mathematical step -/
theorem step2 {f7 : Sg → Option (Int32 × Sg)} {f8 : Sg → Option (Int32 × Sg)} {σ : Sg} (h : InvA σ)
    (hs : ∀ M, Mok M → ∃ (r : Int32) (M' : Ms), Mok M' ∧ (InvC σ M → ∃ σ1, f7 σ = some (r, σ1) ∧ InvC σ1 M' ∧ Un43 σ σ1) ∧ (∀ s, InvR s M → ∃ s2, f8 s = some (r, s2) ∧ InvR s2 M' ∧ Un42 s s2)) :
    ∃ (r : Int32) (σ1 σ2 : Sg), f7 σ = some (r, σ1) ∧ f8 σ1 = some (r, σ2) ∧ InvA σ2 := by
  obtain ⟨M, hm, hC, hR⟩ := h
  obtain ⟨r, M', hm', h7, h8⟩ := hs M hm
  obtain ⟨σ1, e1, hC1, u1⟩ := h7 hC
  obtain ⟨σ2, e2, hR2, u2⟩ := h8 σ1 (hR.cg u1)
  exact ⟨r, σ1, σ2, e1, e2, M', hm', hC1.cg u2, hR2⟩
end
section
theorem i32_nlt {a b : Int32} : ¬ a < b ↔ b ≤ a := by
  rw [Int32.lt_iff_toInt_lt, Int32.le_iff_toInt_le]; omega
theorem i32_nle {a b : Int32} : ¬ a ≤ b ↔ b < a := by
  rw [Int32.lt_iff_toInt_lt, Int32.le_iff_toInt_le]; omega
theorem in8_s {σ : Sg} (a lo hi : Int32) : f_X8_in σ a lo hi = some (if lo ≤ a ∧ a ≤ hi then 1 else 0) := by
  unfold f_X8_in
  by_cases h1 : a < lo
  · rw [if_pos h1, if_neg]
    intro h
    exact (i32_nlt.mpr h.1) h1
  · rw [if_neg h1]
    by_cases h2 : hi < a
    · rw [if_pos h2, if_neg]
      intro h
      exact (i32_nlt.mpr h.2) h2
    · rw [if_neg h2, if_pos ⟨i32_nlt.mp h1, i32_nlt.mp h2⟩]
theorem isLetter8_s {σ : Sg} (a : Int32) : f_X8_isLetter σ a = some (if 97 ≤ a ∧ a ≤ 122 then 1 else 0) := by
  unfold f_X8_isLetter
  rw [in8_s, cP_s, mH_t]
  split
  · right; rfl
  · left; rfl
/-- a sign of the slip -/
theorem sgn_of {a : Int32} (h : (97 ≤ a ∧ a ≤ 122) ∨ a = 32) : ∃ x, x ≤ 26 ∧ a = sgn x := by
  rcases h with h | h
  · obtain ⟨x, h1, h2, rfl⟩ := letter_of h
    exact ⟨x, h2, by unfold sgn; rw [if_neg (by omega)]⟩
  · exact ⟨0, by omega, by subst h; rfl⟩
theorem slipP_add {n : Int32} {f : Nat → Int32} {S : List Nat} {x : Nat} (h : slipP n f S) : slipP (nI (S.length + 1)) (fun b => if b = S.length then sgn x else f b) (S ++ [x]) := by
  refine ⟨by simp, fun i y hi => ?_⟩
  rw [List.getElem?_append] at hi
  dsimp only
  split at hi
  · rename_i hl
    rw [if_neg (by omega)]
    exact h.2 i y hi
  · rename_i hl
    have : i = S.length := by
      rcases Nat.lt_or_ge (i - S.length) 1 with g | g
      · omega
      · rw [List.getElem?_eq_none_iff.mpr (by simpa using g)] at hi
        cases hi
    subst this
    simp at hi
    rw [if_pos rfl, hi]
theorem Sok_add {S : List Nat} {x : Nat} (h : Sok S) (hx : x ≤ 26) (hl : S.length < 50) : Sok (S ++ [x]) := by
  refine ⟨by simp; omega, fun y hy => ?_⟩
  rcases List.mem_append.mp hy with g | g
  · exact h.2 y g
  · rw [List.mem_singleton.mp g]; exact hx
theorem ps_spell (σ : Sg) (a : Int32) (h : InvA σ) : ∃ (r : Int32) (σ1 σ2 : Sg), f_X7_spell σ a = some (r, σ1) ∧ f_X8_spell σ1 a = some (r, σ2) ∧ InvA σ2 := by
  refine step2 (f7 := fun s => f_X7_spell s a) (f8 := fun s => f_X8_spell s a) h (fun M hm => ?_)
  by_cases hl : (97 ≤ a ∧ a ≤ 122) ∨ a = 32
  · obtain ⟨x, hx, rfl⟩ := sgn_of hl
    by_cases hf : M.1.length < 50
    · refine ⟨nI (M.1.length + 1), (M.1 ++ [x], M.2), ⟨Sok_add hm.1 hx hf, hm.2⟩, fun hC => ?_, fun s hR => ?_⟩
      · obtain ⟨hsl, hrest⟩ := hC
        have e1 : σ.1 1 1 = nI M.1.length := hsl.1
        refine ⟨sI (sI σ 2 M.1.length (sgn x)) 1 1 (nI (M.1.length + 1)), ?_, ?_, Un43.i (by omega) (Un43.i (by omega) Un43.rf)⟩
        · have e2 : f_X5_add σ (sgn x) = some (1, sI (sI σ 2 M.1.length (sgn x)) 1 1 (nI (M.1.length + 1))) := by
            unfold f_X5_add
            rw [e1, if_pos ((c_lt 50 (by omega) (by decide)).mpr hf), wI_n hf (by decide), pI_s]
            simp [sI_1, e1, nI_1]
          unfold f_X7_spell
          rw [isLetter7_s, cP_s, jn_s, e2, cA_s]
          have h1 : ¬ (1 : Int32) = 0 := by decide
          rcases hl with hl | hl
          · simp [hl, sI_1]
          · have h2 : ¬ (97 ≤ sgn x ∧ sgn x ≤ 122) := by rw [hl]; decide
            simp [hl, h2, sI_1]
        · have h2 := slipP_add (x := x) hsl
          refine ⟨?_, ?_⟩
          · unfold slpC
            simpa [sI_row, sI_1] using h2
          · simpa [lexC, txtC, imsC, scnC, mndC, sI_row, sI_2] using hrest
      · obtain ⟨hsl, hrest⟩ := hR
        have e1 : s.1 43 4 = nI M.1.length := hsl.1
        refine ⟨sI (sI s 47 M.1.length (sgn x)) 43 4 (nI (M.1.length + 1)), ?_, ?_, Un42.i (by omega) (Un42.i (by omega) Un42.rf)⟩
        · unfold f_X8_spell
          have hne : ¬ nI M.1.length = 50 := fun hc => by have := (c_eq 50 (by omega) (by decide)).mp hc; omega
          rw [isLetter8_s, cP_s, jn_s, e1, if_neg hne, wI_n hf (by decide), pI_s]
          rcases hl with hl | hl
          · simp [hl, sI_1, e1, nI_1]
          · have h2 : ¬ (97 ≤ sgn x ∧ sgn x ≤ 122) := by rw [hl]; decide
            simp [hl, h2, sI_1, e1, nI_1]
        · have h2 := slipP_add (x := x) hsl
          refine ⟨?_, ?_⟩
          · simpa [sI_row, sI_1] using h2
          · simpa [textP, sI_row, sI_1] using hrest
    · have h50 : M.1.length = 50 := by have := hm.1.1; omega
      refine ⟨-1000000004, M, hm, fun hC => ?_, fun s hR => ?_⟩
      · have e1 : σ.1 1 1 = nI 50 := by rw [← h50]; exact hC.1.1
        refine ⟨σ, ?_, hC, Un43.rf⟩
        have e2 : f_X5_add σ (sgn x) = some (0, σ) := by
          unfold f_X5_add
          rw [e1, if_neg (by decide)]
        unfold f_X7_spell
        rw [isLetter7_s, cP_s, jn_s, e2, cA_s]
        rcases hl with hl | hl
        · simp [hl]
        · have h2 : ¬ (97 ≤ sgn x ∧ sgn x ≤ 122) := by rw [hl]; decide
          simp [hl]
      · have e1 : s.1 43 4 = 50 := by
          have : s.1 43 4 = nI M.1.length := hR.1.1
          rw [this, h50]; rfl
        refine ⟨s, ?_, hR, Un42.rf⟩
        unfold f_X8_spell
        rw [isLetter8_s, cP_s, jn_s, e1]
        rcases hl with hl | hl
        · simp [hl]
        · simp [hl]
  · have h1 : ¬ (97 ≤ a ∧ a ≤ 122) := fun h => hl (Or.inl h)
    have h2 : ¬ a = 32 := fun h => hl (Or.inr h)
    refine ⟨-1000000002, M, hm, fun hC => ⟨σ, ?_, hC, Un43.rf⟩, fun s hR => ⟨s, ?_, hR, Un42.rf⟩⟩
    · unfold f_X7_spell
      rw [isLetter7_s, cP_s, jn_s, if_neg h1, if_pos rfl, if_neg h2]
    · unfold f_X8_spell
      rw [isLetter8_s, cP_s, jn_s, if_neg h1, if_pos rfl, if_neg h2]
end
section
/-! the words of the slip -/
def sp (S : List Nat) : Nat → Nat × (Nat → List Nat) × Bool
  | 0 => (0, fun _ => [], false)
  | i + 1 => if S.getD i 0 = 0 then ((sp S i).1, (sp S i).2.1, false)
      else if (sp S i).2.2 = true then ((sp S i).1, fun k => if k = (sp S i).1 - 1 then (sp S i).2.1 k ++ [S.getD i 0] else (sp S i).2.1 k, true)
      else ((sp S i).1 + 1, fun k => if k = (sp S i).1 then [S.getD i 0] else (sp S i).2.1 k, true)
def spm (S : List Nat) (i : Nat) : Nat := (sp S i).1
def spg (S : List Nat) (i : Nat) : Nat → List Nat := (sp S i).2.1
def spo (S : List Nat) (i : Nat) : Bool := (sp S i).2.2
theorem sp_b {S : List Nat} {i : Nat} (h : S.getD i 0 = 0) : spm S (i + 1) = spm S i ∧ spg S (i + 1) = spg S i ∧ spo S (i + 1) = false := by
  unfold spm spg spo
  rw [sp, if_pos h]
  exact ⟨rfl, rfl, rfl⟩
theorem sp_t {S : List Nat} {i : Nat} (h : ¬ S.getD i 0 = 0) (ho : spo S i = true) : spm S (i + 1) = spm S i ∧ spg S (i + 1) = (fun k => if k = spm S i - 1 then spg S i k ++ [S.getD i 0] else spg S i k) ∧ spo S (i + 1) = true := by
  unfold spo at ho
  unfold spm spg spo
  rw [sp, if_neg h, if_pos ho]
  exact ⟨rfl, rfl, rfl⟩
theorem sp_f {S : List Nat} {i : Nat} (h : ¬ S.getD i 0 = 0) (ho : spo S i = false) : spm S (i + 1) = spm S i + 1 ∧ spg S (i + 1) = (fun k => if k = spm S i then [S.getD i 0] else spg S i k) ∧ spo S (i + 1) = true := by
  unfold spo at ho
  unfold spm spg spo
  rw [sp, if_neg h, if_neg (by rw [ho]; decide)]
  exact ⟨rfl, rfl, rfl⟩
theorem b_sum_cg {f g : Nat → List Nat} : ∀ {n : Nat}, (∀ k, k < n → f k = g k) → b_sum f n = b_sum g n
  | 0, _ => rfl
  | n + 1, h => by
    simp only [b_sum]
    rw [b_sum_cg (fun k hk => h k (by omega)), h n (by omega)]
/-- what the words are like -/
theorem sp_ok {S : List Nat} (hS : ∀ x ∈ S, x ≤ 26) : ∀ i, i ≤ S.length → (spo S i = true → 1 ≤ spm S i) ∧ (∀ k, k < spm S i → lok1 (spg S i k) ∧ 1 ≤ (spg S i k).length) ∧ b_sum (spg S i) (spm S i) ≤ i + (if spo S i = true then 1 else 0) := by
  intro i
  induction i with
  | zero => intro _; exact ⟨fun h => (by cases h), fun k hk => absurd hk (Nat.not_lt_zero k), by simp [spm, sp, b_sum]⟩
  | succ i ih =>
    intro hi
    obtain ⟨h1, h2, h3⟩ := ih (by omega)
    have hx26 : S.getD i 0 ≤ 26 := by
      rw [List.getD_eq_getElem?_getD, List.getElem?_eq_getElem (by omega)]
      exact hS _ (List.getElem_mem _)
    by_cases hx : S.getD i 0 = 0
    · obtain ⟨e1, e2, e3⟩ := sp_b hx
      rw [e1, e2, e3]
      refine ⟨fun h => (by cases h), h2, ?_⟩
      have : (if spo S i = true then 1 else 0) ≤ 1 := by split <;> omega
      simp
      omega
    · by_cases ho : spo S i = true
      · obtain ⟨e1, e2, e3⟩ := sp_t hx ho
        rw [e1, e2, e3]
        have hm := h1 ho
        refine ⟨fun _ => hm, fun k hk => ?_, ?_⟩
        · dsimp only
          split
          · refine ⟨fun y hy => ?_, by simp⟩
            rcases List.mem_append.mp hy with g | g
            · exact (h2 k hk).1 y g
            · rw [List.mem_singleton.mp g]; omega
          · exact h2 k hk
        · obtain ⟨m, hm2⟩ : ∃ m, spm S i = m + 1 := ⟨spm S i - 1, by omega⟩
          rw [ho] at h3
          rw [hm2] at h3 ⊢
          simp only [b_sum, if_true, Nat.add_sub_cancel, List.length_append, List.length_singleton] at h3 ⊢
          rw [b_sum_cg (g := spg S i) (fun k hk => by rw [if_neg (by omega)])]
          omega
      · have ho : spo S i = false := by simpa using ho
        obtain ⟨e1, e2, e3⟩ := sp_f hx ho
        rw [e1, e2, e3]
        refine ⟨fun _ => by omega, fun k hk => ?_, ?_⟩
        · dsimp only
          split
          · refine ⟨fun y hy => ?_, by simp⟩
            rw [List.mem_singleton.mp hy]; omega
          · exact h2 k (by omega)
        · rw [ho] at h3
          simp only [b_sum, if_true, List.length_singleton]
          rw [b_sum_cg (g := spg S i) (fun k hk => by rw [if_neg (by omega)])]
          simp at h3
          omega
theorem b_sum_ge {f : Nat → List Nat} : ∀ {n : Nat}, (∀ k, k < n → 1 ≤ (f k).length) → 2 * n ≤ b_sum f n
  | 0, _ => by simp [b_sum]
  | n + 1, h => by
    have h1 := b_sum_ge (f := f) (n := n) (fun k hk => h k (by omega))
    have h2 := h n (by omega)
    simp only [b_sum]
    omega
theorem b_sum_len {f : Nat → List Nat} : ∀ {n k : Nat}, k < n → (f k).length + 1 ≤ b_sum f n
  | 0, k, h => absurd h (Nat.not_lt_zero k)
  | n + 1, k, h => by
    simp only [b_sum]
    rcases Nat.lt_or_ge k n with g | g
    · have := b_sum_len (f := f) g
      omega
    · have : k = n := by omega
      subst this
      omega
theorem sp_m {S : List Nat} (hS : Sok S) {i : Nat} (hi : i ≤ S.length) : 2 * spm S i ≤ i + (if spo S i = true then 1 else 0) ∧ spm S i ≤ 25 ∧ ∀ k, k < spm S i → (spg S i k).length ≤ 50 := by
  obtain ⟨h1, h2, h3⟩ := sp_ok hS.2 i hi
  have h4 := b_sum_ge (f := spg S i) (fun k hk => (h2 k hk).2)
  have h5 : (if spo S i = true then 1 else 0) ≤ 1 := by split <;> omega
  have h6 := hS.1
  refine ⟨by omega, by omega, fun k hk => ?_⟩
  have := b_sum_len (f := spg S i) hk
  omega
/-- the words could be those of a term -/
def fit (S : List Nat) (i : Nat) : Prop := spm S i ≤ 4 ∧ ∀ k, k < spm S i → (spg S i k).length ≤ 12
noncomputable def fitI (S : List Nat) (i : Nat) : Int32 := @ite _ (fit S i) (Classical.propDecidable _) 1 0
theorem fitI_t {S : List Nat} {i : Nat} (h : fit S i) : fitI S i = 1 := by unfold fitI; rw [if_pos h]
theorem fitI_f {S : List Nat} {i : Nat} (h : ¬ fit S i) : fitI S i = 0 := by unfold fitI; rw [if_neg h]
def spl (S : List Nat) (i : Nat) : Nat := if spo S i = true then (spg S i (spm S i - 1)).length else 0
theorem sgn_at {n : Int32} {f : Nat → Int32} {S : List Nat} (h : slipP n f S) {i : Nat} (hi : i < S.length) : f i = sgn (S.getD i 0) := by
  rw [List.getD_eq_getElem?_getD, List.getElem?_eq_getElem hi]
  exact h.2 i _ (List.getElem?_eq_getElem hi)
theorem sgn_32 {x : Nat} (hx : x ≤ 26) : sgn x = 32 ↔ x = 0 := by
  unfold sgn
  by_cases h : x = 0
  · simp [h]
  · rw [if_neg h]
    constructor
    · intro e
      have := (c_eq 32 (by omega) (by decide)).mp e
      omega
    · intro e; exact absurd e h
theorem nI_s1 {m : Nat} (h : 1 ≤ m) : nI m - 1 = nI (m - 1) := by
  obtain ⟨j, rfl⟩ : ∃ j, m = j + 1 := ⟨m - 1, by omega⟩
  rw [nI_pred, Nat.add_sub_cancel]
theorem takeWords_L {σ : Sg} {S : List Nat} (hS : Sok S) (h1 : slpC σ S) {k : Sg → Int32 → Int32 → Option (Int32 × Sg)} : ∀ (n i : Nat) (s : Sg), i ≤ S.length → S.length < n + i → s.1 = σ.1 → (∀ a, a ≠ 3 → s.2 a = σ.2 a) → (fit S i → ∀ j, j < spm S i → s.2 3 j = eL (spg S i j)) →
    ∃ s', s'.1 = σ.1 ∧ (∀ a, a ≠ 3 → s'.2 a = σ.2 a) ∧ (fit S S.length → ∀ j, j < spm S S.length → s'.2 3 j = eL (spg S S.length j)) ∧ f_X5_takeWords_L9 k n s (nI (spm S i)) (nI (spl S i)) (fitI S i) (nI i) = k s' (nI (spm S S.length)) (fitI S S.length) := by
  intro n
  induction n with
  | zero => intro i s h h'; omega
  | succ n ih =>
    intro i s hi hn hs1 hs2 hw
    have hS50 := hS.1
    have e0 : s.1 1 1 = nI S.length := by rw [hs1]; exact h1.1
    rw [f_X5_takeWords_L9]
    rcases Nat.lt_or_ge i S.length with hlt | hge
    · rw [e0, if_neg (fun hc => by have := (nI_leI (by omega) (by omega)).mp hc; omega), rI_n (by omega) (by decide)]
      have e2 : s.1 2 i = sgn (S.getD i 0) := by rw [hs1]; exact sgn_at h1 hlt
      have hx26 : S.getD i 0 ≤ 26 := by
        rw [List.getD_eq_getElem?_getD, List.getElem?_eq_getElem hlt]
        exact hS.2 _ (List.getElem_mem _)
      obtain ⟨m1, m2, m3⟩ := sp_m hS hi
      obtain ⟨o1, o2, o3⟩ := sp_ok hS.2 i hi
      by_cases hx : S.getD i 0 = 0
      · obtain ⟨a1, a2, a3⟩ := sp_b hx
        have hf : fit S (i + 1) = fit S i := by unfold fit; rw [a1, a2]
        have hfI : fitI S (i + 1) = fitI S i := by
          rcases Classical.em (fit S i) with g | g
          · rw [fitI_t g, fitI_t (by rw [hf]; exact g)]
          · rw [fitI_f g, fitI_f (by rw [hf]; exact g)]
        have hl : spl S (i + 1) = 0 := by unfold spl; rw [a3]; rfl
        obtain ⟨s', b1, b2, b3, b4⟩ := ih (i + 1) s (by omega) (by omega) hs1 hs2 (by rw [hf, a1, a2]; exact hw)
        refine ⟨s', b1, b2, b3, ?_⟩
        rw [e2, if_pos ((sgn_32 hx26).mpr hx), ← b4, a1, hfI, hl, nI_1]
        rfl
      · have e3 : sgn (S.getD i 0) = nI (S.getD i 0 + 96) := by unfold sgn; rw [if_neg hx]
        rw [e2, if_neg (fun hc => hx ((sgn_32 hx26).mp hc))]
        simp only [jn_s]
        by_cases ho : spo S i = true
        · -- the word goes on
          obtain ⟨a1, a2, a3⟩ := sp_t hx ho
          have hm := o1 ho
          have hl0 : spl S i = (spg S i (spm S i - 1)).length := by unfold spl; rw [if_pos ho]
          have hl50 := m3 (spm S i - 1) (by omega)
          have hl1 := (o2 (spm S i - 1) (by omega)).2
          have hlo := (o2 (spm S i - 1) (by omega)).1
          have hl2 : spl S (i + 1) = spl S i + 1 := by
            unfold spl
            rw [if_pos a3, if_pos ho, a1, a2]
            simp
          have hne : ¬ nI (spl S i) = 0 := nI_ne0 (by omega) (by omega)
          have hne1 : ¬ nI (spl S i) + 1 = 1 := by
            rw [nI_1]
            intro hc
            have := (c_eq 1 (by omega) (by decide)).mp hc
            omega
          rw [if_neg hne, nI_1]
          by_cases hf : fit S i
          · rw [fitI_t hf, if_neg (by decide)]
            by_cases h12 : 12 < spl S i + 1
            · have hf2 : ¬ fit S (i + 1) := by
                intro hc
                have := hc.2 (spm S i - 1) (by omega)
                rw [a2] at this
                simp at this
                omega
              obtain ⟨s', b1, b2, b3, b4⟩ := ih (i + 1) s (by omega) (by omega) hs1 hs2 (fun hc => absurd hc hf2)
              refine ⟨s', b1, b2, b3, ?_⟩
              rw [if_pos ((c_gt 12 (by omega) (by decide)).mpr h12), if_pos trivial, ← b4, a1, fitI_f hf2, hl2, nI_1]
            · have h4 : ¬ 4 < spm S i := by have := hf.1; omega
              have hf2 : fit S (i + 1) := by
                refine ⟨by rw [a1]; exact hf.1, fun k hk => ?_⟩
                rw [a2]
                dsimp only
                split
                · rename_i hk2
                  rw [List.length_append, hk2]
                  simp
                  omega
                · exact hf.2 k (by omega)
              have hwm := hw hf (spm S i - 1) (by omega)
              have hwi : f_X0_with s (s.2 3 (spm S i - 1)) (nI (spl S i + 1) - 1) (nI (S.getD i 0 + 96)) = some (eL (spg S i (spm S i - 1) ++ [S.getD i 0])) := by
                rw [nI_pred, hwm, hl0]
                exact with_s hlo (by omega) (by omega)
              obtain ⟨s', b1, b2, b3, b4⟩ := ih (i + 1) (sL s 3 (spm S i - 1) (eL (spg S i (spm S i - 1) ++ [S.getD i 0]))) (by omega) (by omega) hs1 (fun a ha => by rw [sL_ne s ha]; exact hs2 a ha) (fun _ j hj => by
                rw [sL_2, a2]
                dsimp only
                by_cases hj2 : j = spm S i - 1
                · rw [if_pos ⟨rfl, hj2⟩, if_pos hj2, hj2]
                · rw [if_neg (fun hc => hj2 hc.2), if_neg hj2]
                  exact hw hf j (by omega))
              refine ⟨s', b1, b2, b3, ?_⟩
              rw [if_neg (fun hc => h12 ((c_gt 12 (by omega) (by decide)).mp hc)), if_neg (fun hc => h4 ((c_gt 4 (by omega) (by decide)).mp hc)), if_neg (by decide), if_neg (by rw [nI_1] at hne1; exact hne1), nI_s1 hm, rL_n (by have := hf.1; omega) (by decide), rI_n (by omega) (by decide), e2, e3, hwi, cP_s, wL_n (by have := hf.1; omega) (by decide), ← b4, a1, fitI_t hf2, hl2, nI_1]
          · have hf2 : ¬ fit S (i + 1) := by
              intro hc
              apply hf
              refine ⟨by have := hc.1; omega, fun k hk => ?_⟩
              have := hc.2 k (by omega)
              rw [a2] at this
              dsimp only at this
              split at this
              · rw [List.length_append] at this; omega
              · exact this
            obtain ⟨s', b1, b2, b3, b4⟩ := ih (i + 1) s (by omega) (by omega) hs1 hs2 (fun hc => absurd hc hf2)
            refine ⟨s', b1, b2, b3, ?_⟩
            rw [fitI_f hf, if_pos rfl, if_pos trivial, ← b4, a1, fitI_f hf2, hl2, nI_1]
        · -- a word begins
          have ho : spo S i = false := by simpa using ho
          obtain ⟨a1, a2, a3⟩ := sp_f hx ho
          have hl0 : spl S i = 0 := by unfold spl; rw [ho]; rfl
          have hl2 : spl S (i + 1) = 1 := by
            unfold spl
            rw [if_pos a3, a1, a2]
            simp
          rw [hl0, if_pos (show nI 0 = 0 from rfl), nI_1, nI_1]
          by_cases hf : fit S i
          · rw [fitI_t hf, if_neg (by decide), if_neg (by decide)]
            by_cases h4 : 4 < spm S i + 1
            · have hf2 : ¬ fit S (i + 1) := fun hc => by have := hc.1; omega
              obtain ⟨s', b1, b2, b3, b4⟩ := ih (i + 1) s (by omega) (by omega) hs1 hs2 (fun hc => absurd hc hf2)
              refine ⟨s', b1, b2, b3, ?_⟩
              rw [if_pos ((c_gt 4 (by omega) (by decide)).mpr h4), if_pos trivial, ← b4, a1, fitI_f hf2, hl2, nI_1]
            · have hf2 : fit S (i + 1) := by
                refine ⟨by omega, fun k hk => ?_⟩
                rw [a2]
                dsimp only
                split
                · simp
                · exact hf.2 k (by omega)
              have hwi : f_X0_with s 0 (nI (0 + 1) - 1) (nI (S.getD i 0 + 96)) = some (eL [S.getD i 0]) := by
                have := with_s (σ := s) (w := []) (x := S.getD i 0) (fun _ h => by cases h) (by simp) (by omega)
                rw [nI_pred]
                exact this
              obtain ⟨s', b1, b2, b3, b4⟩ := ih (i + 1) (sL s 3 (spm S i) (eL [S.getD i 0])) (by omega) (by omega) hs1 (fun a ha => by rw [sL_ne s ha]; exact hs2 a ha) (fun _ j hj => by
                rw [sL_2, a2]
                dsimp only
                by_cases hj2 : j = spm S i
                · rw [if_pos ⟨rfl, hj2⟩, if_pos hj2]
                · rw [if_neg (fun hc => hj2 hc.2), if_neg hj2]
                  exact hw hf j (by omega))
              refine ⟨s', b1, b2, b3, ?_⟩
              rw [if_neg (fun hc => h4 ((c_gt 4 (by omega) (by decide)).mp hc)), if_neg (by decide), if_pos (show nI (0 + 1) = 1 from rfl), rI_n (by omega) (by decide), e2, e3, hwi, cP_s, nI_s1 (by omega), Nat.add_sub_cancel, wL_n (by omega) (by decide), ← b4, a1, fitI_t hf2, hl2, nI_1]
          · have hf2 : ¬ fit S (i + 1) := by
              intro hc
              apply hf
              refine ⟨by have := hc.1; omega, fun k hk => ?_⟩
              have := hc.2 k (by omega)
              rw [a2] at this
              dsimp only at this
              rw [if_neg (by omega)] at this
              exact this
            obtain ⟨s', b1, b2, b3, b4⟩ := ih (i + 1) s (by omega) (by omega) hs1 hs2 (fun hc => absurd hc hf2)
            refine ⟨s', b1, b2, b3, ?_⟩
            rw [fitI_f hf, if_pos rfl, if_pos trivial, ← b4, a1, fitI_f hf2, hl2, nI_1]
    · have hil : i = S.length := by omega
      subst hil
      refine ⟨s, hs1, hs2, hw, ?_⟩
      rw [e0, if_pos (nI_le (Nat.le_refl _) (by omega))]
theorem takeWords_s {σ : Sg} {S : List Nat} (hS : Sok S) (h1 : slpC σ S) : ∃ s', f_X5_takeWords σ = some (if fitI S S.length = 0 then 0 else nI (spm S S.length), s') ∧ s'.1 = (sI σ 1 1 0).1 ∧ (∀ a, a ≠ 3 → s'.2 a = σ.2 a) ∧ (fit S S.length → ∀ j, j < spm S S.length → s'.2 3 j = eL (spg S S.length j)) := by
  have hf0 : fit S 0 := ⟨by simp [spm, sp], fun k hk => by simp [spm, sp] at hk⟩
  have hS50 := hS.1
  obtain ⟨s', b1, b2, b3, b4⟩ := takeWords_L hS h1 (k := fun (s29 : Sg) (v30 : Int32) (v31 : Int32) => pI s29 1 1 0 fun s32 => (if v31 = 0 then (some (0, s32)) else (some (v30, s32)))) fu 0 σ (Nat.zero_le _) (by unfold fu; omega) rfl (fun _ _ => rfl) (fun _ j hj => by simp [spm, sp] at hj)
  refine ⟨sI s' 1 1 0, ?_, by rw [show s' = (s'.1, s'.2) from rfl, b1]; rfl, fun a ha => b2 a ha, b3⟩
  unfold f_X5_takeWords
  have e1 : (nI (spm S 0)) = 0 := rfl
  have e2 : (nI (spl S 0)) = 0 := rfl
  have e3 : nI 0 = 0 := rfl
  rw [e1, e2, fitI_t hf0, e3] at b4
  rw [b4, pI_s]
  split <;> rfl
end
section
/-- word k of the slip, as the reference has it -/
def wAt (fb fs : Nat → Int32) (S : List Nat) (k : Nat) (w : List Nat) (e : Nat → Nat → Prop) : Prop := fs k = nI w.length ∧ ∃ p, fb k = nI p ∧ p + w.length ≤ S.length ∧ (∀ j x, w[j]? = some x → S[p + j]? = some x) ∧ e p w.length
def onI (b : Bool) : Int32 := if b = true then 1 else 0
theorem parts_L {σ : Sg} {S : List Nat} (hS : Sok S) (h1 : slipP (σ.1 43 4) (σ.1 47) S) {k : Sg → Int32 → Option (Int32 × Sg)} : ∀ (n i : Nat) (s : Sg), i ≤ S.length → S.length < n + i → s.2 = σ.2 → (∀ a, a ≠ 49 → a ≠ 50 → s.1 a = σ.1 a) → (∀ j, j < spm S i → wAt (s.1 49) (s.1 50) S j (spg S i j) (fun p l => p + l ≤ i ∧ (spo S i = true → j + 1 = spm S i → p + l = i))) →
    ∃ s', s'.2 = σ.2 ∧ (∀ a, a ≠ 49 → a ≠ 50 → s'.1 a = σ.1 a) ∧ (∀ j, j < spm S S.length → wAt (s'.1 49) (s'.1 50) S j (spg S S.length j) (fun _ _ => True)) ∧ f_X8_parts_L6 k n s (nI (spm S i)) (onI (spo S i)) (nI i) = k s' (nI (spm S S.length)) := by
  intro n
  induction n with
  | zero => intro i s h h'; omega
  | succ n ih =>
    intro i s hi hn hs2 hs1 hw
    have hS50 := hS.1
    have e0 : s.1 43 4 = nI S.length := by rw [hs1 43 (by decide) (by decide)]; exact h1.1
    rw [f_X8_parts_L6]
    rcases Nat.lt_or_ge i S.length with hlt | hge
    · rw [e0, if_neg (fun hc => by have := (nI_leI (by omega) (by omega)).mp hc; omega), rI_n (by omega) (by decide)]
      have e2 : s.1 47 i = sgn (S.getD i 0) := by rw [hs1 47 (by decide) (by decide)]; exact sgn_at h1 hlt
      have hSi : S[i]? = some (S.getD i 0) := by rw [List.getD_eq_getElem?_getD, List.getElem?_eq_getElem hlt]; rfl
      have hx26 : S.getD i 0 ≤ 26 := hS.2 _ (List.mem_of_getElem? hSi)
      obtain ⟨m1, m2, m3⟩ := sp_m hS hi
      obtain ⟨o1, o2, o3⟩ := sp_ok hS.2 i hi
      simp only [jn_s]
      by_cases hx : S.getD i 0 = 0
      · obtain ⟨a1, a2, a3⟩ := sp_b hx
        obtain ⟨s', b1, b2, b3, b4⟩ := ih (i + 1) s (by omega) (by omega) hs2 hs1 (fun j hj => by
          rw [a1] at hj
          obtain ⟨c1, p, c2, c3, c4, c5⟩ := hw j hj
          rw [a2]
          exact ⟨c1, p, c2, c3, c4, by have := c5.1; omega, fun h => by rw [a3] at h; cases h⟩)
        refine ⟨s', b1, b2, b3, ?_⟩
        rw [e2, if_pos ((sgn_32 hx26).mpr hx), if_pos trivial, if_pos trivial, ← b4, a1, a3, nI_1]
        rfl
      · rw [e2, if_neg (fun hc => hx ((sgn_32 hx26).mp hc)), if_neg (by decide)]
        by_cases ho : spo S i = true
        · obtain ⟨a1, a2, a3⟩ := sp_t hx ho
          have hm := o1 ho
          obtain ⟨c1, p, c2, c3, c4, c5⟩ := hw (spm S i - 1) (by omega)
          have hp := c5.2 ho (by omega)
          obtain ⟨s', b1, b2, b3, b4⟩ := ih (i + 1) (sI s 50 (spm S i - 1) (nI ((spg S i (spm S i - 1)).length + 1))) (by omega) (by omega) hs2 (fun a h49 h50 => by rw [sI_ne s h50]; exact hs1 a h49 h50) (fun j hj => by
            rw [a1] at hj
            rw [a2, sI_ne s (by decide)]
            dsimp only
            by_cases hj2 : j = spm S i - 1
            · rw [if_pos hj2, hj2]
              refine ⟨by rw [sI_1, if_pos ⟨rfl, rfl⟩, List.length_append]; rfl, p, c2, by rw [List.length_append]; simp; omega, fun q x hq => ?_, ?_, fun _ _ => ?_⟩
              · rw [List.getElem?_append] at hq
                split at hq
                · exact c4 q x hq
                · rename_i hq2
                  have : q = (spg S i (spm S i - 1)).length := by
                    rcases Nat.lt_or_ge (q - (spg S i (spm S i - 1)).length) 1 with g | g
                    · omega
                    · rw [List.getElem?_eq_none_iff.mpr (by simpa using g)] at hq
                      cases hq
                  subst this
                  rw [hp, hSi]
                  simpa using hq
              · rw [List.length_append]; simp; omega
              · rw [List.length_append]; simp; omega
            · rw [if_neg hj2]
              obtain ⟨d1, p2, d2, d3, d4, d5⟩ := hw j hj
              exact ⟨by rw [sI_1, if_neg (fun hc => hj2 hc.2)]; exact d1, p2, d2, d3, d4, by have := d5.1; omega, fun _ h => absurd h (by omega)⟩)
          refine ⟨s', b1, b2, b3, ?_⟩
          have eo : ¬ onI (spo S i) = 0 := by rw [ho]; decide
          rw [if_neg eo, if_neg (by decide), nI_s1 hm, rI_n (by omega) (by decide), wI_n (by omega) (by decide), c1, nI_1, nI_1, ← b4, a1, a3]
          rfl
        · have ho : spo S i = false := by simpa using ho
          obtain ⟨a1, a2, a3⟩ := sp_f hx ho
          have hm24 : spm S i < 25 := by rw [ho] at m1; simp at m1; omega
          obtain ⟨s', b1, b2, b3, b4⟩ := ih (i + 1) (sI (sI (sI s 49 (spm S i) (nI i)) 50 (spm S i) 0) 50 (spm S i) (nI 1)) (by omega) (by omega) hs2 (fun a h49 h50 => by rw [sI_ne _ h50, sI_ne _ h50, sI_ne _ h49]; exact hs1 a h49 h50) (fun j hj => by
            rw [a1] at hj
            rw [a2, sI_ne _ (by decide), sI_ne _ (by decide)]
            dsimp only
            by_cases hj2 : j = spm S i
            · rw [if_pos hj2, hj2]
              refine ⟨by rw [sI_1, if_pos ⟨rfl, rfl⟩]; rfl, i, by rw [sI_1, if_pos ⟨rfl, rfl⟩], by simp; omega, fun q x hq => ?_, by simp, fun _ _ => by simp⟩
              match q, hq with
              | 0, hq =>
                rw [Nat.add_zero, hSi]
                simpa using hq
              | q + 1, hq => simp at hq
            · rw [if_neg hj2]
              obtain ⟨d1, p2, d2, d3, d4, d5⟩ := hw j (by omega)
              exact ⟨by rw [sI_1, if_neg (fun hc => hj2 hc.2), sI_1, if_neg (fun hc => hj2 hc.2), sI_ne _ (by decide)]; exact d1, p2, by rw [sI_1, if_neg (fun hc => hj2 hc.2)]; exact d2, d3, d4, by have := d5.1; omega, fun _ h => absurd h (by omega)⟩)
          refine ⟨s', b1, b2, b3, ?_⟩
          have eo : onI (spo S i) = 0 := by rw [ho]; rfl
          rw [if_pos eo, wI_n hm24 (by decide), wI_n hm24 (by decide), if_neg (by decide), nI_1, nI_s1 (by omega), Nat.add_sub_cancel, rI_n hm24 (by decide), wI_n hm24 (by decide), ← b4, a1, a3, nI_1]
          have e5 : (sI (sI s 49 (spm S i) (nI i)) 50 (spm S i) 0).1 50 (spm S i) + 1 = nI 1 := by
            rw [sI_1, if_pos ⟨rfl, rfl⟩]
            rfl
          rw [e5]
          rfl
    · have hil : i = S.length := by omega
      subst hil
      refine ⟨s, hs2, hs1, fun j hj => ?_, ?_⟩
      · obtain ⟨d1, p2, d2, d3, d4, d5⟩ := hw j hj
        exact ⟨d1, p2, d2, d3, d4, trivial⟩
      · rw [e0, if_pos (nI_le (Nat.le_refl _) (by omega))]
theorem parts_s {σ : Sg} {S : List Nat} (hS : Sok S) (h1 : slipP (σ.1 43 4) (σ.1 47) S) : ∃ s', f_X8_parts σ = some (nI (spm S S.length), s') ∧ s'.2 = σ.2 ∧ (∀ a, a ≠ 49 → a ≠ 50 → s'.1 a = σ.1 a) ∧ ∀ j, j < spm S S.length → wAt (s'.1 49) (s'.1 50) S j (spg S S.length j) (fun _ _ => True) := by
  have hS50 := hS.1
  obtain ⟨s', b1, b2, b3, b4⟩ := parts_L hS h1 (k := fun (s28 : Sg) (v29 : Int32) => some (v29, s28)) fu 0 σ (Nat.zero_le _) (by unfold fu; omega) rfl (fun _ _ _ => rfl) (fun j hj => by simp [spm, sp] at hj)
  exact ⟨s', b4, b1, b2, b3⟩
end
section
/-- 1 where it holds, 0 where not -/
noncomputable def bI (p : Prop) : Int32 := @ite _ p (Classical.propDecidable p) 1 0
theorem bI_t {p : Prop} (h : p) : bI p = 1 := by unfold bI; rw [if_pos h]
theorem bI_f {p : Prop} (h : ¬ p) : bI p = 0 := by unfold bI; rw [if_neg h]
theorem bI_0 {p : Prop} : bI p = 0 ↔ ¬ p := by
  rcases Classical.em p with h | h
  · rw [bI_t h]; exact ⟨fun e => absurd e (by decide), fun n => absurd h n⟩
  · rw [bI_f h]; exact ⟨fun _ => h, fun _ => rfl⟩
theorem bI_01 (p : Prop) : bI p = 0 ∨ bI p = 1 := by
  rcases Classical.em p with h | h
  · right; exact bI_t h
  · left; exact bI_f h
theorem bI_cg {p q : Prop} (h : p ↔ q) : bI p = bI q := by rw [propext h]
theorem in_bI {a lo hi : Int32} : (if lo ≤ a ∧ a ≤ hi then (1 : Int32) else 0) = bI (lo ≤ a ∧ a ≤ hi) := by
  by_cases h : lo ≤ a ∧ a ≤ hi
  · rw [if_pos h, bI_t h]
  · rw [if_neg h, bI_f h]
/-- a number within bounds -/
def rg (a : Int32) (n : Nat) : Prop := ∃ t, t < n ∧ a = nI t
theorem rg_iff {a : Int32} {n : Nat} (hn : n < 2 ^ 31) : rg a n ↔ ¬ a < 0 ∧ ¬ nI n ≤ a := by
  constructor
  · rintro ⟨t, h, rfl⟩
    exact ⟨nI_pos (by omega), fun hc => by have := (nI_leI (by omega) (by omega)).mp hc; omega⟩
  · rintro ⟨h1, h2⟩
    rcases pk_ix a hn with g | g | g
    · exact absurd g h1
    · exact absurd g h2
    · exact g
theorem rng_s {a : Int32} {n : Nat} (hn : n < 2 ^ 31) : (if a < 0 then some (0 : Int32) else if nI n ≤ a then some 0 else some 1) = some (bI (rg a n)) := by
  by_cases h1 : a < 0
  · rw [if_pos h1, bI_f (fun h => ((rg_iff hn).mp h).1 h1)]
  · by_cases h2 : nI n ≤ a
    · rw [if_neg h1, if_pos h2, bI_f (fun h => ((rg_iff hn).mp h).2 h2)]
    · rw [if_neg h1, if_neg h2, bI_t ((rg_iff hn).mpr ⟨h1, h2⟩)]
theorem rng8_s {σ : Sg} {a : Int32} {n : Nat} (hn : n < 2 ^ 30) : f_X8_in σ a 0 (nI n - 1) = some (bI (rg a n)) := by
  rw [in8_s, in_bI]
  congr 1
  apply bI_cg
  rw [rg_iff (by omega), i32_nlt, i32_nle]
  have e : (nI n - 1).toInt = (n : Int) - 1 := pk_sub_toInt (b := 1) hn (by decide)
  rw [Int32.le_iff_toInt_le (y := nI n - 1), Int32.lt_iff_toInt_lt (y := nI n), e, nI_toInt (by omega)]
  constructor
  · rintro ⟨h1, h2⟩; exact ⟨h1, by omega⟩
  · rintro ⟨h1, h2⟩; exact ⟨h1, by omega⟩
/-- nothing changes but these cells -/
def Sm (L K : List Nat) (σ σ' : Sg) : Prop := (∀ a, a ∉ L → σ'.1 a = σ.1 a) ∧ ∀ a, a ∉ K → σ'.2 a = σ.2 a
theorem Sm.rf {L K : List Nat} {σ : Sg} : Sm L K σ σ := ⟨fun _ _ => rfl, fun _ _ => rfl⟩
theorem Sm.tr {L K : List Nat} {a b c : Sg} (h1 : Sm L K a b) (h2 : Sm L K b c) : Sm L K a c := ⟨fun x hx => (h2.1 x hx).trans (h1.1 x hx), fun x hx => (h2.2 x hx).trans (h1.2 x hx)⟩
theorem Sm.i {L K : List Nat} {a b : Sg} {k j : Nat} {v : Int32} (h : Sm L K a b) (hk : k ∈ L) : Sm L K a (sI b k j v) := ⟨fun x hx => by
  rw [sI_ne b (fun e => hx (by rw [e]; exact hk))]
  exact h.1 x hx, h.2⟩
theorem Sm.l {L K : List Nat} {a b : Sg} {k j : Nat} {v : Int64} (h : Sm L K a b) (hk : k ∈ K) : Sm L K a (sL b k j v) := ⟨h.1, fun x hx => by
  rw [sL_ne b (fun e => hx (by rw [e]; exact hk))]
  exact h.2 x hx⟩
theorem Sm.up {L K L' K' : List Nat} {a b : Sg} (h : Sm L K a b) (hL : ∀ x ∈ L, x ∈ L') (hK : ∀ x ∈ K, x ∈ K') : Sm L' K' a b := ⟨fun x hx => h.1 x (fun e => hx (hL x e)), fun x hx => h.2 x (fun e => hx (hK x e))⟩
theorem Sm.u43 {L K : List Nat} {a b : Sg} (h : Sm L K a b) (hL : ∀ x ∈ L, x < 43) : Un43 a b := fun k hk => h.1 k (fun e => by have := hL k e; omega)
theorem Sm.u42 {L : List Nat} {a b : Sg} (h : Sm L [] a b) (hL : ∀ x ∈ L, 42 < x) : Un42 a b := ⟨funext fun k => h.2 k (by simp), fun k hk => h.1 k (fun e => by have := hL k e; omega)⟩
section SmP
variable {L K : List Nat} {σ σ' : Sg}
theorem Sm.slp {S : List Nat} (u : Sm L K σ σ') (hL : 1 ∉ L ∧ 2 ∉ L) (h : slpC σ S) : slpC σ' S := by
  unfold slpC; rw [u.1 1 hL.1, u.1 2 hL.2]; exact h
theorem Sm.lex {B : Bk} (u : Sm L K σ σ') (hL : 4 ∉ L ∧ 6 ∉ L ∧ 7 ∉ L ∧ 8 ∉ L ∧ 9 ∉ L) (hK : 5 ∉ K ∧ 10 ∉ K) (h : lexC σ B) : lexC σ' B := by
  unfold lexC; rw [u.1 4 hL.1, u.1 6 hL.2.1, u.1 7 hL.2.2.1, u.1 8 hL.2.2.2.1, u.1 9 hL.2.2.2.2, u.2 5 hK.1, u.2 10 hK.2]; exact h
theorem Sm.txt {T : Tx} (u : Sm L K σ σ') (hL : 26 ∉ L ∧ 28 ∉ L ∧ 29 ∉ L) (hK : 26 ∉ K ∧ 27 ∉ K) (h : txtC σ T) : txtC σ' T := by
  unfold txtC; rw [u.1 26 hL.1, u.1 28 hL.2.1, u.1 29 hL.2.2, u.2 26 hK.1, u.2 27 hK.2]; exact h
theorem Sm.ims {im : Nat → Option Bk} (u : Sm L K σ σ') (hL : ∀ x ∈ L, x < 12 ∨ 24 < x) (hK : ∀ x ∈ K, x < 13 ∨ 25 < x) (h : imsC σ im) : imsC σ' im := by
  have f : ∀ x, 12 ≤ x → x ≤ 24 → σ'.1 x = σ.1 x := fun x h1 h2 => u.1 x (fun e => by have := hL x e; omega)
  have g : ∀ x, 13 ≤ x → x ≤ 25 → σ'.2 x = σ.2 x := fun x h1 h2 => u.2 x (fun e => by have := hK x e; omega)
  unfold imsC
  rw [f 12 (by omega) (by omega), f 14 (by omega) (by omega), f 15 (by omega) (by omega), f 16 (by omega) (by omega), f 17 (by omega) (by omega), f 19 (by omega) (by omega), f 21 (by omega) (by omega), f 22 (by omega) (by omega), f 23 (by omega) (by omega), f 24 (by omega) (by omega), g 13 (by omega) (by omega), g 18 (by omega) (by omega), g 20 (by omega) (by omega), g 25 (by omega) (by omega)]
  exact h
theorem Sm.scn {B : Bk} {T : Tx} (u : Sm L K σ σ') (hL : ∀ x ∈ L, x < 30 ∨ x = 31 ∨ 39 < x) (h : scnC σ B T) : scnC σ' B T := by
  have f : ∀ x, 30 ≤ x → x ≤ 39 → x ≠ 31 → σ'.1 x = σ.1 x := fun x h1 h2 h3 => u.1 x (fun e => by have := hL x e; omega)
  unfold scnC
  rw [f 30 (by omega) (by omega) (by omega), f 32 (by omega) (by omega) (by omega), f 33 (by omega) (by omega) (by omega), f 34 (by omega) (by omega) (by omega), f 35 (by omega) (by omega) (by omega), f 36 (by omega) (by omega) (by omega), f 37 (by omega) (by omega) (by omega), f 38 (by omega) (by omega) (by omega), f 39 (by omega) (by omega) (by omega)]
  exact h
theorem Sm.mnd {B : Bk} {T : Tx} (u : Sm L K σ σ') (hL : 40 ∉ L ∧ 41 ∉ L) (h : mndC σ B T) : mndC σ' B T := by
  unfold mndC; rw [u.1 40 hL.1, u.1 41 hL.2]; exact h
end SmP
/-- terms have changed: the scan and the mended text know nothing -/
theorem termsChanged_s (σ : Sg) : ∃ s', f_X7_termsChanged σ = some ((), s') ∧ Sm [30, 40] [] σ s' ∧ ∀ B T, scnC s' B T ∧ mndC s' B T := by
  refine ⟨sI (sI (sI σ 30 2 0) 30 3 0) 40 5 0, rfl, (((Sm.rf.i (by decide)).i (by decide)).i (by decide)), fun B T => ⟨⟨0, Nat.zero_le _, ?_, ⟨fun i h => absurd h (Nat.not_lt_zero i), fun i h => absurd h (Nat.not_lt_zero i)⟩, Or.inl ?_⟩, Or.inl ?_⟩⟩
  · simp [sI_1]; rfl
  · simp [sI_1]
  · simp [sI_1]
section LX
variable {σ : Sg} {B : Bk} (hl : lexC σ B) (hB : Bok B)
theorem isTerm7_s (hl : lexC σ B) (hB : Bok B) (a : Int32) : f_X1_isTerm σ a = some (bI (rg a (b_tc B))) := by
  unfold f_X1_isTerm
  rw [hl.1]
  exact rng_s (by have := hB.1; omega)
theorem isEnding7_s (hl : lexC σ B) (hB : Bok B) (a : Int32) : f_X1_isEnding σ a = some (bI (rg a (b_ec B))) := by
  unfold f_X1_isEnding
  rw [hl.2.1]
  exact rng_s (by have := hB.2.1; omega)
theorem isForbidden7_s (hl : lexC σ B) (hB : Bok B) {t : Nat} (ht : t < b_tc B) : f_X1_isForbidden σ (nI t) = some (bI (¬ b_pr B t = -1)) := by
  unfold f_X1_isForbidden
  have := hB.1
  rw [rI_n (by omega) (by decide), (hl.2.2.1 t ht).2.2.2.1]
  by_cases h : b_pr B t = -1
  · rw [if_pos h, bI_f (fun g => g h)]
  · rw [if_neg h, bI_t h]
theorem isPreferred7_s (hl : lexC σ B) (hB : Bok B) (a : Int32) : f_X1_isPreferred σ a = some (bI (∃ t, t < b_tc B ∧ b_pr B t = a)) := by
  have h8 := hB.1
  have key : ∀ n t, t ≤ b_tc B → b_tc B < n + t → (∀ u, u < t → ¬ b_pr B u = a) → f_X1_isPreferred_L2 (some 0) σ a n (nI t) = some (bI (∃ t, t < b_tc B ∧ b_pr B t = a)) := by
    intro n
    induction n with
    | zero => intro t h h'; omega
    | succ n ih =>
      intro t ht hn hu
      rw [f_X1_isPreferred_L2, hl.1]
      rcases Nat.lt_or_ge t (b_tc B) with g | g
      · rw [if_neg (fun hc => by have := (nI_leI (by omega) (by omega)).mp hc; omega), rI_n (by omega) (by decide), (hl.2.2.1 t g).2.2.2.1]
        by_cases h : b_pr B t = a
        · rw [if_pos h, bI_t ⟨t, g, h⟩]
        · rw [if_neg h, nI_1]
          exact ih (t + 1) (by omega) (by omega) (fun u hu2 => by
            rcases Nat.lt_or_ge u t with q | q
            · exact hu u q
            · have : u = t := by omega
              rw [this]; exact h)
      · have : t = b_tc B := by omega
        subst this
        rw [if_pos (nI_le (Nat.le_refl _) (by omega)), bI_f (by rintro ⟨u, h1, h2⟩; exact hu u h1 h2)]
  exact key fu 0 (Nat.zero_le _) (by unfold fu; omega) (fun u h => absurd h (Nat.not_lt_zero u))
/-- the set of the forbidden ones among the first t -/
def fbs (B : Bk) : Nat → Int32
  | 0 => 0
  | t + 1 => if b_pr B t = -1 then fbs B t else fbs B t ||| ((1 : Int32) <<< (nI t &&& 31))
theorem forbiddenSet7_s (hl : lexC σ B) (hB : Bok B) : f_X1_forbiddenSet σ = some (fbs B (b_tc B)) := by
  have h8 := hB.1
  have key : ∀ n t, t ≤ b_tc B → b_tc B < n + t → f_X1_forbiddenSet_L4 (fun (v5 : Int32) => some v5) σ n (fbs B t) (nI t) = some (fbs B (b_tc B)) := by
    intro n
    induction n with
    | zero => intro t h h'; omega
    | succ n ih =>
      intro t ht hn
      rw [f_X1_forbiddenSet_L4, hl.1]
      rcases Nat.lt_or_ge t (b_tc B) with g | g
      · rw [if_neg (fun hc => by have := (nI_leI (by omega) (by omega)).mp hc; omega), isForbidden7_s hl hB g, cP_s]
        have := ih (t + 1) (by omega) (by omega)
        rw [fbs] at this
        by_cases h : b_pr B t = -1
        · rw [if_pos h] at this
          rw [bI_f (fun q => q h), if_pos rfl, nI_1, this]
        · rw [if_neg h] at this
          rw [bI_t h, if_neg (by decide), nI_1, this]
      · have : t = b_tc B := by omega
        subst this
        rw [if_pos (nI_le (Nat.le_refl _) (by omega))]
  exact key fu 0 (Nat.zero_le _) (by unfold fu; omega)
theorem ix4 (t k : Nat) : nI t * 4 + nI k = nI (4 * t + k) := by
  rw [li 4, pk_mul, nI_add, Nat.mul_comm]
theorem wordOf7_s (hl : lexC σ B) (hB : Bok B) {t k : Nat} (ht : t < b_tc B) (hk : k < b_n B t) : f_X1_wordOf σ (nI t) (nI k) = some (eL (b_w B t k)) := by
  unfold f_X1_wordOf
  have h8 := hB.1
  have h4 := (hB.2.2.1 t ht).1
  rw [ix4, rL_n (by omega) (by decide), (hl.2.2.1 t ht).2.2.2.2 k hk]
theorem worthOf7_s (hl : lexC σ B) (hB : Bok B) {t : Nat} (ht : t < b_tc B) : f_X1_worthOf σ (nI t) = some (nI (b_we B t * b_n B t)) := by
  unfold f_X1_worthOf
  have h8 := hB.1
  rw [rI_n (by omega) (by decide), rI_n (by omega) (by decide), (hl.2.2.1 t ht).1, (hl.2.2.1 t ht).2.1, pk_mul]
end LX
end
section
/-- there is such a term -/
def hasT (B : Bk) (m : Nat) (g : Nat → List Nat) : Prop := ∃ t, t < b_tc B ∧ b_n B t = m ∧ ∀ k, k < m → b_w B t k = g k
section LY
variable {σ : Sg} {B : Bk}
theorem hasWords7_s (hl : lexC σ B) (hB : Bok B) {t m : Nat} {g : Nat → List Nat} (ht : t < b_tc B) (hm : b_n B t = m) (hg : ∀ k, k < m → wok 12 (g k)) (h3 : ∀ k, k < m → σ.2 3 k = eL (g k)) : f_X1_hasWords σ (nI t) = some (bI (∀ k, k < m → b_w B t k = g k)) := by
  have h8 := hB.1
  have hT := hB.2.2.1 t ht
  subst hm
  have h4 := hT.1
  have key : ∀ n k, k ≤ b_n B t → b_n B t < n + k → (∀ u, u < k → b_w B t u = g u) → f_X1_hasWords_L2 (some 1) σ (nI t) n (nI k) = some (bI (∀ k, k < b_n B t → b_w B t k = g k)) := by
    intro n
    induction n with
    | zero => intro k h h'; omega
    | succ n ih =>
      intro k hk hn hu
      rw [f_X1_hasWords_L2, rI_n (by omega) (by decide), (hl.2.2.1 t ht).1]
      rcases Nat.lt_or_ge k (b_n B t) with q | q
      · rw [if_neg (fun hc => by have := (nI_leI (by omega) (by omega)).mp hc; omega), if_neg (fun hc => by have := (c_ge 4 (by omega) (by decide)).mp hc; omega), wordOf7_s hl hB ht q, cP_s, rL_n (by omega) (by decide), h3 k q]
        have w1 := hT.2.2.2.2.1 k q
        have w2 := hg k q
        have hiff : lg_cmp (eL (b_w B t k)) (eL (g k)) = 0 ↔ b_w B t k = g k := by rw [lg_cmp_0, eL_inj w1.1 w2.1 w1.2.2 w2.2.2]
        by_cases h : b_w B t k = g k
        · rw [if_pos (hiff.mpr h), nI_1]
          exact ih (k + 1) (by omega) (by omega) (fun u hu2 => by
            rcases Nat.lt_or_ge u k with z | z
            · exact hu u z
            · have : u = k := by omega
              rw [this]; exact h)
        · rw [if_neg (fun hc => h (hiff.mp hc)), bI_f (fun hc => h (hc k q))]
      · have : k = b_n B t := by omega
        rw [if_pos (nI_le (by omega) (by omega)), bI_t (fun u hu2 => hu u (by omega))]
  exact key fu 0 (Nat.zero_le _) (by unfold fu; omega) (fun u h => absurd h (Nat.not_lt_zero u))
theorem hasTerm7_s (hl : lexC σ B) (hB : Bok B) {m : Nat} {g : Nat → List Nat} (hm4 : m ≤ 4) (hg : ∀ k, k < m → wok 12 (g k)) (h3 : ∀ k, k < m → σ.2 3 k = eL (g k)) : f_X1_hasTerm σ (nI m) = some (bI (hasT B m g)) := by
  have h8 := hB.1
  have key : ∀ n t, t ≤ b_tc B → b_tc B < n + t → (∀ u, u < t → ¬ (b_n B u = m ∧ ∀ k, k < m → b_w B u k = g k)) → f_X1_hasTerm_L2 (some 0) σ (nI m) n (nI t) = some (bI (hasT B m g)) := by
    intro n
    induction n with
    | zero => intro t h h'; omega
    | succ n ih =>
      intro t ht hn hu
      rw [f_X1_hasTerm_L2, hl.1]
      rcases Nat.lt_or_ge t (b_tc B) with q | q
      · have hT := hB.2.2.1 t q
        have hnext : ¬ (b_n B t = m ∧ ∀ k, k < m → b_w B t k = g k) → f_X1_hasTerm_L2 (some 0) σ (nI m) n (nI t + 1) = some (bI (hasT B m g)) := fun h => by
          rw [nI_1]
          exact ih (t + 1) (by omega) (by omega) (fun u hu2 => by
            rcases Nat.lt_or_ge u t with z | z
            · exact hu u z
            · have : u = t := by omega
              rw [this]; exact h)
        rw [if_neg (fun hc => by have := (nI_leI (by omega) (by omega)).mp hc; omega), rI_n (by omega) (by decide), (hl.2.2.1 t q).1]
        have hT4 := hT.1
        by_cases hm : b_n B t = m
        · rw [if_pos (by rw [hm]), hasWords7_s hl hB q hm hg h3, cP_s]
          by_cases hw : ∀ k, k < m → b_w B t k = g k
          · rw [bI_t hw, if_neg (by decide), bI_t ⟨t, q, hm, hw⟩]
          · rw [bI_f hw, if_pos rfl]
            exact hnext (fun hc => hw hc.2)
        · rw [if_neg (fun hc => hm ((nI_eq (by omega) (by omega)).mp hc))]
          exact hnext (fun hc => hm hc.1)
      · have : t = b_tc B := by omega
        subst this
        rw [if_pos (nI_le (Nat.le_refl _) (by omega)), bI_f (by rintro ⟨u, h1, h2⟩; exact hu u h1 h2)]
  exact key fu 0 (Nat.zero_le _) (by unfold fu; omega) (fun u h => absurd h (Nat.not_lt_zero u))
/-- a term more -/
def addB (B : Bk) (m : Nat) (g : Nat → List Nat) (we be : Nat) : Bk :=
  (b_tc B + 1, b_ec B, fun t => if t = b_tc B then m else b_n B t, fun t => if t = b_tc B then g else b_w B t, fun t => if t = b_tc B then we else b_we B t, fun t => if t = b_tc B then be else b_be B t, fun t => if t = b_tc B then -1 else b_pr B t, b_en B)
theorem addB_ok (hB : Bok B) {m we be : Nat} {g : Nat → List Nat} (ht : b_tc B < 8) (hm : 1 ≤ m ∧ m ≤ 4) (hwe : 1 ≤ we ∧ we ≤ 9) (hbe : be ≤ 1) (hg : ∀ k, k < m → wok 12 (g k)) (hs : b_sum g m ≤ 51) : Bok (addB B m g we be) := by
  refine ⟨by show b_tc B + 1 ≤ 8; omega, hB.2.1, fun t htt => ?_, hB.2.2.2⟩
  have htt : t < b_tc B + 1 := htt
  by_cases h : t = b_tc B
  · subst h
    unfold Tmok b_n b_we b_be b_pr b_w addB
    simp only [if_true]
    exact ⟨hm, hwe, hbe, Or.inl trivial, hg, hs⟩
  · obtain ⟨c1, c2, c3, c4, c5, c6⟩ := hB.2.2.1 t (by omega)
    have en : b_n (addB B m g we be) t = b_n B t := if_neg h
    have ewe : b_we (addB B m g we be) t = b_we B t := if_neg h
    have ebe : b_be (addB B m g we be) t = b_be B t := if_neg h
    have epr : b_pr (addB B m g we be) t = b_pr B t := if_neg h
    have ew : b_w (addB B m g we be) t = b_w B t := if_neg h
    unfold Tmok
    rw [en, ewe, ebe, epr, ew]
    refine ⟨c1, c2, c3, ?_, c5, c6⟩
    rcases c4 with c4 | ⟨u, hu, c4⟩
    · exact Or.inl c4
    · exact Or.inr ⟨u, Nat.lt_succ_of_lt hu, c4⟩
theorem addTerm7_s (hl : lexC σ B) (hB : Bok B) {m we be : Nat} {g : Nat → List Nat} (ht : b_tc B < 8) (hm4 : m ≤ 4) (h3 : ∀ k, k < m → σ.2 3 k = eL (g k)) : ∃ s', f_X1_addTerm_4_3 σ (nI m) (nI we) (nI be) = some (nI (b_tc B), s') ∧ lexC s' (addB B m g we be) ∧ Sm [4, 6, 7, 8, 9] [5] σ s' := by
  have hT := hB.2.2.1
  -- the words
  have key : ∀ (kk : Sg → Option (Int32 × Sg)) (n k : Nat) (s : Sg), k ≤ m → m < n + k → s.1 = σ.1 → (∀ a, a ≠ 5 → s.2 a = σ.2 a) → (∀ j, j < 4 * b_tc B → s.2 5 j = σ.2 5 j) → (∀ u, u < k → s.2 5 (4 * b_tc B + u) = eL (g u)) → ∃ s', s'.1 = σ.1 ∧ (∀ a, a ≠ 5 → s'.2 a = σ.2 a) ∧ (∀ j, j < 4 * b_tc B → s'.2 5 j = σ.2 5 j) ∧ (∀ u, u < m → s'.2 5 (4 * b_tc B + u) = eL (g u)) ∧ f_X1_addTerm_4_3_L20 kk (nI m) (nI we) (nI be) (nI (b_tc B)) n s (nI k) = kk s' := by
    intro kk n
    induction n with
    | zero => intro k s h h'; omega
    | succ n ih =>
      intro k s hk hn e1 e2 e3 e4
      rw [f_X1_addTerm_4_3_L20]
      rcases Nat.lt_or_ge k m with q | q
      · obtain ⟨s', b1, b2, b3, b4, b5⟩ := ih (k + 1) (sL s 5 (4 * b_tc B + k) (eL (g k))) (by omega) (by omega) e1 (fun a ha => by rw [sL_ne s ha]; exact e2 a ha) (fun j hj => by rw [sL_2, if_neg (fun hc => by omega)]; exact e3 j hj) (fun u hu => by
          rw [sL_2]
          by_cases h : u = k
          · rw [if_pos ⟨rfl, by rw [h]⟩, h]
          · rw [if_neg (fun hc => h (by omega))]
            exact e4 u (by omega))
        refine ⟨s', b1, b2, b3, b4, ?_⟩
        rw [if_neg (fun hc => by have := (nI_leI (by omega) (by omega)).mp hc; omega), if_neg (fun hc => by have := (c_ge 4 (by omega) (by decide)).mp hc; omega), rL_n (by omega) (by decide), ix4, wL_n (by omega) (by decide), e2 3 (by decide), h3 k q, nI_1, b5]
      · have : k = m := by omega
        subst this
        exact ⟨s, e1, e2, e3, e4, by rw [if_pos (nI_le (Nat.le_refl _) (by omega))]⟩
  unfold f_X1_addTerm_4_3
  rw [hl.1, if_pos ((c_lt 8 (by omega) (by decide)).mpr ht)]
  obtain ⟨s1, b1, b2, b3, b4, b5⟩ := key (fun (s9 : Sg) => wI s9 6 8 (nI (b_tc B)) (nI m) fun s10 => (wI s10 7 8 (nI (b_tc B)) (nI we) fun s13 => (wI s13 8 8 (nI (b_tc B)) (nI be) fun s16 => (wI s16 9 8 (nI (b_tc B)) (-1) fun s19 => (pI s19 4 0 ((s19.1 4 0) + 1) fun s22 => (some (nI (b_tc B), s22))))))) fu 0 σ (Nat.zero_le _) (by unfold fu; omega) rfl (fun _ _ => rfl) (fun _ _ => rfl) (fun u h => absurd h (Nat.not_lt_zero u))
  have e00 : s1.1 4 0 = nI (b_tc B) := by rw [b1]; exact hl.1
  refine ⟨sI (sI (sI (sI (sI s1 6 (b_tc B) (nI m)) 7 (b_tc B) (nI we)) 8 (b_tc B) (nI be)) 9 (b_tc B) (-1)) 4 0 (nI (b_tc B + 1)), ?_, ?_, ?_⟩
  · rw [show (0 : Int32) = nI 0 from rfl, b5]
    rw [wI_n ht (by decide), wI_n ht (by decide), wI_n ht (by decide), wI_n ht (by decide), pI_s]
    simp [sI_1, e00, nI_1]
  · unfold lexC lexP
    simp only [sI_1, sI_2]
    refine ⟨by simp; rfl, by simp [b1]; exact hl.2.1, fun t htt => ?_, fun e he => by rw [b2 10 (by decide)]; exact hl.2.2.2 e he⟩
    have htt : t < b_tc B + 1 := htt
    by_cases h : t = b_tc B
    · subst h
      simp only [b_n, b_we, b_be, b_pr, b_w, addB]
      simp
      exact fun k hk => b4 k hk
    · obtain ⟨c1, c2, c3, c4, c5⟩ := hl.2.2.1 t (by omega)
      have en : b_n (addB B m g we be) t = b_n B t := if_neg h
      have ewe : b_we (addB B m g we be) t = b_we B t := if_neg h
      have ebe : b_be (addB B m g we be) t = b_be B t := if_neg h
      have epr : b_pr (addB B m g we be) t = b_pr B t := if_neg h
      have ew : b_w (addB B m g we be) t = b_w B t := if_neg h
      rw [en, ewe, ebe, epr, ew]
      have hn4 := (hT t (by omega)).1.2
      refine ⟨by simp [h, b1, c1], by simp [h, b1, c2], by simp [h, b1, c3], by simp [h, b1, c4], fun k hk => ?_⟩
      rw [b3 (4 * t + k) (by omega)]
      exact c5 k hk
  · have h0 : Sm [4, 6, 7, 8, 9] [5] σ s1 := ⟨fun a _ => by rw [b1], fun a ha => b2 a (fun e => ha (by rw [e]; decide))⟩
    exact ((((h0.i (by decide)).i (by decide)).i (by decide)).i (by decide)).i (by decide)
end LY
end
section
theorem nI_p0 (p : Nat) : nI p + 0 = nI p := nI_add p 0
theorem nI_p2 (p : Nat) : nI p + 2 = nI (p + 2) := nI_add p 2
theorem nI_p3 (p : Nat) : nI p + 3 = nI (p + 3) := nI_add p 3
theorem termAt8_s {σ : Sg} (t : Nat) : f_X8_termAt σ (nI t) = some (nI (2 + 56 * t)) := by
  unfold f_X8_termAt
  rw [li 56, pk_mul, li 2, nI_add]
theorem wordAt8_s {σ : Sg} (t k : Nat) : f_X8_wordAt σ (nI t) (nI k) = some (nI (2 + 56 * t + 4 + 13 * k)) := by
  unfold f_X8_wordAt
  rw [li 56, li 13, pk_mul, pk_mul, li 2, li 4, nI_add, nI_add, nI_add]
theorem endingAt8_s {σ : Sg} (e : Nat) : f_X8_endingAt σ (nI e) = some (nI (450 + 5 * e)) := by
  unfold f_X8_endingAt
  rw [li 5, pk_mul, li 450, nI_add]
theorem ext_iff {g w : List Nat} : g = w ↔ g.length = w.length ∧ ∀ j, j < g.length → g[j]? = w[j]? := by
  constructor
  · rintro rfl; exact ⟨rfl, fun _ _ => rfl⟩
  · rintro ⟨h1, h2⟩
    apply List.ext_getElem?
    intro j
    rcases Nat.lt_or_ge j g.length with q | q
    · exact h2 j q
    · rw [List.getElem?_eq_none_iff.mpr q, List.getElem?_eq_none_iff.mpr (by omega)]
theorem isSame8_s {σ : Sg} {S g w : List Nat} {k p : Nat} {E : Nat → Nat → Prop} (hS : S.length ≤ 50) (hsl : ∀ i x, S[i]? = some x → σ.1 47 i = sgn x) (hk : k < 25) (ha : wAt (σ.1 49) (σ.1 50) S k g E) (hw : wordP (σ.1 44) p w) (hp : p + 1 + w.length ≤ 475) (hg : lok1 g) (hwo : lok1 w) : f_X8_isSame σ (nI k) (nI p) = some (bI (g = w)) := by
  obtain ⟨c1, q, c2, c3, c4, -⟩ := ha
  have key : ∀ n i, i ≤ g.length → g.length < n + i → f_X8_isSame_L24 (fun (v24 : Int32) => mH (v24 = 0 ∨ v24 = 1) (some v24)) σ (nI k) (nI p) n (bI (g.length = w.length ∧ ∀ j, j < i → g[j]? = w[j]?)) (nI i) = some (bI (g = w)) := by
    intro n
    induction n with
    | zero => intro i h h'; omega
    | succ n ih =>
      intro i hi hn
      rw [f_X8_isSame_L24, rI_n hk (by decide), c1]
      rcases Nat.lt_or_ge i g.length with z | z
      · rw [if_neg (fun hc => by have := (nI_leI (by omega) (by omega)).mp hc; omega)]
        rcases Classical.em (g.length = w.length ∧ ∀ j, j < i → g[j]? = w[j]?) with h | h
        · rw [bI_t h, if_neg (by decide), rI_n hk (by decide), c2, nI_add, rI_n (by omega) (by decide), nI_1, nI_add, rI_n (by omega) (by decide)]
          have gi : g[i]? = some g[i] := List.getElem?_eq_getElem z
          have wi : w[i]? = some (w[i]'(by omega)) := List.getElem?_eq_getElem (by omega)
          have x1 := hg _ (List.mem_of_getElem? gi)
          have x2 := hwo _ (List.mem_of_getElem? wi)
          rw [hsl _ _ (c4 i _ gi), hw.2 i _ wi, nI_1]
          have es : sgn g[i] = nI (g[i] + 96) := by unfold sgn; rw [if_neg (by omega)]
          rw [es]
          have hiff : nI (g[i] + 96) = nI (w[i]'(by omega) + 96) ↔ g[i]? = w[i]? := by
            rw [nI_eq (by omega) (by omega), gi, wi]
            constructor
            · intro h; congr 1; omega
            · intro h; have := Option.some.inj h; omega
          by_cases h2 : g[i]? = w[i]?
          · rw [if_pos (hiff.mpr h2)]
            have := ih (i + 1) (by omega) (by omega)
            rw [bI_t ⟨h.1, fun j hj => by
              rcases Nat.lt_or_ge j i with y | y
              · exact h.2 j y
              · have : j = i := by omega
                rw [this]; exact h2⟩] at this
            exact this
          · rw [if_neg (fun hc => h2 (hiff.mp hc))]
            have := ih (i + 1) (by omega) (by omega)
            rw [bI_f (fun hc => h2 (hc.2 i (by omega)))] at this
            exact this
        · rw [bI_f h, if_pos rfl, mH_t (Or.inl rfl), bI_f]
          intro hc
          have := ext_iff.mp hc
          exact h ⟨this.1, fun j hj => this.2 j (by omega)⟩
      · have : i = g.length := by omega
        subst this
        rw [if_pos (nI_le (Nat.le_refl _) (by omega)), mH_t (bI_01 _)]
        congr 1
        exact bI_cg ext_iff.symm
  unfold f_X8_isSame
  rw [rI_n hk (by decide), rI_n (by omega) (by decide), c1, hw.1, jn_s]
  have h0 := key fu 0 (Nat.zero_le _) (by unfold fu; omega)
  by_cases h : g.length = w.length
  · rw [if_pos (by rw [h])]
    rw [bI_t ⟨h, fun j hj => absurd hj (Nat.not_lt_zero j)⟩] at h0
    exact h0
  · rw [if_neg (fun hc => h ((nI_eq (by omega) (by omega)).mp hc))]
    rw [bI_f (fun hc => h hc.1)] at h0
    exact h0
theorem writes8_s {σ : Sg} {S g : List Nat} {k p : Nat} {E : Nat → Nat → Prop} (hS : S.length ≤ 50) (hsl : ∀ i x, S[i]? = some x → σ.1 47 i = sgn x) (hk : k < 25) (ha : wAt (σ.1 49) (σ.1 50) S k g E) (hp : p + 1 + g.length ≤ 475) (hg : lok1 g) : ∃ s', f_X8_writes σ (nI k) (nI p) = some ((), s') ∧ Sm [44] [] σ s' ∧ wordP (s'.1 44) p g ∧ ∀ j, (j < p ∨ p + 1 + g.length ≤ j) → s'.1 44 j = σ.1 44 j := by
  obtain ⟨c1, q, c2, c3, c4, -⟩ := ha
  have key : ∀ n i s, i ≤ g.length → g.length < n + i → Sm [44] [] σ s → s.1 44 p = nI g.length → (∀ j x, j < i → g[j]? = some x → s.1 44 (p + 1 + j) = nI (x + 96)) → (∀ j, (j < p ∨ p + 1 + g.length ≤ j) → s.1 44 j = σ.1 44 j) → ∃ s', f_X8_writes_L14 (fun (s20 : Sg) => some ((), s20)) (nI k) (nI p) n s (nI i) = some ((), s') ∧ Sm [44] [] σ s' ∧ wordP (s'.1 44) p g ∧ ∀ j, (j < p ∨ p + 1 + g.length ≤ j) → s'.1 44 j = σ.1 44 j := by
    intro n
    induction n with
    | zero => intro i s h h'; omega
    | succ n ih =>
      intro i s hi hn hs e1 e2 e3
      rw [f_X8_writes_L14, rI_n hk (by decide), hs.1 50 (by decide), c1]
      rcases Nat.lt_or_ge i g.length with z | z
      · have gi : g[i]? = some g[i] := List.getElem?_eq_getElem z
        have x1 := hg _ (List.mem_of_getElem? gi)
        have es : sgn g[i] = nI (g[i] + 96) := by unfold sgn; rw [if_neg (by omega)]
        rw [if_neg (fun hc => by have := (nI_leI (by omega) (by omega)).mp hc; omega), rI_n hk (by decide), hs.1 49 (by decide), c2, nI_add, rI_n (by omega) (by decide), hs.1 47 (by decide), hsl _ _ (c4 i _ gi), es, nI_1, nI_add, wI_n (by omega) (by decide), nI_1]
        refine ih (i + 1) _ (by omega) (by omega) (hs.i (by decide)) ?_ ?_ ?_
        · rw [sI_1, if_neg (fun hc => by omega)]; exact e1
        · intro j x hj hx
          rw [sI_1]
          by_cases h : j = i
          · rw [if_pos ⟨rfl, by rw [h]⟩]
            rw [h, gi] at hx
            rw [Option.some.inj hx]
          · rw [if_neg (fun hc => h (by omega))]
            exact e2 j x (by omega) hx
        · intro j hj
          rw [sI_1, if_neg (fun hc => by omega)]
          exact e3 j hj
      · have : i = g.length := by omega
        subst this
        refine ⟨s, by rw [if_pos (nI_le (Nat.le_refl _) (by omega))], hs, ⟨e1, fun j x hx => e2 j x (List.getElem?_eq_some_iff.mp hx).1 hx⟩, e3⟩
  unfold f_X8_writes
  rw [rI_n hk (by decide), c1, wI_n (by omega) (by decide)]
  refine key fu 0 _ (Nat.zero_le _) (by unfold fu; omega) (Sm.rf.i (by decide)) ?_ (fun j x h => absurd h (Nat.not_lt_zero j)) (fun j hj => ?_)
  · rw [sI_1, if_pos ⟨rfl, rfl⟩]
  · rw [sI_1, if_neg (fun hc => by omega)]
section BX
variable {σ : Sg} {B : Bk}
theorem isTerm8_s (hb : bookP (σ.1 44) B) (hB : Bok B) (a : Int32) : f_X8_isTerm σ a = some (bI (rg a (b_tc B))) := by
  unfold f_X8_isTerm
  have := hB.1
  rw [show (0 : Int32) = nI 0 from rfl, rI_n (by omega) (by decide), hb.1]
  rw [show nI 0 = (0 : Int32) from rfl, rng8_s (by omega), cP_s, mH_t (bI_01 _)]
theorem isEnding8_s (hb : bookP (σ.1 44) B) (hB : Bok B) (a : Int32) : f_X8_isEnding σ a = some (bI (rg a (b_ec B))) := by
  unfold f_X8_isEnding
  have := hB.2.1
  rw [show (1 : Int32) = nI 1 from rfl, rI_n (by omega) (by decide), hb.2.1]
  rw [show nI 1 = (1 : Int32) from rfl, rng8_s (by omega), cP_s, mH_t (bI_01 _)]
theorem isTermThere8_s {S : List Nat} {m : Nat} {g : Nat → List Nat} {E : Nat → Nat → Prop} (hb : bookP (σ.1 44) B) (hB : Bok B) (hS : S.length ≤ 50) (hsl : ∀ i x, S[i]? = some x → σ.1 47 i = sgn x) (hm : m ≤ 4) (ha : ∀ k, k < m → wAt (σ.1 49) (σ.1 50) S k (g k) E) (hg : ∀ k, k < m → lok1 (g k)) : f_X8_isTermThere σ (nI m) = some (bI (hasT B m g)) := by
  have h8 := hB.1
  have inner : ∀ (kk : Int32 → Option Int32) (c2 : Int32) (t : Nat), t < b_tc B → ∀ n k, k ≤ m → m < n + k → f_X8_isTermThere_L39 kk σ (nI m) c2 (nI t) n (bI (b_n B t = m ∧ ∀ u, u < k → b_w B t u = g u)) (nI k) = kk (bI (b_n B t = m ∧ ∀ u, u < m → b_w B t u = g u)) := by
    intro kk c2 t ht n
    have hT := hB.2.2.1 t ht
    have hT1 := hT.1
    induction n with
    | zero => intro k h h'; omega
    | succ n ih =>
      intro k hk hn
      rw [f_X8_isTermThere_L39]
      rcases Nat.lt_or_ge k m with z | z
      · rw [if_neg (fun hc => by have := (nI_leI (by omega) (by omega)).mp hc; omega)]
        rcases Classical.em (b_n B t = m ∧ ∀ u, u < k → b_w B t u = g u) with h | h
        · have hw := hT.2.2.2.2.1 k (by omega)
          rw [bI_t h, if_neg (by decide), wordAt8_s, cP_s, isSame8_s hS hsl (by omega) (ha k z) ((hb.2.2.1 t ht).2.2.2.2 k (by omega)) (by have := hw.2.2; omega) (hg k z) hw.1, cP_s, nI_1]
          have := ih (k + 1) (by omega) (by omega)
          rw [← this]
          congr 1
          apply bI_cg
          constructor
          · intro e; exact ⟨h.1, fun u hu => by
              rcases Nat.lt_or_ge u k with y | y
              · exact h.2 u y
              · have : u = k := by omega
                rw [this]; exact e.symm⟩
          · intro e; exact (e.2 k (by omega)).symm
        · rw [bI_f h, if_pos rfl, bI_f]
          intro hc
          exact h ⟨hc.1, fun u hu => hc.2 u (by omega)⟩
      · have : k = m := by omega
        subst this
        rw [if_pos (nI_le (Nat.le_refl _) (by omega))]
  have key : ∀ n t, t ≤ b_tc B → b_tc B < n + t → f_X8_isTermThere_L4 (fun (v24 : Int32) => mH (v24 = 0 ∨ v24 = 1) (some v24)) σ (nI m) n (bI (∃ u, u < t ∧ b_n B u = m ∧ ∀ k, k < m → b_w B u k = g k)) (nI t) = some (bI (hasT B m g)) := by
    intro n
    induction n with
    | zero => intro t h h'; omega
    | succ n ih =>
      intro t ht hn
      rw [f_X8_isTermThere_L4, show (0 : Int32) = nI 0 from rfl, rI_n (by omega) (by decide), hb.1, show nI 0 = (0 : Int32) from rfl]
      rcases Nat.lt_or_ge t (b_tc B) with z | z
      · have hT1 := (hB.2.2.1 t z).1
        rw [if_neg (fun hc => by have := (nI_leI (by omega) (by omega)).mp hc; omega), termAt8_s, cP_s, nI_p0, rI_n (by omega) (by decide), (hb.2.2.1 t z).1, jn_s]
        have hnx := ih (t + 1) (by omega) (by omega)
        have hsel : ∀ (kk : Int32 → Option Int32) (c2 : Int32), (if nI (b_n B t) = nI m then f_X8_isTermThere_L39 kk σ (nI m) c2 (nI t) fu 1 0 else f_X8_isTermThere_L39 kk σ (nI m) c2 (nI t) fu 0 0) = kk (bI (b_n B t = m ∧ ∀ u, u < m → b_w B t u = g u)) := by
          intro kk c2
          have h1 := inner kk c2 t z fu 0 (Nat.zero_le _) (by unfold fu; omega)
          by_cases h : b_n B t = m
          · rw [if_pos (by rw [h])]
            rw [bI_t ⟨h, fun u hu => absurd hu (Nat.not_lt_zero u)⟩] at h1
            exact h1
          · rw [if_neg (fun hc => h ((nI_eq (by omega) (by omega)).mp hc))]
            rw [bI_f (fun hc => h hc.1)] at h1
            exact h1
        rw [← nI_1] at hnx
        rw [hsel, jn_s]
        rcases Classical.em (∃ u, u < t ∧ b_n B u = m ∧ ∀ k, k < m → b_w B u k = g k) with h | h
        · rw [bI_t h, if_neg (by decide)]
          obtain ⟨u, h1, h2⟩ := h
          rw [bI_t ⟨u, by omega, h2⟩] at hnx
          exact hnx
        · rw [bI_f h, if_pos rfl]
          rcases Classical.em (b_n B t = m ∧ ∀ u, u < m → b_w B t u = g u) with h3 | h3
          · rw [bI_t h3, if_neg (by decide)]
            rw [bI_t ⟨t, by omega, h3⟩] at hnx
            exact hnx
          · rw [bI_f h3, if_pos rfl]
            rw [bI_f (by
              rintro ⟨u, h1, h2⟩
              rcases Nat.lt_or_ge u t with y | y
              · exact h ⟨u, y, h2⟩
              · have : u = t := by omega
                rw [this] at h2
                exact h3 h2)] at hnx
            exact hnx
      · have : t = b_tc B := by omega
        subst this
        rw [if_pos (nI_le (Nat.le_refl _) (by omega)), mH_t (bI_01 _)]
        rfl
  have h0 := key fu 0 (Nat.zero_le _) (by unfold fu; omega)
  rw [bI_f (by rintro ⟨u, h1, -⟩; exact absurd h1 (Nat.not_lt_zero u))] at h0
  exact h0
end BX
end
section
theorem wordP.cg {f f' : Nat → Int32} {p : Nat} {w : List Nat} (h : wordP f p w) (e : ∀ j, p ≤ j → j < p + 1 + w.length → f' j = f j) : wordP f' p w :=
  ⟨by rw [e p (Nat.le_refl _) (by omega)]; exact h.1, fun i x hx => by
    have := (List.getElem?_eq_some_iff.mp hx).1
    rw [e _ (by omega) (by omega)]
    exact h.2 i x hx⟩
theorem isWeight7_s {σ : Sg} (a : Int32) : f_X7_isWeight σ a = some (bI (1 ≤ a ∧ a ≤ 9)) := by
  have := in8_s (σ := σ) a 1 9
  rw [in_bI] at this
  exact this
theorem isBent7_s {σ : Sg} (a : Int32) : f_X7_isBent σ a = some (bI (0 ≤ a ∧ a ≤ 1)) := by
  unfold f_X7_isBent
  by_cases h0 : a = 0
  · rw [if_pos h0, bI_t (by rw [h0]; decide)]
  · by_cases h1 : a = 1
    · rw [if_neg h0, if_pos h1, bI_t (by rw [h1]; decide)]
    · rw [if_neg h0, if_neg h1, bI_f]
      rintro ⟨h2, h3⟩
      obtain ⟨j, hj, rfl⟩ := nI_of (i32_nlt.mpr h2)
      have := (c_le 1 hj (by decide)).mp h3
      rcases (show j = 0 ∨ j = 1 by omega) with rfl | rfl
      · exact h0 rfl
      · exact h1 rfl
theorem nat_of {a : Int32} {lo hi : Nat} (hhi : hi < 2 ^ 31) (h : nI lo ≤ a ∧ a ≤ nI hi) (hlo : lo < 2 ^ 31) : ∃ j, lo ≤ j ∧ j ≤ hi ∧ a = nI j := by
  have h0 : ¬ a < 0 := by
    rw [i32_nlt, Int32.le_iff_toInt_le]
    have := h.1
    rw [Int32.le_iff_toInt_le, nI_toInt hlo] at this
    have e : (0 : Int32).toInt = 0 := by decide
    omega
  obtain ⟨j, hj, rfl⟩ := nI_of h0
  exact ⟨j, (nI_leI hlo hj).mp h.1, (nI_leI hj hhi).mp h.2, rfl⟩
theorem InvC.slip0 {σ s : Sg} {M : Ms} (hC : InvC σ M) (u : Sm [1] [3] σ s) (h0 : s.1 1 1 = 0) : InvC s ([], M.2) := by
  obtain ⟨h1, h2, h3, h4, h5, h6⟩ := hC
  exact ⟨⟨h0, fun i x h => by simp at h⟩, u.lex (by decide) (by decide) h2, u.txt (by decide) (by decide) h3, u.ims (by decide) (by decide) h4, u.scn (by decide) h5, u.mnd (by decide) h6⟩
theorem InvR.slip0 {σ s : Sg} {M : Ms} (hR : InvR σ M) (u : ∀ a, a ≠ 43 → a ≠ 49 → a ≠ 50 → s.1 a = σ.1 a) (h0 : s.1 43 4 = 0) (h1 : ∀ j, j ≠ 4 → s.1 43 j = σ.1 43 j) : InvR s ([], M.2) := by
  obtain ⟨g1, g2, g3, g4, g5⟩ := hR
  refine ⟨⟨h0, fun i x h => by simp at h⟩, by rw [u 44 (by decide) (by decide) (by decide)]; exact g2, ?_, ?_, ?_⟩
  · unfold textP
    rw [u 48 (by decide) (by decide) (by decide), h1 6 (by decide), h1 7 (by decide)]
    exact g3
  · rw [u 45 (by decide) (by decide) (by decide), u 46 (by decide) (by decide) (by decide)]; exact g4
  · rw [u 45 (by decide) (by decide) (by decide), u 46 (by decide) (by decide) (by decide)]; exact g5
theorem bookP_add {f f' : Nat → Int32} {B : Bk} {m we be : Nat} {g : Nat → List Nat} (h : bookP f B) (hB : Bok B) (ht : b_tc B < 8) (e0 : f' 0 = nI (b_tc B + 1)) (e1 : ∀ j, 1 ≤ j → j < 2 + 56 * b_tc B → f' j = f j) (e2 : ∀ j, 450 ≤ j → f' j = f j) (e3 : f' (2 + 56 * b_tc B) = nI m) (e4 : f' (2 + 56 * b_tc B + 1) = nI we) (e5 : f' (2 + 56 * b_tc B + 2) = nI be) (e6 : f' (2 + 56 * b_tc B + 3) = -1) (e7 : ∀ k, k < m → wordP f' (2 + 56 * b_tc B + 4 + 13 * k) (g k)) : bookP f' (addB B m g we be) := by
  refine ⟨e0, by rw [e1 1 (by omega) (by omega)]; exact h.2.1, fun t htt => ?_, fun e he => ?_⟩
  · have htt : t < b_tc B + 1 := htt
    by_cases q : t = b_tc B
    · subst q
      simp only [b_n, b_we, b_be, b_pr, b_w, addB]
      simp only [if_true]
      exact ⟨e3, e4, e5, e6, e7⟩
    · obtain ⟨c1, c2, c3, c4, c5⟩ := h.2.2.1 t (by omega)
      obtain ⟨d1, d2, d3, d4, d5, d6⟩ := hB.2.2.1 t (by omega)
      have en : b_n (addB B m g we be) t = b_n B t := if_neg q
      have ewe : b_we (addB B m g we be) t = b_we B t := if_neg q
      have ebe : b_be (addB B m g we be) t = b_be B t := if_neg q
      have epr : b_pr (addB B m g we be) t = b_pr B t := if_neg q
      have ew : b_w (addB B m g we be) t = b_w B t := if_neg q
      rw [en, ewe, ebe, epr, ew]
      refine ⟨by rw [e1 _ (by omega) (by omega)]; exact c1, by rw [e1 _ (by omega) (by omega)]; exact c2, by rw [e1 _ (by omega) (by omega)]; exact c3, by rw [e1 _ (by omega) (by omega)]; exact c4, fun k hk => (c5 k hk).cg (fun j h1 h2 => ?_)⟩
      have := (d5 k hk).2.2
      exact e1 j (by omega) (by omega)
  · exact (h.2.2.2 e he).cg (fun j h1 h2 => e2 j (by omega))
theorem term8_add {σ : Sg} {B : Bk} {S : List Nat} {m we be : Nat} {g : Nat → List Nat} {E : Nat → Nat → Prop} (hb : bookP (σ.1 44) B) (hB : Bok B) (ht : b_tc B < 8) (hm : 1 ≤ m ∧ m ≤ 4) (hS : S.length ≤ 50) (hsl : ∀ i x, S[i]? = some x → σ.1 47 i = sgn x) (ha : ∀ k, k < m → wAt (σ.1 49) (σ.1 50) S k (g k) E) (hg : ∀ k, k < m → wok 12 (g k)) :
    ∃ s', (rI σ 44 475 0 fun x26 => (cP (f_X8_termAt σ x26) fun x29 => (wI σ 44 475 (x29 + 0) (nI m) fun s31 => (cP (f_X8_termAt s31 x26) fun x34 => (wI s31 44 475 (x34 + 1) (nI we) fun s36 => (cP (f_X8_termAt s36 x26) fun x39 => (wI s36 44 475 (x39 + 2) (nI be) fun s41 => (cP (f_X8_termAt s41 x26) fun x44 => (wI s41 44 475 (x44 + 3) (-1) fun s46 => (f_X8_term_L172 (fun (s55 : Sg) => rI s55 44 475 0 fun x56 => (wI s55 44 475 0 (x56 + 1) fun s59 => (some (x26, s59)))) (nI m) x26 fu s46 0)))))))))) = some (nI (b_tc B), s') ∧ Sm [44] [] σ s' ∧ bookP (s'.1 44) (addB B m g we be) := by
  have z0 : (0 : Int32) = nI 0 := rfl
  rw [z0, rI_n (by omega) (by decide), hb.1]
  simp only [termAt8_s, cP_s]
  rw [← z0, nI_p0, wI_n (by omega) (by decide), nI_1, wI_n (by omega) (by decide), nI_p2, wI_n (by omega) (by decide), nI_p3, wI_n (by omega) (by decide)]
  have key : ∀ (kk : Sg → Option (Int32 × Sg)) n k s, k ≤ m → m < n + k → Sm [44] [] σ s → (∀ j, j < 2 + 56 * b_tc B → s.1 44 j = σ.1 44 j) → (∀ j, 450 ≤ j → s.1 44 j = σ.1 44 j) → s.1 44 (2 + 56 * b_tc B) = nI m → s.1 44 (2 + 56 * b_tc B + 1) = nI we → s.1 44 (2 + 56 * b_tc B + 2) = nI be → s.1 44 (2 + 56 * b_tc B + 3) = -1 → (∀ u, u < k → wordP (s.1 44) (2 + 56 * b_tc B + 4 + 13 * u) (g u)) →
      ∃ s', f_X8_term_L172 kk (nI m) (nI (b_tc B)) n s (nI k) = kk s' ∧ Sm [44] [] σ s' ∧ (∀ j, j < 2 + 56 * b_tc B → s'.1 44 j = σ.1 44 j) ∧ (∀ j, 450 ≤ j → s'.1 44 j = σ.1 44 j) ∧ s'.1 44 (2 + 56 * b_tc B) = nI m ∧ s'.1 44 (2 + 56 * b_tc B + 1) = nI we ∧ s'.1 44 (2 + 56 * b_tc B + 2) = nI be ∧ s'.1 44 (2 + 56 * b_tc B + 3) = -1 ∧ ∀ u, u < m → wordP (s'.1 44) (2 + 56 * b_tc B + 4 + 13 * u) (g u) := by
    intro kk n
    induction n with
    | zero => intro k s h h'; omega
    | succ n ih =>
      intro k s hk hn hs a1 a2 a3 a4 a5 a6 a7
      rw [f_X8_term_L172]
      rcases Nat.lt_or_ge k m with q | q
      · have hgk := hg k q
        have hl12 := hgk.2.2
        obtain ⟨s2, w1, w2, w3, w4⟩ := writes8_s (σ := s) (p := 2 + 56 * b_tc B + 4 + 13 * k) hS (by rw [hs.1 47 (by decide)]; exact hsl) (show k < 25 by omega) (by rw [hs.1 49 (by decide), hs.1 50 (by decide)]; exact ha k q) (by omega) hgk.1
        obtain ⟨s3, b0, b1, b2, b3, b4, b5, b6, b7, b8⟩ := ih (k + 1) s2 (by omega) (by omega) (hs.tr w2) (fun j hj => by rw [w4 j (by omega)]; exact a1 j hj) (fun j hj => by rw [w4 j (by omega)]; exact a2 j hj) (by rw [w4 _ (by omega)]; exact a3) (by rw [w4 _ (by omega)]; exact a4) (by rw [w4 _ (by omega)]; exact a5) (by rw [w4 _ (by omega)]; exact a6) (fun u hu => by
          by_cases h : u = k
          · rw [h]; exact w3
          · have hgu := (hg u (by omega)).2.2
            exact (a7 u (by omega)).cg (fun j h1 h2 => w4 j (by omega)))
        refine ⟨s3, ?_, b1, b2, b3, b4, b5, b6, b7, b8⟩
        rw [if_neg (fun hc => by have := (nI_leI (by omega) (by omega)).mp hc; omega), wordAt8_s, cP_s, w1, cA_s, nI_1, b0]
      · have : k = m := by omega
        subst this
        exact ⟨s, by rw [if_pos (nI_le (Nat.le_refl _) (by omega))], hs, a1, a2, a3, a4, a5, a6, a7⟩
  obtain ⟨s', b0, b1, b2, b3, b4, b5, b6, b7, b8⟩ := key (fun (s55 : Sg) => rI s55 44 475 0 fun x56 => (wI s55 44 475 0 (x56 + 1) fun s59 => (some (nI (b_tc B), s59)))) fu 0 (sI (sI (sI (sI σ 44 (2 + 56 * b_tc B) (nI m)) 44 (2 + 56 * b_tc B + 1) (nI we)) 44 (2 + 56 * b_tc B + 2) (nI be)) 44 (2 + 56 * b_tc B + 3) (-1)) (Nat.zero_le _) (by unfold fu; omega) ((((Sm.rf.i (by decide)).i (by decide)).i (by decide)).i (by decide))
    (fun j hj => by simp only [sI_1]; rw [if_neg (by omega), if_neg (by omega), if_neg (by omega), if_neg (by omega)]) (fun j hj => by simp only [sI_1]; rw [if_neg (by omega), if_neg (by omega), if_neg (by omega), if_neg (by omega)])
    (by simp only [sI_1]; rw [if_neg (by omega), if_neg (by omega), if_neg (by omega), if_pos (by simp)]) (by simp only [sI_1]; rw [if_neg (by omega), if_neg (by omega), if_pos (by simp)]) (by simp only [sI_1]; rw [if_neg (by omega), if_pos (by simp)]) (by simp only [sI_1]; rw [if_pos (by simp)]) (fun u h => absurd h (Nat.not_lt_zero u))
  refine ⟨sI s' 44 0 (nI (b_tc B + 1)), ?_, b1.i (by decide), ?_⟩
  · refine b0.trans ?_
    show (rI s' 44 475 0 fun x56 => (wI s' 44 475 0 (x56 + 1) fun s59 => (some (nI (b_tc B), s59)))) = _
    rw [show (0 : Int32) = nI 0 from rfl, rI_n (by omega) (by decide), wI_n (by omega) (by decide), b2 0 (by omega), hb.1, nI_1]
  · refine bookP_add (f := σ.1 44) hb hB ht (by rw [sI_1, if_pos ⟨rfl, rfl⟩]) (fun j h1 h2 => by rw [sI_1, if_neg (by omega)]; exact b2 j h2) (fun j h1 => by rw [sI_1, if_neg (by omega)]; exact b3 j h1) (by rw [sI_1, if_neg (by omega)]; exact b4) (by rw [sI_1, if_neg (by omega)]; exact b5) (by rw [sI_1, if_neg (by omega)]; exact b6) (by rw [sI_1, if_neg (by omega)]; exact b7) (fun k hk => (b8 k hk).cg (fun j h1 h2 => by rw [sI_1, if_neg (by omega)]))
theorem term8_well {σ : Sg} {S : List Nat} {m : Nat} {g : Nat → List Nat} {E : Nat → Nat → Prop} (hS : S.length ≤ 50) (hm : m ≤ 25) (ha : ∀ k, k < m → wAt (σ.1 49) (σ.1 50) S k (g k) E) (kk : Int32 → Option (Int32 × Sg)) (c1 c2 : Int32) : f_X8_term_L43 kk σ c1 c2 (nI m) fu (bI (1 ≤ m ∧ m ≤ 4)) 0 = kk (bI ((1 ≤ m ∧ m ≤ 4) ∧ ∀ k, k < m → (g k).length ≤ 12)) := by
  have key : ∀ n k, k ≤ m → m < n + k → f_X8_term_L43 kk σ c1 c2 (nI m) n (bI ((1 ≤ m ∧ m ≤ 4) ∧ ∀ u, u < k → (g u).length ≤ 12)) (nI k) = kk (bI ((1 ≤ m ∧ m ≤ 4) ∧ ∀ k, k < m → (g k).length ≤ 12)) := by
    intro n
    induction n with
    | zero => intro k h h'; omega
    | succ n ih =>
      intro k hk hn
      rw [f_X8_term_L43]
      rcases Nat.lt_or_ge k m with q | q
      · have hnx := ih (k + 1) (by omega) (by omega)
        rw [← nI_1] at hnx
        rw [if_neg (fun hc => by have := (nI_leI (by omega) (by omega)).mp hc; omega), jn_s]
        rcases Classical.em ((1 ≤ m ∧ m ≤ 4) ∧ ∀ u, u < k → (g u).length ≤ 12) with h | h
        · obtain ⟨c1, p, c2, c3, c4⟩ := ha k q
          rw [bI_t h, if_neg (by decide), rI_n (by omega) (by decide), c1]
          by_cases h12 : 12 < (g k).length
          · rw [if_pos ((c_gt 12 (by omega) (by decide)).mpr h12)]
            rw [bI_f (fun hc => by have := hc.2 k (by omega); omega)] at hnx
            exact hnx
          · rw [if_neg (fun hc => h12 ((c_gt 12 (by omega) (by decide)).mp hc))]
            rw [bI_t ⟨h.1, fun u hu => by
              rcases Nat.lt_or_ge u k with y | y
              · exact h.2 u y
              · have : u = k := by omega
                rw [this]; omega⟩] at hnx
            exact hnx
        · rw [bI_f h, if_pos rfl]
          rw [bI_f (fun hc => h ⟨hc.1, fun u hu => hc.2 u (by omega)⟩)] at hnx
          exact hnx
      · have : k = m := by omega
        subst this
        rw [if_pos (nI_le (Nat.le_refl _) (by omega))]
  have h0 := key fu 0 (Nat.zero_le _) (by unfold fu; omega)
  rw [← h0]
  congr 1
  exact bI_cg ⟨fun h => ⟨h, fun u hu => absurd hu (Nat.not_lt_zero u)⟩, fun h => h.1⟩
end
section
theorem ps_term (σ : Sg) (a1 a2 : Int32) (h : InvA σ) : ∃ (r : Int32) (σ1 σ2 : Sg), f_X7_term σ a1 a2 = some (r, σ1) ∧ f_X8_term σ1 a1 a2 = some (r, σ2) ∧ InvA σ2 := by
  refine step2 (f7 := fun s => f_X7_term s a1 a2) (f8 := fun s => f_X8_term s a1 a2) h (fun M hm => ?_)
  obtain ⟨S, B, T, im⟩ := M
  obtain ⟨hS, hB, hT, hI⟩ := hm
  have hS : Sok S := hS
  have hB : Bok B := hB
  have hT : Tok T := hT
  have hI : ∀ i B, im i = some B → Bok B := hI
  by_cases hv : (1 ≤ a1 ∧ a1 ≤ 9) ∧ (0 ≤ a2 ∧ a2 ≤ 1)
  · obtain ⟨we, hwe1, hwe2, rfl⟩ := nat_of (lo := 1) (hi := 9) (by decide) hv.1 (by decide)
    obtain ⟨be, hbe1, hbe2, rfl⟩ := nat_of (lo := 0) (hi := 1) (by decide) hv.2 (by decide)
    have hS50 := hS.1
    obtain ⟨m1, m2, m3⟩ := sp_m hS (Nat.le_refl S.length)
    obtain ⟨o1, o2, o3⟩ := sp_ok hS.2 S.length (Nat.le_refl _)
    generalize em : spm S S.length = m at *
    generalize eg : spg S S.length = g at *
    have hok0 : Mok ([], B, T, im) := ⟨⟨by simp, fun x hx => by simp at hx⟩, hB, hT, hI⟩
    -- the class's first steps
    have c7 : ∀ s, InvC s (S, B, T, im) → ∃ s7, f_X5_takeWords s = some (if fitI S S.length = 0 then 0 else nI m, s7) ∧ InvC s7 ([], B, T, im) ∧ Sm [1] [3] s s7 ∧ (fit S S.length → ∀ j, j < m → s7.2 3 j = eL (g j)) := by
      intro s hC
      obtain ⟨s7, t1, t2, t3, t4⟩ := takeWords_s hS hC.1
      rw [em] at t1
      rw [em, eg] at t4
      have u : Sm [1] [3] s s7 := ⟨fun a ha => by rw [t2]; exact sI_ne s (fun e => ha (by rw [e]; decide)), fun a ha => t3 a (fun e => ha (by rw [e]; decide))⟩
      exact ⟨s7, t1, hC.slip0 u (by rw [t2]; simp [sI_1]), u, t4⟩
    -- the reference's first steps
    have c8 : ∀ s, InvR s (S, B, T, im) → ∃ s8, (∀ F : Int32 → Sg → Option (Int32 × Sg), cA (f_X8_parts s) (fun x5 s7 => pI s7 43 4 0 fun s8 => F x5 s8) = F (nI m) s8) ∧ InvR s8 ([], B, T, im) ∧ Un42 s s8 ∧ (∀ i x, S[i]? = some x → s8.1 47 i = sgn x) ∧ ∀ k, k < m → wAt (s8.1 49) (s8.1 50) S k (g k) (fun _ _ => True) := by
      intro s hR
      obtain ⟨s7, t1, t2, t3, t4⟩ := parts_s hS hR.1
      rw [em] at t1
      rw [em, eg] at t4
      refine ⟨sI s7 43 4 0, fun F => by rw [t1, cA_s, pI_s], ?_, ⟨t2, fun k hk => by rw [sI_ne s7 (by omega)]; exact t3 k (by omega) (by omega)⟩, fun i x hx => by rw [sI_ne s7 (by decide), t3 47 (by decide) (by decide)]; exact hR.1.2 i x hx, fun k hk => by rw [sI_ne s7 (by decide), sI_ne s7 (by decide)]; exact t4 k hk⟩
      exact InvR.slip0 hR (fun a h1 h2 h3 => by rw [sI_ne s7 h1]; exact t3 a h2 h3) (by simp [sI_1]) (fun j hj => by rw [sI_1, if_neg (fun hc => hj hc.2), t3 43 (by decide) (by decide)])
    have hin4 : ∀ s : Sg, f_X8_in s (nI m) 1 4 = some (bI (1 ≤ m ∧ m ≤ 4)) := by
      intro s
      rw [in8_s, in_bI]
      congr 1
      apply bI_cg
      rw [c_ge 1 (by omega) (by decide), c_le 4 (by omega) (by decide)]
    have hw7 : f_X7_isWeight σ (nI we) = some 1 := by rw [isWeight7_s, bI_t hv.1]
    have hb7 : f_X7_isBent σ (nI be) = some 1 := by rw [isBent7_s, bI_t hv.2]
    have hw8 : ∀ s, f_X8_in s (nI we) 1 9 = some 1 := fun s => by rw [in8_s, in_bI, bI_t hv.1]
    have hb8 : ∀ s, f_X8_in s (nI be) 0 1 = some 1 := fun s => by rw [in8_s, in_bI, bI_t hv.2]
    have n10 : ¬ (1 : Int32) = 0 := by decide
    by_cases hf : (1 ≤ m ∧ m ≤ 4) ∧ ∀ k, k < m → (g k).length ≤ 12
    · have hfit : fit S S.length := ⟨by rw [em]; exact hf.1.2, fun k hk => by rw [em] at hk; rw [eg]; exact hf.2 k hk⟩
      have hg : ∀ k, k < m → wok 12 (g k) := fun k hk => ⟨(o2 k hk).1, (o2 k hk).2, hf.2 k hk⟩
      have hsum : b_sum g m ≤ 51 := by
        have : (if spo S S.length = true then 1 else 0) ≤ 1 := by split <;> omega
        omega
      have x5 : (if fitI S S.length = 0 then (0 : Int32) else nI m) = nI m := by rw [fitI_t hfit, if_neg n10]
      have nm0 : ¬ nI m = 0 := nI_ne0 (by omega) (by omega)
      by_cases hh : hasT B m g
      · refine ⟨-1000000003, ([], B, T, im), hok0, fun hC => ?_, fun s hR => ?_⟩
        · obtain ⟨s7, t1, t2, t3, t4⟩ := c7 σ hC
          refine ⟨s7, ?_, t2, t3.u43 (by decide)⟩
          unfold f_X7_term
          rw [hw7, cP_s, if_neg n10, hb7, cP_s, if_neg n10, t1, cA_s, x5, if_neg nm0, hasTerm7_s t2.2.1 hB hf.1.2 hg (t4 hfit), cP_s, bI_t hh, if_neg n10]
        · obtain ⟨s8, t1, t2, t3, t4, t5⟩ := c8 s hR
          refine ⟨s8, ?_, t2, t3⟩
          unfold f_X8_term
          rw [hw8, cP_s, if_neg n10, hb8, cP_s, if_neg n10, t1, hin4, cP_s, term8_well hS50 m2 t5, bI_t hf, if_neg n10, isTermThere8_s t2.2.1 hB hS50 t4 hf.1.2 t5 (fun k hk => (hg k hk).1), cP_s, bI_t hh, if_neg n10]
      · by_cases ht : b_tc B < 8
        · refine ⟨nI (b_tc B), ([], addB B m g we be, T, im), ⟨hok0.1, addB_ok hB ht hf.1 ⟨hwe1, hwe2⟩ hbe2 hg hsum, hT, hI⟩, fun hC => ?_, fun s hR => ?_⟩
          · obtain ⟨s7, t1, t2, t3, t4⟩ := c7 σ hC
            obtain ⟨s12, d1, d2, d3⟩ := addTerm7_s (we := we) (be := be) t2.2.1 hB ht hf.1.2 (t4 hfit)
            obtain ⟨s15, e1, e2, e3⟩ := termsChanged_s s12
            have nt : ¬ nI (b_tc B) = -1 := nI_m1 (by omega)
            refine ⟨s15, ?_, ?_, ((t3.u43 (by decide)).tr (d3.u43 (by decide))).tr (e2.u43 (by decide))⟩
            · unfold f_X7_term
              rw [hw7, cP_s, if_neg n10, hb7, cP_s, if_neg n10, t1, cA_s, x5, if_neg nm0, hasTerm7_s t2.2.1 hB hf.1.2 hg (t4 hfit), cP_s, bI_f hh, if_pos rfl, d1, cA_s, if_neg nt, e1, cA_s]
            · obtain ⟨g1, g2, g3, g4, g5, g6⟩ := t2
              exact ⟨e2.slp (by decide) (d3.slp (by decide) g1), e2.lex (by decide) (by decide) d2, e2.txt (by decide) (by decide) (d3.txt (by decide) (by decide) g3), e2.ims (by decide) (by decide) (d3.ims (by decide) (by decide) g4), (e3 _ _).1, (e3 _ _).2⟩
          · obtain ⟨s8, t1, t2, t3, t4, t5⟩ := c8 s hR
            obtain ⟨s9, d1, d2, d3⟩ := term8_add (we := we) (be := be) t2.2.1 hB ht hf.1 hS50 t4 t5 hg
            refine ⟨s9, ?_, ?_, t3.tr (d2.u42 (by decide))⟩
            · unfold f_X8_term
              rw [hw8, cP_s, if_neg n10, hb8, cP_s, if_neg n10, t1, hin4, cP_s, term8_well hS50 m2 t5, bI_t hf, if_neg n10, isTermThere8_s t2.2.1 hB hS50 t4 hf.1.2 t5 (fun k hk => (hg k hk).1), cP_s, bI_f hh, if_pos rfl]
              have z0 : (0 : Int32) = nI 0 := rfl
              have hne8 : ¬ nI (b_tc B) = 8 := fun hc => by have := (c_eq 8 (by omega) (by decide)).mp hc; omega
              have r0 : ∀ (F : Int32 → Option (Int32 × Sg)), rI s8 44 475 0 F = F (nI (b_tc B)) := fun F => by
                rw [z0, rI_n (by omega) (by decide), t2.2.1.1]
              rw [r0, if_neg hne8]
              exact d1
            · obtain ⟨g1, g2, g3, g4, g5⟩ := t2
              refine ⟨?_, d3, ?_, ?_, ?_⟩
              · rw [d2.1 43 (by decide), d2.1 47 (by decide)]; exact g1
              · rw [d2.1 43 (by decide), d2.1 48 (by decide)]; exact g3
              · rw [d2.1 45 (by decide), d2.1 46 (by decide)]; exact g4
              · rw [d2.1 45 (by decide), d2.1 46 (by decide)]; exact g5
        · have h8 : b_tc B = 8 := by have := hB.1; omega
          refine ⟨-1000000004, ([], B, T, im), hok0, fun hC => ?_, fun s hR => ?_⟩
          · obtain ⟨s7, t1, t2, t3, t4⟩ := c7 σ hC
            refine ⟨s7, ?_, t2, t3.u43 (by decide)⟩
            have ea : f_X1_addTerm_4_3 s7 (nI m) (nI we) (nI be) = some (-1, s7) := by
              unfold f_X1_addTerm_4_3
              rw [t2.2.1.1]
              show (if nI (b_tc B) < 8 then _ else _) = _
              rw [h8, if_neg (by decide)]
            unfold f_X7_term
            rw [hw7, cP_s, if_neg n10, hb7, cP_s, if_neg n10, t1, cA_s, x5, if_neg nm0, hasTerm7_s t2.2.1 hB hf.1.2 hg (t4 hfit), cP_s, bI_f hh, if_pos rfl, ea, cA_s, if_pos rfl]
          · obtain ⟨s8, t1, t2, t3, t4, t5⟩ := c8 s hR
            refine ⟨s8, ?_, t2, t3⟩
            have r0 : ∀ (F : Int32 → Option (Int32 × Sg)), rI s8 44 475 0 F = F 8 := fun F => by
              rw [show (0 : Int32) = nI 0 from rfl, rI_n (by omega) (by decide), t2.2.1.1]
              show F (nI (b_tc B)) = _
              rw [h8]; rfl
            unfold f_X8_term
            rw [hw8, cP_s, if_neg n10, hb8, cP_s, if_neg n10, t1, hin4, cP_s, term8_well hS50 m2 t5, bI_t hf, if_neg n10, isTermThere8_s t2.2.1 hB hS50 t4 hf.1.2 t5 (fun k hk => (hg k hk).1), cP_s, bI_f hh, if_pos rfl, r0, if_pos rfl]
    · refine ⟨-1000000003, ([], B, T, im), hok0, fun hC => ?_, fun s hR => ?_⟩
      · obtain ⟨s7, t1, t2, t3, t4⟩ := c7 σ hC
        refine ⟨s7, ?_, t2, t3.u43 (by decide)⟩
        have x5 : (if fitI S S.length = 0 then (0 : Int32) else nI m) = 0 := by
          rcases Classical.em (fit S S.length) with q | q
          · rw [fitI_t q, if_neg n10]
            have : m = 0 := by
              rcases Nat.eq_zero_or_pos m with z | z
              · exact z
              · refine absurd ⟨⟨z, ?_⟩, fun k hk => ?_⟩ hf
                · have := q.1; rw [em] at this; exact this
                · have := q.2 k (by rw [em]; exact hk); rw [eg] at this; exact this
            rw [this]; rfl
          · rw [fitI_f q, if_pos rfl]
        unfold f_X7_term
        rw [hw7, cP_s, if_neg n10, hb7, cP_s, if_neg n10, t1, cA_s, x5, if_pos rfl]
      · obtain ⟨s8, t1, t2, t3, t4, t5⟩ := c8 s hR
        refine ⟨s8, ?_, t2, t3⟩
        unfold f_X8_term
        rw [hw8, cP_s, if_neg n10, hb8, cP_s, if_neg n10, t1, hin4, cP_s, term8_well hS50 m2 t5, bI_f hf, if_pos rfl]
  · refine ⟨-1000000002, (S, B, T, im), ⟨hS, hB, hT, hI⟩, fun hC => ⟨σ, ?_, hC, Un43.rf⟩, fun s hR => ⟨s, ?_, hR, Un42.rf⟩⟩
    · unfold f_X7_term
      rw [isWeight7_s, cP_s]
      rcases Classical.em (1 ≤ a1 ∧ a1 ≤ 9) with q | q
      · rw [bI_t q, if_neg (by decide), isBent7_s, cP_s, bI_f (fun z => hv ⟨q, z⟩), if_pos rfl]
      · rw [bI_f q, if_pos rfl]
    · unfold f_X8_term
      rw [in8_s, in_bI, cP_s]
      rcases Classical.em (1 ≤ a1 ∧ a1 ≤ 9) with q | q
      · rw [bI_t q, if_neg (by decide), in8_s, in_bI, cP_s, bI_f (fun z => hv ⟨q, z⟩), if_pos rfl]
      · rw [bI_f q, if_pos rfl]
end
section
def hasE (B : Bk) (w : List Nat) : Prop := ∃ e, e < b_ec B ∧ b_en B e = w
def addE (B : Bk) (w : List Nat) : Bk := (b_tc B, b_ec B + 1, b_n B, b_w B, b_we B, b_be B, b_pr B, fun e => if e = b_ec B then w else b_en B e)
theorem addE_ok {B : Bk} {w : List Nat} (hB : Bok B) (hw : wok 4 w) (h5 : b_ec B < 5) : Bok (addE B w) := by
  refine ⟨hB.1, h5, hB.2.2.1, fun e he => ?_⟩
  have he : e < b_ec B + 1 := he
  show wok 4 (if e = b_ec B then w else b_en B e)
  split
  · exact hw
  · exact hB.2.2.2 e (by omega)
theorem hasEnding7_s {σ : Sg} {B : Bk} {w : List Nat} (hl : lexC σ B) (hB : Bok B) (hw : lok1 w) (hw12 : w.length ≤ 12) : f_X1_hasEnding σ (eL w) = some (bI (hasE B w)) := by
  have h5 := hB.2.1
  have key : ∀ n e, e ≤ b_ec B → b_ec B < n + e → (∀ u, u < e → ¬ b_en B u = w) → f_X1_hasEnding_L2 (some 0) σ (eL w) n (nI e) = some (bI (hasE B w)) := by
    intro n
    induction n with
    | zero => intro e h h'; omega
    | succ n ih =>
      intro e he hn hu
      rw [f_X1_hasEnding_L2, hl.2.1]
      rcases Nat.lt_or_ge e (b_ec B) with q | q
      · have hE := hB.2.2.2 e q
        have hiff : lg_cmp (eL (b_en B e)) (eL w) = 0 ↔ b_en B e = w := by rw [lg_cmp_0, eL_inj hE.1 hw (by have := hE.2.2; omega) hw12]
        rw [if_neg (fun hc => by have := (nI_leI (by omega) (by omega)).mp hc; omega), rL_n (by omega) (by decide), hl.2.2.2 e q]
        by_cases h : b_en B e = w
        · rw [if_pos (hiff.mpr h), bI_t ⟨e, q, h⟩]
        · rw [if_neg (fun hc => h (hiff.mp hc)), nI_1]
          exact ih (e + 1) (by omega) (by omega) (fun u hu2 => by
            rcases Nat.lt_or_ge u e with z | z
            · exact hu u z
            · have : u = e := by omega
              rw [this]; exact h)
      · have : e = b_ec B := by omega
        subst this
        rw [if_pos (nI_le (Nat.le_refl _) (by omega)), bI_f (by rintro ⟨u, h1, h2⟩; exact hu u h1 h2)]
  exact key fu 0 (Nat.zero_le _) (by unfold fu; omega) (fun u h => absurd h (Nat.not_lt_zero u))
theorem addEnding7_s {σ : Sg} {B : Bk} {w : List Nat} (hl : lexC σ B) (h5 : b_ec B < 5) : ∃ s', f_X1_addEnding σ (eL w) = some (nI (b_ec B), s') ∧ lexC s' (addE B w) ∧ Sm [4] [10] σ s' := by
  refine ⟨sI (sL σ 10 (b_ec B) (eL w)) 4 6 (nI (b_ec B + 1)), ?_, ?_, (Sm.rf.l (by decide)).i (by decide)⟩
  · unfold f_X1_addEnding
    rw [hl.2.1, if_pos ((c_lt 5 (by omega) (by decide)).mpr h5), wL_n h5 (by decide), pI_s]
    simp [sI_1, sL_1, hl.2.1, nI_1, nI_pred]
  · obtain ⟨c1, c2, c3, c4⟩ := hl
    refine ⟨by simp [sI_1, sL_1]; exact c1, by simp [sI_1]; rfl, fun t ht => ?_, fun e he => ?_⟩
    · have := c3 t ht
      simp [sI_row, sI_2, sL_1, sL_row]
      exact this
    · have he : e < b_ec B + 1 := he
      show (sI (sL σ 10 (b_ec B) (eL w)) 4 6 (nI (b_ec B + 1))).2 10 e = eL (if e = b_ec B then w else b_en B e)
      rw [sI_2, sL_2]
      by_cases h : e = b_ec B
      · rw [if_pos ⟨rfl, h⟩, if_pos h]
      · rw [if_neg (fun hc => h hc.2), if_neg h]
        exact c4 e (by omega)
theorem ending8_well {σ : Sg} {B : Bk} {S w : List Nat} {E : Nat → Nat → Prop} (hb : bookP (σ.1 44) B) (hB : Bok B) (hS : S.length ≤ 50) (hsl : ∀ i x, S[i]? = some x → σ.1 47 i = sgn x) (c : Prop) (ha : c → wAt (σ.1 49) (σ.1 50) S 0 w E ∧ lok1 w) (kk : Int32 → Option (Int32 × Sg)) : f_X8_ending_L33 kk σ fu (bI c) 0 = kk (bI (c ∧ ¬ hasE B w)) := by
  have h5 := hB.2.1
  have key : ∀ n e, e ≤ b_ec B → b_ec B < n + e → f_X8_ending_L33 kk σ n (bI (c ∧ ∀ u, u < e → ¬ b_en B u = w)) (nI e) = kk (bI (c ∧ ¬ hasE B w)) := by
    intro n
    induction n with
    | zero => intro e h h'; omega
    | succ n ih =>
      intro e he hn
      rw [f_X8_ending_L33, show (1 : Int32) = nI 1 from rfl, rI_n (by omega) (by decide), hb.2.1, show nI 1 = (1 : Int32) from rfl]
      rcases Nat.lt_or_ge e (b_ec B) with q | q
      · have hE := hB.2.2.2 e q
        have hnx := ih (e + 1) (by omega) (by omega)
        rw [← nI_1] at hnx
        rw [if_neg (fun hc => by have := (nI_leI (by omega) (by omega)).mp hc; omega)]
        rcases Classical.em (c ∧ ∀ u, u < e → ¬ b_en B u = w) with h | h
        · obtain ⟨a1, a2⟩ := ha h.1
          have hs := isSame8_s (p := 450 + 5 * e) hS hsl (show 0 < 25 by omega) a1 (hb.2.2.2 e q) (by have := hE.2.2; omega) a2 hE.1
          rw [show nI 0 = (0 : Int32) from rfl] at hs
          rw [bI_t h, if_neg (by decide), endingAt8_s, cP_s, hs, cP_s]
          rcases Classical.em (w = b_en B e) with h2 | h2
          · rw [bI_t h2, if_neg (by decide)]
            rw [bI_f (fun hc => hc.2 e (by omega) h2.symm)] at hnx
            exact hnx
          · rw [bI_f h2, if_pos rfl]
            rw [bI_t ⟨h.1, fun u hu => by
              rcases Nat.lt_or_ge u e with y | y
              · exact h.2 u y
              · have : u = e := by omega
                rw [this]; exact fun z => h2 z.symm⟩] at hnx
            exact hnx
        · rw [bI_f h, if_pos rfl, bI_f]
          rintro ⟨h1, h2⟩
          exact h ⟨h1, fun u hu hz => h2 ⟨u, by omega, hz⟩⟩
      · have : e = b_ec B := by omega
        subst this
        rw [if_pos (nI_le (Nat.le_refl _) (by omega))]
        congr 1
        apply bI_cg
        constructor
        · rintro ⟨h1, h2⟩; exact ⟨h1, by rintro ⟨u, h3, h4⟩; exact h2 u h3 h4⟩
        · rintro ⟨h1, h2⟩; exact ⟨h1, fun u h3 h4 => h2 ⟨u, h3, h4⟩⟩
  have h0 := key fu 0 (Nat.zero_le _) (by unfold fu; omega)
  rw [← h0]
  congr 1
  exact bI_cg ⟨fun h => ⟨h, fun u hu => absurd hu (Nat.not_lt_zero u)⟩, fun h => h.1⟩
theorem bookP_addE {f f' : Nat → Int32} {B : Bk} {w : List Nat} (h : bookP f B) (hB : Bok B) (e0 : f' 1 = nI (b_ec B + 1)) (e1 : ∀ j, j < 450 + 5 * b_ec B → j ≠ 1 → f' j = f j) (e2 : wordP f' (450 + 5 * b_ec B) w) : bookP f' (addE B w) := by
  have h8 := hB.1
  refine ⟨by rw [e1 0 (by omega) (by omega)]; exact h.1, e0, fun t ht => ?_, fun e he => ?_⟩
  · have ht : t < b_tc B := ht
    obtain ⟨c1, c2, c3, c4, c5⟩ := h.2.2.1 t ht
    obtain ⟨d1, d2, d3, d4, d5, d6⟩ := hB.2.2.1 t ht
    refine ⟨by rw [e1 _ (by omega) (by omega)]; exact c1, by rw [e1 _ (by omega) (by omega)]; exact c2, by rw [e1 _ (by omega) (by omega)]; exact c3, by rw [e1 _ (by omega) (by omega)]; exact c4, fun k hk => (c5 k hk).cg (fun j h1 h2 => ?_)⟩
    have hk : k < b_n B t := hk
    have h12 : (b_w B t k).length ≤ 12 := (d5 k hk).2.2
    have h2 : j < 2 + 56 * t + 4 + 13 * k + 1 + (b_w B t k).length := h2
    exact e1 j (by omega) (by omega)
  · have he : e < b_ec B + 1 := he
    show wordP f' (450 + 5 * e) (if e = b_ec B then w else b_en B e)
    by_cases q : e = b_ec B
    · rw [if_pos q, q]; exact e2
    · rw [if_neg q]
      have h4 := (hB.2.2.2 e (by omega)).2.2
      exact (h.2.2.2 e (by omega)).cg (fun j h1 h2 => e1 j (by omega) (by omega))
theorem ps_ending (σ : Sg) (h : InvA σ) : ∃ (r : Int32) (σ1 σ2 : Sg), f_X7_ending σ = some (r, σ1) ∧ f_X8_ending σ1 = some (r, σ2) ∧ InvA σ2 := by
  refine step2 (f7 := fun s => f_X7_ending s) (f8 := fun s => f_X8_ending s) h (fun M hm => ?_)
  obtain ⟨S, B, T, im⟩ := M
  obtain ⟨hS, hB, hT, hI⟩ := hm
  have hS : Sok S := hS
  have hB : Bok B := hB
  have hT : Tok T := hT
  have hI : ∀ i B, im i = some B → Bok B := hI
  have hS50 := hS.1
  obtain ⟨m1, m2, m3⟩ := sp_m hS (Nat.le_refl S.length)
  obtain ⟨o1, o2, o3⟩ := sp_ok hS.2 S.length (Nat.le_refl _)
  generalize em : spm S S.length = m at *
  generalize eg : spg S S.length = g at *
  have hok0 : Mok ([], B, T, im) := ⟨⟨by simp, fun x hx => by simp at hx⟩, hB, hT, hI⟩
  have c7 : ∀ s, InvC s (S, B, T, im) → ∃ s7, f_X5_takeWords s = some (if fitI S S.length = 0 then 0 else nI m, s7) ∧ InvC s7 ([], B, T, im) ∧ Sm [1] [3] s s7 ∧ (fit S S.length → ∀ j, j < m → s7.2 3 j = eL (g j)) := by
    intro s hC
    obtain ⟨s7, t1, t2, t3, t4⟩ := takeWords_s hS hC.1
    rw [em] at t1
    rw [em, eg] at t4
    have u : Sm [1] [3] s s7 := ⟨fun a ha => by rw [t2]; exact sI_ne s (fun e => ha (by rw [e]; decide)), fun a ha => t3 a (fun e => ha (by rw [e]; decide))⟩
    exact ⟨s7, t1, hC.slip0 u (by rw [t2]; simp [sI_1]), u, t4⟩
  have c8 : ∀ s, InvR s (S, B, T, im) → ∃ s8, (∀ F : Int32 → Sg → Option (Int32 × Sg), cA (f_X8_parts s) (fun x5 s7 => pI s7 43 4 0 fun s8 => F x5 s8) = F (nI m) s8) ∧ InvR s8 ([], B, T, im) ∧ Un42 s s8 ∧ (∀ i x, S[i]? = some x → s8.1 47 i = sgn x) ∧ ∀ k, k < m → wAt (s8.1 49) (s8.1 50) S k (g k) (fun _ _ => True) := by
    intro s hR
    obtain ⟨s7, t1, t2, t3, t4⟩ := parts_s hS hR.1
    rw [em] at t1
    rw [em, eg] at t4
    refine ⟨sI s7 43 4 0, fun F => by rw [t1, cA_s, pI_s], ?_, ⟨t2, fun k hk => by rw [sI_ne s7 (by omega)]; exact t3 k (by omega) (by omega)⟩, fun i x hx => by rw [sI_ne s7 (by decide), t3 47 (by decide) (by decide)]; exact hR.1.2 i x hx, fun k hk => by rw [sI_ne s7 (by decide), sI_ne s7 (by decide)]; exact t4 k hk⟩
    exact InvR.slip0 hR (fun a h1 h2 h3 => by rw [sI_ne s7 h1]; exact t3 a h2 h3) (by simp [sI_1]) (fun j hj => by rw [sI_1, if_neg (fun hc => hj hc.2), t3 43 (by decide) (by decide)])
  have n10 : ¬ (1 : Int32) = 0 := by decide
  -- the reference, up to whether it is well
  have w8 : ∀ s8, InvR s8 ([], B, T, im) → (∀ i x, S[i]? = some x → s8.1 47 i = sgn x) → (∀ k, k < m → wAt (s8.1 49) (s8.1 50) S k (g k) (fun _ _ => True)) → ∀ kk : Int32 → Option (Int32 × Sg), (if nI m = 1 then (rI s8 50 25 0 fun x41 => (if 4 < x41 then f_X8_ending_L33 kk s8 fu 0 0 else f_X8_ending_L33 kk s8 fu 1 0)) else f_X8_ending_L33 kk s8 fu 0 0) = kk (bI ((m = 1 ∧ (g 0).length ≤ 4) ∧ ¬ hasE B (g 0))) := by
    intro s8 t2 t4 t5 kk
    have hw := ending8_well t2.2.1 hB hS50 t4 (m = 1 ∧ (g 0).length ≤ 4) (fun hc => ⟨t5 0 (by omega), (o2 0 (by omega)).1⟩) kk
    by_cases hm1 : m = 1
    · rw [if_pos (by rw [hm1]; rfl), show (0 : Int32) = nI 0 from rfl, rI_n (by omega) (by decide), (t5 0 (by omega)).1, show nI 0 = (0 : Int32) from rfl]
      have := m3 0 (by omega)
      by_cases h4 : 4 < (g 0).length
      · rw [if_pos ((c_gt 4 (by omega) (by decide)).mpr h4)]
        rw [bI_f (fun hc => by have := hc.2; omega)] at hw
        exact hw
      · rw [if_neg (fun hc => h4 ((c_gt 4 (by omega) (by decide)).mp hc))]
        rw [bI_t ⟨hm1, by omega⟩] at hw
        exact hw
    · rw [if_neg (fun hc => hm1 ((c_eq 1 (by omega) (by decide)).mp hc))]
      rw [bI_f (fun hc => hm1 hc.1)] at hw
      exact hw
  by_cases hf : (m = 1 ∧ (g 0).length ≤ 4) ∧ ¬ hasE B (g 0)
  · obtain ⟨⟨hm1, hl4⟩, hh⟩ := hf
    have hg0 := o2 0 (by omega)
    have hfit : fit S S.length := ⟨by rw [em]; omega, fun k hk => by
      rw [em] at hk
      rw [eg]
      have : k = 0 := by omega
      rw [this]; omega⟩
    have x5 : (if fitI S S.length = 0 then (0 : Int32) else nI m) = 1 := by rw [fitI_t hfit, if_neg n10, hm1]; rfl
    have z0 : (0 : Int32) = nI 0 := rfl
    by_cases h5 : b_ec B < 5
    · refine ⟨nI (b_ec B), ([], addE B (g 0), T, im), ⟨hok0.1, addE_ok hB ⟨hg0.1, hg0.2, hl4⟩ h5, hT, hI⟩, fun hC => ?_, fun s hR => ?_⟩
      · obtain ⟨s7, t1, t2, t3, t4⟩ := c7 σ hC
        obtain ⟨s12, d1, d2, d3⟩ := addEnding7_s (w := g 0) t2.2.1 h5
        obtain ⟨s15, e1, e2, e3⟩ := termsChanged_s s12
        have nt : ¬ nI (b_ec B) = -1 := nI_m1 (by omega)
        refine ⟨s15, ?_, ?_, ((t3.u43 (by decide)).tr (d3.u43 (by decide))).tr (e2.u43 (by decide))⟩
        · unfold f_X7_ending
          rw [t1, cA_s, x5, z0, rL_n (by omega) (by decide), t4 hfit 0 (by omega), if_pos rfl, sizeOf_s hg0.1 (by omega), cP_s, if_neg (fun hc => by have := (c_gt 4 (by omega) (by decide)).mp hc; omega), hasEnding7_s t2.2.1 hB hg0.1 (by omega), cP_s, bI_f hh, if_pos z0, d1, cA_s, if_neg nt, e1, cA_s]
        · obtain ⟨g1, g2, g3, g4, g5, g6⟩ := t2
          exact ⟨e2.slp (by decide) (d3.slp (by decide) g1), e2.lex (by decide) (by decide) d2, e2.txt (by decide) (by decide) (d3.txt (by decide) (by decide) g3), e2.ims (by decide) (by decide) (d3.ims (by decide) (by decide) g4), (e3 _ _).1, (e3 _ _).2⟩
      · obtain ⟨s8, t1, t2, t3, t4, t5⟩ := c8 s hR
        obtain ⟨s9, w1, w2, w3, w4⟩ := writes8_s (p := 450 + 5 * b_ec B) hS50 t4 (show 0 < 25 by omega) (t5 0 (by omega)) (by omega) hg0.1
        have r1 : ∀ (F : Int32 → Option (Int32 × Sg)), rI s8 44 475 1 F = F (nI (b_ec B)) := fun F => by
          rw [show (1 : Int32) = nI 1 from rfl, rI_n (by omega) (by decide), t2.2.1.2.1]
        have e91 : s9.1 44 1 = nI (b_ec B) := by rw [w4 1 (by omega)]; exact t2.2.1.2.1
        refine ⟨sI s9 44 1 (nI (b_ec B + 1)), ?_, ?_, (t3.tr (w2.u42 (by decide))).i (by omega)⟩
        · unfold f_X8_ending
          rw [t1]
          simp only [jn_s]
          rw [w8 s8 t2 t4 t5, bI_t ⟨⟨hm1, hl4⟩, hh⟩, if_neg n10, r1, if_neg (fun hc => by have := (c_eq 5 (by omega) (by decide)).mp hc; omega), r1, endingAt8_s, cP_s, z0, w1, cA_s, show (1 : Int32) = nI 1 from rfl, rI_n (by omega) (by decide), wI_n (by omega) (by decide), rI_n (by omega) (by decide), e91, sI_1, if_pos ⟨rfl, rfl⟩]
          rw [show nI 1 = (1 : Int32) from rfl, nI_1, nI_pred]
        · obtain ⟨g1, g2, g3, g4, g5⟩ := t2
          refine ⟨?_, ?_, ?_, ?_, ?_⟩
          · rw [sI_ne s9 (by decide), sI_ne s9 (by decide), w2.1 43 (by decide), w2.1 47 (by decide)]; exact g1
          · refine bookP_addE g2 hB (by rw [sI_1, if_pos ⟨rfl, rfl⟩]) (fun j h1 h2 => by rw [sI_1, if_neg (fun hc => h2 hc.2)]; exact w4 j (by omega)) (w3.cg (fun j h1 h2 => by rw [sI_1, if_neg (by omega)]))
          · rw [sI_ne s9 (by decide), sI_ne s9 (by decide), w2.1 43 (by decide), w2.1 48 (by decide)]; exact g3
          · rw [sI_ne s9 (by decide), sI_ne s9 (by decide), w2.1 45 (by decide), w2.1 46 (by decide)]; exact g4
          · rw [sI_ne s9 (by decide), sI_ne s9 (by decide), w2.1 45 (by decide), w2.1 46 (by decide)]; exact g5
    · have e5 : b_ec B = 5 := by have := hB.2.1; omega
      refine ⟨-1000000004, ([], B, T, im), hok0, fun hC => ?_, fun s hR => ?_⟩
      · obtain ⟨s7, t1, t2, t3, t4⟩ := c7 σ hC
        refine ⟨s7, ?_, t2, t3.u43 (by decide)⟩
        have ea : f_X1_addEnding s7 (eL (g 0)) = some (-1, s7) := by
          unfold f_X1_addEnding
          rw [t2.2.1.2.1]
          show (if nI (b_ec B) < 5 then _ else _) = _
          rw [e5, if_neg (by decide)]
        unfold f_X7_ending
        rw [t1, cA_s, x5, z0, rL_n (by omega) (by decide), t4 hfit 0 (by omega), if_pos rfl, sizeOf_s hg0.1 (by omega), cP_s, if_neg (fun hc => by have := (c_gt 4 (by omega) (by decide)).mp hc; omega), hasEnding7_s t2.2.1 hB hg0.1 (by omega), cP_s, bI_f hh, if_pos z0, ea, cA_s, if_pos rfl]
      · obtain ⟨s8, t1, t2, t3, t4, t5⟩ := c8 s hR
        refine ⟨s8, ?_, t2, t3⟩
        have r1 : ∀ (F : Int32 → Option (Int32 × Sg)), rI s8 44 475 1 F = F 5 := fun F => by
          rw [show (1 : Int32) = nI 1 from rfl, rI_n (by omega) (by decide), t2.2.1.2.1]
          show F (nI (b_ec B)) = _
          rw [e5]; rfl
        unfold f_X8_ending
        rw [t1]
        simp only [jn_s]
        rw [w8 s8 t2 t4 t5, bI_t ⟨⟨hm1, hl4⟩, hh⟩, if_neg n10, r1, if_pos rfl]
  · refine ⟨-1000000003, ([], B, T, im), hok0, fun hC => ?_, fun s hR => ?_⟩
    · obtain ⟨s7, t1, t2, t3, t4⟩ := c7 σ hC
      refine ⟨s7, ?_, t2, t3.u43 (by decide)⟩
      unfold f_X7_ending
      rw [t1, cA_s, show (0 : Int32) = nI 0 from rfl, rL_n (by omega) (by decide), show nI 0 = (0 : Int32) from rfl]
      rcases Classical.em (fit S S.length) with q | q
      · rw [fitI_t q, if_neg n10]
        by_cases hm1 : m = 1
        · have hg0 := o2 0 (by omega)
          have h12 : (g 0).length ≤ 12 := by have := q.2 0 (by rw [em]; omega); rw [eg] at this; exact this
          rw [if_pos (by rw [hm1]; rfl), t4 q 0 (by omega), sizeOf_s hg0.1 h12, cP_s]
          by_cases h4 : 4 < (g 0).length
          · rw [if_pos ((c_gt 4 (by omega) (by decide)).mpr h4)]
          · rw [if_neg (fun hc => h4 ((c_gt 4 (by omega) (by decide)).mp hc)), hasEnding7_s t2.2.1 hB hg0.1 h12, cP_s]
            rcases Classical.em (hasE B (g 0)) with h3 | h3
            · rw [bI_t h3, if_neg n10]
            · exact absurd ⟨⟨hm1, by omega⟩, h3⟩ hf
        · rw [if_neg (fun hc => hm1 ((c_eq 1 (by omega) (by decide)).mp hc))]
      · rw [fitI_f q, if_pos rfl, if_neg (by decide)]
    · obtain ⟨s8, t1, t2, t3, t4, t5⟩ := c8 s hR
      refine ⟨s8, ?_, t2, t3⟩
      unfold f_X8_ending
      rw [t1]
      simp only [jn_s]
      rw [w8 s8 t2 t4 t5, bI_f hf, if_pos rfl]
end
section
/-! weight, bent, preferred of a term are set anew -/
def sWe (B : Bk) (t v : Nat) : Bk := (b_tc B, b_ec B, b_n B, b_w B, fun u => if u = t then v else b_we B u, b_be B, b_pr B, b_en B)
def sBe (B : Bk) (t v : Nat) : Bk := (b_tc B, b_ec B, b_n B, b_w B, b_we B, fun u => if u = t then v else b_be B u, b_pr B, b_en B)
def sPr (B : Bk) (t : Nat) (v : Int32) : Bk := (b_tc B, b_ec B, b_n B, b_w B, b_we B, b_be B, fun u => if u = t then v else b_pr B u, b_en B)
theorem sWe_ok {B : Bk} {t v : Nat} (hB : Bok B) (hv : 1 ≤ v ∧ v ≤ 9) : Bok (sWe B t v) := by
  refine ⟨hB.1, hB.2.1, fun u hu => ?_, hB.2.2.2⟩
  obtain ⟨c1, c2, c3⟩ := hB.2.2.1 u hu
  refine ⟨c1, ?_, c3⟩
  show 1 ≤ (if u = t then v else b_we B u) ∧ (if u = t then v else b_we B u) ≤ 9
  split
  · exact hv
  · exact c2
theorem sBe_ok {B : Bk} {t v : Nat} (hB : Bok B) (hv : v ≤ 1) : Bok (sBe B t v) := by
  refine ⟨hB.1, hB.2.1, fun u hu => ?_, hB.2.2.2⟩
  obtain ⟨c1, c2, c3, c4⟩ := hB.2.2.1 u hu
  refine ⟨c1, c2, ?_, c4⟩
  show (if u = t then v else b_be B u) ≤ 1
  split
  · exact hv
  · exact c3
theorem sPr_ok {B : Bk} {t : Nat} {v : Int32} (hB : Bok B) (hv : v = -1 ∨ ∃ u, u < b_tc B ∧ v = nI u) : Bok (sPr B t v) := by
  refine ⟨hB.1, hB.2.1, fun u hu => ?_, hB.2.2.2⟩
  obtain ⟨c1, c2, c3, c4, c5⟩ := hB.2.2.1 u hu
  refine ⟨c1, c2, c3, ?_, c5⟩
  show (if u = t then v else b_pr B u) = -1 ∨ ∃ w, w < b_tc B ∧ (if u = t then v else b_pr B u) = nI w
  split
  · exact hv
  · exact c4
theorem lexC_we {σ : Sg} {B : Bk} {t v : Nat} (h : lexC σ B) : lexC (sI σ 7 t (nI v)) (sWe B t v) := by
  obtain ⟨c1, c2, c3, c4⟩ := h
  refine ⟨by rw [sI_ne σ (by decide)]; exact c1, by rw [sI_ne σ (by decide)]; exact c2, fun u hu => ?_, c4⟩
  obtain ⟨d1, d2, d3, d4, d5⟩ := c3 u hu
  refine ⟨by rw [sI_ne σ (by decide)]; exact d1, ?_, by rw [sI_ne σ (by decide)]; exact d3, by rw [sI_ne σ (by decide)]; exact d4, d5⟩
  show _ = nI (if u = t then v else b_we B u)
  rw [sI_1]
  by_cases q : u = t
  · rw [if_pos ⟨rfl, q⟩, if_pos q]
  · rw [if_neg (fun hc => q hc.2), if_neg q]; exact d2
theorem lexC_be {σ : Sg} {B : Bk} {t v : Nat} (h : lexC σ B) : lexC (sI σ 8 t (nI v)) (sBe B t v) := by
  obtain ⟨c1, c2, c3, c4⟩ := h
  refine ⟨by rw [sI_ne σ (by decide)]; exact c1, by rw [sI_ne σ (by decide)]; exact c2, fun u hu => ?_, c4⟩
  obtain ⟨d1, d2, d3, d4, d5⟩ := c3 u hu
  refine ⟨by rw [sI_ne σ (by decide)]; exact d1, by rw [sI_ne σ (by decide)]; exact d2, ?_, by rw [sI_ne σ (by decide)]; exact d4, d5⟩
  show _ = nI (if u = t then v else b_be B u)
  rw [sI_1]
  by_cases q : u = t
  · rw [if_pos ⟨rfl, q⟩, if_pos q]
  · rw [if_neg (fun hc => q hc.2), if_neg q]; exact d3
theorem lexC_pr {σ : Sg} {B : Bk} {t : Nat} {v : Int32} (h : lexC σ B) : lexC (sI σ 9 t v) (sPr B t v) := by
  obtain ⟨c1, c2, c3, c4⟩ := h
  refine ⟨by rw [sI_ne σ (by decide)]; exact c1, by rw [sI_ne σ (by decide)]; exact c2, fun u hu => ?_, c4⟩
  obtain ⟨d1, d2, d3, d4, d5⟩ := c3 u hu
  refine ⟨by rw [sI_ne σ (by decide)]; exact d1, by rw [sI_ne σ (by decide)]; exact d2, by rw [sI_ne σ (by decide)]; exact d3, ?_, d5⟩
  show _ = (if u = t then v else b_pr B u)
  rw [sI_1]
  by_cases q : u = t
  · rw [if_pos ⟨rfl, q⟩, if_pos q]
  · rw [if_neg (fun hc => q hc.2), if_neg q]; exact d4
/-- one of a term's three attributes is written: all else stays -/
theorem bookP_at {f f' : Nat → Int32} {B : Bk} (h : bookP f B) (hB : Bok B) {t i : Nat} (ht : t < b_tc B) (hi : 1 ≤ i ∧ i ≤ 3) (e : ∀ j, j ≠ 2 + 56 * t + i → f' j = f j) : f' 0 = nI (b_tc B) ∧ f' 1 = nI (b_ec B) ∧ (∀ u, u < b_tc B → f' (2 + 56 * u) = nI (b_n B u) ∧ ((u ≠ t ∨ i ≠ 1) → f' (2 + 56 * u + 1) = nI (b_we B u)) ∧ ((u ≠ t ∨ i ≠ 2) → f' (2 + 56 * u + 2) = nI (b_be B u)) ∧ ((u ≠ t ∨ i ≠ 3) → f' (2 + 56 * u + 3) = b_pr B u) ∧ ∀ k, k < b_n B u → wordP f' (2 + 56 * u + 4 + 13 * k) (b_w B u k)) ∧ ∀ e, e < b_ec B → wordP f' (450 + 5 * e) (b_en B e) := by
  have h8 := hB.1
  refine ⟨by rw [e 0 (by omega)]; exact h.1, by rw [e 1 (by omega)]; exact h.2.1, fun u hu => ?_, fun x hx => (h.2.2.2 x hx).cg (fun j h1 h2 => e j (by omega))⟩
  obtain ⟨c1, c2, c3, c4, c5⟩ := h.2.2.1 u hu
  obtain ⟨d1, d2, d3, d4, d5, d6⟩ := hB.2.2.1 u hu
  refine ⟨by rw [e _ (by omega)]; exact c1, fun q => by rw [e _ (by omega)]; exact c2, fun q => by rw [e _ (by omega)]; exact c3, fun q => by rw [e _ (by omega)]; exact c4, fun k hk => (c5 k hk).cg (fun j h1 h2 => ?_)⟩
  have := (d5 k hk).2.2
  rcases Nat.lt_trichotomy t u with q | q | q
  · exact e j (by omega)
  · exact e j (by omega)
  · exact e j (by omega)
theorem bookP_we {f : Nat → Int32} {B : Bk} (h : bookP f B) (hB : Bok B) {t v : Nat} (ht : t < b_tc B) : bookP (fun j => if j = 2 + 56 * t + 1 then nI v else f j) (sWe B t v) := by
  obtain ⟨c1, c2, c3, c4⟩ := bookP_at (f' := fun j => if j = 2 + 56 * t + 1 then nI v else f j) h hB ht (by omega) (fun j hj => if_neg hj)
  refine ⟨c1, c2, fun u hu => ?_, c4⟩
  obtain ⟨d1, d2, d3, d4, d5⟩ := c3 u hu
  refine ⟨d1, ?_, d3 (by omega), d4 (by omega), d5⟩
  show _ = nI (if u = t then v else b_we B u)
  by_cases q : u = t
  · rw [if_pos q, q]; exact if_pos rfl
  · rw [if_neg q]; exact d2 (Or.inl q)
theorem bookP_be {f : Nat → Int32} {B : Bk} (h : bookP f B) (hB : Bok B) {t v : Nat} (ht : t < b_tc B) : bookP (fun j => if j = 2 + 56 * t + 2 then nI v else f j) (sBe B t v) := by
  obtain ⟨c1, c2, c3, c4⟩ := bookP_at (f' := fun j => if j = 2 + 56 * t + 2 then nI v else f j) h hB ht (by omega) (fun j hj => if_neg hj)
  refine ⟨c1, c2, fun u hu => ?_, c4⟩
  obtain ⟨d1, d2, d3, d4, d5⟩ := c3 u hu
  refine ⟨d1, d2 (by omega), ?_, d4 (by omega), d5⟩
  show _ = nI (if u = t then v else b_be B u)
  by_cases q : u = t
  · rw [if_pos q, q]; exact if_pos rfl
  · rw [if_neg q]; exact d3 (Or.inl q)
theorem bookP_pr {f : Nat → Int32} {B : Bk} (h : bookP f B) (hB : Bok B) {t : Nat} {v : Int32} (ht : t < b_tc B) : bookP (fun j => if j = 2 + 56 * t + 3 then v else f j) (sPr B t v) := by
  obtain ⟨c1, c2, c3, c4⟩ := bookP_at (f' := fun j => if j = 2 + 56 * t + 3 then v else f j) h hB ht (by omega) (fun j hj => if_neg hj)
  refine ⟨c1, c2, fun u hu => ?_, c4⟩
  obtain ⟨d1, d2, d3, d4, d5⟩ := c3 u hu
  refine ⟨d1, d2 (by omega), d3 (by omega), ?_, d5⟩
  show _ = (if u = t then v else b_pr B u)
  by_cases q : u = t
  · rw [if_pos q, q]; exact if_pos rfl
  · rw [if_neg q]; exact d4 (Or.inl q)
/-- the class's side behind a change of terms -/
theorem InvC.terms {σ s : Sg} {S : List Nat} {B B' : Bk} {T : Tx} {im : Nat → Option Bk} {L : List Nat} (hC : InvC σ (S, B, T, im)) (u : Sm L [5, 10] σ s) (hL : ∀ x ∈ L, x ∈ [4, 6, 7, 8, 9]) (hl : lexC s B') : ∃ s', f_X7_termsChanged s = some ((), s') ∧ InvC s' (S, B', T, im) ∧ Un43 σ s' ∧ s'.1 4 = s.1 4 ∧ lexC s' B' := by
  obtain ⟨s', e1, e2, e3⟩ := termsChanged_s s
  obtain ⟨g1, g2, g3, g4, g5, g6⟩ := hC
  have u : Sm [4, 6, 7, 8, 9] [5, 10] σ s := u.up hL (fun x h => h)
  exact ⟨s', e1, ⟨e2.slp (by decide) (u.slp (by decide) g1), e2.lex (by decide) (by decide) hl, e2.txt (by decide) (by decide) (u.txt (by decide) (by decide) g3), e2.ims (by decide) (by decide) (u.ims (by decide) (by decide) g4), (e3 _ _).1, (e3 _ _).2⟩, (u.u43 (by decide)).tr (e2.u43 (by decide)), e2.1 4 (by decide), e2.lex (by decide) (by decide) hl⟩
theorem InvR.book {σ : Sg} {S : List Nat} {B B' : Bk} {T : Tx} {im : Nat → Option Bk} {s : Sg} (hR : InvR σ (S, B, T, im)) (u : Sm [44] [] σ s) (hb : bookP (s.1 44) B') : InvR s (S, B', T, im) := by
  obtain ⟨g1, g2, g3, g4, g5⟩ := hR
  refine ⟨?_, hb, ?_, ?_, ?_⟩
  · rw [u.1 43 (by decide), u.1 47 (by decide)]; exact g1
  · rw [u.1 43 (by decide), u.1 48 (by decide)]; exact g3
  · rw [u.1 45 (by decide), u.1 46 (by decide)]; exact g4
  · rw [u.1 45 (by decide), u.1 46 (by decide)]; exact g5
theorem sI_44 (σ : Sg) (p : Nat) (v : Int32) : (sI σ 44 p v).1 44 = fun j => if j = p then v else σ.1 44 j := by rw [sI_row, if_pos rfl]
theorem i32_01 {a : Int32} : (0 ≤ a ∧ a ≤ 1) ↔ (a = 0 ∨ a = 1) := by
  constructor
  · rintro h
    obtain ⟨j, h1, h2, rfl⟩ := nat_of (lo := 0) (hi := 1) (by decide) h (by decide)
    rcases (show j = 0 ∨ j = 1 by omega) with rfl | rfl
    · left; rfl
    · right; rfl
  · rintro (rfl | rfl) <;> decide
theorem ps_change (σ : Sg) (a1 a2 a3 : Int32) (h : InvA σ) : ∃ (r : Int32) (σ1 σ2 : Sg), f_X7_change σ a1 a2 a3 = some (r, σ1) ∧ f_X8_change σ1 a1 a2 a3 = some (r, σ2) ∧ InvA σ2 := by
  refine step2 (f7 := fun s => f_X7_change s a1 a2 a3) (f8 := fun s => f_X8_change s a1 a2 a3) h (fun M hm => ?_)
  obtain ⟨S, B, T, im⟩ := M
  have hm0 := hm
  obtain ⟨hS, hB, hT, hI⟩ := hm
  have hB : Bok B := hB
  have h8 := hB.1
  have n10 : ¬ (1 : Int32) = 0 := by decide
  have n01 : ¬ (0 : Int32) = 1 := by decide
  rcases Classical.em (rg a1 (b_tc B)) with hr | hr
  · obtain ⟨t, ht, rfl⟩ := hr
    have hT1 := hB.2.2.1 t ht
    have i7 : ∀ s, InvC s (S, B, T, im) → f_X1_isTerm s (nI t) = some 1 := fun s hC => by rw [isTerm7_s hC.2.1 hB, bI_t ⟨t, ht, rfl⟩]
    have i8 : ∀ s, InvR s (S, B, T, im) → f_X8_isTerm s (nI t) = some 1 := fun s hR => by rw [isTerm8_s hR.2.1 hB, bI_t ⟨t, ht, rfl⟩]
    by_cases hw : a2 = 0 ∧ (1 ≤ a3 ∧ a3 ≤ 9)
    · obtain ⟨q0, hv⟩ := hw
      obtain ⟨v, v1, v2, rfl⟩ := nat_of (lo := 1) (hi := 9) (by decide) hv (by decide)
      refine ⟨nI (b_we B t), (S, sWe B t v, T, im), ⟨hS, sWe_ok hB ⟨v1, v2⟩, hT, hI⟩, fun hC => ?_, fun s hR => ?_⟩
      · obtain ⟨s', e1, e2, e3, -⟩ := hC.terms (L := [7]) (Sm.rf.i (by decide)) (by decide) (lexC_we (t := t) (v := v) hC.2.1)
        refine ⟨s', ?_, e2, e3⟩
        unfold f_X7_change
        rw [i7 σ hC, cP_s, if_neg n10]
        simp only [jn_s]
        rw [if_pos q0, isWeight7_s, cP_s, bI_t hv, if_neg n10, rI_n (by omega) (by decide), wI_n (by omega) (by decide), e1, cA_s, (hC.2.1.2.2.1 t ht).2.1]
      · refine ⟨sI s 44 (2 + 56 * t + 1) (nI v), ?_, hR.book (Sm.rf.i (by decide)) (by rw [sI_44]; exact bookP_we hR.2.1 hB ht), Un42.rf.i (by decide)⟩
        unfold f_X8_change
        rw [i8 s hR, cP_s, if_neg n10]
        simp only [jn_s]
        rw [if_pos q0, in8_s, in_bI, cP_s, bI_t hv, if_neg n10, if_neg n10, termAt8_s, cP_s, if_pos q0, nI_1, rI_n (by omega) (by decide), wI_n (by omega) (by decide), (hR.2.1.2.2.1 t ht).2.1]
    · by_cases hb : a2 = 1 ∧ (0 ≤ a3 ∧ a3 ≤ 1)
      · obtain ⟨q1, hv⟩ := hb
        have q0 : ¬ a2 = 0 := by rw [q1]; exact n10
        obtain ⟨v, v1, v2, rfl⟩ := nat_of (lo := 0) (hi := 1) (by decide) hv (by decide)
        refine ⟨nI (b_be B t), (S, sBe B t v, T, im), ⟨hS, sBe_ok hB v2, hT, hI⟩, fun hC => ?_, fun s hR => ?_⟩
        · obtain ⟨s', e1, e2, e3, -⟩ := hC.terms (L := [8]) (Sm.rf.i (by decide)) (by decide) (lexC_be (t := t) (v := v) hC.2.1)
          refine ⟨s', ?_, e2, e3⟩
          unfold f_X7_change
          rw [i7 σ hC, cP_s, if_neg n10]
          simp only [jn_s]
          rw [if_neg q0, if_pos q1, isBent7_s, cP_s, bI_t hv, if_neg n10, rI_n (by omega) (by decide), wI_n (by omega) (by decide), e1, cA_s, (hC.2.1.2.2.1 t ht).2.2.1]
        · refine ⟨sI s 44 (2 + 56 * t + 2) (nI v), ?_, hR.book (Sm.rf.i (by decide)) (by rw [sI_44]; exact bookP_be hR.2.1 hB ht), Un42.rf.i (by decide)⟩
          unfold f_X8_change
          rw [i8 s hR, cP_s, if_neg n10]
          simp only [jn_s]
          rw [if_neg q0, if_pos q1, in8_s, in_bI, cP_s, bI_t hv, if_neg n10, if_neg n10, termAt8_s, cP_s, if_neg q0, nI_p2, rI_n (by omega) (by decide), wI_n (by omega) (by decide), (hR.2.1.2.2.1 t ht).2.2.1]
      · refine ⟨-1000000002, (S, B, T, im), hm0, fun hC => ⟨σ, ?_, hC, Un43.rf⟩, fun s hR => ⟨s, ?_, hR, Un42.rf⟩⟩
        · unfold f_X7_change
          rw [i7 σ hC, cP_s, if_neg n10]
          simp only [jn_s]
          by_cases q0 : a2 = 0
          · rw [if_pos q0, isWeight7_s, cP_s, bI_f (fun z => hw ⟨q0, z⟩), if_pos rfl, if_neg (by rw [q0]; exact n01)]
          · rw [if_neg q0]
            by_cases q1 : a2 = 1
            · rw [if_pos q1, isBent7_s, cP_s, bI_f (fun z => hb ⟨q1, z⟩), if_pos rfl]
            · rw [if_neg q1]
        · unfold f_X8_change
          rw [i8 s hR, cP_s, if_neg n10]
          simp only [jn_s]
          by_cases q0 : a2 = 0
          · rw [if_pos q0, in8_s, in_bI, cP_s, bI_f (fun z => hw ⟨q0, z⟩), if_pos rfl, if_neg (by rw [q0]; exact n01), if_pos trivial]
          · rw [if_neg q0]
            by_cases q1 : a2 = 1
            · rw [if_pos q1, in8_s, in_bI, cP_s, bI_f (fun z => hb ⟨q1, z⟩), if_pos rfl, if_pos trivial]
            · rw [if_neg q1, if_pos trivial]
  · refine ⟨-1000000001, (S, B, T, im), hm0, fun hC => ⟨σ, ?_, hC, Un43.rf⟩, fun s hR => ⟨s, ?_, hR, Un42.rf⟩⟩
    · unfold f_X7_change
      rw [isTerm7_s hC.2.1 hB, cP_s, bI_f hr, if_pos rfl]
    · unfold f_X8_change
      rw [isTerm8_s hR.2.1 hB, cP_s, bI_f hr, if_pos rfl]
end
section
theorem nI_or (a b : Nat) : nI a ||| nI b = nI (a ||| b) := by
  apply Int32.toBitVec_inj.1
  show BitVec.ofNat 32 a ||| BitVec.ofNat 32 b = BitVec.ofNat 32 (a ||| b)
  apply BitVec.eq_of_getLsbD_eq
  intro i hi
  simp [hi]
theorem shl1 : ∀ t, t < 8 → (1 : Int32) <<< (nI t &&& 31) = nI (2 ^ t) := by decide
theorem fbs_lt {B : Bk} : ∀ t, t ≤ 8 → ∃ k, k < 2 ^ t ∧ fbs B t = nI k
  | 0, _ => ⟨0, by decide, rfl⟩
  | t + 1, h => by
    obtain ⟨k, h1, h2⟩ := fbs_lt (B := B) t (by omega)
    rw [fbs]
    split
    · exact ⟨k, by rw [Nat.pow_succ]; omega, h2⟩
    · refine ⟨k ||| 2 ^ t, ?_, by rw [h2, shl1 t (by omega), nI_or]⟩
      apply Nat.or_lt_two_pow
      · rw [Nat.pow_succ]; omega
      · rw [Nat.pow_succ]
        have := Nat.two_pow_pos t
        omega
/-- how many of the first i bits -/
def onB (c : Int32) : Nat → Int32
  | 0 => 0
  | i + 1 => onB c i + ((c >>> (nI i &&& 31)) &&& 1)
theorem ones8_s {σ : Sg} (c : Int32) : f_X8_ones σ c = some (onB c 8) := by
  have key : ∀ n i, i ≤ 8 → 8 < n + i → f_X8_ones_L4 (fun (v2 : Int32) => some v2) σ c n (onB c i) (nI i) = some (onB c 8) := by
    intro n
    induction n with
    | zero => intro i h h'; omega
    | succ n ih =>
      intro i hi hn
      rw [f_X8_ones_L4]
      rcases Nat.lt_or_ge i 8 with q | q
      · rw [if_neg (fun hc => by have := (c_ge 8 (by omega) (by decide)).mp hc; omega), nI_1]
        exact ih (i + 1) (by omega) (by omega)
      · have : i = 8 := by omega
        subst this
        rw [if_pos (by decide)]
  exact key fu 0 (by omega) (by unfold fu; omega)
def bcI (x : Int32) : Int32 := (f_J6_bitCount_0f7a4 (fun _ _ => 0, fun _ _ => 0) x).getD 0
theorem bitCount_s {σ : Sg} (x : Int32) : f_J6_bitCount_0f7a4 σ x = some (bcI x) := rfl
theorem bc_on : ∀ k, k < 256 → bcI (nI k) = onB (nI k) 8 := by decide +kernel
theorem bc_fbs {B : Bk} (hB : Bok B) : bcI (fbs B (b_tc B)) = onB (fbs B (b_tc B)) 8 := by
  have h8 := hB.1
  obtain ⟨k, h1, h2⟩ := fbs_lt (B := B) (b_tc B) h8
  have : 2 ^ b_tc B ≤ 2 ^ 8 := Nat.pow_le_pow_right (by decide) h8
  rw [h2]
  exact bc_on k (by omega)
section FB
variable {σ : Sg} {B : Bk}
theorem isPreferred8_s (hb : bookP (σ.1 44) B) (hB : Bok B) (a : Int32) : f_X8_isPreferred σ a = some (bI (∃ t, t < b_tc B ∧ b_pr B t = a)) := by
  have h8 := hB.1
  have key : ∀ n t, t ≤ b_tc B → b_tc B < n + t → f_X8_isPreferred_L4 (fun (v14 : Int32) => mH (v14 = 0 ∨ v14 = 1) (some v14)) σ a n (bI (∃ u, u < t ∧ b_pr B u = a)) (nI t) = some (bI (∃ t, t < b_tc B ∧ b_pr B t = a)) := by
    intro n
    induction n with
    | zero => intro t h h'; omega
    | succ n ih =>
      intro t ht hn
      rw [f_X8_isPreferred_L4, show (0 : Int32) = nI 0 from rfl, rI_n (by omega) (by decide), hb.1, show nI 0 = (0 : Int32) from rfl]
      simp only [jn_s]
      rcases Nat.lt_or_ge t (b_tc B) with q | q
      · have hnx := ih (t + 1) (by omega) (by omega)
        rw [← nI_1] at hnx
        rw [if_neg (fun hc => by have := (nI_leI (by omega) (by omega)).mp hc; omega)]
        rcases Classical.em (∃ u, u < t ∧ b_pr B u = a) with h | h
        · rw [bI_t h, if_neg (by decide)]
          obtain ⟨u, h1, h2⟩ := h
          rw [bI_t ⟨u, by omega, h2⟩] at hnx
          exact hnx
        · rw [bI_f h, if_pos rfl, termAt8_s, cP_s, nI_p3, rI_n (by omega) (by decide), (hb.2.2.1 t q).2.2.2.1]
          by_cases h2 : b_pr B t = a
          · rw [if_pos h2]
            rw [bI_t ⟨t, by omega, h2⟩] at hnx
            exact hnx
          · rw [if_neg h2]
            rw [bI_f (by
              rintro ⟨u, h3, h4⟩
              rcases Nat.lt_or_ge u t with y | y
              · exact h ⟨u, y, h4⟩
              · have : u = t := by omega
                rw [this] at h4
                exact h2 h4)] at hnx
            exact hnx
      · have : t = b_tc B := by omega
        subst this
        rw [if_pos (nI_le (Nat.le_refl _) (by omega)), mH_t (bI_01 _)]
  have h0 := key fu 0 (Nat.zero_le _) (by unfold fu; omega)
  rw [bI_f (by rintro ⟨u, h1, -⟩; exact absurd h1 (Nat.not_lt_zero u))] at h0
  exact h0
theorem or_0 (x : Int32) : x ||| 0 = x := by
  apply Int32.toBitVec_inj.1
  show x.toBitVec ||| 0#32 = x.toBitVec
  simp
theorem forbidden8_s (hb : bookP (σ.1 44) B) (hB : Bok B) : f_X8_forbidden σ = some (fbs B (b_tc B)) := by
  have h8 := hB.1
  have key : ∀ n t, t ≤ b_tc B → b_tc B < n + t → f_X8_forbidden_L4 (fun (v13 : Int32) => some v13) σ n (fbs B t) (nI t) = some (fbs B (b_tc B)) := by
    intro n
    induction n with
    | zero => intro t h h'; omega
    | succ n ih =>
      intro t ht hn
      rw [f_X8_forbidden_L4, show (0 : Int32) = nI 0 from rfl, rI_n (by omega) (by decide), hb.1, show nI 0 = (0 : Int32) from rfl]
      simp only [jn_s]
      rcases Nat.lt_or_ge t (b_tc B) with q | q
      · have hnx := ih (t + 1) (by omega) (by omega)
        rw [fbs] at hnx
        rw [if_neg (fun hc => by have := (nI_leI (by omega) (by omega)).mp hc; omega), termAt8_s, cP_s, nI_p3, rI_n (by omega) (by decide), (hb.2.2.1 t q).2.2.2.1, nI_1]
        by_cases h : b_pr B t = -1
        · rw [if_pos h] at hnx
          rw [if_pos h, or_0, hnx]
        · rw [if_neg h] at hnx
          rw [if_neg h, hnx]
      · have : t = b_tc B := by omega
        subst this
        rw [if_pos (nI_le (Nat.le_refl _) (by omega))]
  exact key fu 0 (Nat.zero_le _) (by unfold fu; omega)
end FB
theorem ps_forbid (σ : Sg) (a1 a2 : Int32) (h : InvA σ) : ∃ (r : Int32) (σ1 σ2 : Sg), f_X7_forbid σ a1 a2 = some (r, σ1) ∧ f_X8_forbid σ1 a1 a2 = some (r, σ2) ∧ InvA σ2 := by
  refine step2 (f7 := fun s => f_X7_forbid s a1 a2) (f8 := fun s => f_X8_forbid s a1 a2) h (fun M hm => ?_)
  obtain ⟨S, B, T, im⟩ := M
  have hm0 := hm
  obtain ⟨hS, hB, hT, hI⟩ := hm
  have hB : Bok B := hB
  have h8 := hB.1
  have n10 : ¬ (1 : Int32) = 0 := by decide
  by_cases hr : rg a1 (b_tc B) ∧ rg a2 (b_tc B) ∧ ¬ a1 = a2
  · obtain ⟨⟨t, ht, rfl⟩, ⟨u, hu, rfl⟩, hne⟩ := hr
    have i7 : ∀ s x, x < b_tc B → InvC s (S, B, T, im) → f_X1_isTerm s (nI x) = some 1 := fun s x hx hC => by rw [isTerm7_s hC.2.1 hB, bI_t ⟨x, hx, rfl⟩]
    have i8 : ∀ s x, x < b_tc B → InvR s (S, B, T, im) → f_X8_isTerm s (nI x) = some 1 := fun s x hx hR => by rw [isTerm8_s hR.2.1 hB, bI_t ⟨x, hx, rfl⟩]
    by_cases hp : (¬ ∃ t', t' < b_tc B ∧ b_pr B t' = nI t) ∧ b_pr B u = -1
    · obtain ⟨hp1, hp2⟩ := hp
      have hB' : Bok (sPr B t (nI u)) := sPr_ok hB (Or.inr ⟨u, hu, rfl⟩)
      refine ⟨onB (fbs (sPr B t (nI u)) (b_tc B)) 8, (S, sPr B t (nI u), T, im), ⟨hS, hB', hT, hI⟩, fun hC => ?_, fun s hR => ?_⟩
      · obtain ⟨s', e1, e2, e3, e4, e5⟩ := hC.terms (L := [9]) (Sm.rf.i (by decide)) (by decide) (lexC_pr (t := t) (v := nI u) hC.2.1)
        refine ⟨s', ?_, e2, e3⟩
        unfold f_X7_forbid
        rw [i7 σ t ht hC, cP_s, if_neg n10, i7 σ u hu hC, cP_s, if_neg n10, if_neg hne, isPreferred7_s hC.2.1 hB, cP_s, bI_f hp1, if_pos rfl, isForbidden7_s hC.2.1 hB hu, cP_s, bI_f (fun z => z hp2), if_pos rfl, wI_n (by omega) (by decide), e1, cA_s, forbiddenSet7_s e5 hB', cP_s, bitCount_s, cP_s, bc_fbs hB']
        rfl
      · have hb' : bookP ((sI s 44 (2 + 56 * t + 3) (nI u)).1 44) (sPr B t (nI u)) := by rw [sI_44]; exact bookP_pr hR.2.1 hB ht
        refine ⟨sI s 44 (2 + 56 * t + 3) (nI u), ?_, hR.book (Sm.rf.i (by decide)) hb', Un42.rf.i (by decide)⟩
        unfold f_X8_forbid
        rw [i8 s t ht hR, cP_s, if_neg n10, i8 s u hu hR, cP_s, if_neg n10, if_neg hne, isPreferred8_s hR.2.1 hB, cP_s, bI_f hp1, if_pos rfl, termAt8_s, cP_s, nI_p3, rI_n (by omega) (by decide), (hR.2.1.2.2.1 u hu).2.2.2.1]
        show (if b_pr B u = -1 then _ else _) = _
        rw [if_pos hp2, termAt8_s, cP_s, nI_p3, wI_n (by omega) (by decide), forbidden8_s hb' hB', cP_s, ones8_s, cP_s]
        rfl
    · refine ⟨-1000000003, (S, B, T, im), hm0, fun hC => ⟨σ, ?_, hC, Un43.rf⟩, fun s hR => ⟨s, ?_, hR, Un42.rf⟩⟩
      · unfold f_X7_forbid
        rw [i7 σ t ht hC, cP_s, if_neg n10, i7 σ u hu hC, cP_s, if_neg n10, if_neg hne, isPreferred7_s hC.2.1 hB, cP_s]
        rcases Classical.em (∃ t', t' < b_tc B ∧ b_pr B t' = nI t) with q | q
        · rw [bI_t q, if_neg n10]
        · rw [bI_f q, if_pos rfl, isForbidden7_s hC.2.1 hB hu, cP_s, bI_t (fun z => hp ⟨q, z⟩), if_neg n10]
      · unfold f_X8_forbid
        rw [i8 s t ht hR, cP_s, if_neg n10, i8 s u hu hR, cP_s, if_neg n10, if_neg hne, isPreferred8_s hR.2.1 hB, cP_s]
        rcases Classical.em (∃ t', t' < b_tc B ∧ b_pr B t' = nI t) with q | q
        · rw [bI_t q, if_neg n10]
        · rw [bI_f q, if_pos rfl, termAt8_s, cP_s, nI_p3, rI_n (by omega) (by decide), (hR.2.1.2.2.1 u hu).2.2.2.1]
          show (if b_pr B u = -1 then _ else _) = _
          rw [if_neg (fun z => hp ⟨q, z⟩)]
  · refine ⟨-1000000001, (S, B, T, im), hm0, fun hC => ⟨σ, ?_, hC, Un43.rf⟩, fun s hR => ⟨s, ?_, hR, Un42.rf⟩⟩
    · unfold f_X7_forbid
      rw [isTerm7_s hC.2.1 hB, cP_s]
      rcases Classical.em (rg a1 (b_tc B)) with q | q
      · rw [bI_t q, if_neg n10, isTerm7_s hC.2.1 hB, cP_s]
        rcases Classical.em (rg a2 (b_tc B)) with q2 | q2
        · rw [bI_t q2, if_neg n10, if_pos (Classical.byContradiction fun z => hr ⟨q, q2, z⟩)]
        · rw [bI_f q2, if_pos rfl]
      · rw [bI_f q, if_pos rfl]
    · unfold f_X8_forbid
      rw [isTerm8_s hR.2.1 hB, cP_s]
      rcases Classical.em (rg a1 (b_tc B)) with q | q
      · rw [bI_t q, if_neg n10, isTerm8_s hR.2.1 hB, cP_s]
        rcases Classical.em (rg a2 (b_tc B)) with q2 | q2
        · rw [bI_t q2, if_neg n10, if_pos (Classical.byContradiction fun z => hr ⟨q, q2, z⟩)]
        · rw [bI_f q2, if_pos rfl]
      · rw [bI_f q, if_pos rfl]
theorem ps_allow (σ : Sg) (a1 : Int32) (h : InvA σ) : ∃ (r : Int32) (σ1 σ2 : Sg), f_X7_allow σ a1 = some (r, σ1) ∧ f_X8_allow σ1 a1 = some (r, σ2) ∧ InvA σ2 := by
  refine step2 (f7 := fun s => f_X7_allow s a1) (f8 := fun s => f_X8_allow s a1) h (fun M hm => ?_)
  obtain ⟨S, B, T, im⟩ := M
  have hm0 := hm
  obtain ⟨hS, hB, hT, hI⟩ := hm
  have hB : Bok B := hB
  have h8 := hB.1
  have n10 : ¬ (1 : Int32) = 0 := by decide
  rcases Classical.em (rg a1 (b_tc B)) with hr | hr
  · obtain ⟨t, ht, rfl⟩ := hr
    have i7 : ∀ s, InvC s (S, B, T, im) → f_X1_isTerm s (nI t) = some 1 := fun s hC => by rw [isTerm7_s hC.2.1 hB, bI_t ⟨t, ht, rfl⟩]
    have i8 : ∀ s, InvR s (S, B, T, im) → f_X8_isTerm s (nI t) = some 1 := fun s hR => by rw [isTerm8_s hR.2.1 hB, bI_t ⟨t, ht, rfl⟩]
    by_cases hp : b_pr B t = -1
    · refine ⟨-1000000003, (S, B, T, im), hm0, fun hC => ⟨σ, ?_, hC, Un43.rf⟩, fun s hR => ⟨s, ?_, hR, Un42.rf⟩⟩
      · unfold f_X7_allow
        rw [i7 σ hC, cP_s, if_neg n10, isForbidden7_s hC.2.1 hB ht, cP_s, bI_f (fun z => z hp), if_pos rfl]
      · unfold f_X8_allow
        rw [i8 s hR, cP_s, if_neg n10, termAt8_s, cP_s, nI_p3, rI_n (by omega) (by decide), (hR.2.1.2.2.1 t ht).2.2.2.1]
        show (if b_pr B t = -1 then _ else _) = _
        rw [if_pos hp]
    · have hB' : Bok (sPr B t (-1)) := sPr_ok hB (Or.inl rfl)
      refine ⟨onB (fbs (sPr B t (-1)) (b_tc B)) 8, (S, sPr B t (-1), T, im), ⟨hS, hB', hT, hI⟩, fun hC => ?_, fun s hR => ?_⟩
      · obtain ⟨s', e1, e2, e3, e4, e5⟩ := hC.terms (L := [9]) (Sm.rf.i (by decide)) (by decide) (lexC_pr (t := t) (v := -1) hC.2.1)
        refine ⟨s', ?_, e2, e3⟩
        unfold f_X7_allow
        rw [i7 σ hC, cP_s, if_neg n10, isForbidden7_s hC.2.1 hB ht, cP_s, bI_t hp, if_neg n10, wI_n (by omega) (by decide), e1, cA_s, forbiddenSet7_s e5 hB', cP_s, bitCount_s, cP_s, bc_fbs hB']
        rfl
      · have hb' : bookP ((sI s 44 (2 + 56 * t + 3) (-1)).1 44) (sPr B t (-1)) := by rw [sI_44]; exact bookP_pr hR.2.1 hB ht
        refine ⟨sI s 44 (2 + 56 * t + 3) (-1), ?_, hR.book (Sm.rf.i (by decide)) hb', Un42.rf.i (by decide)⟩
        unfold f_X8_allow
        rw [i8 s hR, cP_s, if_neg n10, termAt8_s, cP_s, nI_p3, rI_n (by omega) (by decide), (hR.2.1.2.2.1 t ht).2.2.2.1]
        show (if b_pr B t = -1 then _ else _) = _
        rw [if_neg hp, cP_s, nI_p3, wI_n (by omega) (by decide), forbidden8_s hb' hB', cP_s, ones8_s, cP_s]
        rfl
  · refine ⟨-1000000001, (S, B, T, im), hm0, fun hC => ⟨σ, ?_, hC, Un43.rf⟩, fun s hR => ⟨s, ?_, hR, Un42.rf⟩⟩
    · unfold f_X7_allow
      rw [isTerm7_s hC.2.1 hB, cP_s, bI_f hr, if_pos rfl]
    · unfold f_X8_allow
      rw [isTerm8_s hR.2.1 hB, cP_s, bI_f hr, if_pos rfl]
end
section
theorem letter8_at {σ : Sg} {p : Nat} {w : List Nat} (h : wordP (σ.1 44) p w) (hl : w.length ≤ 12) (hp : p + 1 + w.length ≤ 475) {i : Nat} (hi : i < 2 ^ 31) : (rI σ 44 475 (nI p) fun x5 => (if x5 ≤ nI i then (some (-1)) else (rI σ 44 475 ((nI p + 1) + nI i) fun x8 => (some x8)))) = some (letA w i) := by
  rw [rI_n (by omega) (by decide), h.1]
  unfold letA
  rcases Nat.lt_or_ge i w.length with q | q
  · rw [if_neg (fun hc => by have := (nI_leI (by omega) hi).mp hc; omega), nI_1, nI_add, rI_n (by omega) (by decide)]
    have := List.getElem?_eq_getElem q
    rw [this, h.2 i _ this]
  · rw [if_pos (nI_le q hi), List.getElem?_eq_none_iff.mpr q]
theorem ps_letter (σ : Sg) (a1 a2 a3 : Int32) (h : InvA σ) : ∃ r : Int32, f_X7_letter σ a1 a2 a3 = some r ∧ f_X8_letter σ a1 a2 a3 = some r := by
  obtain ⟨⟨S, B, T, im⟩, ⟨hS, hB, hT, hI⟩, hC, hR⟩ := h
  have hB : Bok B := hB
  have h8 := hB.1
  have h5 := hB.2.1
  have hl : lexC σ B := hC.2.1
  have hb : bookP (σ.1 44) B := hR.2.1
  have n10 : ¬ (1 : Int32) = 0 := by decide
  have hx : ∀ a : Int32, ¬ a = -1 → (a < -1 ↔ a < 0) := fun a hk => by
    have e0 : (0 : Int32).toInt = 0 := by decide
    have e1 : (-1 : Int32).toInt = -1 := by decide
    rw [Int32.lt_iff_toInt_lt, Int32.lt_iff_toInt_lt, e0, e1]
    have : a.toInt ≠ -1 := fun z => hk (Int32.toInt_inj.mp (by rw [z, e1]))
    omega
  by_cases hk : a2 = -1
  · rcases Classical.em (rg a1 (b_ec B)) with hr | hr
    · have hr0 := hr
      obtain ⟨e, he, rfl⟩ := hr
      have hE := hB.2.2.2 e he
      by_cases h3 : a3 < 0
      · refine ⟨-1000000002, ?_, ?_⟩
        · unfold f_X7_letter
          simp only [jn_s]
          rw [if_pos hk, isEnding7_s hl hB, cP_s, bI_t hr0, if_neg n10, if_neg (fun z => (i32_nlt.mpr z) h3)]
        · unfold f_X8_letter
          simp only [jn_s]
          rw [if_pos hk, isEnding8_s hb hB, cP_s, bI_t hr0, if_neg n10, if_pos h3]
      · obtain ⟨i, hi, rfl⟩ := nI_of h3
        refine ⟨letA (b_en B e) i, ?_, ?_⟩
        · unfold f_X7_letter
          simp only [jn_s]
          rw [if_pos hk, isEnding7_s hl hB, cP_s, bI_t hr0, if_neg n10, if_pos (i32_nlt.mp h3), if_pos hk, rL_n (by omega) (by decide), hl.2.2.2 e he, at_s hE.1 (by have := hE.2.2; omega) hi, cP_s]
        · unfold f_X8_letter
          simp only [jn_s]
          rw [if_pos hk, isEnding8_s hb hB, cP_s, bI_t hr0, if_neg n10, if_neg h3, if_neg (by rw [hk]; decide), if_pos hk, if_pos hk, endingAt8_s, cP_s, letter8_at (hb.2.2.2 e he) (by have := hE.2.2; omega) (by have := hE.2.2; omega) hi]
    · refine ⟨-1000000001, ?_, ?_⟩
      · unfold f_X7_letter
        simp only [jn_s]
        rw [if_pos hk, isEnding7_s hl hB, cP_s, bI_f hr, if_pos rfl]
      · unfold f_X8_letter
        simp only [jn_s]
        rw [if_pos hk, isEnding8_s hb hB, cP_s, bI_f hr, if_pos rfl]
  · rcases Classical.em (rg a1 (b_tc B)) with hr | hr
    · have hr0 := hr
      obtain ⟨t, ht, rfl⟩ := hr
      have hT1 := hB.2.2.1 t ht
      have n4 := hT1.1
      by_cases h3 : a3 < 0
      · refine ⟨-1000000002, ?_, ?_⟩
        · unfold f_X7_letter
          simp only [jn_s]
          rw [if_neg hk, isTerm7_s hl hB, cP_s, bI_t hr0, if_neg n10, if_neg (fun z => (i32_nlt.mpr z) h3)]
        · unfold f_X8_letter
          simp only [jn_s]
          rw [if_neg hk, isTerm8_s hb hB, cP_s, bI_t hr0, if_neg n10, if_pos h3]
      · obtain ⟨i, hi, rfl⟩ := nI_of h3
        by_cases h2 : a2 < 0
        · refine ⟨-1000000002, ?_, ?_⟩
          · unfold f_X7_letter
            simp only [jn_s]
            rw [if_neg hk, isTerm7_s hl hB, cP_s, bI_t hr0, if_neg n10, if_pos (i32_nlt.mp h3), if_neg hk, if_pos h2]
          · unfold f_X8_letter
            simp only [jn_s]
            rw [if_neg hk, isTerm8_s hb hB, cP_s, bI_t hr0, if_neg n10, if_neg h3, if_pos ((hx a2 hk).mpr h2)]
        · have h2' : ¬ a2 < -1 := fun z => h2 ((hx a2 hk).mp z)
          obtain ⟨k, hk2, rfl⟩ := nI_of h2
          by_cases hkn : k < b_n B t
          · have hw := hT1.2.2.2.2.1 k hkn
            have hlt : nI k < nI (b_n B t) := (nI_ltI hk2 (by omega)).mpr hkn
            refine ⟨letA (b_w B t k) i, ?_, ?_⟩
            · unfold f_X7_letter
              simp only [jn_s]
              rw [if_neg hk, isTerm7_s hl hB, cP_s, bI_t hr0, if_neg n10, if_pos (i32_nlt.mp h3), if_neg hk, if_neg h2, rI_n (by omega) (by decide), (hl.2.2.1 t ht).1, if_pos hlt, wordOf7_s hl hB ht hkn, cP_s, at_s hw.1 hw.2.2 hi, cP_s]
            · unfold f_X8_letter
              simp only [jn_s]
              rw [if_neg hk, isTerm8_s hb hB, cP_s, bI_t hr0, if_neg n10, if_neg h3, if_neg h2', if_neg hk, termAt8_s, cP_s, nI_p0, rI_n (by omega) (by decide), (hb.2.2.1 t ht).1, if_pos hlt, if_neg hk, wordAt8_s, cP_s, letter8_at ((hb.2.2.1 t ht).2.2.2.2 k hkn) hw.2.2 (by have := hw.2.2; omega) hi]
          · have hlt : ¬ nI k < nI (b_n B t) := fun z => hkn ((nI_ltI hk2 (by omega)).mp z)
            refine ⟨-1000000002, ?_, ?_⟩
            · unfold f_X7_letter
              simp only [jn_s]
              rw [if_neg hk, isTerm7_s hl hB, cP_s, bI_t hr0, if_neg n10, if_pos (i32_nlt.mp h3), if_neg hk, if_neg h2, rI_n (by omega) (by decide), (hl.2.2.1 t ht).1, if_neg hlt]
            · unfold f_X8_letter
              simp only [jn_s]
              rw [if_neg hk, isTerm8_s hb hB, cP_s, bI_t hr0, if_neg n10, if_neg h3, if_neg h2', if_neg hk, termAt8_s, cP_s, nI_p0, rI_n (by omega) (by decide), (hb.2.2.1 t ht).1, if_neg hlt]
    · refine ⟨-1000000001, ?_, ?_⟩
      · unfold f_X7_letter
        simp only [jn_s]
        rw [if_neg hk, isTerm7_s hl hB, cP_s, bI_f hr, if_pos rfl]
      · unfold f_X8_letter
        simp only [jn_s]
        rw [if_neg hk, isTerm8_s hb hB, cP_s, bI_f hr, if_pos rfl]
/-- an ending goes -/
def rmE (B : Bk) (e : Nat) : Bk := (b_tc B, b_ec B - 1, b_n B, b_w B, b_we B, b_be B, b_pr B, fun x => if x < e then b_en B x else b_en B (x + 1))
theorem rmE_ok {B : Bk} {e : Nat} (hB : Bok B) : Bok (rmE B e) := by
  refine ⟨hB.1, by show b_ec B - 1 ≤ 5; have := hB.2.1; omega, hB.2.2.1, fun x hx => ?_⟩
  have hx : x < b_ec B - 1 := hx
  show wok 4 (if x < e then b_en B x else b_en B (x + 1))
  split
  · exact hB.2.2.2 x (by omega)
  · exact hB.2.2.2 (x + 1) (by omega)
theorem removeEnding7_s {σ : Sg} {B : Bk} {e : Nat} (hl : lexC σ B) (hB : Bok B) (he : e < b_ec B) : ∃ s', f_X1_removeEnding σ (nI e) = some ((), s') ∧ lexC s' (rmE B e) ∧ Sm [4] [10] σ s' := by
  have h5 := hB.2.1
  have key : ∀ (kk : Sg → Option (Unit × Sg)) n i s, e ≤ i → i < b_ec B → b_ec B < n + i → s.1 = σ.1 → (∀ a, a ≠ 10 → s.2 a = σ.2 a) → (∀ x, x < e → s.2 10 x = σ.2 10 x) → (∀ x, e ≤ x → x < i → s.2 10 x = σ.2 10 (x + 1)) → (∀ x, i ≤ x → s.2 10 x = σ.2 10 x) → ∃ s', f_X1_removeEnding_L2 kk n s (nI i) = kk s' ∧ s'.1 = σ.1 ∧ (∀ a, a ≠ 10 → s'.2 a = σ.2 a) ∧ (∀ x, x < e → s'.2 10 x = σ.2 10 x) ∧ (∀ x, e ≤ x → x + 1 < b_ec B → s'.2 10 x = σ.2 10 (x + 1)) := by
    intro kk n
    induction n with
    | zero => intro i s h h2 h'; omega
    | succ n ih =>
      intro i s h1 h2 h3 a1 a2 a3 a4 a5
      rw [f_X1_removeEnding_L2, a1, hl.2.1, nI_1]
      rcases Nat.lt_or_ge (i + 1) (b_ec B) with q | q
      · rw [if_neg (fun hc => by have := (nI_leI (by omega) (by omega)).mp hc; omega), rL_n (by omega) (by decide), wL_n (by omega) (by decide)]
        refine ih (i + 1) _ (by omega) q (by omega) a1 (fun a ha => by rw [sL_ne s ha]; exact a2 a ha) (fun x hx => by rw [sL_2, if_neg (fun hc => by omega)]; exact a3 x hx) (fun x hx1 hx2 => ?_) (fun x hx => by rw [sL_2, if_neg (fun hc => by omega)]; exact a5 x (by omega))
        rw [sL_2]
        by_cases z : x = i
        · rw [if_pos ⟨rfl, z⟩, z]; exact a5 (i + 1) (by omega)
        · rw [if_neg (fun hc => z hc.2)]; exact a4 x hx1 (by omega)
      · rw [if_pos (nI_le q (by omega))]
        exact ⟨s, rfl, a1, a2, a3, fun x hx1 hx2 => a4 x hx1 (by omega)⟩
  obtain ⟨s', b0, b1, b2, b3, b4⟩ := key (fun (s8 : Sg) => pI s8 4 6 ((s8.1 4 6) - 1) fun s9 => (some ((), s9))) fu e σ (Nat.le_refl _) he (by unfold fu; omega) rfl (fun _ _ => rfl) (fun _ _ => rfl) (fun x h1 h2 => by omega) (fun _ _ => rfl)
  refine ⟨sI s' 4 6 (nI (b_ec B - 1)), ?_, ?_, ?_⟩
  · unfold f_X1_removeEnding
    rw [b0, pI_s, b1, hl.2.1, nI_s1 (by omega)]
  · obtain ⟨c1, c2, c3, c4⟩ := hl
    refine ⟨by rw [sI_1, if_neg (by decide), b1]; exact c1, by rw [sI_1, if_pos ⟨rfl, rfl⟩]; rfl, fun t ht => ?_, fun x hx => ?_⟩
    · have := c3 t ht
      rw [sI_ne s' (by decide), sI_ne s' (by decide), sI_ne s' (by decide), sI_ne s' (by decide), b1, sI_2, b2 5 (by decide)]
      exact this
    · have hx : x < b_ec B - 1 := hx
      show s'.2 10 x = eL (if x < e then b_en B x else b_en B (x + 1))
      by_cases q : x < e
      · rw [if_pos q, b3 x q]; exact c4 x (by omega)
      · rw [if_neg q, b4 x (by omega) (by omega)]; exact c4 (x + 1) (by omega)
  · have h0 : Sm [4] [10] σ s' := ⟨fun a _ => by rw [b1], fun a ha => b2 a (fun z => ha (by rw [z]; decide))⟩
    exact h0.i (by decide)
theorem ps_dropEnding (σ : Sg) (a1 : Int32) (h : InvA σ) : ∃ (r : Int32) (σ1 σ2 : Sg), f_X7_dropEnding σ a1 = some (r, σ1) ∧ f_X8_dropEnding σ1 a1 = some (r, σ2) ∧ InvA σ2 := by
  refine step2 (f7 := fun s => f_X7_dropEnding s a1) (f8 := fun s => f_X8_dropEnding s a1) h (fun M hm => ?_)
  obtain ⟨S, B, T, im⟩ := M
  have hm0 := hm
  obtain ⟨hS, hB, hT, hI⟩ := hm
  have hB : Bok B := hB
  have h5 := hB.2.1
  have h8 := hB.1
  have n10 : ¬ (1 : Int32) = 0 := by decide
  rcases Classical.em (rg a1 (b_ec B)) with hr | hr
  · have hr0 := hr
    obtain ⟨e, he, rfl⟩ := hr
    refine ⟨nI (b_ec B - 1), (S, rmE B e, T, im), ⟨hS, rmE_ok hB, hT, hI⟩, fun hC => ?_, fun s hR => ?_⟩
    · obtain ⟨s7, d1, d2, d3⟩ := removeEnding7_s hC.2.1 hB he
      obtain ⟨s', e1, e2, e3, e4, e5⟩ := hC.terms (L := [4]) (d3.up (fun x h => h) (by decide)) (by decide) d2
      refine ⟨s', ?_, e2, e3⟩
      unfold f_X7_dropEnding
      rw [isEnding7_s hC.2.1 hB, cP_s, bI_t hr0, if_neg n10, d1, cA_s, e1, cA_s, e5.2.1]
      rfl
    · have key : ∀ (kk : Sg → Option (Int32 × Sg)) n j s2, 450 + 5 * e ≤ j → j ≤ 470 → 470 < n + j → Sm [44] [] s s2 → (∀ x, x < 450 + 5 * e → s2.1 44 x = s.1 44 x) → (∀ x, 450 + 5 * e ≤ x → x < j → s2.1 44 x = s.1 44 (x + 5)) → (∀ x, j ≤ x → s2.1 44 x = s.1 44 x) → ∃ s3, f_X8_dropEnding_L16 kk n s2 (nI j) = kk s3 ∧ Sm [44] [] s s3 ∧ (∀ x, x < 450 + 5 * e → s3.1 44 x = s.1 44 x) ∧ (∀ x, 450 + 5 * e ≤ x → x < 470 → s3.1 44 x = s.1 44 (x + 5)) := by
        intro kk n
        induction n with
        | zero => intro j s2 h1 h2 h3; omega
        | succ n ih =>
          intro j s2 h1 h2 h3 a1 a2 a3 a4
          rw [f_X8_dropEnding_L16, li 5, nI_add]
          rcases Nat.lt_or_ge (j + 5) 475 with q | q
          · rw [if_neg (fun hc => by have := (c_ge 475 (by omega) (by decide)).mp hc; omega), rI_n q (by decide), wI_n (by omega) (by decide), nI_1]
            refine ih (j + 1) _ (by omega) (by omega) (by omega) (a1.i (by decide)) (fun x hx => by rw [sI_1, if_neg (by omega)]; exact a2 x hx) (fun x hx1 hx2 => ?_) (fun x hx => by rw [sI_1, if_neg (by omega)]; exact a4 x (by omega))
            rw [sI_1]
            by_cases z : x = j
            · rw [if_pos ⟨rfl, z⟩, z]; exact a4 (j + 5) (by omega)
            · rw [if_neg (fun hc => z hc.2)]; exact a3 x hx1 (by omega)
          · have : j = 470 := by omega
            subst this
            rw [if_pos (by decide)]
            exact ⟨s2, rfl, a1, a2, a3⟩
      obtain ⟨s3, b0, b1, b2, b3⟩ := key (fun (s12 : Sg) => rI s12 44 475 1 fun x13 => (wI s12 44 475 1 (x13 - 1) fun s16 => (rI s16 44 475 1 fun x19 => (some (x19, s16))))) fu (450 + 5 * e) s (Nat.le_refl _) (by omega) (by unfold fu; omega) Sm.rf (fun _ _ => rfl) (fun x h1 h2 => by omega) (fun _ _ => rfl)
      have e31 : s3.1 44 1 = nI (b_ec B) := by rw [b2 1 (by omega)]; exact hR.2.1.2.1
      refine ⟨sI s3 44 1 (nI (b_ec B - 1)), ?_, hR.book (b1.i (by decide)) ?_, (b1.i (by decide)).u42 (by decide)⟩
      · unfold f_X8_dropEnding
        rw [isEnding8_s hR.2.1 hB, cP_s, bI_t hr0, if_neg n10, endingAt8_s, cP_s, b0, show (1 : Int32) = nI 1 from rfl, rI_n (by omega) (by decide), wI_n (by omega) (by decide), rI_n (by omega) (by decide), e31, sI_1, if_pos ⟨rfl, rfl⟩]
        rw [show nI 1 = (1 : Int32) from rfl, nI_s1 (by omega)]
      · have hbk : bookP (s.1 44) B := hR.2.1
        obtain ⟨c1, c2, c3, c4⟩ := hbk
        have f1 : ∀ x, x < 450 + 5 * e → x ≠ 1 → (sI s3 44 1 (nI (b_ec B - 1))).1 44 x = s.1 44 x := fun x h1 h2 => by rw [sI_1, if_neg (fun hc => h2 hc.2)]; exact b2 x h1
        have f2 : ∀ x, 450 + 5 * e ≤ x → x < 470 → (sI s3 44 1 (nI (b_ec B - 1))).1 44 x = s.1 44 (x + 5) := fun x h1 h2 => by rw [sI_1, if_neg (by omega)]; exact b3 x h1 h2
        refine ⟨by rw [f1 0 (by omega) (by omega)]; exact c1, by rw [sI_1, if_pos ⟨rfl, rfl⟩]; rfl, fun t ht => ?_, fun x hx => ?_⟩
        · have ht : t < b_tc B := ht
          obtain ⟨d1, d2, d3, d4, d5⟩ := c3 t ht
          refine ⟨by rw [f1 _ (by omega) (by omega)]; exact d1, by rw [f1 _ (by omega) (by omega)]; exact d2, by rw [f1 _ (by omega) (by omega)]; exact d3, by rw [f1 _ (by omega) (by omega)]; exact d4, fun k hk => (d5 k hk).cg (fun j h1 h2 => ?_)⟩
          have hk : k < b_n B t := hk
          have hn := (hB.2.2.1 t ht).1
          have h12 : (b_w B t k).length ≤ 12 := ((hB.2.2.1 t ht).2.2.2.2.1 k hk).2.2
          have h2 : j < 2 + 56 * t + 4 + 13 * k + 1 + (b_w B t k).length := h2
          exact f1 j (by omega) (by omega)
        · have hx : x < b_ec B - 1 := hx
          show wordP _ (450 + 5 * x) (if x < e then b_en B x else b_en B (x + 1))
          by_cases q : x < e
          · rw [if_pos q]
            have h4 := (hB.2.2.2 x (by omega)).2.2
            exact (c4 x (by omega)).cg (fun j h1 h2 => f1 j (by omega) (by omega))
          · rw [if_neg q]
            have h4 := (hB.2.2.2 (x + 1) (by omega)).2.2
            have hw := c4 (x + 1) (by omega)
            refine ⟨?_, fun i y hy => ?_⟩
            · rw [f2 _ (by omega) (by omega), show 450 + 5 * x + 5 = 450 + 5 * (x + 1) by omega]; exact hw.1
            · have := (List.getElem?_eq_some_iff.mp hy).1
              rw [f2 _ (by omega) (by omega), show 450 + 5 * x + 1 + i + 5 = 450 + 5 * (x + 1) + 1 + i by omega]; exact hw.2 i y hy
  · refine ⟨-1000000001, (S, B, T, im), hm0, fun hC => ⟨σ, ?_, hC, Un43.rf⟩, fun s hR => ⟨s, ?_, hR, Un42.rf⟩⟩
    · unfold f_X7_dropEnding
      rw [isEnding7_s hC.2.1 hB, cP_s, bI_f hr, if_pos rfl]
    · unfold f_X8_dropEnding
      rw [isEnding8_s hR.2.1 hB, cP_s, bI_f hr, if_pos rfl]
end
section
theorem xL4_n {α : Type} {σ : Sg} {k0 n0 k1 n1 a b c : Nat} {f : Sg → Option α} (ha : a + c ≤ n0) (hb : b + c ≤ n1) (h0 : n0 < 2 ^ 31) (h1 : n1 < 2 ^ 31) : xL4 σ k0 n0 k1 n1 (nI a) (nI b) (nI c) f = f (cL σ k0 k1 a b c) := by
  unfold xL4
  rw [nI_clamp (by omega), nI_clamp (by omega), nI_clamp (by omega), if_pos ⟨nI_pos (by omega), nI_pos (by omega), nI_pos (by omega), ha, hb⟩]
theorem cL_1 (σ : Sg) (k0 k1 a b c : Nat) : (cL σ k0 k1 a b c).1 = σ.1 := rfl
theorem cL_2 (σ : Sg) (k0 k1 a b c x : Nat) : (cL σ k0 k1 a b c).2 x = if x = k1 then (fun j => if b ≤ j ∧ j < b + c then σ.2 k0 (a + (j - b)) else σ.2 k1 j) else σ.2 x := rfl
theorem mul4 (t : Nat) : nI t * 4 = nI (4 * t) := by rw [li 4, pk_mul, Nat.mul_comm]
theorem copyTerm_12_4_s {σ : Sg} {t : Nat} (ht : t < 8) : f_X1_copyTerm_12_4 σ (nI t) (nI t) = some ((), sI (sI (sI (sI (cL σ 5 13 (4 * t) (4 * t) 4) 14 t (σ.1 6 t)) 15 t (σ.1 7 t)) 16 t (σ.1 8 t)) 17 t (σ.1 9 t)) := by
  unfold f_X1_copyTerm_12_4
  rw [mul4, show (4 : Int32) = nI 4 from rfl, xL4_n (by omega) (by omega) (by decide) (by decide), rI_n ht (by decide), wI_n ht (by decide), rI_n ht (by decide), wI_n ht (by decide), rI_n ht (by decide), wI_n ht (by decide), rI_n ht (by decide), wI_n ht (by decide)]
  simp [sI_1, cL_1]
theorem copyFrom_12_4_s {σ : Sg} {B : Bk} (hB : Bok B) (hl : lexP (σ.1 4) (σ.2 5) (σ.1 6) (σ.1 7) (σ.1 8) (σ.1 9) (σ.2 10) B) : ∃ s', f_X1_copyFrom_12_4 σ = some ((), s') ∧ lexP (s'.1 12) (s'.2 13) (s'.1 14) (s'.1 15) (s'.1 16) (s'.1 17) (s'.2 18) B ∧ Sm [12, 14, 15, 16, 17] [13, 18] σ s' ∧ s'.1 12 8 = σ.1 12 8 := by
  have h8 := hB.1
  have h5 := hB.2.1
  have key : ∀ (kk : Sg → Option (Unit × Sg)) n t s, t ≤ 8 → 8 < n + t → Sm [12, 14, 15, 16, 17] [13, 18] σ s → (∀ j, s.1 12 j = if j = 0 then σ.1 4 0 else σ.1 12 j) → (∀ j, j < 4 * t → s.2 13 j = σ.2 5 j) → (∀ j, j < t → s.1 14 j = σ.1 6 j ∧ s.1 15 j = σ.1 7 j ∧ s.1 16 j = σ.1 8 j ∧ s.1 17 j = σ.1 9 j) → ∃ s', f_X1_copyFrom_12_4_L10 kk n s (nI t) = kk s' ∧ Sm [12, 14, 15, 16, 17] [13, 18] σ s' ∧ (∀ j, s'.1 12 j = if j = 0 then σ.1 4 0 else σ.1 12 j) ∧ (∀ j, j < 32 → s'.2 13 j = σ.2 5 j) ∧ ∀ j, j < 8 → s'.1 14 j = σ.1 6 j ∧ s'.1 15 j = σ.1 7 j ∧ s'.1 16 j = σ.1 8 j ∧ s'.1 17 j = σ.1 9 j := by
    intro kk n
    induction n with
    | zero => intro t s h h'; omega
    | succ n ih =>
      intro t s ht hn a1 a2 a3 a4
      rw [f_X1_copyFrom_12_4_L10]
      rcases Nat.lt_or_ge t 8 with q | q
      · rw [if_neg (fun hc => by have := (c_ge 8 (by omega) (by decide)).mp hc; omega), copyTerm_12_4_s q, cA_s, nI_1]
        have hc : Sm [12, 14, 15, 16, 17] [13, 18] σ (cL s 5 13 (4 * t) (4 * t) 4) := ⟨a1.1, fun x hx => by
          rw [cL_2, if_neg (fun z => hx (by rw [z]; decide))]
          exact a1.2 x hx⟩
        refine ih (t + 1) _ (by omega) (by omega) ((((hc.i (by decide)).i (by decide)).i (by decide)).i (by decide)) (fun j => ?_) (fun j hj => ?_) (fun j hj => ?_)
        · rw [sI_ne _ (by decide), sI_ne _ (by decide), sI_ne _ (by decide), sI_ne _ (by decide)]; exact a2 j
        · show (cL s 5 13 (4 * t) (4 * t) 4).2 13 j = _
          rw [cL_2, if_pos rfl]
          by_cases z : 4 * t ≤ j ∧ j < 4 * t + 4
          · rw [if_pos z, a1.2 5 (by decide), show 4 * t + (j - 4 * t) = j by omega]
          · rw [if_neg z]; exact a3 j (by omega)
        · by_cases z : j = t
          · subst z
            simp only [sI_1, cL_1, a1.1 6 (by decide), a1.1 7 (by decide), a1.1 8 (by decide), a1.1 9 (by decide)]
            simp
          · simp only [sI_1, cL_1]
            simp [z]
            exact a4 j (by omega)
      · have : t = 8 := by omega
        subst this
        rw [if_pos (by decide)]
        exact ⟨s, rfl, a1, a2, a3, a4⟩
  obtain ⟨s', b0, b1, b2, b3, b4⟩ := key (fun (s7 : Sg) => pI s7 12 6 (s7.1 4 6) fun s8 => (xL4 s8 10 5 18 5 0 0 5 fun s10 => (some ((), s10)))) fu 0 (sI σ 12 0 (σ.1 4 0)) (by omega) (by unfold fu; omega) (Sm.rf.i (by decide)) (fun j => by rw [sI_1]; by_cases z : j = 0 <;> simp [z]) (fun j hj => by omega) (fun j hj => by omega)
  refine ⟨cL (sI s' 12 6 (s'.1 4 6)) 10 18 0 0 5, ?_, ?_, ?_, ?_⟩
  · unfold f_X1_copyFrom_12_4
    rw [pI_s]
    refine b0.trans ?_
    rw [pI_s, show (0 : Int32) = nI 0 from rfl, show (5 : Int32) = nI 5 from rfl, xL4_n (by omega) (by omega) (by decide) (by decide)]
  · obtain ⟨c1, c2, c3, c4⟩ := hl
    refine ⟨?_, ?_, fun t ht => ?_, fun e he => ?_⟩
    · rw [cL_1, sI_1, if_neg (by decide), b2 0, if_pos rfl]; exact c1
    · rw [cL_1, sI_1, if_pos ⟨rfl, rfl⟩, b1.1 4 (by decide)]; exact c2
    · have h4 := (hB.2.2.1 t ht).1
      obtain ⟨d1, d2, d3, d4, d5⟩ := c3 t ht
      obtain ⟨e1, e2, e3, e4⟩ := b4 t (by omega)
      rw [cL_1, sI_ne _ (by decide), sI_ne _ (by decide), sI_ne _ (by decide), sI_ne _ (by decide), e1, e2, e3, e4]
      refine ⟨d1, d2, d3, d4, fun k hk => ?_⟩
      rw [cL_2, if_neg (by decide), sI_2, b3 _ (by omega)]
      exact d5 k hk
    · rw [cL_2, if_pos rfl]
      rw [if_pos (by omega), sI_2, b1.2 10 (by decide), show 0 + (e - 0) = e by omega]
      exact c4 e he
  · have hc := b1.i (k := 12) (j := 6) (v := s'.1 4 6) (by decide)
    exact ⟨hc.1, fun x hx => by
      rw [cL_2, if_neg (fun z => hx (by rw [z]; decide))]
      exact hc.2 x hx⟩
  · rw [cL_1, sI_1, if_neg (by decide), b2 8, if_neg (by decide)]
theorem copyTerm_19_4_s {σ : Sg} {t : Nat} (ht : t < 8) : f_X1_copyTerm_19_4 σ (nI t) (nI t) = some ((), sI (sI (sI (sI (cL σ 5 20 (4 * t) (4 * t) 4) 21 t (σ.1 6 t)) 22 t (σ.1 7 t)) 23 t (σ.1 8 t)) 24 t (σ.1 9 t)) := by
  unfold f_X1_copyTerm_19_4
  rw [mul4, show (4 : Int32) = nI 4 from rfl, xL4_n (by omega) (by omega) (by decide) (by decide), rI_n ht (by decide), wI_n ht (by decide), rI_n ht (by decide), wI_n ht (by decide), rI_n ht (by decide), wI_n ht (by decide), rI_n ht (by decide), wI_n ht (by decide)]
  simp [sI_1, cL_1]
theorem copyFrom_19_4_s {σ : Sg} {B : Bk} (hB : Bok B) (hl : lexP (σ.1 4) (σ.2 5) (σ.1 6) (σ.1 7) (σ.1 8) (σ.1 9) (σ.2 10) B) : ∃ s', f_X1_copyFrom_19_4 σ = some ((), s') ∧ lexP (s'.1 19) (s'.2 20) (s'.1 21) (s'.1 22) (s'.1 23) (s'.1 24) (s'.2 25) B ∧ Sm [19, 21, 22, 23, 24] [20, 25] σ s' ∧ s'.1 19 8 = σ.1 19 8 := by
  have h8 := hB.1
  have h5 := hB.2.1
  have key : ∀ (kk : Sg → Option (Unit × Sg)) n t s, t ≤ 8 → 8 < n + t → Sm [19, 21, 22, 23, 24] [20, 25] σ s → (∀ j, s.1 19 j = if j = 0 then σ.1 4 0 else σ.1 19 j) → (∀ j, j < 4 * t → s.2 20 j = σ.2 5 j) → (∀ j, j < t → s.1 21 j = σ.1 6 j ∧ s.1 22 j = σ.1 7 j ∧ s.1 23 j = σ.1 8 j ∧ s.1 24 j = σ.1 9 j) → ∃ s', f_X1_copyFrom_19_4_L10 kk n s (nI t) = kk s' ∧ Sm [19, 21, 22, 23, 24] [20, 25] σ s' ∧ (∀ j, s'.1 19 j = if j = 0 then σ.1 4 0 else σ.1 19 j) ∧ (∀ j, j < 32 → s'.2 20 j = σ.2 5 j) ∧ ∀ j, j < 8 → s'.1 21 j = σ.1 6 j ∧ s'.1 22 j = σ.1 7 j ∧ s'.1 23 j = σ.1 8 j ∧ s'.1 24 j = σ.1 9 j := by
    intro kk n
    induction n with
    | zero => intro t s h h'; omega
    | succ n ih =>
      intro t s ht hn a1 a2 a3 a4
      rw [f_X1_copyFrom_19_4_L10]
      rcases Nat.lt_or_ge t 8 with q | q
      · rw [if_neg (fun hc => by have := (c_ge 8 (by omega) (by decide)).mp hc; omega), copyTerm_19_4_s q, cA_s, nI_1]
        have hc : Sm [19, 21, 22, 23, 24] [20, 25] σ (cL s 5 20 (4 * t) (4 * t) 4) := ⟨a1.1, fun x hx => by
          rw [cL_2, if_neg (fun z => hx (by rw [z]; decide))]
          exact a1.2 x hx⟩
        refine ih (t + 1) _ (by omega) (by omega) ((((hc.i (by decide)).i (by decide)).i (by decide)).i (by decide)) (fun j => ?_) (fun j hj => ?_) (fun j hj => ?_)
        · rw [sI_ne _ (by decide), sI_ne _ (by decide), sI_ne _ (by decide), sI_ne _ (by decide)]; exact a2 j
        · show (cL s 5 20 (4 * t) (4 * t) 4).2 20 j = _
          rw [cL_2, if_pos rfl]
          by_cases z : 4 * t ≤ j ∧ j < 4 * t + 4
          · rw [if_pos z, a1.2 5 (by decide), show 4 * t + (j - 4 * t) = j by omega]
          · rw [if_neg z]; exact a3 j (by omega)
        · by_cases z : j = t
          · subst z
            simp only [sI_1, cL_1, a1.1 6 (by decide), a1.1 7 (by decide), a1.1 8 (by decide), a1.1 9 (by decide)]
            simp
          · simp only [sI_1, cL_1]
            simp [z]
            exact a4 j (by omega)
      · have : t = 8 := by omega
        subst this
        rw [if_pos (by decide)]
        exact ⟨s, rfl, a1, a2, a3, a4⟩
  obtain ⟨s', b0, b1, b2, b3, b4⟩ := key (fun (s7 : Sg) => pI s7 19 6 (s7.1 4 6) fun s8 => (xL4 s8 10 5 25 5 0 0 5 fun s10 => (some ((), s10)))) fu 0 (sI σ 19 0 (σ.1 4 0)) (by omega) (by unfold fu; omega) (Sm.rf.i (by decide)) (fun j => by rw [sI_1]; by_cases z : j = 0 <;> simp [z]) (fun j hj => by omega) (fun j hj => by omega)
  refine ⟨cL (sI s' 19 6 (s'.1 4 6)) 10 25 0 0 5, ?_, ?_, ?_, ?_⟩
  · unfold f_X1_copyFrom_19_4
    rw [pI_s]
    refine b0.trans ?_
    rw [pI_s, show (0 : Int32) = nI 0 from rfl, show (5 : Int32) = nI 5 from rfl, xL4_n (by omega) (by omega) (by decide) (by decide)]
  · obtain ⟨c1, c2, c3, c4⟩ := hl
    refine ⟨?_, ?_, fun t ht => ?_, fun e he => ?_⟩
    · rw [cL_1, sI_1, if_neg (by decide), b2 0, if_pos rfl]; exact c1
    · rw [cL_1, sI_1, if_pos ⟨rfl, rfl⟩, b1.1 4 (by decide)]; exact c2
    · have h4 := (hB.2.2.1 t ht).1
      obtain ⟨d1, d2, d3, d4, d5⟩ := c3 t ht
      obtain ⟨e1, e2, e3, e4⟩ := b4 t (by omega)
      rw [cL_1, sI_ne _ (by decide), sI_ne _ (by decide), sI_ne _ (by decide), sI_ne _ (by decide), e1, e2, e3, e4]
      refine ⟨d1, d2, d3, d4, fun k hk => ?_⟩
      rw [cL_2, if_neg (by decide), sI_2, b3 _ (by omega)]
      exact d5 k hk
    · rw [cL_2, if_pos rfl]
      rw [if_pos (by omega), sI_2, b1.2 10 (by decide), show 0 + (e - 0) = e by omega]
      exact c4 e he
  · have hc := b1.i (k := 19) (j := 6) (v := s'.1 4 6) (by decide)
    exact ⟨hc.1, fun x hx => by
      rw [cL_2, if_neg (fun z => hx (by rw [z]; decide))]
      exact hc.2 x hx⟩
  · rw [cL_1, sI_1, if_neg (by decide), b2 8, if_neg (by decide)]
theorem copyTerm_4_12_s {σ : Sg} {t : Nat} (ht : t < 8) : f_X1_copyTerm_4_12 σ (nI t) (nI t) = some ((), sI (sI (sI (sI (cL σ 13 5 (4 * t) (4 * t) 4) 6 t (σ.1 14 t)) 7 t (σ.1 15 t)) 8 t (σ.1 16 t)) 9 t (σ.1 17 t)) := by
  unfold f_X1_copyTerm_4_12
  rw [mul4, show (4 : Int32) = nI 4 from rfl, xL4_n (by omega) (by omega) (by decide) (by decide), rI_n ht (by decide), wI_n ht (by decide), rI_n ht (by decide), wI_n ht (by decide), rI_n ht (by decide), wI_n ht (by decide), rI_n ht (by decide), wI_n ht (by decide)]
  simp [sI_1, cL_1]
theorem copyFrom_4_12_s {σ : Sg} {B : Bk} (hB : Bok B) (hl : lexP (σ.1 12) (σ.2 13) (σ.1 14) (σ.1 15) (σ.1 16) (σ.1 17) (σ.2 18) B) : ∃ s', f_X1_copyFrom_4_12 σ = some ((), s') ∧ lexP (s'.1 4) (s'.2 5) (s'.1 6) (s'.1 7) (s'.1 8) (s'.1 9) (s'.2 10) B ∧ Sm [4, 6, 7, 8, 9] [5, 10] σ s' ∧ s'.1 4 8 = σ.1 4 8 := by
  have h8 := hB.1
  have h5 := hB.2.1
  have key : ∀ (kk : Sg → Option (Unit × Sg)) n t s, t ≤ 8 → 8 < n + t → Sm [4, 6, 7, 8, 9] [5, 10] σ s → (∀ j, s.1 4 j = if j = 0 then σ.1 12 0 else σ.1 4 j) → (∀ j, j < 4 * t → s.2 5 j = σ.2 13 j) → (∀ j, j < t → s.1 6 j = σ.1 14 j ∧ s.1 7 j = σ.1 15 j ∧ s.1 8 j = σ.1 16 j ∧ s.1 9 j = σ.1 17 j) → ∃ s', f_X1_copyFrom_4_12_L10 kk n s (nI t) = kk s' ∧ Sm [4, 6, 7, 8, 9] [5, 10] σ s' ∧ (∀ j, s'.1 4 j = if j = 0 then σ.1 12 0 else σ.1 4 j) ∧ (∀ j, j < 32 → s'.2 5 j = σ.2 13 j) ∧ ∀ j, j < 8 → s'.1 6 j = σ.1 14 j ∧ s'.1 7 j = σ.1 15 j ∧ s'.1 8 j = σ.1 16 j ∧ s'.1 9 j = σ.1 17 j := by
    intro kk n
    induction n with
    | zero => intro t s h h'; omega
    | succ n ih =>
      intro t s ht hn a1 a2 a3 a4
      rw [f_X1_copyFrom_4_12_L10]
      rcases Nat.lt_or_ge t 8 with q | q
      · rw [if_neg (fun hc => by have := (c_ge 8 (by omega) (by decide)).mp hc; omega), copyTerm_4_12_s q, cA_s, nI_1]
        have hc : Sm [4, 6, 7, 8, 9] [5, 10] σ (cL s 13 5 (4 * t) (4 * t) 4) := ⟨a1.1, fun x hx => by
          rw [cL_2, if_neg (fun z => hx (by rw [z]; decide))]
          exact a1.2 x hx⟩
        refine ih (t + 1) _ (by omega) (by omega) ((((hc.i (by decide)).i (by decide)).i (by decide)).i (by decide)) (fun j => ?_) (fun j hj => ?_) (fun j hj => ?_)
        · rw [sI_ne _ (by decide), sI_ne _ (by decide), sI_ne _ (by decide), sI_ne _ (by decide)]; exact a2 j
        · show (cL s 13 5 (4 * t) (4 * t) 4).2 5 j = _
          rw [cL_2, if_pos rfl]
          by_cases z : 4 * t ≤ j ∧ j < 4 * t + 4
          · rw [if_pos z, a1.2 13 (by decide), show 4 * t + (j - 4 * t) = j by omega]
          · rw [if_neg z]; exact a3 j (by omega)
        · by_cases z : j = t
          · subst z
            simp only [sI_1, cL_1, a1.1 14 (by decide), a1.1 15 (by decide), a1.1 16 (by decide), a1.1 17 (by decide)]
            simp
          · simp only [sI_1, cL_1]
            simp [z]
            exact a4 j (by omega)
      · have : t = 8 := by omega
        subst this
        rw [if_pos (by decide)]
        exact ⟨s, rfl, a1, a2, a3, a4⟩
  obtain ⟨s', b0, b1, b2, b3, b4⟩ := key (fun (s7 : Sg) => pI s7 4 6 (s7.1 12 6) fun s8 => (xL4 s8 18 5 10 5 0 0 5 fun s10 => (some ((), s10)))) fu 0 (sI σ 4 0 (σ.1 12 0)) (by omega) (by unfold fu; omega) (Sm.rf.i (by decide)) (fun j => by rw [sI_1]; by_cases z : j = 0 <;> simp [z]) (fun j hj => by omega) (fun j hj => by omega)
  refine ⟨cL (sI s' 4 6 (s'.1 12 6)) 18 10 0 0 5, ?_, ?_, ?_, ?_⟩
  · unfold f_X1_copyFrom_4_12
    rw [pI_s]
    refine b0.trans ?_
    rw [pI_s, show (0 : Int32) = nI 0 from rfl, show (5 : Int32) = nI 5 from rfl, xL4_n (by omega) (by omega) (by decide) (by decide)]
  · obtain ⟨c1, c2, c3, c4⟩ := hl
    refine ⟨?_, ?_, fun t ht => ?_, fun e he => ?_⟩
    · rw [cL_1, sI_1, if_neg (by decide), b2 0, if_pos rfl]; exact c1
    · rw [cL_1, sI_1, if_pos ⟨rfl, rfl⟩, b1.1 12 (by decide)]; exact c2
    · have h4 := (hB.2.2.1 t ht).1
      obtain ⟨d1, d2, d3, d4, d5⟩ := c3 t ht
      obtain ⟨e1, e2, e3, e4⟩ := b4 t (by omega)
      rw [cL_1, sI_ne _ (by decide), sI_ne _ (by decide), sI_ne _ (by decide), sI_ne _ (by decide), e1, e2, e3, e4]
      refine ⟨d1, d2, d3, d4, fun k hk => ?_⟩
      rw [cL_2, if_neg (by decide), sI_2, b3 _ (by omega)]
      exact d5 k hk
    · rw [cL_2, if_pos rfl]
      rw [if_pos (by omega), sI_2, b1.2 18 (by decide), show 0 + (e - 0) = e by omega]
      exact c4 e he
  · have hc := b1.i (k := 4) (j := 6) (v := s'.1 12 6) (by decide)
    exact ⟨hc.1, fun x hx => by
      rw [cL_2, if_neg (fun z => hx (by rw [z]; decide))]
      exact hc.2 x hx⟩
  · rw [cL_1, sI_1, if_neg (by decide), b2 8, if_neg (by decide)]
theorem copyTerm_4_19_s {σ : Sg} {t : Nat} (ht : t < 8) : f_X1_copyTerm_4_19 σ (nI t) (nI t) = some ((), sI (sI (sI (sI (cL σ 20 5 (4 * t) (4 * t) 4) 6 t (σ.1 21 t)) 7 t (σ.1 22 t)) 8 t (σ.1 23 t)) 9 t (σ.1 24 t)) := by
  unfold f_X1_copyTerm_4_19
  rw [mul4, show (4 : Int32) = nI 4 from rfl, xL4_n (by omega) (by omega) (by decide) (by decide), rI_n ht (by decide), wI_n ht (by decide), rI_n ht (by decide), wI_n ht (by decide), rI_n ht (by decide), wI_n ht (by decide), rI_n ht (by decide), wI_n ht (by decide)]
  simp [sI_1, cL_1]
theorem copyFrom_4_19_s {σ : Sg} {B : Bk} (hB : Bok B) (hl : lexP (σ.1 19) (σ.2 20) (σ.1 21) (σ.1 22) (σ.1 23) (σ.1 24) (σ.2 25) B) : ∃ s', f_X1_copyFrom_4_19 σ = some ((), s') ∧ lexP (s'.1 4) (s'.2 5) (s'.1 6) (s'.1 7) (s'.1 8) (s'.1 9) (s'.2 10) B ∧ Sm [4, 6, 7, 8, 9] [5, 10] σ s' ∧ s'.1 4 8 = σ.1 4 8 := by
  have h8 := hB.1
  have h5 := hB.2.1
  have key : ∀ (kk : Sg → Option (Unit × Sg)) n t s, t ≤ 8 → 8 < n + t → Sm [4, 6, 7, 8, 9] [5, 10] σ s → (∀ j, s.1 4 j = if j = 0 then σ.1 19 0 else σ.1 4 j) → (∀ j, j < 4 * t → s.2 5 j = σ.2 20 j) → (∀ j, j < t → s.1 6 j = σ.1 21 j ∧ s.1 7 j = σ.1 22 j ∧ s.1 8 j = σ.1 23 j ∧ s.1 9 j = σ.1 24 j) → ∃ s', f_X1_copyFrom_4_19_L10 kk n s (nI t) = kk s' ∧ Sm [4, 6, 7, 8, 9] [5, 10] σ s' ∧ (∀ j, s'.1 4 j = if j = 0 then σ.1 19 0 else σ.1 4 j) ∧ (∀ j, j < 32 → s'.2 5 j = σ.2 20 j) ∧ ∀ j, j < 8 → s'.1 6 j = σ.1 21 j ∧ s'.1 7 j = σ.1 22 j ∧ s'.1 8 j = σ.1 23 j ∧ s'.1 9 j = σ.1 24 j := by
    intro kk n
    induction n with
    | zero => intro t s h h'; omega
    | succ n ih =>
      intro t s ht hn a1 a2 a3 a4
      rw [f_X1_copyFrom_4_19_L10]
      rcases Nat.lt_or_ge t 8 with q | q
      · rw [if_neg (fun hc => by have := (c_ge 8 (by omega) (by decide)).mp hc; omega), copyTerm_4_19_s q, cA_s, nI_1]
        have hc : Sm [4, 6, 7, 8, 9] [5, 10] σ (cL s 20 5 (4 * t) (4 * t) 4) := ⟨a1.1, fun x hx => by
          rw [cL_2, if_neg (fun z => hx (by rw [z]; decide))]
          exact a1.2 x hx⟩
        refine ih (t + 1) _ (by omega) (by omega) ((((hc.i (by decide)).i (by decide)).i (by decide)).i (by decide)) (fun j => ?_) (fun j hj => ?_) (fun j hj => ?_)
        · rw [sI_ne _ (by decide), sI_ne _ (by decide), sI_ne _ (by decide), sI_ne _ (by decide)]; exact a2 j
        · show (cL s 20 5 (4 * t) (4 * t) 4).2 5 j = _
          rw [cL_2, if_pos rfl]
          by_cases z : 4 * t ≤ j ∧ j < 4 * t + 4
          · rw [if_pos z, a1.2 20 (by decide), show 4 * t + (j - 4 * t) = j by omega]
          · rw [if_neg z]; exact a3 j (by omega)
        · by_cases z : j = t
          · subst z
            simp only [sI_1, cL_1, a1.1 21 (by decide), a1.1 22 (by decide), a1.1 23 (by decide), a1.1 24 (by decide)]
            simp
          · simp only [sI_1, cL_1]
            simp [z]
            exact a4 j (by omega)
      · have : t = 8 := by omega
        subst this
        rw [if_pos (by decide)]
        exact ⟨s, rfl, a1, a2, a3, a4⟩
  obtain ⟨s', b0, b1, b2, b3, b4⟩ := key (fun (s7 : Sg) => pI s7 4 6 (s7.1 19 6) fun s8 => (xL4 s8 25 5 10 5 0 0 5 fun s10 => (some ((), s10)))) fu 0 (sI σ 4 0 (σ.1 19 0)) (by omega) (by unfold fu; omega) (Sm.rf.i (by decide)) (fun j => by rw [sI_1]; by_cases z : j = 0 <;> simp [z]) (fun j hj => by omega) (fun j hj => by omega)
  refine ⟨cL (sI s' 4 6 (s'.1 19 6)) 25 10 0 0 5, ?_, ?_, ?_, ?_⟩
  · unfold f_X1_copyFrom_4_19
    rw [pI_s]
    refine b0.trans ?_
    rw [pI_s, show (0 : Int32) = nI 0 from rfl, show (5 : Int32) = nI 5 from rfl, xL4_n (by omega) (by omega) (by decide) (by decide)]
  · obtain ⟨c1, c2, c3, c4⟩ := hl
    refine ⟨?_, ?_, fun t ht => ?_, fun e he => ?_⟩
    · rw [cL_1, sI_1, if_neg (by decide), b2 0, if_pos rfl]; exact c1
    · rw [cL_1, sI_1, if_pos ⟨rfl, rfl⟩, b1.1 19 (by decide)]; exact c2
    · have h4 := (hB.2.2.1 t ht).1
      obtain ⟨d1, d2, d3, d4, d5⟩ := c3 t ht
      obtain ⟨e1, e2, e3, e4⟩ := b4 t (by omega)
      rw [cL_1, sI_ne _ (by decide), sI_ne _ (by decide), sI_ne _ (by decide), sI_ne _ (by decide), e1, e2, e3, e4]
      refine ⟨d1, d2, d3, d4, fun k hk => ?_⟩
      rw [cL_2, if_neg (by decide), sI_2, b3 _ (by omega)]
      exact d5 k hk
    · rw [cL_2, if_pos rfl]
      rw [if_pos (by omega), sI_2, b1.2 25 (by decide), show 0 + (e - 0) = e by omega]
      exact c4 e he
  · have hc := b1.i (k := 4) (j := 6) (v := s'.1 19 6) (by decide)
    exact ⟨hc.1, fun x hx => by
      rw [cL_2, if_neg (fun z => hx (by rw [z]; decide))]
      exact hc.2 x hx⟩
  · rw [cL_1, sI_1, if_neg (by decide), b2 8, if_neg (by decide)]
theorem imageOf_s {σ : Sg} (a : Int32) : f_X7_imageOf σ a = some (if a = 0 then 12 else if a = 1 then 19 else 0) := by
  unfold f_X7_imageOf
  by_cases h0 : a < 0
  · rw [if_pos h0, if_neg (fun z => by rw [z] at h0; exact absurd h0 (by decide)), if_neg (fun z => by rw [z] at h0; exact absurd h0 (by decide))]
  · rw [if_neg h0]
    obtain ⟨j, hj, rfl⟩ := nI_of h0
    by_cases h2 : 2 ≤ j
    · rw [if_pos ((c_ge 2 hj (by decide)).mpr h2), if_neg (fun z => by have := (c_eq 0 hj (by decide)).mp z; omega), if_neg (fun z => by have := (c_eq 1 hj (by decide)).mp z; omega)]
    · rw [if_neg (fun z => h2 ((c_ge 2 hj (by decide)).mp z)), nI_clamp hj, mH_t (show ¬ (nI j < 0 ∨ 2 ≤ j) from fun z => by rcases z with z | z; exact h0 z; exact h2 z)]
      rcases (show j = 0 ∨ j = 1 by omega) with rfl | rfl <;> rfl
theorem imageOf_0 {σ : Sg} : f_X7_imageOf σ 0 = some 12 := by rw [imageOf_s]; rfl
theorem imageOf_1 {σ : Sg} : f_X7_imageOf σ 1 = some 19 := by rw [imageOf_s]; rfl
theorem imageOf_o {σ : Sg} {a : Int32} (h : ¬ (a = 0 ∨ a = 1)) : f_X7_imageOf σ a = some 0 := by rw [imageOf_s, if_neg (fun z => h (Or.inl z)), if_neg (fun z => h (Or.inr z))]
theorem in01 {σ : Sg} (a : Int32) : f_X8_in σ a 0 1 = some (bI (a = 0 ∨ a = 1)) := by
  rw [in8_s, in_bI]
  congr 1
  exact bI_cg i32_01
theorem nar1 : vp_nar .boolean 1 = 1 := rfl
/-- an image is kept -/
def imK (im : Nat → Option Bk) (i : Nat) (B : Bk) : Nat → Option Bk := fun j => if j = i then some B else im j
theorem bookP.cg {f f' : Nat → Int32} {B : Bk} (h : bookP f B) (hB : Bok B) (e : ∀ j, j < 475 → f' j = f j) : bookP f' B := by
  have h8 := hB.1
  have h5 := hB.2.1
  refine ⟨by rw [e 0 (by omega)]; exact h.1, by rw [e 1 (by omega)]; exact h.2.1, fun t ht => ?_, fun x hx => ?_⟩
  · obtain ⟨c1, c2, c3, c4, c5⟩ := h.2.2.1 t ht
    have hT := hB.2.2.1 t ht
    have hn := hT.1
    refine ⟨by rw [e _ (by omega)]; exact c1, by rw [e _ (by omega)]; exact c2, by rw [e _ (by omega)]; exact c3, by rw [e _ (by omega)]; exact c4, fun k hk => (c5 k hk).cg (fun j h1 h2 => ?_)⟩
    have h12 := (hT.2.2.2.2.1 k hk).2.2
    exact e j (by omega)
  · have h4 := (hB.2.2.2 x hx).2.2
    exact (h.2.2.2 x hx).cg (fun j h1 h2 => e j (by omega))
theorem keep8_L {s : Sg} {i : Nat} (hi : i < 2) (kk : Sg → Option (Int32 × Sg)) : ∃ s', f_X8_keep_L14 kk (nI i) fu s 0 = kk s' ∧ Sm [45] [] s s' ∧ (∀ j, j < 475 → s'.1 45 (475 * i + j) = s.1 44 j) ∧ ∀ j, (j < 475 * i ∨ 475 * i + 475 ≤ j) → s'.1 45 j = s.1 45 j := by
  have key : ∀ n j s2, j ≤ 475 → 475 < n + j → Sm [45] [] s s2 → (∀ x, x < j → s2.1 45 (475 * i + x) = s.1 44 x) → (∀ x, (x < 475 * i ∨ 475 * i + 475 ≤ x) → s2.1 45 x = s.1 45 x) → ∃ s', f_X8_keep_L14 kk (nI i) n s2 (nI j) = kk s' ∧ Sm [45] [] s s' ∧ (∀ j, j < 475 → s'.1 45 (475 * i + j) = s.1 44 j) ∧ ∀ j, (j < 475 * i ∨ 475 * i + 475 ≤ j) → s'.1 45 j = s.1 45 j := by
    intro n
    induction n with
    | zero => intro j s2 h h'; omega
    | succ n ih =>
      intro j s2 hj hn a1 a2 a3
      rw [f_X8_keep_L14]
      rcases Nat.lt_or_ge j 475 with q | q
      · rw [if_neg (fun hc => by have := (c_ge 475 (by omega) (by decide)).mp hc; omega), rI_n q (by decide), li 475, pk_mul, nI_add, wI_n (by omega) (by decide), nI_1, a1.1 44 (by decide)]
        refine ih (j + 1) _ (by omega) (by omega) (a1.i (by decide)) (fun x hx => ?_) (fun x hx => by rw [sI_1, if_neg (by omega)]; exact a3 x hx)
        rw [sI_1]
        by_cases z : x = j
        · rw [if_pos ⟨rfl, by rw [z]⟩, z]
        · rw [if_neg (by omega)]; exact a2 x (by omega)
      · have : j = 475 := by omega
        subst this
        rw [if_pos (by decide)]
        exact ⟨s2, rfl, a1, a2, a3⟩
  exact key fu 0 s (by omega) (by unfold fu; omega) Sm.rf (fun x hx => by omega) (fun _ _ => rfl)
theorem goBack8_L {s : Sg} {i : Nat} (hi : i < 2) (kk : Sg → Option (Int32 × Sg)) : ∃ s', f_X8_goBack_L26 kk (nI i) fu s 0 = kk s' ∧ Sm [44] [] s s' ∧ ∀ j, j < 475 → s'.1 44 j = s.1 45 (475 * i + j) := by
  have key : ∀ n j s2, j ≤ 475 → 475 < n + j → Sm [44] [] s s2 → (∀ x, x < j → s2.1 44 x = s.1 45 (475 * i + x)) → ∃ s', f_X8_goBack_L26 kk (nI i) n s2 (nI j) = kk s' ∧ Sm [44] [] s s' ∧ ∀ j, j < 475 → s'.1 44 j = s.1 45 (475 * i + j) := by
    intro n
    induction n with
    | zero => intro j s2 h h'; omega
    | succ n ih =>
      intro j s2 hj hn a1 a2
      rw [f_X8_goBack_L26]
      rcases Nat.lt_or_ge j 475 with q | q
      · rw [if_neg (fun hc => by have := (c_ge 475 (by omega) (by decide)).mp hc; omega), li 475, pk_mul, nI_add, rI_n (by omega) (by decide), wI_n q (by decide), nI_1, a1.1 45 (by decide)]
        refine ih (j + 1) _ (by omega) (by omega) (a1.i (by decide)) (fun x hx => ?_)
        rw [sI_1]
        by_cases z : x = j
        · rw [if_pos ⟨rfl, z⟩, z]
        · rw [if_neg (by omega)]; exact a2 x (by omega)
      · have : j = 475 := by omega
        subst this
        rw [if_pos (by decide)]
        exact ⟨s2, rfl, a1, a2⟩
  exact key fu 0 s (by omega) (by unfold fu; omega) Sm.rf (fun x hx => by omega)
theorem ps_keep (σ : Sg) (a1 : Int32) (h : InvA σ) : ∃ (r : Int32) (σ1 σ2 : Sg), f_X7_keep σ a1 = some (r, σ1) ∧ f_X8_keep σ1 a1 = some (r, σ2) ∧ InvA σ2 := by
  refine step2 (f7 := fun s => f_X7_keep s a1) (f8 := fun s => f_X8_keep s a1) h (fun M hm => ?_)
  obtain ⟨S, B, T, im⟩ := M
  have hm0 := hm
  obtain ⟨hS, hB, hT, hI⟩ := hm
  have hB : Bok B := hB
  have hI : ∀ i B, im i = some B → Bok B := hI
  have h8 := hB.1
  have n10 : ¬ (1 : Int32) = 0 := by decide
  by_cases ha : a1 = 0 ∨ a1 = 1
  · rcases ha with hi | hi
    · subst hi
      refine ⟨nI (b_tc B), (S, B, T, imK im 0 B), ⟨hS, hB, hT, fun j B2 h2 => by
        have h2 : (if j = 0 then some B else im j) = some B2 := h2
        split at h2
        · cases h2; exact hB
        · exact hI j B2 h2⟩, fun hC => ?_, fun s hR => ?_⟩
      · obtain ⟨g1, g2, g3, g4, g5, g6⟩ := hC
        obtain ⟨s1, c1, c2, c3, c4⟩ := copyFrom_12_4_s (σ := σ) hB g2
        have u : Sm [12, 14, 15, 16, 17] [13, 18] σ (sI s1 12 8 1) := c3.i (by decide)
        refine ⟨sI s1 12 8 1, ?_, ⟨u.slp (by decide) g1, u.lex (by decide) (by decide) g2, u.txt (by decide) (by decide) g3, ?_, u.scn (by decide) g5, u.mnd (by decide) g6⟩, u.u43 (by decide)⟩
        · unfold f_X7_keep
          rw [imageOf_0, cP_s, if_pos rfl, c1, cA_s, pI_s, sI_ne s1 (by decide), c3.1 4 (by decide)]
          exact congrArg (fun x => some (x, sI s1 12 8 1)) g2.1
        · have hl : lexP ((sI s1 12 8 1).1 12) ((sI s1 12 8 1).2 13) ((sI s1 12 8 1).1 14) ((sI s1 12 8 1).1 15) ((sI s1 12 8 1).1 16) ((sI s1 12 8 1).1 17) ((sI s1 12 8 1).2 18) B := by
            obtain ⟨d1, d2, d3, d4⟩ := c2
            refine ⟨by rw [sI_1, if_neg (by decide)]; exact d1, by rw [sI_1, if_neg (by decide)]; exact d2, fun t ht => ?_, d4⟩
            rw [sI_ne s1 (by decide), sI_ne s1 (by decide), sI_ne s1 (by decide), sI_ne s1 (by decide)]
            exact d3 t ht
          refine ⟨⟨by rw [sI_1, if_pos ⟨rfl, rfl⟩], hl⟩, ?_⟩
          have := g4.2
          rw [u.1 19 (by decide), u.1 21 (by decide), u.1 22 (by decide), u.1 23 (by decide), u.1 24 (by decide), u.2 20 (by decide), u.2 25 (by decide)]
          exact this
      · obtain ⟨g1, g2, g3, g4, g5⟩ := hR
        obtain ⟨s1, c1, c2, c3, c4⟩ := keep8_L (s := s) (i := 0) (by omega) (fun (s10 : Sg) => wI s10 46 2 (nI 0) (vp_nar .boolean 1) fun s11 => (rI s11 44 475 0 fun x14 => (some (x14, s11))))
        have u : Sm [45, 46] [] s (sI s1 46 0 1) := (c2.up (by decide) (by decide)).i (by decide)
        refine ⟨sI s1 46 0 1, ?_, ?_, u.u42 (by decide)⟩
        · unfold f_X8_keep
          rw [in01, cP_s, bI_t (Or.inl rfl), if_neg n10]
          refine c1.trans ?_
          rw [wI_n (by omega) (by decide), nar1, show (0 : Int32) = nI 0 from rfl, rI_n (by omega) (by decide), sI_ne s1 (by decide), c2.1 44 (by decide)]
          exact congrArg (fun x => some (x, sI s1 46 0 1)) g2.1
        · refine ⟨?_, ?_, ?_, ?_, ?_⟩
          · rw [u.1 43 (by decide), u.1 47 (by decide)]; exact g1
          · rw [u.1 44 (by decide)]; exact g2
          · rw [u.1 43 (by decide), u.1 48 (by decide)]; exact g3
          · rw [show (sI s1 46 0 1).1 45 = s1.1 45 from sI_ne s1 (by decide)]
            show (sI s1 46 0 1).1 46 0 = 1 ∧ bookP (fun j => s1.1 45 j) B
            exact ⟨by rw [sI_1, if_pos ⟨rfl, rfl⟩], bookP.cg g2 hB (fun j hj => by have := c3 j hj; rw [show 475 * 0 + j = j by omega] at this; exact this)⟩
          · rw [show (sI s1 46 0 1).1 45 = s1.1 45 from sI_ne s1 (by decide)]
            rw [sI_1, if_neg (by decide), c2.1 46 (by decide)]
            show imgP (s.1 46 1) (fun j => s1.1 45 (475 + j)) (im 1)
            have h0 : imgP (s.1 46 1) (fun j => s.1 45 (475 + j)) (im 1) := g5
            cases him : im 1 with
            | none => rw [him] at h0; exact h0
            | some B2 =>
              rw [him] at h0
              exact ⟨h0.1, h0.2.cg (hI 1 B2 him) (fun j hj => c4 (475 + j) (by omega))⟩
    · subst hi
      refine ⟨nI (b_tc B), (S, B, T, imK im 1 B), ⟨hS, hB, hT, fun j B2 h2 => by
        have h2 : (if j = 1 then some B else im j) = some B2 := h2
        split at h2
        · cases h2; exact hB
        · exact hI j B2 h2⟩, fun hC => ?_, fun s hR => ?_⟩
      · obtain ⟨g1, g2, g3, g4, g5, g6⟩ := hC
        obtain ⟨s1, c1, c2, c3, c4⟩ := copyFrom_19_4_s (σ := σ) hB g2
        have u : Sm [19, 21, 22, 23, 24] [20, 25] σ (sI s1 19 8 1) := c3.i (by decide)
        refine ⟨sI s1 19 8 1, ?_, ⟨u.slp (by decide) g1, u.lex (by decide) (by decide) g2, u.txt (by decide) (by decide) g3, ?_, u.scn (by decide) g5, u.mnd (by decide) g6⟩, u.u43 (by decide)⟩
        · unfold f_X7_keep
          rw [imageOf_1, cP_s, if_neg (by decide), if_pos rfl, c1, cA_s, pI_s, sI_ne s1 (by decide), c3.1 4 (by decide)]
          exact congrArg (fun x => some (x, sI s1 19 8 1)) g2.1
        · have hl : lexP ((sI s1 19 8 1).1 19) ((sI s1 19 8 1).2 20) ((sI s1 19 8 1).1 21) ((sI s1 19 8 1).1 22) ((sI s1 19 8 1).1 23) ((sI s1 19 8 1).1 24) ((sI s1 19 8 1).2 25) B := by
            obtain ⟨d1, d2, d3, d4⟩ := c2
            refine ⟨by rw [sI_1, if_neg (by decide)]; exact d1, by rw [sI_1, if_neg (by decide)]; exact d2, fun t ht => ?_, d4⟩
            rw [sI_ne s1 (by decide), sI_ne s1 (by decide), sI_ne s1 (by decide), sI_ne s1 (by decide)]
            exact d3 t ht
          refine ⟨?_, ⟨by rw [sI_1, if_pos ⟨rfl, rfl⟩], hl⟩⟩
          have := g4.1
          rw [u.1 12 (by decide), u.1 14 (by decide), u.1 15 (by decide), u.1 16 (by decide), u.1 17 (by decide), u.2 13 (by decide), u.2 18 (by decide)]
          exact this
      · obtain ⟨g1, g2, g3, g4, g5⟩ := hR
        obtain ⟨s1, c1, c2, c3, c4⟩ := keep8_L (s := s) (i := 1) (by omega) (fun (s10 : Sg) => wI s10 46 2 (nI 1) (vp_nar .boolean 1) fun s11 => (rI s11 44 475 0 fun x14 => (some (x14, s11))))
        have u : Sm [45, 46] [] s (sI s1 46 1 1) := (c2.up (by decide) (by decide)).i (by decide)
        refine ⟨sI s1 46 1 1, ?_, ?_, u.u42 (by decide)⟩
        · unfold f_X8_keep
          rw [in01, cP_s, bI_t (Or.inr rfl), if_neg n10]
          refine c1.trans ?_
          rw [wI_n (by omega) (by decide), nar1, show (0 : Int32) = nI 0 from rfl, rI_n (by omega) (by decide), sI_ne s1 (by decide), c2.1 44 (by decide)]
          exact congrArg (fun x => some (x, sI s1 46 1 1)) g2.1
        · refine ⟨?_, ?_, ?_, ?_, ?_⟩
          · rw [u.1 43 (by decide), u.1 47 (by decide)]; exact g1
          · rw [u.1 44 (by decide)]; exact g2
          · rw [u.1 43 (by decide), u.1 48 (by decide)]; exact g3
          · rw [show (sI s1 46 1 1).1 45 = s1.1 45 from sI_ne s1 (by decide)]
            rw [sI_1, if_neg (by decide), c2.1 46 (by decide)]
            show imgP (s.1 46 0) (fun j => s1.1 45 j) (im 0)
            have h0 : imgP (s.1 46 0) (fun j => s.1 45 j) (im 0) := g4
            cases him : im 0 with
            | none => rw [him] at h0; exact h0
            | some B2 =>
              rw [him] at h0
              exact ⟨h0.1, h0.2.cg (hI 0 B2 him) (fun j hj => c4 j (by omega))⟩
          · rw [show (sI s1 46 1 1).1 45 = s1.1 45 from sI_ne s1 (by decide)]
            show (sI s1 46 1 1).1 46 1 = 1 ∧ bookP (fun j => s1.1 45 (475 + j)) B
            exact ⟨by rw [sI_1, if_pos ⟨rfl, rfl⟩], bookP.cg g2 hB (fun j hj => c3 j hj)⟩
  · have q0 : ¬ a1 = 0 := fun z => ha (Or.inl z)
    have q1 : ¬ a1 = 1 := fun z => ha (Or.inr z)
    refine ⟨-1000000001, (S, B, T, im), hm0, fun hC => ⟨σ, ?_, hC, Un43.rf⟩, fun s hR => ⟨s, ?_, hR, Un42.rf⟩⟩
    · unfold f_X7_keep
      rw [imageOf_o ha, cP_s, if_neg (by decide), if_neg (by decide), if_pos rfl]
    · unfold f_X8_keep
      rw [in01, cP_s, bI_f ha, if_pos rfl]
theorem ps_goBack (σ : Sg) (a1 : Int32) (h : InvA σ) : ∃ (r : Int32) (σ1 σ2 : Sg), f_X7_goBack σ a1 = some (r, σ1) ∧ f_X8_goBack σ1 a1 = some (r, σ2) ∧ InvA σ2 := by
  refine step2 (f7 := fun s => f_X7_goBack s a1) (f8 := fun s => f_X8_goBack s a1) h (fun M hm => ?_)
  obtain ⟨S, B, T, im⟩ := M
  have hm0 := hm
  obtain ⟨hS, hB, hT, hI⟩ := hm
  have hB : Bok B := hB
  have hI : ∀ i B, im i = some B → Bok B := hI
  have h8 := hB.1
  have n10 : ¬ (1 : Int32) = 0 := by decide
  by_cases ha : a1 = 0 ∨ a1 = 1
  · rcases ha with hi | hi
    · subst hi
      cases him : im 0 with
      | none =>
        refine ⟨-1000000003, (S, B, T, im), hm0, fun hC => ⟨σ, ?_, hC, Un43.rf⟩, fun s hR => ⟨s, ?_, hR, Un42.rf⟩⟩
        · have g4 := hC.2.2.2.1.1
          have g4 : imgC (σ.1 12) (σ.2 13) (σ.1 14) (σ.1 15) (σ.1 16) (σ.1 17) (σ.2 18) (im 0) := g4
          rw [him] at g4
          unfold f_X7_goBack
          have g5 : σ.1 12 8 = 0 := g4
          rw [imageOf_0, cP_s, if_pos rfl, if_pos g5]
        · have g4 : imgP (s.1 46 0) (fun j => s.1 45 (j)) (im 0) := hR.2.2.2.1
          rw [him] at g4
          unfold f_X8_goBack
          rw [in01, cP_s, bI_t (Or.inl rfl), if_neg n10, show (0 : Int32) = nI 0 from rfl, rI_n (by omega) (by decide)]
          exact if_pos g4
      | some B2 =>
        have hB2 := hI 0 B2 him
        have h82 := hB2.1
        refine ⟨nI (b_tc B2), (S, B2, T, im), ⟨hS, hB2, hT, hI⟩, fun hC => ?_, fun s hR => ?_⟩
        · have g4 : imgC (σ.1 12) (σ.2 13) (σ.1 14) (σ.1 15) (σ.1 16) (σ.1 17) (σ.2 18) (im 0) := hC.2.2.2.1.1
          rw [him] at g4
          have k1 : ¬ σ.1 12 8 = 0 := by rw [g4.1]; exact n10
          obtain ⟨s1, c1, c2, c3, c4⟩ := copyFrom_4_12_s (σ := σ) hB2 g4.2
          obtain ⟨s', e1, e2, e3, e4, e5⟩ := hC.terms (L := [4, 6, 7, 8, 9]) (c3.up (by decide) (by decide)) (by decide) (show lexC s1 B2 from c2)
          refine ⟨s', ?_, e2, e3⟩
          unfold f_X7_goBack
          rw [imageOf_0, cP_s, if_pos rfl, if_neg k1, c1, cA_s, e1, cA_s, e5.1]
        · have g4 : imgP (s.1 46 0) (fun j => s.1 45 (j)) (im 0) := hR.2.2.2.1
          rw [him] at g4
          have k1 : ¬ s.1 46 0 = 0 := by rw [g4.1]; exact n10
          obtain ⟨s1, c1, c2, c3⟩ := goBack8_L (s := s) (i := 0) (by omega) (fun (s13 : Sg) => rI s13 44 475 0 fun x14 => (some (x14, s13)))
          have hb2 : bookP (s1.1 44) B2 := g4.2.cg hB2 (fun j hj => by rw [c3 j hj]; exact congrArg (s.1 45) (by omega))
          refine ⟨s1, ?_, hR.book c2 hb2, c2.u42 (by decide)⟩
          unfold f_X8_goBack
          rw [in01, cP_s, bI_t (Or.inl rfl), if_neg n10]
          have r0 : ∀ (F : Int32 → Option (Int32 × Sg)), rI s 46 2 0 F = F (s.1 46 0) := fun F => by rw [show (0 : Int32) = nI 0 from rfl, rI_n (by omega) (by decide)]
          rw [r0, if_neg k1]
          refine c1.trans ?_
          rw [show (0 : Int32) = nI 0 from rfl, rI_n (by omega) (by decide), hb2.1]
    · subst hi
      cases him : im 1 with
      | none =>
        refine ⟨-1000000003, (S, B, T, im), hm0, fun hC => ⟨σ, ?_, hC, Un43.rf⟩, fun s hR => ⟨s, ?_, hR, Un42.rf⟩⟩
        · have g4 := hC.2.2.2.1.2
          have g4 : imgC (σ.1 19) (σ.2 20) (σ.1 21) (σ.1 22) (σ.1 23) (σ.1 24) (σ.2 25) (im 1) := g4
          rw [him] at g4
          unfold f_X7_goBack
          have g5 : σ.1 19 8 = 0 := g4
          rw [imageOf_1, cP_s, if_neg (by decide), if_pos rfl, if_pos g5]
        · have g4 : imgP (s.1 46 1) (fun j => s.1 45 (475 + j)) (im 1) := hR.2.2.2.2
          rw [him] at g4
          unfold f_X8_goBack
          rw [in01, cP_s, bI_t (Or.inr rfl), if_neg n10, show (1 : Int32) = nI 1 from rfl, rI_n (by omega) (by decide)]
          exact if_pos g4
      | some B2 =>
        have hB2 := hI 1 B2 him
        have h82 := hB2.1
        refine ⟨nI (b_tc B2), (S, B2, T, im), ⟨hS, hB2, hT, hI⟩, fun hC => ?_, fun s hR => ?_⟩
        · have g4 : imgC (σ.1 19) (σ.2 20) (σ.1 21) (σ.1 22) (σ.1 23) (σ.1 24) (σ.2 25) (im 1) := hC.2.2.2.1.2
          rw [him] at g4
          have k1 : ¬ σ.1 19 8 = 0 := by rw [g4.1]; exact n10
          obtain ⟨s1, c1, c2, c3, c4⟩ := copyFrom_4_19_s (σ := σ) hB2 g4.2
          obtain ⟨s', e1, e2, e3, e4, e5⟩ := hC.terms (L := [4, 6, 7, 8, 9]) (c3.up (by decide) (by decide)) (by decide) (show lexC s1 B2 from c2)
          refine ⟨s', ?_, e2, e3⟩
          unfold f_X7_goBack
          rw [imageOf_1, cP_s, if_neg (by decide), if_pos rfl, if_neg k1, c1, cA_s, e1, cA_s, e5.1]
        · have g4 : imgP (s.1 46 1) (fun j => s.1 45 (475 + j)) (im 1) := hR.2.2.2.2
          rw [him] at g4
          have k1 : ¬ s.1 46 1 = 0 := by rw [g4.1]; exact n10
          obtain ⟨s1, c1, c2, c3⟩ := goBack8_L (s := s) (i := 1) (by omega) (fun (s13 : Sg) => rI s13 44 475 0 fun x14 => (some (x14, s13)))
          have hb2 : bookP (s1.1 44) B2 := g4.2.cg hB2 (fun j hj => by rw [c3 j hj])
          refine ⟨s1, ?_, hR.book c2 hb2, c2.u42 (by decide)⟩
          unfold f_X8_goBack
          rw [in01, cP_s, bI_t (Or.inr rfl), if_neg n10]
          have r0 : ∀ (F : Int32 → Option (Int32 × Sg)), rI s 46 2 1 F = F (s.1 46 1) := fun F => by rw [show (1 : Int32) = nI 1 from rfl, rI_n (by omega) (by decide)]
          rw [r0, if_neg k1]
          refine c1.trans ?_
          rw [show (0 : Int32) = nI 0 from rfl, rI_n (by omega) (by decide), hb2.1]
  · have q0 : ¬ a1 = 0 := fun z => ha (Or.inl z)
    have q1 : ¬ a1 = 1 := fun z => ha (Or.inr z)
    refine ⟨-1000000001, (S, B, T, im), hm0, fun hC => ⟨σ, ?_, hC, Un43.rf⟩, fun s hR => ⟨s, ?_, hR, Un42.rf⟩⟩
    · unfold f_X7_goBack
      rw [imageOf_o ha, cP_s, if_neg (by decide), if_neg (by decide), if_pos rfl]
    · unfold f_X8_goBack
      rw [in01, cP_s, bI_f ha, if_pos rfl]
end
section
/-! the text grows -/
def addL (T : Tx) (x : Nat) : Tx := if (t_cw T).length < 12 then (t_c T, t_w T, t_l T, t_s T, t_se T, t_cw T ++ [x], t_cl T) else (t_c T, t_w T, t_l T, t_s T, t_se T, t_cw T, 1)
def endW (T : Tx) : Tx := if t_cw T = [] then T else (t_c T + 1, fun i => if i = t_c T then t_cw T else t_w T i, fun i => if i = t_c T then t_cl T else t_l T i, fun i => if i = t_c T then t_se T else t_s T i, t_se T, [], 0)
def endS (T : Tx) : Tx := if 0 < t_c T ∧ t_s T (t_c T - 1) = t_se T then (t_c T, t_w T, t_l T, t_s T, t_se T + 1, t_cw T, t_cl T) else T
/-- what was there stays -/
def exT (T T' : Tx) : Prop := t_c T ≤ t_c T' ∧ ∀ i, i < t_c T → t_w T' i = t_w T i ∧ t_l T' i = t_l T i ∧ t_s T' i = t_s T i
theorem exT.rf {T : Tx} : exT T T := ⟨Nat.le_refl _, fun _ _ => ⟨rfl, rfl, rfl⟩⟩
theorem exT.tr {a b c : Tx} (h1 : exT a b) (h2 : exT b c) : exT a c := ⟨Nat.le_trans h1.1 h2.1, fun i hi => by
  obtain ⟨p1, p2, p3⟩ := h1.2 i hi
  obtain ⟨q1, q2, q3⟩ := h2.2 i (Nat.lt_of_lt_of_le hi h1.1)
  exact ⟨q1.trans p1, q2.trans p2, q3.trans p3⟩⟩
theorem addL_ex {T : Tx} {x : Nat} : exT T (addL T x) := by
  unfold addL; split <;> exact ⟨Nat.le_refl _, fun _ _ => ⟨rfl, rfl, rfl⟩⟩
theorem endW_ex {T : Tx} : exT T (endW T) := by
  unfold endW; split
  · exact exT.rf
  · refine ⟨Nat.le_succ _, fun i hi => ?_⟩
    exact ⟨if_neg (by omega), if_neg (by omega), if_neg (by omega)⟩
theorem endS_ex {T : Tx} : exT T (endS T) := by
  unfold endS; split
  · exact ⟨Nat.le_refl _, fun _ _ => ⟨rfl, rfl, rfl⟩⟩
  · exact exT.rf
theorem addL_ok {T : Tx} {x : Nat} (h : Tok T) (hx : 1 ≤ x ∧ x ≤ 26) (hc : t_c T < 60) : Tok (addL T x) := by
  obtain ⟨h1, h2, h3, h4, h5, h6, h7⟩ := h
  unfold addL
  split
  · rename_i hl
    refine ⟨h1, h2, h3, ⟨fun y hy => ?_, by show (t_cw T ++ [x]).length ≤ 12; simp; omega⟩, h5, fun z => absurd z (by show t_c T ≠ 60; omega), fun z => ?_⟩
    · rcases List.mem_append.mp hy with g | g
      · exact h4.1 y g
      · rw [List.mem_singleton.mp g]; exact hx
    · exact absurd (show t_cw T ++ [x] = [] from z) (by simp)
  · rename_i hl
    refine ⟨h1, h2, h3, h4, Nat.le_refl _, fun z => absurd z (by show t_c T ≠ 60; omega), fun z => ?_⟩
    have z : t_cw T = [] := z
    rw [z] at hl
    simp at hl
theorem endW_ok {T : Tx} (h : Tok T) : Tok (endW T) := by
  obtain ⟨h1, h2, h3, h4, h5, h6, h7⟩ := h
  unfold endW
  split
  · exact ⟨h1, h2, h3, h4, h5, h6, h7⟩
  · rename_i hn
    have hc : t_c T < 60 := by
      rcases Nat.lt_or_ge (t_c T) 60 with q | q
      · exact q
      · exact absurd (h6 (by omega)) hn
    refine ⟨hc, fun i hi => ?_, Nat.le_succ_of_le h3, ⟨fun _ h => (by cases h), Nat.zero_le _⟩, Nat.zero_le _, fun _ => rfl, fun _ => rfl⟩
    have hi : i < t_c T + 1 := hi
    show wok 12 (if i = t_c T then t_cw T else t_w T i) ∧ (if i = t_c T then t_cl T else t_l T i) ≤ 1 ∧ (if i = t_c T then t_se T else t_s T i) ≤ i
    by_cases q : i = t_c T
    · rw [if_pos q, if_pos q, if_pos q]
      exact ⟨⟨h4.1, List.length_pos_iff.mpr hn, h4.2⟩, h5, by omega⟩
    · rw [if_neg q, if_neg q, if_neg q]
      exact h2 i (by omega)
theorem endS_ok {T : Tx} (h : Tok T) : Tok (endS T) := by
  obtain ⟨h1, h2, h3, h4, h5, h6, h7⟩ := h
  unfold endS
  split
  · rename_i q
    refine ⟨h1, h2, ?_, h4, h5, h6, h7⟩
    have := (h2 (t_c T - 1) (by omega)).2.2
    show t_se T + 1 ≤ t_c T
    omega
  · exact ⟨h1, h2, h3, h4, h5, h6, h7⟩
theorem nar_b {v : Nat} (h : v ≤ 1) : vp_nar .boolean (nI v) = nI v := by
  rcases (show v = 0 ∨ v = 1 by omega) with rfl | rfl <;> rfl
section TX
variable {σ : Sg} {T : Tx}
theorem addLetter7_s (h : txtC σ T) (hT : Tok T) {x : Nat} (hx : 1 ≤ x ∧ x ≤ 26) : ∃ s', f_X6_addLetter σ (nI (x + 96)) = some ((), s') ∧ txtC s' (addL T x) ∧ Sm [26] [26] σ s' := by
  obtain ⟨g1, g2, g3, g4, g5⟩ := h
  have hw := hT.2.2.2.1
  unfold f_X6_addLetter addL
  rw [g3, sizeOf_s hw.1 hw.2, cP_s]
  by_cases hl : (t_cw T).length < 12
  · rw [if_neg (fun hc => by have := (c_ge 12 (by omega) (by decide)).mp hc; omega), with_s hw.1 hl hx, cP_s, pL_s, if_pos hl]
    refine ⟨_, rfl, ⟨g1, g2, ?_, g4, ?_⟩, Sm.rf.l (by decide)⟩
    · rw [sL_2, if_pos ⟨rfl, rfl⟩]; rfl
    · intro i hi
      rw [sL_ne σ (by decide)]
      exact g5 i hi
  · rw [if_pos ((c_ge 12 (by omega) (by decide)).mpr (by omega)), pI_s, if_neg hl]
    refine ⟨_, rfl, ⟨?_, ?_, g3, ?_, ?_⟩, Sm.rf.i (by decide)⟩
    · rw [sI_1, if_neg (by decide)]; exact g1
    · rw [sI_1, if_neg (by decide)]; exact g2
    · rw [sI_1, if_pos ⟨rfl, rfl⟩]; rfl
    · intro i hi
      rw [sI_ne σ (by decide), sI_ne σ (by decide)]
      exact g5 i hi
theorem endWord7_s (h : txtC σ T) (hT : Tok T) : ∃ s', f_X6_endWord σ = some ((), s') ∧ txtC s' (endW T) ∧ Sm [26, 28, 29] [26, 27] σ s' := by
  have h0 := h
  obtain ⟨g1, g2, g3, g4, g5⟩ := h
  have hw := hT.2.2.2.1
  unfold f_X6_endWord endW
  rw [g3]
  have hiff : lg_cmp (eL (t_cw T)) 0 = 0 ↔ t_cw T = [] := by rw [lg_cmp_0, eL_0 hw.1 hw.2]
  by_cases hn : t_cw T = []
  · rw [if_pos (hiff.mpr hn), if_pos hn]
    exact ⟨σ, rfl, h0, Sm.rf⟩
  · have hc : t_c T < 60 := by
      rcases Nat.lt_or_ge (t_c T) 60 with q | q
      · exact q
      · exact absurd (hT.2.2.2.2.2.1 (by have := hT.1; omega)) hn
    rw [if_neg (fun z => hn (hiff.mp z)), if_neg hn, g1, if_pos ((c_lt 60 (by omega) (by decide)).mpr hc), wL_n hc (by decide), sL_1, g1, wI_n hc (by decide), g4, nar_b hT.2.2.2.2.1]
    have e1 : (sI (sL σ 27 (t_c T) (eL (t_cw T))) 28 (t_c T) (nI (t_cl T))).1 26 = σ.1 26 := by rw [sI_ne _ (by decide), sL_1]
    rw [e1, g1, wI_n hc (by decide), g2, pI_s, pL_s, pI_s]
    refine ⟨_, rfl, ?_, ((((((Sm.rf.l (by decide)).i (by decide)).i (by decide)).i (by decide)).l (by decide)).i (by decide))⟩
    refine ⟨?_, ?_, ?_, ?_, fun i hi => ?_⟩
    · simp [sI_1, sL_1, g1, nI_1]; rfl
    · simp [sI_1, sL_1, g2]; rfl
    · rw [sI_2, sL_2, if_pos ⟨rfl, rfl⟩]; rfl
    · rw [sI_1, if_pos ⟨rfl, rfl⟩]; rfl
    · have hi : i < t_c T + 1 := hi
      show _ = eL (if i = t_c T then t_cw T else t_w T i) ∧ _ = nI (if i = t_c T then t_cl T else t_l T i) ∧ _ = nI (if i = t_c T then t_se T else t_s T i)
      by_cases q : i = t_c T
      · rw [if_pos q, if_pos q, if_pos q]
        subst q
        refine ⟨?_, ?_, ?_⟩
        · simp [sI_2, sL_row]
        · simp [sI_1, sL_1]
        · simp [sI_1, sL_1]
      · rw [if_neg q, if_neg q, if_neg q]
        obtain ⟨d1, d2, d3⟩ := g5 i (by omega)
        refine ⟨?_, ?_, ?_⟩
        · simp [sI_2, sL_row, q, d1]
        · simp [sI_1, sL_1, q, d2]
        · simp [sI_1, sL_1, q, d3]
theorem endSentence7_s (h : txtC σ T) (hT : Tok T) : ∃ s', f_X6_endSentence σ = some ((), s') ∧ txtC s' (endS T) ∧ Sm [26] [] σ s' := by
  have h0 := h
  obtain ⟨g1, g2, g3, g4, g5⟩ := h
  have h60 := hT.1
  have hse := hT.2.2.1
  unfold f_X6_endSentence endS
  rw [g1, g2]
  by_cases hc : 0 < t_c T
  · have hs := (hT.2.1 (t_c T - 1) (by omega)).2.2
    rw [if_neg (fun z => by have := (c_le 0 (by omega) (by decide)).mp z; omega), nI_s1 hc, rI_n (by omega) (by decide), (g5 (t_c T - 1) (by omega)).2.2]
    by_cases q : t_s T (t_c T - 1) = t_se T
    · rw [if_pos (by rw [q]), if_pos ⟨hc, q⟩, pI_s, nI_1]
      refine ⟨_, rfl, ⟨?_, ?_, g3, ?_, fun i hi => ?_⟩, Sm.rf.i (by decide)⟩
      · rw [sI_1, if_neg (by decide)]; exact g1
      · rw [sI_1, if_pos ⟨rfl, rfl⟩]; rfl
      · rw [sI_1, if_neg (by decide)]; exact g4
      · rw [sI_ne σ (by decide), sI_ne σ (by decide)]; exact g5 i hi
    · rw [if_neg (fun z => q ((nI_eq (by omega) (by omega)).mp z)), if_neg (fun z => q z.2)]
      exact ⟨σ, rfl, h0, Sm.rf⟩
  · rw [if_pos (by rw [show t_c T = 0 by omega]; decide), if_neg (fun z => hc z.1)]
    exact ⟨σ, rfl, h0, Sm.rf⟩
end TX
/-- a sign comes -/
def tak (T : Tx) (a : Int32) : Tx := if 97 ≤ a ∧ a ≤ 122 then addL T (a.toNatClampNeg - 96) else if a = 46 then endS (endW T) else endW T
theorem tak_l {T : Tx} {x : Nat} (hx : 1 ≤ x ∧ x ≤ 26) : tak T (nI (x + 96)) = addL T x := by
  unfold tak
  rw [if_pos ⟨(c_ge 97 (by omega) (by decide)).mpr (by omega), (c_le 122 (by omega) (by decide)).mpr (by omega)⟩, nI_clamp (by omega), Nat.add_sub_cancel]
theorem tak_ex {T : Tx} {a : Int32} : exT T (tak T a) := by
  unfold tak
  split
  · exact addL_ex
  · split
    · exact endW_ex.tr endS_ex
    · exact endW_ex
theorem tak_ok {T : Tx} {a : Int32} (h : Tok T) (hc : (97 ≤ a ∧ a ≤ 122) → t_c T < 60) : Tok (tak T a) := by
  by_cases hl : 97 ≤ a ∧ a ≤ 122
  · obtain ⟨x, h1, h2, rfl⟩ := letter_of hl
    rw [tak_l ⟨h1, h2⟩]
    exact addL_ok h ⟨h1, h2⟩ (hc hl)
  · unfold tak
    rw [if_neg hl]
    split
    · exact endS_ok (endW_ok h)
    · exact endW_ok h
theorem take7_s {σ : Sg} {T : Tx} {a : Int32} (h : txtC σ T) (hT : Tok T) : ∃ s', f_X6_take σ a = some ((), s') ∧ txtC s' (tak T a) ∧ Sm [26, 28, 29] [26, 27] σ s' := by
  unfold f_X6_take
  rw [isLetter7_s, cP_s]
  by_cases hl : 97 ≤ a ∧ a ≤ 122
  · obtain ⟨x, h1, h2, rfl⟩ := letter_of hl
    obtain ⟨s', e1, e2, e3⟩ := addLetter7_s h hT ⟨h1, h2⟩
    rw [if_pos hl, if_neg (by decide), e1, cA_s, tak_l ⟨h1, h2⟩]
    exact ⟨s', rfl, e2, e3.up (by decide) (by decide)⟩
  · obtain ⟨s', e1, e2, e3⟩ := endWord7_s h hT
    unfold tak
    rw [if_neg hl, if_pos rfl, e1, cA_s, if_neg hl]
    by_cases h46 : a = 46
    · obtain ⟨s2, d1, d2, d3⟩ := endSentence7_s e2 (endW_ok hT)
      rw [if_pos h46, if_pos h46, d1, cA_s]
      exact ⟨s2, rfl, d2, e3.tr (d3.up (by decide) (by decide))⟩
    · rw [if_neg h46, if_neg h46]
      exact ⟨s', rfl, e2, e3⟩
/-- what the scan knows stays right while the text grows -/
theorem met_ex {B : Bk} {T T' : Tx} (h : exT T T') {t i n : Nat} (hi : i + n ≤ t_c T) : met B T' t i n ↔ met B T t i n := by
  have e : ∀ k, k < n → t_w T' (i + k) = t_w T (i + k) ∧ t_l T' (i + k) = t_l T (i + k) ∧ t_s T' (i + k) = t_s T (i + k) := fun k hk => h.2 (i + k) (by omega)
  constructor
  · intro hm k hk
    have := hm k hk
    have e0 := e 0 (by omega)
    rw [Nat.add_zero] at e0
    rw [(e k hk).2.2, e0.2.2] at this
    refine ⟨this.1, ?_⟩
    have h2 := this.2
    unfold mt at h2 ⊢
    rw [(e k hk).1, (e k hk).2.1] at h2
    exact h2
  · intro hm k hk
    have := hm k hk
    have e0 := e 0 (by omega)
    rw [Nat.add_zero] at e0
    rw [(e k hk).2.2, e0.2.2]
    refine ⟨this.1, ?_⟩
    have h2 := this.2
    unfold mt at h2 ⊢
    rw [(e k hk).1, (e k hk).2.1]
    exact h2
theorem lookP_ex {fb fs : Nat → Int32} {B : Bk} {T T' : Tx} {lk : Nat} (h : lookP fb fs B T lk) (hx : exT T T') (hl : lk ≤ t_c T) : lookP fb fs B T' lk := by
  refine ⟨fun i hi t k ht hk => ?_, fun i hi j hj => ?_⟩
  · rw [h.1 i hi t k ht hk]
    constructor
    · rintro ⟨a, b, c, d⟩; exact ⟨a, b, c, (met_ex hx (by omega)).mpr d⟩
    · rintro ⟨a, b, c, d⟩; exact ⟨a, b, c, (met_ex hx (by omega)).mp d⟩
  · rw [h.2 i hi j hj]
    constructor
    · rintro ⟨a, b, c⟩; exact ⟨a, b, (met_ex hx (by omega)).mpr c⟩
    · rintro ⟨a, b, c⟩; exact ⟨a, b, (met_ex hx (by omega)).mp c⟩
/-- the class's side behind a growth of the text -/
theorem InvC.text {σ s : Sg} {S : List Nat} {B : Bk} {T T' : Tx} {im : Nat → Option Bk} (hC : InvC σ (S, B, T, im)) (u : Sm [26, 28, 29] [26, 27, 42] σ s) (ht : txtC s T') (hx : exT T T') : ∃ s', f_X7_textChanged s = some ((), s') ∧ InvC s' (S, B, T', im) ∧ Un43 σ s' ∧ s'.1 26 = s.1 26 := by
  obtain ⟨g1, g2, g3, g4, g5, g6⟩ := hC
  obtain ⟨lk, p1, p2, p3, p4⟩ := g5
  have p1 : lk ≤ t_c T := p1
  refine ⟨sI (sI s 30 3 0) 40 5 0, rfl, ?_, ?_, by rw [sI_ne _ (by decide), sI_ne _ (by decide)]⟩
  · have e : Sm [30, 40] [] s (sI (sI s 30 3 0) 40 5 0) := (Sm.rf.i (by decide)).i (by decide)
    refine ⟨e.slp (by decide) (u.slp (by decide) g1), e.lex (by decide) (by decide) (u.lex (by decide) (by decide) g2), e.txt (by decide) (by decide) ht, e.ims (by decide) (by decide) (u.ims (by decide) (by decide) g4), ⟨lk, Nat.le_trans p1 hx.1, ?_, ?_, Or.inl ?_⟩, Or.inl ?_⟩
    · simp [sI_1]; rw [u.1 30 (by decide)]; exact p2
    · rw [sI_ne _ (by decide), sI_ne _ (by decide), sI_ne _ (by decide), sI_ne _ (by decide), u.1 32 (by decide), u.1 33 (by decide)]
      exact lookP_ex p3 hx p1
    · simp [sI_1]
    · simp [sI_1]
  · exact ((u.u43 (by decide)).i (by decide)).i (by decide)
end
section
/-! the reference's text -/
def txR (s : Sg) (T : Tx) : Prop := textP (s.1 43) (s.1 48) T
def Sr (s s' : Sg) : Prop := Sm [43, 48] [] s s' ∧ ∀ j, j ≠ 6 → j ≠ 7 → s'.1 43 j = s.1 43 j
theorem Sr.rf {s : Sg} : Sr s s := ⟨Sm.rf, fun _ _ _ => rfl⟩
theorem Sr.tr {a b c : Sg} (h1 : Sr a b) (h2 : Sr b c) : Sr a c := ⟨h1.1.tr h2.1, fun j h h' => (h2.2 j h h').trans (h1.2 j h h')⟩
theorem Sr.x {a b : Sg} {j : Nat} {v : Int32} (h : Sr a b) : Sr a (sI b 48 j v) := ⟨h.1.i (by decide), fun i h1 h2 => by rw [sI_ne b (by decide)]; exact h.2 i h1 h2⟩
theorem Sr.f {a b : Sg} {j : Nat} {v : Int32} (h : Sr a b) (hj : j = 6 ∨ j = 7) : Sr a (sI b 43 j v) := ⟨h.1.i (by decide), fun i h1 h2 => by rw [sI_1, if_neg (by omega)]; exact h.2 i h1 h2⟩
theorem Sr.s48 {a b : Sg} (h : Sm [48] [] a b) : Sr a b := ⟨h.up (by decide) (by decide), fun j _ _ => by rw [h.1 43 (by decide)]⟩
theorem InvR.text {σ s : Sg} {S : List Nat} {B : Bk} {T T' : Tx} {im : Nat → Option Bk} (hR : InvR σ (S, B, T, im)) (u : Sr σ s) (ht : txR s T') : InvR s (S, B, T', im) := by
  obtain ⟨h1, h2, h3, h4, h5⟩ := hR
  refine ⟨?_, ?_, ht, ?_, ?_⟩
  · show slipP (s.1 43 4) (s.1 47) S
    rw [u.2 4 (by decide) (by decide), u.1.1 47 (by decide)]; exact h1
  · show bookP (s.1 44) B
    rw [u.1.1 44 (by decide)]; exact h2
  · show imgP (s.1 46 0) (fun j => s.1 45 j) (im 0)
    rw [u.1.1 46 (by decide), u.1.1 45 (by decide)]; exact h4
  · show imgP (s.1 46 1) (fun j => s.1 45 (475 + j)) (im 1)
    rw [u.1.1 46 (by decide), u.1.1 45 (by decide)]; exact h5
def rowP (x : Nat → Int32) (T : Tx) : Prop := ∀ i, i < t_c T → (x (15 * i) = nI (t_w T i).length ∧ ∀ j y, (t_w T i)[j]? = some y → x (15 * i + 3 + j) = nI (y + 96)) ∧ x (15 * i + 1) = nI (t_s T i) ∧ x (15 * i + 2) = nI (t_l T i)
theorem rowP.cg {x x' : Nat → Int32} {T : Tx} (h : rowP x T) (hT : Tok T) (e : ∀ p, p < 15 * t_c T → x' p = x p) : rowP x' T := by
  intro i hi
  obtain ⟨⟨a, b⟩, c, d⟩ := h i hi
  have h12 := (hT.2.1 i hi).1.2.2
  refine ⟨⟨by rw [e _ (by omega)]; exact a, fun j y hy => ?_⟩, by rw [e _ (by omega)]; exact c, by rw [e _ (by omega)]; exact d⟩
  have := (List.getElem?_eq_some_iff.mp hy).1
  rw [e _ (by omega)]
  exact b j y hy
theorem i15 (c : Nat) : 15 * nI c = nI (15 * c) := by rw [li 15, pk_mul]
theorem get_snoc {l : List Nat} {x j y : Nat} (h : (l ++ [x])[j]? = some y) : (j < l.length ∧ l[j]? = some y) ∨ (j = l.length ∧ y = x) := by
  rw [List.getElem?_append] at h
  split at h
  · rename_i hl; exact Or.inl ⟨hl, h⟩
  · rename_i hl
    have : j = l.length := by
      rcases Nat.lt_or_ge (j - l.length) 1 with g | g
      · omega
      · rw [List.getElem?_eq_none_iff.mpr (by simpa using g)] at h
        cases h
    subst this
    simp at h
    exact Or.inr ⟨rfl, h.symm⟩
section CM
variable {s : Sg} {T : Tx}
theorem comes8_l (h : txR s T) (hT : Tok T) (hc : t_c T < 60) {x : Nat} (hx : 1 ≤ x ∧ x ≤ 26) : ∃ s', f_X8_comes s (nI (x + 96)) = some ((), s') ∧ txR s' (addL T x) ∧ Sr s s' := by
  obtain ⟨g1, g2, g3, ⟨g4, g5⟩, g6⟩ := h
  have g3 : rowP (s.1 48) T := g3
  have h12 := hT.2.2.2.1.2
  have hl : (97 : Int32) ≤ nI (x + 96) ∧ nI (x + 96) ≤ 122 := ⟨(c_ge 97 (by omega) (by decide)).mpr (by omega), (c_le 122 (by omega) (by decide)).mpr (by omega)⟩
  unfold f_X8_comes addL
  rw [isLetter8_s, if_pos hl, cP_s, if_neg (by decide), g1, i15, rI_n (by omega) (by decide), g4]
  by_cases q : (t_cw T).length < 12
  · rw [if_neg (fun z => by have := (c_eq 12 (by omega) (by decide)).mp z; omega), rI_n (by omega) (by decide), g4, nI_p3, nI_add, wI_n (by omega) (by decide), rI_n (by omega) (by decide), sI_1, if_neg (by omega), g4, nI_1, wI_n (by omega) (by decide), if_pos q]
    refine ⟨_, rfl, ?_, (Sr.rf.x).x⟩
    refine ⟨?_, ?_, ?_, ⟨?_, fun j y hy => ?_⟩, ?_⟩
    · rw [sI_ne _ (by decide), sI_ne _ (by decide)]; exact g1
    · rw [sI_ne _ (by decide), sI_ne _ (by decide)]; exact g2
    · exact g3.cg hT (fun p hp => by rw [sI_1, if_neg (by omega), sI_1, if_neg (by omega)])
    · show _ = nI (t_cw T ++ [x]).length
      rw [List.length_append]
      show (sI _ 48 (15 * t_c T) _).1 48 (15 * t_c T) = _
      rw [sI_1, if_pos ⟨rfl, rfl⟩]; rfl
    · have hy : (t_cw T ++ [x])[j]? = some y := hy
      show (sI _ 48 (15 * t_c T) _).1 48 (15 * t_c T + 3 + j) = _
      rw [sI_1, if_neg (by omega), sI_1]
      rcases get_snoc hy with ⟨z1, z2⟩ | ⟨z1, z2⟩
      · rw [if_neg (by omega)]; exact g5 j y z2
      · rw [if_pos ⟨rfl, by omega⟩, z2]
    · show (sI _ 48 (15 * t_c T) _).1 48 (15 * t_c T + 2) = _
      rw [sI_1, if_neg (by omega), sI_1, if_neg (by omega)]; exact g6
  · rw [if_pos ((c_eq 12 (by omega) (by decide)).mpr (by omega)), nI_p2, wI_n (by omega) (by decide), if_neg q]
    refine ⟨_, rfl, ?_, Sr.rf.x⟩
    refine ⟨?_, ?_, ?_, ⟨?_, fun j y hy => ?_⟩, ?_⟩
    · rw [sI_ne _ (by decide)]; exact g1
    · rw [sI_ne _ (by decide)]; exact g2
    · exact g3.cg hT (fun p hp => by rw [sI_1, if_neg (by omega)])
    · show (sI _ 48 _ _).1 48 (15 * t_c T) = _
      rw [sI_1, if_neg (by omega)]; exact g4
    · show (sI _ 48 _ _).1 48 (15 * t_c T + 3 + j) = _
      rw [sI_1, if_neg (by omega)]; exact g5 j y hy
    · show (sI _ 48 _ _).1 48 (15 * t_c T + 2) = _
      rw [sI_1, if_pos ⟨rfl, rfl⟩]; rfl
theorem clears8_s (s : Sg) {c : Nat} (hc : c ≤ 60) : ∃ s', f_X8_clears s (nI c) = some ((), s') ∧ Sm [48] [] s s' ∧ (∀ j, 15 * c ≤ j → j < 15 * c + 15 → s'.1 48 j = 0) ∧ ∀ j, j < 15 * c → s'.1 48 j = s.1 48 j := by
  have key : ∀ n i s2, i ≤ 15 → 15 < n + i → Sm [48] [] s s2 → (∀ j, 15 * c ≤ j → j < 15 * c + i → s2.1 48 j = 0) → (∀ j, j < 15 * c → s2.1 48 j = s.1 48 j) → ∃ s', f_X8_clears_L2 (fun (s5 : Sg) => some ((), s5)) (nI c) n s2 (nI i) = some ((), s') ∧ Sm [48] [] s s' ∧ (∀ j, 15 * c ≤ j → j < 15 * c + 15 → s'.1 48 j = 0) ∧ ∀ j, j < 15 * c → s'.1 48 j = s.1 48 j := by
    intro n
    induction n with
    | zero => intro i s2 h1 h2; omega
    | succ n ih =>
      intro i s2 h1 h2 a1 a2 a3
      rw [f_X8_clears_L2]
      rcases Nat.lt_or_ge i 15 with q | q
      · rw [if_neg (fun hc => by have := (c_ge 15 (by omega) (by decide)).mp hc; omega), i15, nI_add, wI_n (by omega) (by decide), nI_1]
        refine ih (i + 1) _ (by omega) (by omega) (a1.i (by decide)) (fun j h1 h2 => ?_) (fun j h => by rw [sI_1, if_neg (by omega)]; exact a3 j h)
        rw [sI_1]
        by_cases z : j = 15 * c + i
        · rw [if_pos ⟨rfl, z⟩]
        · rw [if_neg (fun hc => z hc.2)]; exact a2 j h1 (by omega)
      · have : i = 15 := by omega
        subst this
        rw [if_pos (by decide)]
        exact ⟨s2, rfl, a1, a2, a3⟩
  exact key fu 0 s (by omega) (by unfold fu; omega) Sm.rf (fun j h1 h2 => by omega) (fun _ _ => rfl)
theorem ends8_s (h : txR s T) (hT : Tok T) : ∃ s', f_X8_ends s = some ((), s') ∧ txR s' (endW T) ∧ Sr s s' := by
  have h0 := h
  obtain ⟨g1, g2, g3, ⟨g4, g5⟩, g6⟩ := h
  have g3 : rowP (s.1 48) T := g3
  have h60 := hT.1
  have h12 := hT.2.2.2.1.2
  unfold f_X8_ends endW
  rw [g1]
  by_cases hn : t_cw T = []
  · rw [if_pos hn]
    refine ⟨s, ?_, h0, Sr.rf⟩
    by_cases q : 60 ≤ t_c T
    · rw [if_pos ((c_ge 60 (by omega) (by decide)).mpr q)]
    · rw [if_neg (fun z => q ((c_ge 60 (by omega) (by decide)).mp z)), i15, rI_n (by omega) (by decide), g4, hn, if_pos (by decide)]
  · have hc : t_c T < 60 := by
      rcases Nat.lt_or_ge (t_c T) 60 with q | q
      · exact q
      · exact absurd (hT.2.2.2.2.2.1 (by omega)) hn
    have hp := List.length_pos_iff.mpr hn
    rw [if_neg hn, if_neg (fun z => by have := (c_ge 60 (by omega) (by decide)).mp z; omega), i15, rI_n (by omega) (by decide), g4, if_neg (fun z => by have := (c_le 0 (by omega) (by decide)).mp z; omega), nI_1, wI_n (by omega) (by decide), g2, pI_s, sI_ne s (by decide), g1, nI_1]
    obtain ⟨s', e1, e2, e3, e4⟩ := clears8_s (sI (sI s 48 (15 * t_c T + 1) (nI (t_se T))) 43 6 (nI (t_c T + 1))) (c := t_c T + 1) (by omega)
    rw [sI_1, if_pos ⟨rfl, rfl⟩, e1, cA_s]
    refine ⟨s', rfl, ?_, ((Sr.rf.x).f (Or.inl rfl)).tr (Sr.s48 e2)⟩
    have e43 : s'.1 43 = (sI (sI s 48 (15 * t_c T + 1) (nI (t_se T))) 43 6 (nI (t_c T + 1))).1 43 := e2.1 43 (by decide)
    refine ⟨?_, ?_, fun i hi => ?_, ⟨?_, fun j y hy => by cases hy⟩, ?_⟩
    · rw [e43, sI_1, if_pos ⟨rfl, rfl⟩]; rfl
    · rw [e43, sI_1, if_neg (by omega), sI_1, if_neg (by omega)]; exact g2
    · have hi : i < t_c T + 1 := hi
      have ex : ∀ p, p < 15 * t_c T + 15 → s'.1 48 p = if p = 15 * t_c T + 1 then nI (t_se T) else s.1 48 p := fun p hp => by
        rw [e4 p (by omega), sI_ne _ (by decide), sI_1]
        by_cases z : p = 15 * t_c T + 1
        · rw [if_pos ⟨rfl, z⟩, if_pos z]
        · rw [if_neg (fun hc => z hc.2), if_neg z]
      show (s'.1 48 (15 * i) = nI (if i = t_c T then t_cw T else t_w T i).length ∧ ∀ j y, (if i = t_c T then t_cw T else t_w T i)[j]? = some y → s'.1 48 (15 * i + 3 + j) = nI (y + 96)) ∧ s'.1 48 (15 * i + 1) = nI (if i = t_c T then t_se T else t_s T i) ∧ s'.1 48 (15 * i + 2) = nI (if i = t_c T then t_cl T else t_l T i)
      by_cases q : i = t_c T
      · rw [if_pos q, if_pos q, if_pos q]
        subst q
        refine ⟨⟨by rw [ex _ (by omega), if_neg (by omega)]; exact g4, fun j y hy => ?_⟩, by rw [ex _ (by omega), if_pos rfl], by rw [ex _ (by omega), if_neg (by omega)]; exact g6⟩
        have := (List.getElem?_eq_some_iff.mp hy).1
        rw [ex _ (by omega), if_neg (by omega)]
        exact g5 j y hy
      · rw [if_neg q, if_neg q, if_neg q]
        exact g3.cg hT (fun p hp => by rw [ex p (by omega), if_neg (by omega)]) i (by omega)
    · exact e3 _ (Nat.le_refl _) (by show 15 * (t_c T + 1) < _; omega)
    · exact e3 _ (by show _ ≤ 15 * (t_c T + 1) + 2; omega) (by show 15 * (t_c T + 1) + 2 < _; omega)
theorem comes8_n (h : txR s T) (hT : Tok T) {a : Int32} (ha : ¬ (97 ≤ a ∧ a ≤ 122)) : ∃ s', f_X8_comes s a = some ((), s') ∧ txR s' (tak T a) ∧ Sr s s' := by
  obtain ⟨s1, e1, e2, e3⟩ := ends8_s h hT
  have hT1 := endW_ok hT
  unfold f_X8_comes tak
  rw [isLetter8_s, if_neg ha, cP_s, if_pos rfl, e1, cA_s, if_neg ha]
  simp only [jn_s, pI_s]
  have e20 := e2
  obtain ⟨g1, g2, g3, g4, g6⟩ := e2
  have h60 := hT1.1
  have hse := hT1.2.2.1
  have z0 : sI s1 43 7 (s1.1 43 7 + 0) = sI s1 43 7 (nI (t_se (endW T))) := by rw [g2, nI_p0]
  have k0 : txR (sI s1 43 7 (s1.1 43 7 + 0)) (endW T) := by
    rw [z0]
    refine ⟨?_, ?_, ?_, ?_, ?_⟩
    · rw [sI_1, if_neg (by omega)]; exact g1
    · rw [sI_1, if_pos ⟨rfl, rfl⟩]
    · rw [sI_ne _ (by decide)]; exact g3
    · rw [sI_ne _ (by decide)]; exact g4
    · rw [sI_ne _ (by decide)]; exact g6
  by_cases q : a = 46
  · rw [if_pos q, if_pos q]
    unfold f_X8_hasWord endS
    rw [g1]
    by_cases hc : 0 < t_c (endW T)
    · have hs := (hT1.2.1 (t_c (endW T) - 1) (by omega)).2.2
      rw [if_neg (fun z => by have := (c_le 0 (by omega) (by decide)).mp z; omega), nI_s1 hc, i15, nI_1, rI_n (by omega) (by decide), (g3 (t_c (endW T) - 1) (by omega)).2.1, g2]
      by_cases z : t_s (endW T) (t_c (endW T) - 1) = t_se (endW T)
      · rw [if_pos (by rw [z]), cP_s, if_neg (by decide), if_pos ⟨hc, z⟩, nI_1]
        refine ⟨_, rfl, ?_, e3.tr (Sr.rf.f (Or.inr rfl))⟩
        refine ⟨?_, ?_, ?_, ?_, ?_⟩
        · rw [sI_1, if_neg (by omega)]; exact g1
        · rw [sI_1, if_pos ⟨rfl, rfl⟩]; rfl
        · rw [sI_ne _ (by decide)]; exact g3
        · rw [sI_ne _ (by decide)]; exact g4
        · rw [sI_ne _ (by decide)]; exact g6
      · rw [if_neg (fun y => z ((nI_eq (by omega) (by omega)).mp y)), cP_s, if_pos rfl, if_neg (fun y => z y.2), ← g2]
        exact ⟨_, rfl, k0, e3.tr (Sr.rf.f (Or.inr rfl))⟩
    · rw [if_pos (by rw [show t_c (endW T) = 0 by omega]; decide), cP_s, if_pos rfl, if_neg (fun y => hc y.1)]
      exact ⟨_, rfl, k0, e3.tr (Sr.rf.f (Or.inr rfl))⟩
  · rw [if_neg q, if_neg q]
    exact ⟨_, rfl, k0, e3.tr (Sr.rf.f (Or.inr rfl))⟩
theorem comes8_s (h : txR s T) (hT : Tok T) {a : Int32} (ha : (97 ≤ a ∧ a ≤ 122) → t_c T < 60) : ∃ s', f_X8_comes s a = some ((), s') ∧ txR s' (tak T a) ∧ Sr s s' := by
  by_cases hl : 97 ≤ a ∧ a ≤ 122
  · obtain ⟨x, h1, h2, rfl⟩ := letter_of hl
    rw [tak_l ⟨h1, h2⟩]
    exact comes8_l h hT (ha hl) ⟨h1, h2⟩
  · exact comes8_n h hT hl
end CM
theorem Sr.u {a b : Sg} (h : Sr a b) : Un42 a b := h.1.u42 (by decide)
theorem ps_read (σ : Sg) (a1 : Int32) (h : InvA σ) : ∃ (r : Int32) (σ1 σ2 : Sg), f_X7_read σ a1 = some (r, σ1) ∧ f_X8_read σ1 a1 = some (r, σ2) ∧ InvA σ2 := by
  refine step2 (f7 := fun s => f_X7_read s a1) (f8 := fun s => f_X8_read s a1) h (fun M hm => ?_)
  obtain ⟨S, B, T, im⟩ := M
  have hm0 := hm
  obtain ⟨hS, hB, hT, hI⟩ := hm
  have hT : Tok T := hT
  have h60 := hT.1
  have n10 : ¬ (1 : Int32) = 0 := by decide
  by_cases hr : 0 ≤ a1 ∧ a1 ≤ 255
  · have r1 : ¬ a1 < 0 := i32_nlt.mpr hr.1
    by_cases hf : (97 ≤ a1 ∧ a1 ≤ 122) ∧ t_c T = 60
    · refine ⟨-1000000004, (S, B, T, im), hm0, fun hC => ⟨σ, ?_, hC, Un43.rf⟩, fun s hR => ⟨s, ?_, hR, Un42.rf⟩⟩
      · have g1 : σ.1 26 0 = nI (t_c T) := hC.2.2.1.1
        unfold f_X7_read f_X6_hasRoom
        rw [if_neg r1, if_pos hr.2, isLetter7_s, cP_s, if_pos hf.1]
        simp only [jn_s]
        rw [if_neg n10, g1, hf.2, if_pos (by decide), cP_s, if_pos rfl]
      · have g1 : s.1 43 6 = nI (t_c T) := hR.2.2.1.1
        unfold f_X8_read
        rw [in8_s, if_pos hr, cP_s, if_neg n10, isLetter8_s, cP_s, if_pos hf.1]
        simp only [jn_s]
        rw [if_neg n10, g1, hf.2, if_pos (show nI 60 = (60 : Int32) from rfl)]
    · have hc : (97 ≤ a1 ∧ a1 ≤ 122) → t_c T < 60 := fun z => by
        rcases Nat.lt_or_ge (t_c T) 60 with q | q
        · exact q
        · exact absurd ⟨z, by omega⟩ hf
      refine ⟨nI (t_c (tak T a1)), (S, B, tak T a1, im), ⟨hS, hB, tak_ok hT hc, hI⟩, fun hC => ?_, fun s hR => ?_⟩
      · have g1 : σ.1 26 0 = nI (t_c T) := hC.2.2.1.1
        obtain ⟨s1, e1, e2, e3⟩ := take7_s (a := a1) hC.2.2.1 hT
        obtain ⟨s2, d1, d2, d3, d4⟩ := hC.text (e3.up (by decide) (by decide)) e2 tak_ex
        refine ⟨s2, ?_, d2, d3⟩
        unfold f_X7_read f_X6_hasRoom
        rw [if_neg r1, if_pos hr.2, isLetter7_s, cP_s]
        simp only [jn_s]
        rw [e1, cA_s, d1, cA_s, d4, e2.1]
        by_cases hl : 97 ≤ a1 ∧ a1 ≤ 122
        · have := hc hl
          rw [if_pos hl, if_neg n10, g1, if_neg (fun z => by have := (c_ge 60 (by omega) (by decide)).mp z; omega), cP_s, if_neg n10]
        · rw [if_neg hl, if_pos rfl]
      · have g1 : s.1 43 6 = nI (t_c T) := hR.2.2.1.1
        obtain ⟨s1, e1, e2, e3⟩ := comes8_s (a := a1) hR.2.2.1 hT hc
        refine ⟨s1, ?_, hR.text e3 e2, e3.u⟩
        unfold f_X8_read
        rw [in8_s, if_pos hr, cP_s, if_neg n10, isLetter8_s, cP_s]
        simp only [jn_s]
        rw [e1, cA_s, e2.1]
        by_cases hl : 97 ≤ a1 ∧ a1 ≤ 122
        · have := hc hl
          rw [if_pos hl, if_neg n10, g1, if_neg (fun z => by have := (c_eq 60 (by omega) (by decide)).mp z; omega)]
        · rw [if_neg hl, if_pos rfl]
  · refine ⟨-1000000002, (S, B, T, im), hm0, fun hC => ⟨σ, ?_, hC, Un43.rf⟩, fun s hR => ⟨s, ?_, hR, Un42.rf⟩⟩
    · unfold f_X7_read
      by_cases q : a1 < 0
      · rw [if_pos q]
      · rw [if_neg q, if_neg (fun z => hr ⟨i32_nlt.mp q, z⟩)]
    · unfold f_X8_read
      rw [in8_s, if_neg hr, cP_s, if_pos rfl]
theorem ps_wipe (σ : Sg) (h : InvA σ) : ∃ (r : Int32) (σ1 σ2 : Sg), f_X7_wipe σ = some (r, σ1) ∧ f_X8_wipe σ1 = some (r, σ2) ∧ InvA σ2 := by
  refine step2 (f7 := fun s => f_X7_wipe s) (f8 := fun s => f_X8_wipe s) h (fun M hm => ?_)
  obtain ⟨S, B, T, im⟩ := M
  obtain ⟨hS, hB, hT, hI⟩ := hm
  refine ⟨nI (t_c T), (S, B, (0, t_w T, t_l T, t_s T, 0, [], 0), im), ⟨hS, hB, ⟨Nat.zero_le _, fun i hi => absurd hi (Nat.not_lt_zero i), Nat.le_refl _, ⟨fun _ h => (by cases h), Nat.zero_le _⟩, Nat.zero_le _, fun _ => rfl, fun _ => rfl⟩, hI⟩, fun hC => ?_, fun s hR => ?_⟩
  · obtain ⟨g1, g2, g3, g4, g5, g6⟩ := hC
    refine ⟨sI (sI (sI (sI (sI (sL (sI (sI σ 26 0 0) 26 4 0) 26 5 0) 26 6 0) 30 2 0) 30 3 0) 30 3 0) 40 5 0, ?_, ?_, ?_⟩
    · unfold f_X7_wipe f_X6_clear f_X4_forget f_X7_textChanged f_X4_unsettle f_X3_forget
      have e : σ.1 26 0 = nI (t_c T) := g3.1
      simp only [pI_s, pL_s, cA_s, e]
    · have u : Sm [26, 30, 40] [26] σ (sI (sI (sI (sI (sI (sL (sI (sI σ 26 0 0) 26 4 0) 26 5 0) 26 6 0) 30 2 0) 30 3 0) 30 3 0) 40 5 0) :=
        (((((((Sm.rf.i (by decide)).i (by decide)).l (by decide)).i (by decide)).i (by decide)).i (by decide)).i (by decide)).i (by decide)
      refine ⟨u.slp (by decide) g1, u.lex (by decide) (by decide) g2, ⟨?_, ?_, ?_, ?_, fun i hi => absurd hi (Nat.not_lt_zero i)⟩, u.ims (by decide) (by decide) g4, ⟨0, Nat.le_refl _, ?_, ⟨fun i hi => absurd hi (Nat.not_lt_zero i), fun i hi => absurd hi (Nat.not_lt_zero i)⟩, Or.inl ?_⟩, Or.inl ?_⟩
      · simp [sI_1, sL_1]; rfl
      · simp [sI_1, sL_1]; rfl
      · simp [sI_2, sL_2]; rfl
      · simp [sI_1, sL_1]; rfl
      · simp [sI_1, sL_1]; rfl
      · simp [sI_1, sL_1]
      · simp [sI_1, sL_1]
    · exact Un43.i (by omega) (Un43.i (by omega) (Un43.i (by omega) (Un43.i (by omega) (Un43.i (by omega) (Un43.l (Un43.i (by omega) (Un43.i (by omega) Un43.rf)))))))
  · have g1 : s.1 43 6 = nI (t_c T) := hR.2.2.1.1
    obtain ⟨s1, e1, e2, e3, -⟩ := clears8_s (sI (sI s 43 6 0) 43 7 0) (c := 0) (by omega)
    have u : Sr s s1 := ((Sr.rf.f (Or.inl rfl)).f (Or.inr rfl)).tr (Sr.s48 e2)
    refine ⟨s1, ?_, hR.text u ?_, u.u⟩
    · unfold f_X8_wipe
      rw [pI_s, pI_s, show (0 : Int32) = nI 0 from rfl] at *
      rw [e1, cA_s, g1]
    · have e43 := e2.1 43 (by decide)
      refine ⟨?_, ?_, fun i hi => absurd hi (Nat.not_lt_zero i), ⟨?_, fun j y hy => (by cases hy)⟩, ?_⟩
      · rw [e43]; simp [sI_1]; rfl
      · rw [e43]; simp [sI_1]; rfl
      · exact e3 _ (by show _ ≤ 15 * 0; omega) (by show 15 * 0 < _; omega)
      · exact e3 _ (by show _ ≤ 15 * 0 + 2; omega) (by show 15 * 0 + 2 < _; omega)
end
section
/-! drift -/
def nx (v : Nat) : Nat := v * 16807 % 2147483647
theorem nx_lt (v : Nat) : nx v < 2147483647 := Nat.mod_lt _ (by decide)
theorem nx_l {v : Nat} (hv : v < 2147483647) : (lN v * (16807 : Int64)) - (lN v * (16807 : Int64)) / (2147483647 : Int64) * (2147483647 : Int64) = lN (nx v) := by
  rw [liL 16807, lN_mul, liL 2147483647, pk_lRem (by omega) (by decide) (by decide)]; rfl
theorem rm_l {v m : Nat} (hv : v < 2147483647) (h0 : 0 < m) (hm : m < 2 ^ 31) : lN v - lN v / lN m * lN m = lN (v % m) := pk_lRem (by omega) h0 (by omega)
/-- the first i letters of a word come -/
def addN (T : Tx) (w : List Nat) : Nat → Tx
  | 0 => T
  | i + 1 => addL (addN T w i) (w[i]?.getD 1)
theorem addL_c {T : Tx} {x : Nat} : t_c (addL T x) = t_c T := by unfold addL; split <;> rfl
theorem addN_c {T : Tx} {w : List Nat} : ∀ i, t_c (addN T w i) = t_c T
  | 0 => rfl
  | i + 1 => by rw [addN, addL_c, addN_c i]
theorem addN_ex {T : Tx} {w : List Nat} : ∀ i, exT T (addN T w i)
  | 0 => exT.rf
  | i + 1 => (addN_ex i).tr addL_ex
theorem addN_ok {T : Tx} {w : List Nat} (hT : Tok T) (hc : t_c T < 60) (hw : lok1 w) : ∀ i, i ≤ w.length → Tok (addN T w i)
  | 0, _ => hT
  | i + 1, h => addL_ok (addN_ok hT hc hw i (by omega)) (by
      have : w[i]? = some w[i] := List.getElem?_eq_getElem (by omega)
      rw [this]
      exact hw _ (List.mem_of_getElem? this)) (by rw [addN_c]; exact hc)
/-- one lot -/
def dst (B : Bk) (T : Tx) (v : Nat) : Tx × Nat × Nat :=
  if nx v % 8 = 0 then (tak T 46, nx v, 1)
  else if b_tc B = 0 then (T, nx v, 1)
  else if t_c T = 60 then (T, nx v, 0)
  else
    let t := nx (nx v) % b_tc B
    let k := nx (nx (nx v)) % b_n B t
    let T1 := addN T (b_w B t k) (b_w B t k).length
    let v4 := nx (nx (nx (nx v)))
    if v4 % 3 = 0 ∧ 0 < b_ec B then (tak (addN T1 (b_en B (nx v4 % b_ec B)) (b_en B (nx v4 % b_ec B)).length) 32, nx v4, 1)
    else (tak T1 32, v4, 1)
def dlo (B : Bk) : Nat → Tx → Nat → Tx
  | 0, T, _ => T
  | n + 1, T, v => if (dst B T v).2.2 = 0 then (dst B T v).1 else dlo B n (dst B T v).1 (dst B T v).2.1
theorem nl46 : ¬ ((97 : Int32) ≤ 46 ∧ (46 : Int32) ≤ 122) := by decide
theorem nl32 : ¬ ((97 : Int32) ≤ 32 ∧ (32 : Int32) ≤ 122) := by decide
theorem dst_p {B : Bk} {T : Tx} {v : Nat} (hB : Bok B) (hT : Tok T) : Tok (dst B T v).1 ∧ exT T (dst B T v).1 ∧ (dst B T v).2.1 < 2147483647 := by
  unfold dst
  by_cases h1 : nx v % 8 = 0
  · rw [if_pos h1]; exact ⟨tak_ok hT (fun z => absurd z nl46), tak_ex, nx_lt _⟩
  · rw [if_neg h1]
    by_cases h2 : b_tc B = 0
    · rw [if_pos h2]; exact ⟨hT, exT.rf, nx_lt _⟩
    · rw [if_neg h2]
      by_cases h3 : t_c T = 60
      · rw [if_pos h3]; exact ⟨hT, exT.rf, nx_lt _⟩
      · rw [if_neg h3]
        have hc : t_c T < 60 := by have := hT.1; omega
        have ht : nx (nx v) % b_tc B < b_tc B := Nat.mod_lt _ (by omega)
        have hk : nx (nx (nx v)) % b_n B (nx (nx v) % b_tc B) < b_n B (nx (nx v) % b_tc B) := Nat.mod_lt _ (hB.2.2.1 _ ht).1.1
        have hw := (hB.2.2.1 _ ht).2.2.2.2.1 _ hk
        have q1 := addN_ok hT hc hw.1 _ (Nat.le_refl _)
        dsimp only
        split
        · rename_i h4
          have he := hB.2.2.2 _ (Nat.mod_lt (nx (nx (nx (nx (nx v))))) h4.2)
          exact ⟨tak_ok (addN_ok q1 (by rw [addN_c]; exact hc) he.1 _ (Nat.le_refl _)) (fun z => absurd z nl32), ((addN_ex _).tr (addN_ex _)).tr tak_ex, nx_lt _⟩
        · exact ⟨tak_ok q1 (fun z => absurd z nl32), (addN_ex _).tr tak_ex, nx_lt _⟩
theorem dlo_p {B : Bk} (hB : Bok B) : ∀ n T v, Tok T → Tok (dlo B n T v) ∧ exT T (dlo B n T v)
  | 0, T, v, hT => ⟨hT, exT.rf⟩
  | n + 1, T, v, hT => by
    obtain ⟨h1, h2, -⟩ := dst_p (v := v) hB hT
    rw [dlo]
    split
    · exact ⟨h1, h2⟩
    · obtain ⟨g1, g2⟩ := dlo_p hB n _ (dst B T v).2.1 h1
      exact ⟨g1, h2.tr g2⟩
section D7
variable {s : Sg} {B : Bk} {T : Tx}
theorem below7_s {v m : Nat} (hx : s.2 42 0 = lN v) (hv : v < 2147483647) (h0 : 0 < m) (hm : m < 2 ^ 31) : ∃ s', f_X2_below s (nI m) = some (nI (nx v % m), s') ∧ s'.2 42 0 = lN (nx v) ∧ Sm [] [42] s s' := by
  refine ⟨sL s 42 0 (lN (nx v)), ?_, ?_, Sm.rf.l (by decide)⟩
  · unfold f_X2_below
    rw [hx, nx_l hv, pL_s, if_neg (fun z => by have := (c_le 0 hm (by decide)).mp z; omega), nI_l hm, sL_2, if_pos ⟨rfl, rfl⟩, rm_l (nx_lt _) h0 hm, lN_i, mH_t]
    intro z
    have := (lN_eq hm (by decide)).mp (show lN m = lN 0 from z)
    omega
  · rw [sL_2, if_pos ⟨rfl, rfl⟩]
theorem takeLetters7_s (h : txtC s T) (hT : Tok T) (hc : t_c T < 60) {w : List Nat} (hw : lok1 w) (hl : w.length ≤ 12) : ∃ s', f_X6_takeLetters s (eL w) = some ((), s') ∧ txtC s' (addN T w w.length) ∧ Sm [26] [26] s s' := by
  have key : ∀ n i s2, i ≤ w.length → w.length < n + i → txtC s2 (addN T w i) → Sm [26] [26] s s2 → ∃ s', f_X6_takeLetters_L8 (fun (s9 : Sg) => some ((), s9)) (eL w) (nI w.length) n s2 (nI i) = some ((), s') ∧ txtC s' (addN T w w.length) ∧ Sm [26] [26] s s' := by
    intro n
    induction n with
    | zero => intro i s2 h1 h2; omega
    | succ n ih =>
      intro i s2 h1 h2 a1 a2
      rw [f_X6_takeLetters_L8]
      rcases Nat.lt_or_ge i w.length with q | q
      · have gi : w[i]? = some w[i] := List.getElem?_eq_getElem q
        have x1 := hw _ (List.mem_of_getElem? gi)
        rw [if_neg (fun z => by have := (nI_leI (by omega) (by omega)).mp z; omega), at_s hw hl (by omega), show letA w i = nI (w[i] + 96) by unfold letA; rw [gi]]
        obtain ⟨s3, d1, d2, d3⟩ := addLetter7_s a1 (addN_ok hT hc hw i (by omega)) x1
        rw [cP_s, d1, cA_s, nI_1]
        refine ih (i + 1) s3 (by omega) (by omega) ?_ (a2.tr d3)
        rw [addN, gi]
        exact d2
      · have : i = w.length := by omega
        subst this
        rw [if_pos (nI_le (Nat.le_refl _) (by omega))]
        exact ⟨s2, rfl, a1, a2⟩
  unfold f_X6_takeLetters
  rw [sizeOf_s hw hl, cP_s]
  exact key fu 0 s (Nat.zero_le _) (by unfold fu; omega) h Sm.rf
theorem takeLot7_s {v : Nat} (h : txtC s T) (hT : Tok T) (hl : lexC s B) (hB : Bok B) (hx : s.2 42 0 = lN v) (hv : v < 2147483647) : ∃ s', f_X7_takeLot s = some (nI (dst B T v).2.2, s') ∧ txtC s' (dst B T v).1 ∧ s'.2 42 0 = lN (dst B T v).2.1 ∧ Sm [26, 28, 29] [26, 27, 42] s s' := by
  have n10 : ¬ (1 : Int32) = 0 := by decide
  have h8 := hB.1
  have h5 := hB.2.1
  have h60 := hT.1
  obtain ⟨s1, e1, x1, u1⟩ := below7_s (m := 8) hx hv (by decide) (by decide)
  have t1 := u1.txt (by decide) (by decide) h
  have l1 := u1.lex (by decide) (by decide) hl
  have v1 : Sm [26, 28, 29] [26, 27, 42] s s1 := u1.up (by decide) (by decide)
  have e1 : f_X2_below s 8 = some (nI (nx v % 8), s1) := e1
  unfold f_X7_takeLot f_X6_hasRoom dst
  rw [e1, cA_s]
  by_cases h1 : nx v % 8 = 0
  · obtain ⟨s2, e2, t2, u2⟩ := take7_s (a := 46) t1 hT
    rw [if_pos (by rw [h1]; rfl), if_pos h1, e2, cA_s]
    exact ⟨s2, rfl, t2, by rw [u2.2 42 (by decide)]; exact x1, v1.tr (u2.up (by decide) (by decide))⟩
  · have hlt := Nat.mod_lt (nx v) (show 0 < 8 by decide)
    rw [if_neg (fun z => h1 ((c_eq 0 (by omega) (by decide)).mp z)), if_neg h1, l1.1]
    by_cases h2 : b_tc B = 0
    · rw [if_pos (by rw [h2]; rfl), if_pos h2]
      exact ⟨s1, rfl, t1, x1, v1⟩
    · rw [if_neg (fun z => h2 ((c_eq 0 (by omega) (by decide)).mp z)), if_neg h2, t1.1]
      by_cases h3 : t_c T = 60
      · rw [if_pos (by rw [h3]; decide), cP_s, if_pos rfl, if_pos h3]
        exact ⟨s1, rfl, t1, x1, v1⟩
      · have hc : t_c T < 60 := by omega
        rw [if_neg (fun z => by have := (c_ge 60 (by omega) (by decide)).mp z; omega), cP_s, if_neg n10, if_neg h3]
        obtain ⟨s2, e2, x2, u2⟩ := below7_s (m := b_tc B) x1 (nx_lt _) (by omega) (by omega)
        have t2 := u2.txt (by decide) (by decide) t1
        have l2 := u2.lex (by decide) (by decide) l1
        have v2 : Sm [26, 28, 29] [26, 27, 42] s s2 := v1.tr (u2.up (by decide) (by decide))
        have ht : nx (nx v) % b_tc B < b_tc B := Nat.mod_lt _ (by omega)
        have hk : nx (nx (nx v)) % b_n B (nx (nx v) % b_tc B) < b_n B (nx (nx v) % b_tc B) := Nat.mod_lt _ (hB.2.2.1 _ ht).1.1
        have hn := (hB.2.2.1 _ ht).1
        have hw := (hB.2.2.1 _ ht).2.2.2.2.1 _ hk
        rw [e2, cA_s, rI_n (by omega) (by decide), (l2.2.2.1 _ ht).1]
        obtain ⟨s3, e3, x3, u3⟩ := below7_s (m := b_n B (nx (nx v) % b_tc B)) x2 (nx_lt _) (by omega) (by omega)
        have t3 := u3.txt (by decide) (by decide) t2
        have l3 := u3.lex (by decide) (by decide) l2
        have v3 : Sm [26, 28, 29] [26, 27, 42] s s3 := v2.tr (u3.up (by decide) (by decide))
        obtain ⟨s4, e4, t4, u4⟩ := takeLetters7_s t3 hT hc hw.1 hw.2.2
        have x4 : s4.2 42 0 = lN (nx (nx (nx v))) := by rw [u4.2 42 (by decide)]; exact x3
        have l4 := u4.lex (by decide) (by decide) l3
        have v4 : Sm [26, 28, 29] [26, 27, 42] s s4 := v3.tr (u4.up (by decide) (by decide))
        have q4 := addN_ok hT hc hw.1 _ (Nat.le_refl _)
        obtain ⟨s5, e5, x5, u5⟩ := below7_s (m := 3) x4 (nx_lt _) (by decide) (by decide)
        have t5 := u5.txt (by decide) (by decide) t4
        have l5 := u5.lex (by decide) (by decide) l4
        have v5 : Sm [26, 28, 29] [26, 27, 42] s s5 := v4.tr (u5.up (by decide) (by decide))
        have e5 : f_X2_below s4 3 = some _ := e5
        rw [e3, cA_s, wordOf7_s l3 hB ht hk, cP_s, e4, cA_s, e5, cA_s, l5.2.1]
        simp only [jn_s]
        have hlt3 := Nat.mod_lt (nx (nx (nx (nx v)))) (show 0 < 3 by decide)
        by_cases h4 : nx (nx (nx (nx v))) % 3 = 0 ∧ 0 < b_ec B
        · rw [if_pos (by rw [h4.1]; rfl), if_neg (fun z => by have := (c_le 0 (by omega) (by decide)).mp z; omega), if_pos h4]
          obtain ⟨s6, e6, x6, u6⟩ := below7_s (m := b_ec B) x5 (nx_lt _) h4.2 (by omega)
          have t6 := u6.txt (by decide) (by decide) t5
          have l6 := u6.lex (by decide) (by decide) l5
          have he : nx (nx (nx (nx (nx v)))) % b_ec B < b_ec B := Nat.mod_lt _ h4.2
          have hw2 := hB.2.2.2 _ he
          rw [e6, cA_s, rL_n (by omega) (by decide), l6.2.2.2 _ he]
          obtain ⟨s7, e7, t7, u7⟩ := takeLetters7_s t6 q4 (by rw [addN_c]; exact hc) hw2.1 (Nat.le_trans hw2.2.2 (by decide))
          obtain ⟨s8, e8, t8, u8⟩ := take7_s (a := 32) t7 (addN_ok q4 (by rw [addN_c]; exact hc) hw2.1 _ (Nat.le_refl _))
          rw [e7, cA_s, e8, cA_s]
          exact ⟨s8, rfl, t8, by rw [u8.2 42 (by decide), u7.2 42 (by decide)]; exact x6, ((v5.tr (u6.up (by decide) (by decide))).tr (u7.up (by decide) (by decide))).tr (u8.up (by decide) (by decide))⟩
        · rw [if_neg h4]
          obtain ⟨s8, e8, t8, u8⟩ := take7_s (a := 32) t5 q4
          rw [e8, cA_s]
          refine ⟨s8, ?_, t8, by rw [u8.2 42 (by decide)]; exact x5, v5.tr (u8.up (by decide) (by decide))⟩
          by_cases h6 : nx (nx (nx (nx v))) % 3 = 0
          · rw [if_pos (by rw [h6]; rfl), if_pos ((c_le 0 (by omega) (by decide)).mpr (by have := fun z => h4 ⟨h6, z⟩; omega))]
            rfl
          · rw [if_neg (fun z => h6 ((c_eq 0 (by omega) (by decide)).mp z))]
            rfl
theorem drift7_L {c : Nat} (hc : c ≤ 30) (kk : Sg → Option (Int32 × Sg)) (hB : Bok B) : ∀ n i s T v, i ≤ c → c < n + i → txtC s T → Tok T → lexC s B → s.2 42 0 = lN v → v < 2147483647 → ∃ s', f_X7_drift_L38 kk (nI c) n s 1 (nI i) = kk s' ∧ txtC s' (dlo B (c - i) T v) ∧ Sm [26, 28, 29] [26, 27, 42] s s' := by
  intro n
  induction n with
  | zero => intro i s T v h1 h2; omega
  | succ n ih =>
    intro i s T v h1 h2 h3 h4 h5 h6 h7
    rw [f_X7_drift_L38]
    rcases Nat.lt_or_ge i c with q | q
    · rw [if_neg (fun z => by have := (nI_leI (by omega) (by omega)).mp z; omega), if_neg (by decide)]
      obtain ⟨s1, e1, e2, e3, e4⟩ := takeLot7_s h3 h4 h5 hB h6 h7
      obtain ⟨p1, p2, p3⟩ := dst_p (v := v) hB h4
      rw [e1, cA_s, nI_1, show c - i = (c - (i + 1)) + 1 by omega, dlo]
      by_cases z : (dst B T v).2.2 = 0
      · rw [if_pos z, z]
        refine ⟨s1, ?_, e2, e4⟩
        cases n with
        | zero => omega
        | succ n =>
          rw [f_X7_drift_L38]
          by_cases y : nI c ≤ nI (i + 1)
          · rw [if_pos y]
          · rw [if_neg y, if_pos (show nI 0 = (0 : Int32) from rfl)]
      · have z1 : (dst B T v).2.2 = 1 := by
          revert z
          unfold dst
          dsimp only
          repeat' split
          all_goals simp
        rw [if_neg z, z1]
        obtain ⟨s2, d1, d2, d3⟩ := ih (i + 1) s1 _ _ (by omega) (by omega) e2 p1 (e4.lex (by decide) (by decide) h5) e3 p3
        exact ⟨s2, d1, d2, e4.tr d3⟩
    · have : i = c := by omega
      subst this
      rw [if_pos (nI_le (Nat.le_refl _) (by omega)), Nat.sub_self]
      exact ⟨s, rfl, h3, Sm.rf⟩
end D7
end
section
section D8
variable {s : Sg} {B : Bk} {T : Tx}
theorem next8_s {v : Nat} (hv : v < 2147483647) : f_X8_next s (lN v) = some (lN (nx v)) := by
  unfold f_X8_next; rw [nx_l hv]
theorem comesAll8_s (h : txR s T) (hT : Tok T) (hc : t_c T < 60) {p : Nat} {w : List Nat} (hp : wordP (s.1 44) p w) (hw : lok1 w) (hl : w.length ≤ 12) (hp2 : p + 1 + w.length ≤ 475) : ∃ s', f_X8_comesAll s (nI p) = some ((), s') ∧ txR s' (addN T w w.length) ∧ Sr s s' := by
  have key : ∀ n i s2, i ≤ w.length → w.length < n + i → txR s2 (addN T w i) → Sr s s2 → ∃ s', f_X8_comesAll_L2 (fun (s11 : Sg) => some ((), s11)) (nI p) n s2 (nI i) = some ((), s') ∧ txR s' (addN T w w.length) ∧ Sr s s' := by
    intro n
    induction n with
    | zero => intro i s2 h1 h2; omega
    | succ n ih =>
      intro i s2 h1 h2 a1 a2
      have e44 : s2.1 44 = s.1 44 := a2.1.1 44 (by decide)
      rw [f_X8_comesAll_L2, rI_n (by omega) (by decide), e44, hp.1]
      rcases Nat.lt_or_ge i w.length with q | q
      · have gi : w[i]? = some w[i] := List.getElem?_eq_getElem q
        have x1 := hw _ (List.mem_of_getElem? gi)
        rw [if_neg (fun z => by have := (nI_leI (by omega) (by omega)).mp z; omega), nI_1, nI_add, rI_n (by omega) (by decide), e44, hp.2 i _ gi]
        obtain ⟨s3, d1, d2, d3⟩ := comes8_l a1 (addN_ok hT hc hw i (by omega)) (by rw [addN_c]; exact hc) x1
        rw [d1, cA_s, nI_1]
        refine ih (i + 1) s3 (by omega) (by omega) ?_ (a2.tr d3)
        rw [addN, gi]
        exact d2
      · have : i = w.length := by omega
        subst this
        rw [if_pos (nI_le (Nat.le_refl _) (by omega))]
        exact ⟨s2, rfl, a1, a2⟩
  exact key fu 0 s (Nat.zero_le _) (by unfold fu; omega) h Sr.rf
theorem lg0 {v : Nat} (hv : v < 2 ^ 31) : lg_cmp (lN v) 0 = 0 ↔ v = 0 := by
  rw [lg_cmp_0]; exact lN_eq hv (by decide)
theorem lne {m : Nat} (h0 : 0 < m) (hm : m < 2 ^ 31) : ¬ lN m = 0 := fun z => by
  have := (lN_eq hm (by decide)).mp (show lN m = lN 0 from z); omega
theorem drift8_st {c v : Nat} (kk : Sg → Option (Int32 × Sg)) (n i : Nat) (hi : i < c) (hc : c ≤ 30) (h : txR s T) (hT : Tok T) (hb : bookP (s.1 44) B) (hB : Bok B) (hv : v < 2147483647) : ∃ s', f_X8_drift_L32 kk (nI c) (n + 1) s (lN v) 1 (nI i) = f_X8_drift_L32 kk (nI c) n s' (lN (dst B T v).2.1) (nI (dst B T v).2.2) (nI (i + 1)) ∧ txR s' (dst B T v).1 ∧ Sr s s' := by
  have n10 : ¬ (1 : Int32) = 0 := by decide
  have h8 := hB.1
  have h5 := hB.2.1
  have h60 := hT.1
  rw [f_X8_drift_L32, if_neg (fun z => by have := (nI_leI (by omega) (by omega)).mp z; omega), if_neg n10, next8_s hv, cP_s, liL 8, rm_l (nx_lt _) (by decide) (by decide), nI_1]
  unfold dst
  have hlt := Nat.mod_lt (nx v) (show 0 < 8 by decide)
  by_cases h1 : nx v % 8 = 0
  · obtain ⟨s2, e2, t2, u2⟩ := comes8_s (a := 46) h hT (fun z => absurd z nl46)
    rw [if_pos ((lg0 (by omega)).mpr h1), if_pos h1, e2, cA_s]
    exact ⟨s2, rfl, t2, u2⟩
  · rw [if_neg (fun z => h1 ((lg0 (by omega)).mp z)), if_neg h1, show (0 : Int32) = nI 0 from rfl, rI_n (by omega) (by decide), hb.1]
    simp only [jn_s]
    rw [rI_n (by omega) (by decide), hb.1, h.1]
    by_cases h2 : b_tc B = 0
    · rw [if_pos h2, h2, if_pos (by decide), if_pos (by decide), nI_1]
      exact ⟨s, rfl, h, Sr.rf⟩
    · rw [if_neg (fun z => by have := (nI_leI (by omega) (by omega)).mp z; omega), if_neg h2]
      by_cases h3 : t_c T = 60
      · rw [if_pos (by rw [h3]; rfl), if_pos h3]
        exact ⟨s, rfl, h, Sr.rf⟩
      · have hc : t_c T < 60 := by omega
        have ht : nx (nx v) % b_tc B < b_tc B := Nat.mod_lt _ (by omega)
        have hk : nx (nx (nx v)) % b_n B (nx (nx v) % b_tc B) < b_n B (nx (nx v) % b_tc B) := Nat.mod_lt _ (hB.2.2.1 _ ht).1.1
        have hn := (hB.2.2.1 _ ht).1
        have hw := (hB.2.2.1 _ ht).2.2.2.2.1 _ hk
        rw [if_neg (fun z => by have := (c_eq 60 (by omega) (by decide)).mp z; omega), if_neg h3, if_neg (fun z => by have := (nI_leI (by omega) (by omega)).mp z; omega), next8_s (nx_lt _), cP_s, rI_n (by omega) (by decide), hb.1, nI_l (by omega), mH_t (lne (by omega) (by omega)), next8_s (nx_lt _), cP_s, rm_l (nx_lt _) (by omega) (by omega), lN_i, termAt8_s, cP_s, show (nI 0 : Int32) = 0 from rfl, nI_p0, rI_n (by omega) (by decide), (hb.2.2.1 _ ht).1, nI_l (by omega), mH_t (lne (by omega) (by omega)), rm_l (nx_lt _) (by omega) (by omega), lN_i, wordAt8_s, cP_s]
        obtain ⟨s4, e4, t4, u4⟩ := comesAll8_s h hT hc ((hb.2.2.1 _ ht).2.2.2.2 _ hk) hw.1 hw.2.2 (by have := hw.2.2; omega)
        have b4 : bookP (s4.1 44) B := by rw [u4.1.1 44 (by decide)]; exact hb
        have q4 := addN_ok hT hc hw.1 _ (Nat.le_refl _)
        have hlt3 := Nat.mod_lt (nx (nx (nx (nx v)))) (show 0 < 3 by decide)
        rw [e4, cA_s, next8_s (nx_lt _), cP_s, liL 3, rm_l (nx_lt _) (by decide) (by decide)]
        by_cases h6 : nx (nx (nx (nx v))) % 3 = 0
        · rw [if_pos ((lg0 (by omega)).mpr h6), show (1 : Int32) = nI 1 from rfl, rI_n (by omega) (by decide), b4.2.1]
          by_cases h7 : 0 < b_ec B
          · have he : nx (nx (nx (nx (nx v)))) % b_ec B < b_ec B := Nat.mod_lt _ h7
            have hw2 := hB.2.2.2 _ he
            have hw3 := hw2.2.2
            rw [if_neg (fun z => by have := (c_le 0 (by omega) (by decide)).mp z; omega), if_pos ⟨h6, h7⟩, next8_s (nx_lt _), cP_s, rI_n (by omega) (by decide), b4.2.1, nI_l (by omega), mH_t (lne (by omega) (by omega)), rm_l (nx_lt _) (by omega) (by omega), lN_i, endingAt8_s, cP_s]
            obtain ⟨s7, e7, t7, u7⟩ := comesAll8_s t4 q4 (by rw [addN_c]; exact hc) (b4.2.2.2 _ he) hw2.1 (by omega) (by omega)
            obtain ⟨s8, e8, t8, u8⟩ := comes8_s (a := 32) t7 (addN_ok q4 (by rw [addN_c]; exact hc) hw2.1 _ (Nat.le_refl _)) (fun z => absurd z nl32)
            rw [e7, cA_s, e8, cA_s, show nI 1 = (1 : Int32) from rfl, nI_1]
            exact ⟨s8, rfl, t8, (u4.tr u7).tr u8⟩
          · obtain ⟨s8, e8, t8, u8⟩ := comes8_s (a := 32) t4 q4 (fun z => absurd z nl32)
            rw [if_pos ((c_le 0 (by omega) (by decide)).mpr (by omega)), if_neg (fun z => h7 z.2), e8, cA_s, show nI 1 = (1 : Int32) from rfl, nI_1]
            exact ⟨s8, rfl, t8, u4.tr u8⟩
        · obtain ⟨s8, e8, t8, u8⟩ := comes8_s (a := 32) t4 q4 (fun z => absurd z nl32)
          rw [if_neg (fun z => h6 ((lg0 (by omega)).mp z)), if_neg (fun z => h6 z.1), e8, cA_s, nI_1]
          exact ⟨s8, rfl, t8, u4.tr u8⟩
theorem drift8_L {c : Nat} (hc : c ≤ 30) (kk : Sg → Option (Int32 × Sg)) (hB : Bok B) : ∀ n i s T v, i ≤ c → c < n + i → txR s T → Tok T → bookP (s.1 44) B → v < 2147483647 → ∃ s', f_X8_drift_L32 kk (nI c) n s (lN v) 1 (nI i) = kk s' ∧ txR s' (dlo B (c - i) T v) ∧ Sr s s' := by
  intro n
  induction n with
  | zero => intro i s T v h1 h2; omega
  | succ n ih =>
    intro i s T v h1 h2 h3 h4 h5 h7
    rcases Nat.lt_or_ge i c with q | q
    · obtain ⟨s1, e1, e2, e4⟩ := drift8_st kk n i q hc h3 h4 h5 hB h7
      obtain ⟨p1, p2, p3⟩ := dst_p (v := v) hB h4
      rw [e1, show c - i = (c - (i + 1)) + 1 by omega, dlo]
      by_cases z : (dst B T v).2.2 = 0
      · rw [if_pos z, z]
        refine ⟨s1, ?_, e2, e4⟩
        cases n with
        | zero => omega
        | succ n =>
          rw [f_X8_drift_L32]
          by_cases y : nI c ≤ nI (i + 1)
          · rw [if_pos y]
          · rw [if_neg y, if_pos (show nI 0 = (0 : Int32) from rfl)]
      · have z1 : (dst B T v).2.2 = 1 := by
          revert z
          unfold dst
          dsimp only
          repeat' split
          all_goals simp
        rw [if_neg z, z1]
        obtain ⟨s2, d1, d2, d3⟩ := ih (i + 1) s1 _ _ (by omega) (by omega) e2 p1 (by rw [e4.1.1 44 (by decide)]; exact h5) p3
        exact ⟨s2, d1, d2, e4.tr d3⟩
    · have : i = c := by omega
      subst this
      rw [f_X8_drift_L32, if_pos (nI_le (Nat.le_refl _) (by omega)), Nat.sub_self]
      exact ⟨s, rfl, h3, Sr.rf⟩
end D8
theorem ps_drift (σ : Sg) (a1 a2 : Int32) (h : InvA σ) : ∃ (r : Int32) (σ1 σ2 : Sg), f_X7_drift σ a1 a2 = some (r, σ1) ∧ f_X8_drift σ1 a1 a2 = some (r, σ2) ∧ InvA σ2 := by
  refine step2 (f7 := fun s => f_X7_drift s a1 a2) (f8 := fun s => f_X8_drift s a1 a2) h (fun M hm => ?_)
  obtain ⟨S, B, T, im⟩ := M
  have hm0 := hm
  obtain ⟨hS, hB, hT, hI⟩ := hm
  have hT : Tok T := hT
  have hB : Bok B := hB
  have h60 := hT.1
  have n10 : ¬ (1 : Int32) = 0 := by decide
  by_cases hr : (1 ≤ a1 ∧ a1 ≤ 30) ∧ (1 ≤ a2 ∧ a2 ≤ 999999)
  · obtain ⟨⟨r1, r2⟩, r3, r4⟩ := hr
    obtain ⟨c, hc0, hc, rfl⟩ := nat_of (a := a1) (lo := 1) (hi := 30) (by decide) ⟨r1, r2⟩ (by decide)
    obtain ⟨v, hv0, hv, rfl⟩ := nat_of (a := a2) (lo := 1) (hi := 999999) (by decide) ⟨r3, r4⟩ (by decide)
    obtain ⟨p1, p2⟩ := dlo_p hB c T v hT
    refine ⟨nI (t_c (dlo B c T v)), (S, B, dlo B c T v, im), ⟨hS, hB, p1, hI⟩, fun hC => ?_, fun s hR => ?_⟩
    · have u0 : Sm [] [42] σ (sL σ 42 0 (lN v)) := Sm.rf.l (by decide)
      obtain ⟨s1, e1, e2, e3⟩ := drift7_L (c := c) hc (fun (s9 : Sg) => cA (f_X7_textChanged s9) fun x10 s12 => (some ((s12.1 26 0), s12))) hB fu 0 (sL σ 42 0 (lN v)) T v (Nat.zero_le _) (by unfold fu; omega) (u0.txt (by decide) (by decide) hC.2.2.1) hT (u0.lex (by decide) (by decide) hC.2.1) (by rw [sL_2, if_pos ⟨rfl, rfl⟩]) (by omega)
      rw [Nat.sub_zero] at e2
      obtain ⟨s2, d1, d2, d3, d4⟩ := hC.text ((u0.up (by decide) (by decide)).tr e3) e2 p2
      refine ⟨s2, ?_, d2, d3⟩
      unfold f_X7_drift f_X2_start
      rw [if_neg (i32_nlt.mpr r1), if_neg (i32_nlt.mpr r2), if_neg (i32_nlt.mpr r3), if_pos r4, nI_l (by omega), pL_s, cA_s]
      refine e1.trans ?_
      rw [d1, cA_s, d4, e2.1]
    · obtain ⟨s1, e1, e2, e3⟩ := drift8_L (c := c) hc (fun (s68 : Sg) => some ((s68.1 43 6), s68)) hB fu 0 s T v (Nat.zero_le _) (by unfold fu; omega) hR.2.2.1 hT hR.2.1 (by omega)
      rw [Nat.sub_zero] at e2
      refine ⟨s1, ?_, hR.text e3 e2, e3.u⟩
      unfold f_X8_drift
      rw [in8_s, if_pos ⟨r1, r2⟩, cP_s, if_neg n10, in8_s, if_pos ⟨r3, r4⟩, cP_s, if_neg n10, nI_l (by omega)]
      refine e1.trans ?_
      rw [e2.1]
  · refine ⟨-1000000002, (S, B, T, im), hm0, fun hC => ⟨σ, ?_, hC, Un43.rf⟩, fun s hR => ⟨s, ?_, hR, Un42.rf⟩⟩
    · unfold f_X7_drift
      by_cases q1 : a1 < 1
      · rw [if_pos q1]
      · by_cases q2 : 30 < a1
        · rw [if_neg q1, if_pos q2]
        · by_cases q3 : a2 < 1
          · rw [if_neg q1, if_neg q2, if_pos q3]
          · rw [if_neg q1, if_neg q2, if_neg q3, if_neg (fun z => hr ⟨⟨i32_nlt.mp q1, i32_nlt.mp q2⟩, i32_nlt.mp q3, z⟩)]
    · unfold f_X8_drift
      rw [in8_s, cP_s]
      by_cases q : 1 ≤ a1 ∧ a1 ≤ 30
      · rw [if_pos q, if_neg n10, in8_s, cP_s, if_neg (fun z => hr ⟨q, z⟩), if_pos rfl]
      · rw [if_neg q, if_pos rfl]
end
section
theorem isWord7_s {σ : Sg} {T : Tx} (h : txtC σ T) (hT : Tok T) (a : Int32) : f_X6_isWord σ a = some (bI (rg a (t_c T))) := by
  unfold f_X6_isWord
  rw [h.1]
  exact rng_s (by have := hT.1; omega)
theorem isWord8_s {σ : Sg} {T : Tx} (h : txR σ T) (hT : Tok T) (a : Int32) : f_X8_isWord σ a = some (bI (rg a (t_c T))) := by
  unfold f_X8_isWord
  have e : σ.1 43 6 = nI (t_c T) := h.1
  rw [e, rng8_s (by have := hT.1; omega), cP_s, mH_t (bI_01 _)]
theorem same8_L {σ : Sg} {T : Tx} (h : txR σ T) (hT : Tok T) {i j : Nat} (hi : i < t_c T) (hj : j < t_c T) (hl : (t_w T i).length = (t_w T j).length) : f_X8_same_L82 (fun (v24 : Int32) => if v24 = 0 then (some 0) else (some 1)) σ (nI i) (nI j) fu 1 0 = some (bI (t_w T i = t_w T j)) := by
  have h60 := hT.1
  obtain ⟨⟨a1, a2⟩, -, -⟩ := h.2.2.1 i hi
  obtain ⟨⟨b1, b2⟩, -, -⟩ := h.2.2.1 j hj
  have hwi := (hT.2.1 i hi).1
  have hwj := (hT.2.1 j hj).1
  have hi12 := hwi.2.2
  have key : ∀ n k, k ≤ (t_w T i).length → (t_w T i).length < n + k → f_X8_same_L82 (fun (v24 : Int32) => if v24 = 0 then (some 0) else (some 1)) σ (nI i) (nI j) n (bI (∀ m, m < k → (t_w T i)[m]? = (t_w T j)[m]?)) (nI k) = some (bI (t_w T i = t_w T j)) := by
    intro n
    induction n with
    | zero => intro k h1 h2; omega
    | succ n ih =>
      intro k h1 h2
      rw [f_X8_same_L82, i15, i15, rI_n (by omega) (by decide), a1]
      rcases Nat.lt_or_ge k (t_w T i).length with z | z
      · rw [if_neg (fun hc => by have := (nI_leI (by omega) (by omega)).mp hc; omega)]
        rcases Classical.em (∀ m, m < k → (t_w T i)[m]? = (t_w T j)[m]?) with g | g
        · have gi : (t_w T i)[k]? = some (t_w T i)[k] := List.getElem?_eq_getElem z
          have gj : (t_w T j)[k]? = some ((t_w T j)[k]'(by omega)) := List.getElem?_eq_getElem (by omega)
          have x1 := hwi.1 _ (List.mem_of_getElem? gi)
          have x2 := hwj.1 _ (List.mem_of_getElem? gj)
          rw [bI_t g, if_neg (by decide), nI_p3, nI_add, rI_n (by omega) (by decide), nI_p3, nI_add, rI_n (by omega) (by decide), a2 k _ gi, b2 k _ gj, nI_1]
          have hiff : nI ((t_w T i)[k] + 96) = nI ((t_w T j)[k]'(by omega) + 96) ↔ (t_w T i)[k]? = (t_w T j)[k]? := by
            rw [nI_eq (by omega) (by omega), gi, gj]
            constructor
            · intro h; congr 1; omega
            · intro h; have := Option.some.inj h; omega
          have := ih (k + 1) (by omega) (by omega)
          by_cases h2 : (t_w T i)[k]? = (t_w T j)[k]?
          · rw [if_pos (hiff.mpr h2)]
            rw [bI_t (fun m hm => by
              rcases Nat.lt_or_ge m k with y | y
              · exact g m y
              · have : m = k := by omega
                rw [this]; exact h2)] at this
            exact this
          · rw [if_neg (fun hc => h2 (hiff.mp hc))]
            rw [bI_f (fun hc => h2 (hc k (by omega)))] at this
            exact this
        · rw [bI_f g, if_pos rfl]
          show (if (0 : Int32) = 0 then some 0 else some 1) = _
          rw [if_pos rfl, bI_f (fun hc => g (fun m _ => by rw [hc]))]
      · have : k = (t_w T i).length := by omega
        subst this
        rw [if_pos (nI_le (Nat.le_refl _) (by omega))]
        have hiff : (∀ m, m < (t_w T i).length → (t_w T i)[m]? = (t_w T j)[m]?) ↔ t_w T i = t_w T j := by
          rw [ext_iff]
          exact ⟨fun g => ⟨hl, g⟩, fun g => g.2⟩
        rw [bI_cg hiff]
        rcases Classical.em (t_w T i = t_w T j) with g | g
        · rw [bI_t g]; rfl
        · rw [bI_f g]; rfl
  have := key fu 0 (Nat.zero_le _) (by unfold fu; omega)
  rw [bI_t (fun m hm => absurd hm (Nat.not_lt_zero m))] at this
  exact this
theorem same8_0 {σ : Sg} {T : Tx} (h : txR σ T) (hT : Tok T) {i : Nat} {b : Int32} (hi : i < t_c T) : f_X8_same_L82 (fun (v24 : Int32) => if v24 = 0 then (some 0) else (some 1)) σ (nI i) b fu 0 0 = some 0 := by
  have h60 := hT.1
  obtain ⟨⟨a1, a2⟩, -, -⟩ := h.2.2.1 i hi
  show f_X8_same_L82 _ σ (nI i) b (4999 + 1) 0 0 = _
  rw [f_X8_same_L82, i15, rI_n (by omega) (by decide)]
  split
  · rfl
  · rfl
theorem ps_same (σ : Sg) (a1 a2 : Int32) (h : InvA σ) : ∃ r : Int32, f_X7_same σ a1 a2 = some r ∧ f_X8_same σ a1 a2 = some r := by
  obtain ⟨⟨S, B, T, im⟩, ⟨-, -, hT, -⟩, hC, hR⟩ := h
  have hT : Tok T := hT
  have h60 := hT.1
  have g : txtC σ T := hC.2.2.1
  have k : txR σ T := hR.2.2.1
  have n10 : ¬ (1 : Int32) = 0 := by decide
  rcases Classical.em (rg a1 (t_c T)) with r1 | r1
  · rcases Classical.em (rg a2 (t_c T)) with r2 | r2
    · by_cases e : a1 = a2
      · refine ⟨-1000000001, ?_, ?_⟩
        · unfold f_X7_same
          rw [isWord7_s g hT, bI_t r1, cP_s, if_neg n10, isWord7_s g hT, bI_t r2, cP_s, if_neg n10, if_pos e]
        · unfold f_X8_same
          rw [isWord8_s k hT, bI_t r1, cP_s, if_neg n10, isWord8_s k hT, bI_t r2, cP_s, if_neg n10, if_pos e]
      · refine ⟨bI (t_w T a1.toNatClampNeg = t_w T a2.toNatClampNeg ∧ t_l T a1.toNatClampNeg = 0 ∧ t_l T a2.toNatClampNeg = 0), ?_, ?_⟩
        · unfold f_X7_same
          rw [isWord7_s g hT, bI_t r1, cP_s, if_neg n10, isWord7_s g hT, bI_t r2, cP_s, if_neg n10, if_neg e]
          obtain ⟨i, hi, rfl⟩ := r1
          obtain ⟨j, hj, rfl⟩ := r2
          obtain ⟨u1, u2, u3⟩ := g.2.2.2.2 i hi
          obtain ⟨v1, v2, v3⟩ := g.2.2.2.2 j hj
          obtain ⟨wi, wi2, -⟩ := hT.2.1 i hi
          obtain ⟨wj, wj2, -⟩ := hT.2.1 j hj
          have hl : lg_cmp (eL (t_w T i)) (eL (t_w T j)) = 0 ↔ t_w T i = t_w T j := by
            rw [lg_cmp_0]
            exact eL_inj wi.1 wj.1 wi.2.2 wj.2.2
          have z0 : ∀ v, v ≤ 1 → (nI v = 0 ↔ v = 0) := fun v hv => c_eq 0 (by omega) (by decide)
          rw [rL_n (by omega) (by decide), rL_n (by omega) (by decide), u1, v1, nI_clamp (by omega), nI_clamp (by omega)]
          simp only [jn_s]
          rw [rI_n (by omega) (by decide), rI_n (by omega) (by decide), u2, v2]
          by_cases ew : t_w T i = t_w T j
          · rw [if_pos (hl.mpr ew)]
            by_cases l1 : t_l T i = 0
            · rw [if_pos ((z0 _ wi2).mpr l1)]
              by_cases l2 : t_l T j = 0
              · rw [if_pos ((z0 _ wj2).mpr l2), bI_t ⟨ew, l1, l2⟩]; rfl
              · rw [if_neg (fun z => l2 ((z0 _ wj2).mp z)), bI_f (fun z => l2 z.2.2)]; rfl
            · rw [if_neg (fun z => l1 ((z0 _ wi2).mp z)), bI_f (fun z => l1 z.2.1)]; rfl
          · rw [if_neg (fun z => ew (hl.mp z)), bI_f (fun z => ew z.1)]; rfl
        · unfold f_X8_same
          rw [isWord8_s k hT, bI_t r1, cP_s, if_neg n10, isWord8_s k hT, bI_t r2, cP_s, if_neg n10, if_neg e]
          obtain ⟨i, hi, rfl⟩ := r1
          obtain ⟨j, hj, rfl⟩ := r2
          obtain ⟨⟨p1, p2⟩, p3, p4⟩ := k.2.2.1 i hi
          obtain ⟨⟨q1, q2⟩, q3, q4⟩ := k.2.2.1 j hj
          obtain ⟨wi, wi2, -⟩ := hT.2.1 i hi
          obtain ⟨wj, wj2, -⟩ := hT.2.1 j hj
          have hi12 := wi.2.2
          have hj12 := wj.2.2
          have z0 : ∀ v, v ≤ 1 → (nI v = 0 ↔ v = 0) := fun v hv => c_eq 0 (by omega) (by decide)
          rw [nI_clamp (by omega), nI_clamp (by omega), i15, i15, rI_n (by omega) (by decide), rI_n (by omega) (by decide), p1, q1]
          simp only [jn_s]
          rw [nI_p2, nI_p2, rI_n (by omega) (by decide), rI_n (by omega) (by decide), p4, q4, same8_0 k hT hi]
          by_cases hn : (t_w T i).length = (t_w T j).length
          · rw [if_pos (by rw [hn])]
            by_cases l1 : t_l T i = 0
            · rw [if_pos ((z0 _ wi2).mpr l1)]
              by_cases l2 : t_l T j = 0
              · rw [if_pos ((z0 _ wj2).mpr l2), same8_L k hT hi hj hn]
                congr 1
                exact bI_cg ⟨fun z => ⟨z, l1, l2⟩, fun z => z.1⟩
              · rw [if_neg (fun z => l2 ((z0 _ wj2).mp z)), bI_f (fun z => l2 z.2.2)]
            · rw [if_neg (fun z => l1 ((z0 _ wi2).mp z)), bI_f (fun z => l1 z.2.1)]
          · rw [if_neg (fun z => hn ((nI_eq (by omega) (by omega)).mp z)), bI_f (fun z => hn (by rw [z.1]))]
    · refine ⟨-1000000001, ?_, ?_⟩
      · unfold f_X7_same
        rw [isWord7_s g hT, bI_t r1, cP_s, if_neg n10, isWord7_s g hT, bI_f r2, cP_s, if_pos rfl]
      · unfold f_X8_same
        rw [isWord8_s k hT, bI_t r1, cP_s, if_neg n10, isWord8_s k hT, bI_f r2, cP_s, if_pos rfl]
  · refine ⟨-1000000001, ?_, ?_⟩
    · unfold f_X7_same
      rw [isWord7_s g hT, bI_f r1, cP_s, if_pos rfl]
    · unfold f_X8_same
      rw [isWord8_s k hT, bI_f r1, cP_s, if_pos rfl]
end
section
/-! a term goes -/
def shN {α : Type} (t : Nat) (f : Nat → α) : Nat → α := fun x => if x < t then f x else f (x + 1)
def dcP (t : Nat) (p : Int32) : Int32 := if p ≤ nI t then p else p - 1
def shT (B : Bk) (t : Nat) : Bk := (b_tc B - 1, b_ec B, shN t (b_n B), shN t (b_w B), shN t (b_we B), shN t (b_be B), shN t (b_pr B), b_en B)
def rmT (B : Bk) (t : Nat) : Bk := (b_tc B - 1, b_ec B, shN t (b_n B), shN t (b_w B), shN t (b_we B), shN t (b_be B), fun x => dcP t (shN t (b_pr B) x), b_en B)
theorem rmT_ok {B : Bk} {t : Nat} (hB : Bok B) (ht : t < b_tc B) (hp : ∀ u, u < b_tc B → ¬ b_pr B u = nI t) : Bok (rmT B t) := by
  have h8 := hB.1
  refine ⟨by show b_tc B - 1 ≤ 8; omega, hB.2.1, fun x hx => ?_, hB.2.2.2⟩
  have hx : x < b_tc B - 1 := hx
  have key : ∀ y, y < b_tc B → (y = x ∧ x < t ∨ y = x + 1 ∧ ¬ x < t) → Tmok (rmT B t) x := by
    intro y hy hyx
    have e : ∀ {α : Type} (f : Nat → α), shN t f x = f y := by
      intro α f
      unfold shN
      rcases hyx with ⟨h1, h2⟩ | ⟨h1, h2⟩
      · rw [if_pos h2, h1]
      · rw [if_neg h2, h1]
    obtain ⟨g1, g2, g3, g4, g5, g6⟩ := hB.2.2.1 y hy
    unfold Tmok
    show (1 ≤ shN t (b_n B) x ∧ shN t (b_n B) x ≤ 4) ∧ (1 ≤ shN t (b_we B) x ∧ shN t (b_we B) x ≤ 9) ∧ shN t (b_be B) x ≤ 1 ∧ (dcP t (shN t (b_pr B) x) = -1 ∨ ∃ u, u < b_tc B - 1 ∧ dcP t (shN t (b_pr B) x) = nI u) ∧ (∀ k, k < shN t (b_n B) x → wok 12 (shN t (b_w B) x k)) ∧ b_sum (shN t (b_w B) x) (shN t (b_n B) x) ≤ 51
    rw [e, e, e, e, e]
    refine ⟨g1, g2, g3, ?_, g5, g6⟩
    unfold dcP
    rcases g4 with g4 | ⟨u, hu, g4⟩
    · left
      have hneg : (-1 : Int32) ≤ nI t := by
        rw [Int32.le_iff_toInt_le, nI_toInt (by omega)]
        have : (-1 : Int32).toInt = -1 := by decide
        omega
      rw [g4, if_pos hneg]
    · right
      rw [g4]
      have hne : u ≠ t := fun z => hp y hy (by rw [g4, z])
      rcases Nat.lt_or_ge u t with q | q
      · rw [if_pos ((nI_leI (by omega) (by omega)).mpr (by omega))]
        exact ⟨u, by omega, rfl⟩
      · rw [if_neg (fun z => by have := (nI_leI (by omega) (by omega)).mp z; omega), nI_s1 (by omega)]
        exact ⟨u - 1, by omega, rfl⟩
  by_cases q : x < t
  · exact key x (by omega) (Or.inl ⟨rfl, q⟩)
  · exact key (x + 1) (by omega) (Or.inr ⟨rfl, q⟩)
section RT
variable {σ : Sg} {B : Bk}
theorem copyTerm_4_4_s {t : Nat} (ht : t + 1 < 8) : f_X1_copyTerm_4_4 σ (nI (t + 1)) (nI t) = some ((), sI (sI (sI (sI (cL σ 5 5 (4 * (t + 1)) (4 * t) 4) 6 t (σ.1 6 (t + 1))) 7 t (σ.1 7 (t + 1))) 8 t (σ.1 8 (t + 1))) 9 t (σ.1 9 (t + 1))) := by
  have ht2 : t < 8 := by omega
  unfold f_X1_copyTerm_4_4
  rw [mul4, mul4, show (4 : Int32) = nI 4 from rfl, xL4_n (by omega) (by omega) (by decide) (by decide), rI_n ht (by decide), wI_n ht2 (by decide), rI_n ht (by decide), wI_n ht2 (by decide), rI_n ht (by decide), wI_n ht2 (by decide), rI_n ht (by decide), wI_n ht2 (by decide)]
  simp [sI_1, cL_1]
/-- term x is there what term y was -/
def Rt (s σ : Sg) (x y : Nat) : Prop := s.1 6 x = σ.1 6 y ∧ s.1 7 x = σ.1 7 y ∧ s.1 8 x = σ.1 8 y ∧ s.1 9 x = σ.1 9 y ∧ ∀ k, k < 4 → s.2 5 (4 * x + k) = σ.2 5 (4 * y + k)
theorem Rt.tr {a b c : Sg} {x y z : Nat} (h1 : Rt a b x y) (h2 : Rt b c y z) : Rt a c x z := ⟨h1.1.trans h2.1, h1.2.1.trans h2.2.1, h1.2.2.1.trans h2.2.2.1, h1.2.2.2.1.trans h2.2.2.2.1, fun k hk => (h1.2.2.2.2 k hk).trans (h2.2.2.2.2 k hk)⟩
theorem copyTerm_Rt {i : Nat} : ∀ x, Rt (sI (sI (sI (sI (cL σ 5 5 (4 * (i + 1)) (4 * i) 4) 6 i (σ.1 6 (i + 1))) 7 i (σ.1 7 (i + 1))) 8 i (σ.1 8 (i + 1))) 9 i (σ.1 9 (i + 1))) σ x (if x = i then i + 1 else x) := by
  intro x
  by_cases z : x = i
  · subst z
    rw [if_pos rfl]
    refine ⟨by simp [sI_1, cL_1], by simp [sI_1, cL_1], by simp [sI_1, cL_1], by simp [sI_1, cL_1], fun k hk => ?_⟩
    simp only [sI_2]
    rw [cL_2, if_pos rfl, if_pos (by omega), show 4 * x + k - 4 * x = k by omega]
  · rw [if_neg z]
    refine ⟨by simp [sI_1, cL_1, z], by simp [sI_1, cL_1, z], by simp [sI_1, cL_1, z], by simp [sI_1, cL_1, z], fun k hk => ?_⟩
    simp only [sI_2]
    rw [cL_2, if_pos rfl, if_neg (by omega)]
theorem copyTerm_Sm {i : Nat} : Sm [6, 7, 8, 9] [5] σ (sI (sI (sI (sI (cL σ 5 5 (4 * (i + 1)) (4 * i) 4) 6 i (σ.1 6 (i + 1))) 7 i (σ.1 7 (i + 1))) 8 i (σ.1 8 (i + 1))) 9 i (σ.1 9 (i + 1))) := by
  have h0 : Sm [6, 7, 8, 9] [5] σ (cL σ 5 5 (4 * (i + 1)) (4 * i) 4) := ⟨fun _ _ => rfl, fun x hx => by rw [cL_2, if_neg (fun z => hx (by rw [z]; decide))]⟩
  exact (((h0.i (by decide)).i (by decide)).i (by decide)).i (by decide)
theorem removeTerm7_s (hl : lexC σ B) (hB : Bok B) {t : Nat} (ht : t < b_tc B) : ∃ s', f_X1_removeTerm σ (nI t) = some ((), s') ∧ lexC s' (rmT B t) ∧ Sm [4, 6, 7, 8, 9] [5] σ s' := by
  have h8 := hB.1
  have key : ∀ (kk : Sg → Option (Unit × Sg)) n i s, t ≤ i → i < b_tc B → b_tc B < n + i → Sm [6, 7, 8, 9] [5] σ s → (∀ x, Rt s σ x (if t ≤ x ∧ x < i then x + 1 else x)) → ∃ s', f_X1_removeTerm_L2 kk (nI t) n s (nI i) = kk s' ∧ Sm [6, 7, 8, 9] [5] σ s' ∧ ∀ x, Rt s' σ x (if t ≤ x ∧ x < b_tc B - 1 then x + 1 else x) := by
    intro kk n
    induction n with
    | zero => intro i s h1 h2 h3; omega
    | succ n ih =>
      intro i s h1 h2 h3 a1 a2
      rw [f_X1_removeTerm_L2, a1.1 4 (by decide), hl.1, nI_1]
      rcases Nat.lt_or_ge (i + 1) (b_tc B) with q | q
      · rw [if_neg (fun hc => by have := (nI_leI (by omega) (by omega)).mp hc; omega), copyTerm_4_4_s (by omega), cA_s]
        refine ih (i + 1) _ (by omega) q (by omega) (a1.tr copyTerm_Sm) (fun x => ?_)
        have r1 := copyTerm_Rt (σ := s) (i := i) x
        by_cases z : x = i
        · rw [if_pos z] at r1
          have r2 := a2 (i + 1)
          rw [if_neg (by omega)] at r2
          rw [if_pos (by omega), z]
          rw [z] at r1
          exact r1.tr r2
        · rw [if_neg z] at r1
          have r2 := a2 x
          have : (if t ≤ x ∧ x < i + 1 then x + 1 else x) = (if t ≤ x ∧ x < i then x + 1 else x) := by
            by_cases y : t ≤ x ∧ x < i
            · rw [if_pos y, if_pos (by omega)]
            · rw [if_neg y, if_neg (by omega)]
          rw [this]
          exact r1.tr r2
      · rw [if_pos (nI_le q (by omega))]
        refine ⟨s, rfl, a1, fun x => ?_⟩
        have := a2 x
        rw [show i = b_tc B - 1 by omega] at this
        exact this
  have key2 : ∀ (s0 : Sg), s0.1 4 0 = nI (b_tc B - 1) → ∀ n i s, i ≤ b_tc B - 1 → b_tc B - 1 < n + i → Sm [9] [] s0 s → (∀ x, s.1 9 x = if x < i then dcP t (s0.1 9 x) else s0.1 9 x) → ∃ s', f_X1_removeTerm_L39 (fun (s19 : Sg) => some ((), s19)) (nI t) n s (nI i) = some ((), s') ∧ Sm [9] [] s0 s' ∧ ∀ x, x < b_tc B - 1 → s'.1 9 x = dcP t (s0.1 9 x) := by
    intro s0 h0 n
    induction n with
    | zero => intro i s h1 h2; omega
    | succ n ih =>
      intro i s h1 h2 a1 a2
      rw [f_X1_removeTerm_L39, a1.1 4 (by decide), h0]
      rcases Nat.lt_or_ge i (b_tc B - 1) with q | q
      · rw [if_neg (fun hc => by have := (nI_leI (by omega) (by omega)).mp hc; omega), rI_n (by omega) (by decide), rI_n (by omega) (by decide), wI_n (by omega) (by decide), nI_1]
        have ei : s.1 9 i = s0.1 9 i := by rw [a2 i, if_neg (by omega)]
        by_cases z : s.1 9 i ≤ nI t
        · rw [if_pos z]
          refine ih (i + 1) s (by omega) (by omega) a1 (fun x => ?_)
          rw [a2 x]
          by_cases y : x = i
          · subst y
            rw [if_neg (by omega), if_pos (by omega), ← ei]
            unfold dcP
            rw [if_pos z]
          · by_cases w : x < i
            · rw [if_pos w, if_pos (by omega)]
            · rw [if_neg w, if_neg (by omega)]
        · rw [if_neg z]
          refine ih (i + 1) _ (by omega) (by omega) (a1.i (by decide)) (fun x => ?_)
          rw [sI_1]
          by_cases y : x = i
          · subst y
            rw [if_pos ⟨rfl, rfl⟩, if_pos (by omega), ← ei]
            unfold dcP
            rw [if_neg z]
          · rw [if_neg (fun h => y h.2), a2 x]
            by_cases w : x < i
            · rw [if_pos w, if_pos (by omega)]
            · rw [if_neg w, if_neg (by omega)]
      · rw [if_pos (nI_le q (by omega))]
        refine ⟨s, rfl, a1, fun x hx => ?_⟩
        rw [a2 x, if_pos (by omega)]
  obtain ⟨s1, b0, b1, b2⟩ := key (fun (s5 : Sg) => pI s5 4 0 ((s5.1 4 0) - 1) fun s6 => (f_X1_removeTerm_L39 (fun (s19 : Sg) => some ((), s19)) (nI t) fu s6 0)) fu t σ (Nat.le_refl _) ht (by unfold fu; omega) Sm.rf (fun x => by rw [if_neg (by omega)]; exact ⟨rfl, rfl, rfl, rfl, fun _ _ => rfl⟩)
  obtain ⟨s2, c0, c1, c2⟩ := key2 (sI s1 4 0 (nI (b_tc B - 1))) (by rw [sI_1, if_pos ⟨rfl, rfl⟩]) fu 0 _ (Nat.zero_le _) (by unfold fu; omega) Sm.rf (fun x => by rw [if_neg (by omega)])
  refine ⟨s2, ?_, ?_, ((b1.up (by decide) (by decide)).i (by decide)).tr (c1.up (by decide) (by decide))⟩
  · unfold f_X1_removeTerm
    rw [b0, pI_s, b1.1 4 (by decide), hl.1, nI_s1 (by omega)]
    exact c0
  · obtain ⟨d1, d2, d3, d4⟩ := hl
    refine ⟨?_, ?_, fun x hx => ?_, fun e he => ?_⟩
    · rw [c1.1 4 (by decide), sI_1, if_pos ⟨rfl, rfl⟩]; rfl
    · rw [c1.1 4 (by decide), sI_1, if_neg (by decide), b1.1 4 (by decide)]; exact d2
    · have hx : x < b_tc B - 1 := hx
      rw [c1.1 6 (by decide), c1.1 7 (by decide), c1.1 8 (by decide), c1.2 5 (by decide), sI_ne _ (by decide), sI_ne _ (by decide), sI_ne _ (by decide), sI_2, c2 x hx, sI_ne _ (by decide)]
      obtain ⟨r1, r2, r3, r4, r5⟩ := b2 x
      rw [r1, r2, r3, r4]
      have hxy : ∃ y, y < b_tc B ∧ (if t ≤ x ∧ x < b_tc B - 1 then x + 1 else x) = y ∧ ∀ {α : Type} (f : Nat → α), shN t f x = f y := by
        by_cases q : x < t
        · exact ⟨x, by omega, by rw [if_neg (by omega)], fun f => by unfold shN; rw [if_pos q]⟩
        · exact ⟨x + 1, by omega, by rw [if_pos (by omega)], fun f => by unfold shN; rw [if_neg q]⟩
      obtain ⟨y, hy, ey, ef⟩ := hxy
      rw [ey] at r5 ⊢
      obtain ⟨f1, f2, f3, f4, f5⟩ := d3 y hy
      rw [f1, f2, f3, f4]
      show nI (b_n B y) = nI (shN t (b_n B) x) ∧ nI (b_we B y) = nI (shN t (b_we B) x) ∧ nI (b_be B y) = nI (shN t (b_be B) x) ∧ dcP t (b_pr B y) = dcP t (shN t (b_pr B) x) ∧ ∀ k, k < shN t (b_n B) x → s1.2 5 (4 * x + k) = eL (shN t (b_w B) x k)
      rw [ef, ef, ef, ef, ef]
      refine ⟨rfl, rfl, rfl, rfl, fun k hk => ?_⟩
      have := (hB.2.2.1 y hy).1
      rw [r5 k (by omega)]
      exact f5 k hk
    · rw [c1.2 10 (by decide), sI_2, b1.2 10 (by decide)]; exact d4 e he
end RT
theorem dropTerm8_L {s : Sg} {B : Bk} (hb : bookP (s.1 44) B) (hB : Bok B) {t : Nat} (ht : t < b_tc B) : ∃ s', (f_X8_dropTerm_L27 (fun (s14 : Sg) => rI s14 44 475 0 fun x15 => (wI s14 44 475 0 (x15 - 1) fun s18 => (f_X8_dropTerm_L70 (fun (s39 : Sg) => rI s39 44 475 0 fun x40 => (some (x40, s39))) (nI t) fu s18 0))) (nI t) fu s (nI (2 + 56 * t))) = some (nI (b_tc B - 1), s') ∧ bookP (s'.1 44) (rmT B t) ∧ Sm [44] [] s s' := by
  have h8 := hB.1
  have h5 := hB.2.1
  have key : ∀ (kk : Sg → Option (Int32 × Sg)) n j s2, 2 + 56 * t ≤ j → j ≤ 394 → 394 < n + j → Sm [44] [] s s2 → (∀ x, s2.1 44 x = if 2 + 56 * t ≤ x ∧ x < j then s.1 44 (x + 56) else s.1 44 x) → ∃ s3, f_X8_dropTerm_L27 kk (nI t) n s2 (nI j) = kk s3 ∧ Sm [44] [] s s3 ∧ ∀ x, s3.1 44 x = if 2 + 56 * t ≤ x ∧ x < 394 then s.1 44 (x + 56) else s.1 44 x := by
    intro kk n
    induction n with
    | zero => intro j s2 h1 h2 h3; omega
    | succ n ih =>
      intro j s2 h1 h2 h3 a1 a2
      rw [f_X8_dropTerm_L27, li 56, nI_add]
      rcases Nat.lt_or_ge (j + 56) 450 with q | q
      · rw [if_neg (fun hc => by have := (c_ge 450 (by omega) (by decide)).mp hc; omega), rI_n (by omega) (by decide), wI_n (by omega) (by decide), nI_1]
        refine ih (j + 1) _ (by omega) (by omega) (by omega) (a1.i (by decide)) (fun x => ?_)
        rw [sI_1]
        by_cases z : x = j
        · rw [if_pos ⟨rfl, z⟩, if_pos (by omega), a2 (j + 56), if_neg (by omega), z]
        · rw [if_neg (fun hc => z hc.2), a2 x]
          by_cases y : 2 + 56 * t ≤ x ∧ x < j
          · rw [if_pos y, if_pos (by omega)]
          · rw [if_neg y, if_neg (by omega)]
      · have : j = 394 := by omega
        subst this
        rw [if_pos (by decide)]
        exact ⟨s2, rfl, a1, a2⟩
  have key2 : ∀ (s0 : Sg), s0.1 44 0 = nI (b_tc B - 1) → ∀ n i s2, i ≤ b_tc B - 1 → b_tc B - 1 < n + i → Sm [44] [] s0 s2 → (∀ j, (∀ x, x < i → j ≠ 2 + 56 * x + 3) → s2.1 44 j = s0.1 44 j) → (∀ x, x < i → s2.1 44 (2 + 56 * x + 3) = dcP t (s0.1 44 (2 + 56 * x + 3))) → ∃ s', f_X8_dropTerm_L70 (fun (s39 : Sg) => rI s39 44 475 0 fun x40 => (some (x40, s39))) (nI t) n s2 (nI i) = some (nI (b_tc B - 1), s') ∧ Sm [44] [] s0 s' ∧ (∀ j, (∀ x, x < b_tc B - 1 → j ≠ 2 + 56 * x + 3) → s'.1 44 j = s0.1 44 j) ∧ (∀ x, x < b_tc B - 1 → s'.1 44 (2 + 56 * x + 3) = dcP t (s0.1 44 (2 + 56 * x + 3))) := by
    intro s0 h0 n
    induction n with
    | zero => intro i s2 h1 h2; omega
    | succ n ih =>
      intro i s2 h1 h2 a1 a2 a3
      have e0 : s2.1 44 0 = nI (b_tc B - 1) := by rw [a2 0 (fun x _ => by omega)]; exact h0
      rw [f_X8_dropTerm_L70, show (0 : Int32) = nI 0 from rfl, rI_n (by omega) (by decide), e0]
      simp only [jn_s]
      rcases Nat.lt_or_ge i (b_tc B - 1) with q | q
      · rw [if_neg (fun hc => by have := (nI_leI (by omega) (by omega)).mp hc; omega), termAt8_s, cP_s, nI_p3, rI_n (by omega) (by decide), rI_n (by omega) (by decide), wI_n (by omega) (by decide), wI_n (by omega) (by decide), nI_1]
        have ei : s2.1 44 (2 + 56 * i + 3) = s0.1 44 (2 + 56 * i + 3) := a2 _ (fun x hx => by omega)
        have go : ∀ v, v = dcP t (s0.1 44 (2 + 56 * i + 3)) → ∃ s', f_X8_dropTerm_L70 (fun (s39 : Sg) => rI s39 44 475 0 fun x40 => (some (x40, s39))) (nI t) n (sI s2 44 (2 + 56 * i + 3) v) (nI (i + 1)) = some (nI (b_tc B - 1), s') ∧ Sm [44] [] s0 s' ∧ (∀ j, (∀ x, x < b_tc B - 1 → j ≠ 2 + 56 * x + 3) → s'.1 44 j = s0.1 44 j) ∧ (∀ x, x < b_tc B - 1 → s'.1 44 (2 + 56 * x + 3) = dcP t (s0.1 44 (2 + 56 * x + 3))) := by
          intro v hv
          refine ih (i + 1) _ (by omega) (by omega) (a1.i (by decide)) (fun j hj => ?_) (fun x hx => ?_)
          · rw [sI_1, if_neg (fun z => hj i (by omega) z.2)]
            exact a2 j (fun x hx => hj x (by omega))
          · rw [sI_1]
            by_cases z : x = i
            · rw [if_pos ⟨rfl, by rw [z]⟩, hv, z]
            · rw [if_neg (by omega)]; exact a3 x (by omega)
        by_cases z : s2.1 44 (2 + 56 * i + 3) ≤ nI t
        · rw [if_pos z]
          refine go _ ?_
          rw [← ei]
          unfold dcP
          rw [if_pos z]
          exact Int32.sub_zero _
        · rw [if_neg z]
          refine go _ ?_
          rw [← ei]
          unfold dcP
          rw [if_neg z]
      · have : i = b_tc B - 1 := by omega
        subst this
        rw [if_pos (nI_le (Nat.le_refl _) (by omega)), rI_n (by omega) (by decide), e0]
        exact ⟨s2, rfl, a1, a2, a3⟩
  obtain ⟨s1, b0, b1, b2⟩ := key (fun (s14 : Sg) => rI s14 44 475 0 fun x15 => (wI s14 44 475 0 (x15 - 1) fun s18 => (f_X8_dropTerm_L70 (fun (s39 : Sg) => rI s39 44 475 0 fun x40 => (some (x40, s39))) (nI t) fu s18 0))) fu (2 + 56 * t) s (Nat.le_refl _) (by omega) (by unfold fu; omega) Sm.rf (fun x => by rw [if_neg (by omega)])
  have e0 : s1.1 44 0 = nI (b_tc B) := by rw [b2 0, if_neg (by omega)]; exact hb.1
  obtain ⟨s2, c0, c1, c2, c3⟩ := key2 (sI s1 44 0 (nI (b_tc B - 1))) (by rw [sI_1, if_pos ⟨rfl, rfl⟩]) fu 0 _ (Nat.zero_le _) (by unfold fu; omega) Sm.rf (fun _ _ => rfl) (fun x hx => absurd hx (Nat.not_lt_zero x))
  refine ⟨s2, ?_, ?_, (b1.i (by decide)).tr c1⟩
  · refine b0.trans ?_
    show (rI s1 44 475 (nI 0) fun x15 => (wI s1 44 475 (nI 0) (x15 - 1) fun s18 => (f_X8_dropTerm_L70 (fun (s39 : Sg) => rI s39 44 475 0 fun x40 => (some (x40, s39))) (nI t) fu s18 0))) = _
    rw [rI_n (by omega) (by decide), e0, wI_n (by omega) (by decide), nI_s1 (by omega)]
    exact c0
  · have f1 : ∀ j, j ≠ 0 → (∀ x, x < b_tc B - 1 → j ≠ 2 + 56 * x + 3) → s2.1 44 j = if 2 + 56 * t ≤ j ∧ j < 394 then s.1 44 (j + 56) else s.1 44 j := fun j hj hx => by
      rw [c2 j hx, sI_1, if_neg (fun z => hj z.2), b2 j]
    have f3 : ∀ x, x < b_tc B - 1 → s2.1 44 (2 + 56 * x + 3) = dcP t (if 2 + 56 * t ≤ 2 + 56 * x + 3 ∧ 2 + 56 * x + 3 < 394 then s.1 44 (2 + 56 * x + 3 + 56) else s.1 44 (2 + 56 * x + 3)) := fun x hx => by
      rw [c3 x hx, sI_1, if_neg (by omega), b2]
    obtain ⟨d1, d2, d3, d4⟩ := hb
    refine ⟨?_, ?_, fun x hx => ?_, fun e he => ?_⟩
    · rw [c2 0 (fun x _ => by omega), sI_1, if_pos ⟨rfl, rfl⟩]; rfl
    · rw [f1 1 (by omega) (fun x _ => by omega), if_neg (by omega)]; exact d2
    · have hx : x < b_tc B - 1 := hx
      have hxy : ∃ y d, y < b_tc B ∧ 56 * y = 56 * x + d ∧ (∀ j, 2 + 56 * x ≤ j → j < 2 + 56 * x + 56 → (if 2 + 56 * t ≤ j ∧ j < 394 then s.1 44 (j + 56) else s.1 44 j) = s.1 44 (j + d)) ∧ ∀ {α : Type} (f : Nat → α), shN t f x = f y := by
        by_cases q : x < t
        · exact ⟨x, 0, by omega, by omega, fun j h1 h2 => by rw [if_neg (by omega)]; rfl, fun f => by unfold shN; rw [if_pos q]⟩
        · exact ⟨x + 1, 56, by omega, by omega, fun j h1 h2 => by rw [if_pos (by omega)], fun f => by unfold shN; rw [if_neg q]⟩
      obtain ⟨y, d, hy, ey, fy, ef⟩ := hxy
      obtain ⟨g1, g2, g3, g4, g5⟩ := d3 y hy
      have hn := (hB.2.2.1 y hy).1
      show s2.1 44 (2 + 56 * x) = nI (shN t (b_n B) x) ∧ s2.1 44 (2 + 56 * x + 1) = nI (shN t (b_we B) x) ∧ s2.1 44 (2 + 56 * x + 2) = nI (shN t (b_be B) x) ∧ s2.1 44 (2 + 56 * x + 3) = dcP t (shN t (b_pr B) x) ∧ ∀ k, k < shN t (b_n B) x → wordP (s2.1 44) (2 + 56 * x + 4 + 13 * k) (shN t (b_w B) x k)
      rw [ef, ef, ef, ef, ef]
      have ad : ∀ j, 2 + 56 * x + j + d = 2 + 56 * y + j := fun j => by omega
      refine ⟨?_, ?_, ?_, ?_, fun k hk => ?_⟩
      · rw [f1 _ (by omega) (fun z _ => by omega), fy _ (by omega) (by omega), show 2 + 56 * x + d = 2 + 56 * y by omega]; exact g1
      · rw [f1 _ (by omega) (fun z _ => by omega), fy _ (by omega) (by omega), ad]; exact g2
      · rw [f1 _ (by omega) (fun z _ => by omega), fy _ (by omega) (by omega), ad]; exact g3
      · rw [f3 x hx, fy _ (by omega) (by omega), ad, g4]
      · have hw := g5 k hk
        have h12 := ((hB.2.2.1 y hy).2.2.2.2.1 k hk).2.2
        have fz : ∀ j, 4 ≤ j → j < 56 → s2.1 44 (2 + 56 * x + j) = s.1 44 (2 + 56 * y + j) := fun j h1 h2 => by
          rw [f1 _ (by omega) (fun z _ => by
            rcases Nat.lt_trichotomy z x with q | q | q
            · omega
            · omega
            · omega), fy _ (by omega) (by omega), ad]
        refine ⟨?_, fun i v hv => ?_⟩
        · rw [show 2 + 56 * x + 4 + 13 * k = 2 + 56 * x + (4 + 13 * k) by omega, fz _ (by omega) (by omega), ← hw.1, show 2 + 56 * y + (4 + 13 * k) = 2 + 56 * y + 4 + 13 * k by omega]
        · have := (List.getElem?_eq_some_iff.mp hv).1
          rw [show 2 + 56 * x + 4 + 13 * k + 1 + i = 2 + 56 * x + (4 + 13 * k + 1 + i) by omega, fz _ (by omega) (by omega), ← hw.2 i v hv, show 2 + 56 * y + (4 + 13 * k + 1 + i) = 2 + 56 * y + 4 + 13 * k + 1 + i by omega]
    · have he : e < b_ec B := he
      have h4 := (hB.2.2.2 e he).2.2
      refine (d4 e he).cg (fun j h1 h2 => ?_)
      have h2 : j < 450 + 5 * e + 1 + (b_en B e).length := h2
      rw [f1 j (by omega) (fun x hx => by omega), if_neg (by omega)]
theorem ps_dropTerm (σ : Sg) (a1 : Int32) (h : InvA σ) : ∃ (r : Int32) (σ1 σ2 : Sg), f_X7_dropTerm σ a1 = some (r, σ1) ∧ f_X8_dropTerm σ1 a1 = some (r, σ2) ∧ InvA σ2 := by
  refine step2 (f7 := fun s => f_X7_dropTerm s a1) (f8 := fun s => f_X8_dropTerm s a1) h (fun M hm => ?_)
  obtain ⟨S, B, T, im⟩ := M
  have hm0 := hm
  obtain ⟨hS, hB, hT, hI⟩ := hm
  have hB : Bok B := hB
  have h5 := hB.2.1
  have h8 := hB.1
  have n10 : ¬ (1 : Int32) = 0 := by decide
  rcases Classical.em (rg a1 (b_tc B)) with hr | hr
  · rcases Classical.em (∃ t, t < b_tc B ∧ b_pr B t = a1) with hp | hp
    · refine ⟨-1000000003, (S, B, T, im), hm0, fun hC => ⟨σ, ?_, hC, Un43.rf⟩, fun s hR => ⟨s, ?_, hR, Un42.rf⟩⟩
      · unfold f_X7_dropTerm
        rw [isTerm7_s hC.2.1 hB, cP_s, bI_t hr, if_neg n10, isPreferred7_s hC.2.1 hB, cP_s, bI_t hp, if_neg n10]
      · unfold f_X8_dropTerm
        rw [isTerm8_s hR.2.1 hB, cP_s, bI_t hr, if_neg n10, isPreferred8_s hR.2.1 hB, cP_s, bI_t hp, if_neg n10]
    · have hr0 := hr
      obtain ⟨t, ht, rfl⟩ := hr
      refine ⟨nI (b_tc B - 1), (S, rmT B t, T, im), ⟨hS, rmT_ok hB ht (fun u hu z => hp ⟨u, hu, z⟩), hT, hI⟩, fun hC => ?_, fun s hR => ?_⟩
      · obtain ⟨s7, d1, d2, d3⟩ := removeTerm7_s hC.2.1 hB ht
        obtain ⟨s', e1, e2, e3, e4, e5⟩ := hC.terms (L := [4, 6, 7, 8, 9]) (d3.up (fun x h => h) (by decide)) (by decide) d2
        refine ⟨s', ?_, e2, e3⟩
        unfold f_X7_dropTerm
        rw [isTerm7_s hC.2.1 hB, cP_s, bI_t hr0, if_neg n10, isPreferred7_s hC.2.1 hB, cP_s, bI_f hp, if_pos rfl, d1, cA_s, e1, cA_s, e5.1]
        rfl
      · obtain ⟨s', e1, e2, e3⟩ := dropTerm8_L hR.2.1 hB ht
        refine ⟨s', ?_, hR.book e3 e2, e3.u42 (by decide)⟩
        unfold f_X8_dropTerm
        rw [isTerm8_s hR.2.1 hB, cP_s, bI_t hr0, if_neg n10, isPreferred8_s hR.2.1 hB, cP_s, bI_f hp, if_pos rfl, termAt8_s, cP_s]
        exact e1
  · refine ⟨-1000000001, (S, B, T, im), hm0, fun hC => ⟨σ, ?_, hC, Un43.rf⟩, fun s hR => ⟨s, ?_, hR, Un42.rf⟩⟩
    · unfold f_X7_dropTerm
      rw [isTerm7_s hC.2.1 hB, cP_s, bI_f hr, if_pos rfl]
    · unfold f_X8_dropTerm
      rw [isTerm8_s hR.2.1 hB, cP_s, bI_f hr, if_pos rfl]
end
section
/-! the forms of a word, what it meets -/
theorem bt_1 (m : Nat) : bt 1 m = decide (m = 0) := by
  rcases Nat.lt_or_ge m 32 with h | h
  · revert m; decide +kernel
  · rw [b_big h]
    have : ¬ m = 0 := by omega
    simp [this]
theorem b_one {n i : Nat} (hn : n < 32) (hi : i < 32) : bt ((1 : Int32) <<< (nI n &&& 31)) i = decide (i = n) := by
  rw [b_shl n hn 1 hi, bt_1]
  by_cases h : i = n
  · subst h; simp
  · by_cases g : n ≤ i
    · have : ¬ i - n = 0 := by omega
      simp [h, this]
    · simp [h, g]
theorem b_set {v : Int32} {n i : Nat} (hn : n < 32) (hi : i < 32) : bt (v ||| ((1 : Int32) <<< (nI n &&& 31))) i = true ↔ bt v i = true ∨ i = n := by
  rw [b_or, b_one hn hi]; simp
/-- only the forms change -/
def Sf (s s' : Sg) : Prop := Sm [30] [31] s s' ∧ ∀ j, j ≠ 5 → s'.1 30 j = s.1 30 j
theorem Sf.rf {s : Sg} : Sf s s := ⟨Sm.rf, fun _ _ => rfl⟩
theorem Sf.tr {a b c : Sg} (h1 : Sf a b) (h2 : Sf b c) : Sf a c := ⟨h1.1.tr h2.1, fun j hj => (h2.2 j hj).trans (h1.2 j hj)⟩
theorem Sf.l {a b : Sg} {j : Nat} {v : Int64} (h : Sf a b) : Sf a (sL b 31 j v) := ⟨h.1.l (by decide), h.2⟩
theorem Sf.i {a b : Sg} {v : Int32} (h : Sf a b) : Sf a (sI b 30 5 v) := ⟨h.1.i (by decide), fun j hj => by rw [sI_1, if_neg (fun z => hj z.2)]; exact h.2 j hj⟩
theorem split_iff {w x e : List Nat} (hx : x ≠ []) : w = x ++ e ↔ (w.drop (w.length - e.length) = e ∧ e.length < w.length) ∧ x = w.take (w.length - e.length) := by
  constructor
  · rintro rfl
    have := List.length_pos_iff.mpr hx
    have e1 : (x ++ e).length - e.length = x.length := by rw [List.length_append]; omega
    rw [e1]
    refine ⟨⟨by simp, by rw [List.length_append]; omega⟩, by simp⟩
  · rintro ⟨⟨h1, h2⟩, h3⟩
    have := List.take_append_drop (w.length - e.length) w
    rw [← h3, h1] at this
    exact this.symm
section FM
variable {s : Sg} {B : Bk}
/-- the first c forms are the word and what is left of it without one of the first n endings -/
def fmP (s : Sg) (B : Bk) (w : List Nat) (c n : Nat) : Prop := s.2 31 0 = eL w ∧ 1 ≤ c ∧ ∀ x, wok 12 x → ((∃ j, j < c ∧ s.2 31 j = eL x) ↔ x = w ∨ ∃ e, e < n ∧ w = x ++ b_en B e)
theorem makeForms7_s (hl : lexC s B) (hB : Bok B) {w : List Nat} (hw : wok 12 w) : ∃ s' c, f_X4_makeForms s (eL w) = some ((), s') ∧ s'.1 30 5 = nI c ∧ c ≤ 6 ∧ fmP s' B w c (b_ec B) ∧ Sf s s' := by
  have h5 := hB.2.1
  have key : ∀ n i s2 c, i ≤ b_ec B → b_ec B < n + i → Sf s s2 → s2.1 30 5 = nI c → c ≤ i + 1 → fmP s2 B w c i → ∃ s' c', f_X4_makeForms_L20 (fun (s23 : Sg) => some ((), s23)) (eL w) (nI w.length) n s2 (nI i) = some ((), s') ∧ s'.1 30 5 = nI c' ∧ c' ≤ 6 ∧ fmP s' B w c' (b_ec B) ∧ Sf s s' := by
    intro n
    induction n with
    | zero => intro i s2 c h1 h2; omega
    | succ n ih =>
      intro i s2 c h1 h2 a1 a2 a3 a4
      have hl2 : lexC s2 B := a1.1.lex (by decide) (by decide) hl
      rw [f_X4_makeForms_L20, hl2.2.1, a2]
      rcases Nat.lt_or_ge i (b_ec B) with q | q
      · have he := hB.2.2.2 i q
        have he4 := he.2.2
        have hne : b_en B i ≠ [] := List.length_pos_iff.mp he.2.1
        rw [if_neg (fun z => by have := (nI_leI (by omega) (by omega)).mp z; omega), if_neg (fun z => by have := (c_ge 6 (by omega) (by decide)).mp z; omega), rL_n (by omega) (by decide), hl2.2.2.2 i q, sizeOf_s he.1 (by omega), cP_s, without_s hw.1 he.1 hw.2.2 (by omega) hne, cP_s, nI_1]
        obtain ⟨f1, f2, f3⟩ := a4
        by_cases z : w.drop (w.length - (b_en B i).length) = b_en B i ∧ (b_en B i).length < w.length
        · have ht : wok 12 (w.take (w.length - (b_en B i).length)) := by
            refine ⟨fun y hy => hw.1 y (List.mem_of_mem_take hy), ?_, ?_⟩
            · rw [List.length_take]; omega
            · rw [List.length_take]; have := hw.2.2; omega
          have h0 : ¬ lg_cmp (eL (w.take (w.length - (b_en B i).length))) 0 = 0 := by
            rw [lg_cmp_0, eL_0 ht.1 ht.2.2]
            intro y
            have := ht.2.1
            rw [y] at this
            simp at this
          rw [if_pos z, if_neg h0, wL_n (by omega) (by decide), pI_s]
          refine ih (i + 1) _ (c + 1) (by omega) (by omega) (a1.l).i ?_ (by omega) ?_
          · rw [sI_1, if_pos ⟨rfl, rfl⟩, sL_1, a2, nI_1]
          · refine ⟨?_, by omega, fun x hx => ?_⟩
            · rw [sI_2, sL_2, if_neg (by omega)]; exact f1
            · have hx0 : x ≠ [] := List.length_pos_iff.mp hx.2.1
              have hpt : ∀ j, (sI (sL s2 31 c (eL (w.take (w.length - (b_en B i).length)))) 30 5 ((sL s2 31 c (eL (w.take (w.length - (b_en B i).length)))).1 30 5 + 1)).2 31 j = if j = c then eL (w.take (w.length - (b_en B i).length)) else s2.2 31 j := fun j => by
                rw [sI_2, sL_2]
                by_cases y : j = c
                · rw [if_pos ⟨rfl, y⟩, if_pos y]
                · rw [if_neg (fun h => y h.2), if_neg y]
              constructor
              · rintro ⟨j, hj, ej⟩
                rw [hpt] at ej
                by_cases y : j = c
                · rw [if_pos y] at ej
                  right
                  refine ⟨i, by omega, (split_iff hx0).mpr ⟨z, ?_⟩⟩
                  exact ((eL_inj ht.1 hx.1 ht.2.2 hx.2.2).mp ej).symm
                · rw [if_neg y] at ej
                  rcases (f3 x hx).mp ⟨j, by omega, ej⟩ with g | ⟨e, g1, g2⟩
                  · exact Or.inl g
                  · exact Or.inr ⟨e, by omega, g2⟩
              · intro g
                have old : (x = w ∨ ∃ e, e < i ∧ w = x ++ b_en B e) → ∃ j, j < c + 1 ∧ (sI (sL s2 31 c (eL (w.take (w.length - (b_en B i).length)))) 30 5 ((sL s2 31 c (eL (w.take (w.length - (b_en B i).length)))).1 30 5 + 1)).2 31 j = eL x := fun g => by
                  obtain ⟨j, hj, ej⟩ := (f3 x hx).mpr g
                  exact ⟨j, by omega, by rw [hpt, if_neg (by omega)]; exact ej⟩
                rcases g with g | ⟨e, g1, g2⟩
                · exact old (Or.inl g)
                · by_cases y : e = i
                  · rw [y] at g2
                    exact ⟨c, by omega, by rw [hpt, if_pos rfl, ((split_iff hx0).mp g2).2]⟩
                  · exact old (Or.inr ⟨e, by omega, g2⟩)
        · rw [if_neg z, if_pos (by rw [lg_cmp_0])]
          refine ih (i + 1) s2 c (by omega) (by omega) a1 a2 (by omega) ⟨f1, f2, fun x hx => ?_⟩
          have hx0 : x ≠ [] := List.length_pos_iff.mp hx.2.1
          rw [f3 x hx]
          constructor
          · rintro (g | ⟨e, g1, g2⟩)
            · exact Or.inl g
            · exact Or.inr ⟨e, by omega, g2⟩
          · rintro (g | ⟨e, g1, g2⟩)
            · exact Or.inl g
            · by_cases y : e = i
              · rw [y] at g2
                exact absurd ((split_iff hx0).mp g2).1 z
              · exact Or.inr ⟨e, by omega, g2⟩
      · have : i = b_ec B := by omega
        subst this
        rw [if_pos (nI_le (Nat.le_refl _) (by omega))]
        exact ⟨s2, c, rfl, a2, by omega, a4, a1⟩
  unfold f_X4_makeForms
  rw [sizeOf_s hw.1 hw.2.2, cP_s, show (0 : Int32) = nI 0 from rfl, wL_n (by omega) (by decide), pI_s]
  refine key fu 0 _ 1 (Nat.zero_le _) (by unfold fu; omega) (Sf.rf.l).i (by rw [sI_1, if_pos ⟨rfl, rfl⟩]; rfl) (by omega) ⟨by rw [sI_2, sL_2, if_pos ⟨rfl, rfl⟩], by omega, fun x hx => ?_⟩
  constructor
  · rintro ⟨j, hj, ej⟩
    have : j = 0 := by omega
    subst this
    rw [sI_2, sL_2, if_pos ⟨rfl, rfl⟩] at ej
    exact Or.inl ((eL_inj hw.1 hx.1 hw.2.2 hx.2.2).mp ej).symm
  · rintro (g | ⟨e, g1, -⟩)
    · exact ⟨0, by omega, by rw [sI_2, sL_2, if_pos ⟨rfl, rfl⟩, g]⟩
    · omega
theorem isForm7_s {x : Int64} {c : Nat} (hc : c ≤ 6) : f_X4_isForm s x (nI c) = some (bI (∃ j, j < c ∧ s.2 31 j = x)) := by
  have key : ∀ n i, i ≤ c → c < n + i → (∀ j, j < i → ¬ s.2 31 j = x) → f_X4_isForm_L3 (some 0) s x (nI c) n (nI i) = some (bI (∃ j, j < c ∧ s.2 31 j = x)) := by
    intro n
    induction n with
    | zero => intro i h1 h2; omega
    | succ n ih =>
      intro i h1 h2 h3
      rw [f_X4_isForm_L3]
      rcases Nat.lt_or_ge i c with q | q
      · rw [if_neg (fun z => by have := (nI_leI (by omega) (by omega)).mp z; omega), if_neg (fun z => by have := (c_ge 6 (by omega) (by decide)).mp z; omega), rL_n (by omega) (by decide)]
        by_cases z : s.2 31 i = x
        · rw [if_pos ((lg_cmp_0 _ _).mpr z), bI_t ⟨i, q, z⟩]
        · rw [if_neg (fun y => z ((lg_cmp_0 _ _).mp y)), nI_1]
          refine ih (i + 1) (by omega) (by omega) (fun j hj => ?_)
          by_cases y : j = i
          · rw [y]; exact z
          · exact h3 j (by omega)
      · have : i = c := by omega
        subst this
        rw [if_pos (nI_le (Nat.le_refl _) (by omega)), bI_f (by rintro ⟨j, h4, h5⟩; exact h3 j h4 h5)]
  exact key fu 0 (Nat.zero_le _) (by unfold fu; omega) (fun j hj => absurd hj (Nat.not_lt_zero j))
end FM
end
section
/-! what word i meets: the class's bits -/
section MT
variable {s : Sg} {B : Bk} {T : Tx}
/-- the bits below (t, k) are right -/
def mbP (v : Int32) (B : Bk) (T : Tx) (i t k : Nat) : Prop := ∀ u m, u < 8 → m < 4 → (bt v (4 * u + m) = true ↔ (u < t ∨ (u = t ∧ m < k)) ∧ u < b_tc B ∧ m < b_n B u ∧ mt B T i u m)
theorem meets7_L68 (hl : lexC s B) (hB : Bok B) {i t c c' : Nat} (ht : t < b_tc B) (hw : wok 12 (t_w T i)) (hl0 : t_l T i = 0) (hf : fmP s B (t_w T i) c (b_ec B)) (hc : c ≤ 6) (hc' : c' = if b_be B t = 1 then c else 1) (kk : Int32 → Option (Int32 × Sg)) : ∀ n k v, k ≤ b_n B t → b_n B t < n + k → mbP v B T i t k → ∃ v', f_X4_meets_L68 kk s (nI t) (nI c') n v (nI k) = kk v' ∧ mbP v' B T i (t + 1) 0 := by
  have h8 := hB.1
  have hn := (hB.2.2.1 t ht).1
  have hc2 : c' ≤ 6 := by rw [hc']; split <;> omega
  intro n
  induction n with
  | zero => intro k v h1 h2; omega
  | succ n ih =>
    intro k v h1 h2 h3
    rw [f_X4_meets_L68, rI_n (by omega) (by decide), (hl.2.2.1 t ht).1]
    rcases Nat.lt_or_ge k (b_n B t) with q | q
    · have hwk := (hB.2.2.1 t ht).2.2.2.2.1 k q
      rw [if_neg (fun z => by have := (nI_leI (by omega) (by omega)).mp z; omega), wordOf7_s hl hB ht q, cP_s, isForm7_s hc2, cP_s, nI_1]
      have hiff : (∃ j, j < c' ∧ s.2 31 j = eL (b_w B t k)) ↔ mt B T i t k := by
        unfold mt
        rw [hc']
        by_cases hb : b_be B t = 1
        · rw [if_pos hb, hf.2.2 _ hwk]
          constructor
          · rintro (g | ⟨e, g1, g2⟩)
            · exact ⟨hl0, Or.inl g.symm⟩
            · exact ⟨hl0, Or.inr ⟨hb, e, g1, g2⟩⟩
          · rintro ⟨-, g | ⟨-, e, g1, g2⟩⟩
            · exact Or.inl g.symm
            · exact Or.inr ⟨e, g1, g2⟩
        · rw [if_neg hb]
          constructor
          · rintro ⟨j, hj, ej⟩
            have : j = 0 := by omega
            subst this
            rw [hf.1] at ej
            exact ⟨hl0, Or.inl ((eL_inj hw.1 hwk.1 hw.2.2 hwk.2.2).mp ej)⟩
          · rintro ⟨-, g | ⟨g, -⟩⟩
            · exact ⟨0, by omega, by rw [hf.1, g]⟩
            · exact absurd g hb
      by_cases z : mt B T i t k
      · rw [bI_t (hiff.mpr z), if_neg (by decide), ix4]
        refine ih (k + 1) _ (by omega) (by omega) (fun u m hu hm => ?_)
        rw [b_set (by omega) (by omega), h3 u m hu hm]
        constructor
        · rintro (⟨g1, g2⟩ | g)
          · exact ⟨by omega, g2⟩
          · have e1 : u = t := by omega
            have e2 : m = k := by omega
            subst e1 e2
            exact ⟨by omega, ht, q, z⟩
        · rintro ⟨g1, g2⟩
          by_cases y : u = t ∧ m = k
          · right; rw [y.1, y.2]
          · left; exact ⟨by omega, g2⟩
      · rw [bI_f (fun y => z (hiff.mp y)), if_pos rfl]
        refine ih (k + 1) _ (by omega) (by omega) (fun u m hu hm => ?_)
        rw [h3 u m hu hm]
        constructor
        · rintro ⟨g1, g2⟩; exact ⟨by omega, g2⟩
        · rintro ⟨g1, g2, g3, g4⟩
          refine ⟨?_, g2, g3, g4⟩
          by_cases y : u = t ∧ m = k
          · rw [y.1, y.2] at g4; exact absurd g4 z
          · omega
    · have : k = b_n B t := by omega
      subst this
      rw [if_pos (nI_le (Nat.le_refl _) (by omega))]
      refine ⟨v, rfl, fun u m hu hm => ?_⟩
      rw [h3 u m hu hm]
      constructor
      · rintro ⟨g1, g2⟩; exact ⟨by omega, g2⟩
      · rintro ⟨g1, g2, g3, g4⟩
        refine ⟨?_, g2, g3, g4⟩
        by_cases y : u = t
        · rw [y] at g3; omega
        · omega
theorem meets7_s (hl : lexC s B) (hB : Bok B) (h : txtC s T) (hT : Tok T) {i : Nat} (hi : i < t_c T) : ∃ v s', f_X4_meets s (nI i) = some (v, s') ∧ Sf s s' ∧ ∀ u m, u < 8 → m < 4 → (bt v (4 * u + m) = true ↔ u < b_tc B ∧ m < b_n B u ∧ mt B T i u m) := by
  have h60 := hT.1
  have h8 := hB.1
  obtain ⟨w1, w2, -⟩ := hT.2.1 i hi
  obtain ⟨x1, x2, x3⟩ := h.2.2.2.2 i hi
  unfold f_X4_meets
  rw [rI_n (by omega) (by decide), x2]
  by_cases hl0 : t_l T i = 0
  · rw [if_pos (by rw [hl0]; rfl), rL_n (by omega) (by decide), x1]
    obtain ⟨s', c, e1, e2, e3, e4, e5⟩ := makeForms7_s hl hB w1
    rw [e1, cA_s]
    have hl' : lexC s' B := e5.1.lex (by decide) (by decide) hl
    have key : ∀ n t v, t ≤ b_tc B → b_tc B < n + t → mbP v B T i t 0 → ∃ v', f_X4_meets_L31 (fun (v27 : Int32) => some (v27, s')) s' n v (nI t) = some (v', s') ∧ mbP v' B T i (b_tc B) 0 := by
      intro n
      induction n with
      | zero => intro t v h1 h2; omega
      | succ n ih =>
        intro t v h1 h2 h3
        rw [f_X4_meets_L31, hl'.1]
        rcases Nat.lt_or_ge t (b_tc B) with q | q
        · have hbe := (hB.2.2.1 t q).2.2.1
          rw [if_neg (fun z => by have := (nI_leI (by omega) (by omega)).mp z; omega), rI_n (by omega) (by decide), (hl'.2.2.1 t q).2.2.1]
          simp only [jn_s]
          have go : ∀ c', c' = (if b_be B t = 1 then c else 1) → ∃ v', f_X4_meets_L68 (fun (v24 : Int32) => f_X4_meets_L31 (fun (v27 : Int32) => some (v27, s')) s' n (v24) ((nI t + 1))) s' (nI t) (nI c') fu v 0 = some (v', s') ∧ mbP v' B T i (b_tc B) 0 := by
            intro c' hc'
            obtain ⟨v1, g1, g2⟩ := meets7_L68 hl' hB q w1 hl0 e4 e3 hc' (fun (v24 : Int32) => f_X4_meets_L31 (fun (v27 : Int32) => some (v27, s')) s' n (v24) ((nI t + 1))) fu 0 v (Nat.zero_le _) (by have := (hB.2.2.1 t q).1; unfold fu; omega) h3
            have g1 : f_X4_meets_L68 (fun (v24 : Int32) => f_X4_meets_L31 (fun (v27 : Int32) => some (v27, s')) s' n (v24) ((nI t + 1))) s' (nI t) (nI c') fu v 0 = _ := g1
            rw [g1, nI_1]
            exact ih (t + 1) v1 (by omega) (by omega) g2
          by_cases hb : b_be B t = 1
          · rw [if_pos (by rw [hb]; rfl), e2]
            exact go c (by rw [if_pos hb])
          · rw [if_neg (fun z => hb ((c_eq 1 (by omega) (by decide)).mp z))]
            exact go 1 (by rw [if_neg hb])
        · have : t = b_tc B := by omega
          subst this
          rw [if_pos (nI_le (Nat.le_refl _) (by omega))]
          exact ⟨v, rfl, h3⟩
    obtain ⟨v, g1, g2⟩ := key fu 0 0 (Nat.zero_le _) (by unfold fu; omega) (fun u m hu hm => by rw [b_0]; constructor; (intro h; cases h); (rintro ⟨g, -⟩; omega))
    refine ⟨v, s', g1, e5, fun u m hu hm => ?_⟩
    rw [g2 u m hu hm]
    exact ⟨fun g => g.2, fun g => ⟨Or.inl g.1, g⟩⟩
  · rw [if_neg (fun z => hl0 ((c_eq 0 (by omega) (by decide)).mp z))]
    refine ⟨0, s, rfl, Sf.rf, fun u m hu hm => ?_⟩
    rw [b_0]
    constructor
    · intro h; cases h
    · rintro ⟨-, -, g⟩; exact absurd g.1 hl0
end MT
end
section
/-! a word is looked at -/
theorem bt_test {x : Int32} {l : Nat} (hl : l < 32) : ((x.toUInt32 >>> ((nI l).toUInt32 &&& Int32.toUInt32 31)).toInt32 &&& 1) = 0 ↔ bt x l = false := by
  constructor
  · intro h
    have h2 := congrArg (fun y => bt y 0) h
    have h2 : bt ((x.toUInt32 >>> ((nI l).toUInt32 &&& Int32.toUInt32 31)).toInt32 &&& 1) 0 = bt 0 0 := h2
    rw [b_and, b_ushr l hl, bt_1, b_0, Nat.add_zero] at h2
    simpa using h2
  · intro h
    apply b_ext
    intro i hi
    rw [b_and, b_ushr l hl, bt_1, b_0]
    by_cases z : i = 0
    · subst z; rw [Nat.add_zero, h]; rfl
    · simp [z]
theorem nI_sub_p1 (a b : Nat) : nI a - nI b + 1 = nI (a + 1) - nI b := by
  rw [← nI_1, Int32.sub_eq_add_neg, Int32.sub_eq_add_neg, Int32.add_assoc, Int32.add_comm (-nI b) 1, ← Int32.add_assoc]
theorem bt_hex : ∀ u, u < 8 → ∀ m, m < 4 → bt 286331153 (4 * u + m) = decide (m = 0) := by decide +kernel
def Sk (s s' : Sg) : Prop := Sm [30, 32, 33] [31] s s' ∧ ∀ j, j ≠ 5 → s'.1 30 j = s.1 30 j
theorem Sk.rf {s : Sg} : Sk s s := ⟨Sm.rf, fun _ _ => rfl⟩
theorem Sk.tr {a b c : Sg} (h1 : Sk a b) (h2 : Sk b c) : Sk a c := ⟨h1.1.tr h2.1, fun j hj => (h2.2 j hj).trans (h1.2 j hj)⟩
theorem Sk.f {a b : Sg} (h : Sf a b) : Sk a b := ⟨h.1.up (by decide) (by decide), h.2⟩
theorem Sk.b {a b : Sg} {j : Nat} {v : Int32} (h : Sk a b) : Sk a (sI b 32 j v) := ⟨h.1.i (by decide), fun i hi => by rw [sI_ne b (by decide)]; exact h.2 i hi⟩
theorem Sk.s {a b : Sg} {j : Nat} {v : Int32} (h : Sk a b) : Sk a (sI b 33 j v) := ⟨h.1.i (by decide), fun i hi => by rw [sI_ne b (by decide)]; exact h.2 i hi⟩
section LK
variable {s : Sg} {B : Bk} {T : Tx}
theorem beginsSentence7_s (h : txtC s T) (hT : Tok T) {i : Nat} (hi : i < t_c T) : f_X6_beginsSentence s (nI i) = some (bI (i = 0 ∨ ¬ t_s T (i - 1) = t_s T i)) := by
  have h60 := hT.1
  unfold f_X6_beginsSentence
  by_cases z : i = 0
  · rw [if_pos (by rw [z]; rfl), bI_t (Or.inl z)]
  · rw [if_neg (fun y => z ((c_eq 0 (by omega) (by decide)).mp y)), nI_s1 (by omega), rI_n (by omega) (by decide), rI_n (by omega) (by decide), (h.2.2.2.2 i hi).2.2, (h.2.2.2.2 (i - 1) (by omega)).2.2]
    have h1 := (hT.2.1 i hi).2.2
    have h2 := (hT.2.1 (i - 1) (by omega)).2.2
    by_cases y : t_s T (i - 1) = t_s T i
    · rw [if_pos (by rw [y]), bI_f (by rintro (g | g); exact z g; exact g y)]
    · rw [if_neg (fun g => y ((nI_eq (by omega) (by omega)).mp g)), bI_t (Or.inr y)]
theorem met_succ {t i k : Nat} : met B T t i (k + 1) ↔ met B T t i k ∧ t_s T (i + k) = t_s T i ∧ mt B T (i + k) t k := by
  constructor
  · intro h
    exact ⟨fun m hm => h m (by omega), h k (by omega)⟩
  · rintro ⟨h1, h2⟩ m hm
    by_cases z : m = k
    · rw [z]; exact h2
    · exact h1 m (by omega)
theorem hasBegun7_s {i t n : Nat} (hi : i < 60) (ht : t < 8) (hn : 1 ≤ n ∧ n ≤ 4) : f_X4_hasBegun s (nI i) (nI t) (nI n) = some (bI (bt (s.1 32 i) (4 * t + (n - 1)) = true)) := by
  unfold f_X4_hasBegun
  rw [rI_n hi (by decide), ix4, nI_s1 (by omega), show 4 * t + n - 1 = 4 * t + (n - 1) by omega]
  by_cases z : bt (s.1 32 i) (4 * t + (n - 1)) = true
  · rw [if_neg (fun y => by rw [bt_test (by omega)] at y; rw [y] at z; cases z), bI_t z]
  · rw [if_pos ((bt_test (by omega)).mpr (ts_nt z)), bI_f z]
/-- the starts while the terms are gone through -/
def stP (s : Sg) (B : Bk) (T : Tx) (i t : Nat) : Prop := ∀ x, x ≤ i → ∀ j, j < 32 → (bt (s.1 33 x) j = true ↔ j < b_tc B ∧ met B T j x (b_n B j) ∧ (x + b_n B j ≤ i ∨ (j < t ∧ x + b_n B j = i + 1)))
theorem look7_L51 (hB : Bok B) {i : Nat} (hi : i < 60) : ∀ n t s, t ≤ b_tc B → b_tc B < n + t → lexC s B → (∀ u k, u < 8 → k < 4 → (bt (s.1 32 i) (4 * u + k) = true ↔ u < b_tc B ∧ k < b_n B u ∧ k ≤ i ∧ met B T u (i - k) (k + 1))) → stP s B T i t → ∃ s', f_X4_look_L51 (fun (s28 : Sg) => some ((), s28)) (nI i) n s (nI t) = some ((), s') ∧ stP s' B T i (b_tc B) ∧ Sk s s' ∧ s'.1 32 = s.1 32 := by
  have h8 := hB.1
  intro n
  induction n with
  | zero => intro t s h1 h2; omega
  | succ n ih =>
    intro t s h1 h2 hl hb hs
    rw [f_X4_look_L51, hl.1]
    rcases Nat.lt_or_ge t (b_tc B) with q | q
    · have hn := (hB.2.2.1 t q).1
      rw [if_neg (fun z => by have := (nI_leI (by omega) (by omega)).mp z; omega), rI_n (by omega) (by decide), (hl.2.2.1 t q).1, nI_sub_p1, nI_1]
      have skip : (¬ ∃ x, x + b_n B t = i + 1 ∧ met B T t x (b_n B t)) → ∃ s', f_X4_look_L51 (fun (s28 : Sg) => some ((), s28)) (nI i) n s (nI (t + 1)) = some ((), s') ∧ stP s' B T i (b_tc B) ∧ Sk s s' ∧ s'.1 32 = s.1 32 := by
        intro hno
        refine ih (t + 1) s (by omega) (by omega) hl hb (fun x hx j hj => ?_)
        rw [hs x hx j hj]
        constructor
        · rintro ⟨g1, g2, g3 | g3⟩
          · exact ⟨g1, g2, Or.inl g3⟩
          · exact ⟨g1, g2, Or.inr ⟨by omega, g3.2⟩⟩
        · rintro ⟨g1, g2, g3 | g3⟩
          · exact ⟨g1, g2, Or.inl g3⟩
          · refine ⟨g1, g2, Or.inr ⟨?_, g3.2⟩⟩
            by_cases z : j = t
            · rw [z] at g2 g3
              exact absurd ⟨x, g3.2, g2⟩ hno
            · omega
      by_cases hlt : i + 1 < b_n B t
      · rw [if_pos (by
          rw [Int32.lt_iff_toInt_lt, pk_sub_toInt (by omega) (by omega)]
          have : (0 : Int32).toInt = 0 := by decide
          omega)]
        exact skip (by rintro ⟨x, g, -⟩; omega)
      · rw [pk_sub (by omega), if_neg (nI_pos (by omega)), hasBegun7_s hi (by omega) hn, cP_s]
        have hiff := hb t (b_n B t - 1) (by omega) (by omega)
        rw [show i - (b_n B t - 1) = i + 1 - b_n B t by omega, show b_n B t - 1 + 1 = b_n B t by omega] at hiff
        by_cases z : bt (s.1 32 i) (4 * t + (b_n B t - 1)) = true
        · have hm := (hiff.mp z).2.2.2
          rw [bI_t z, if_neg (by decide), rI_n (by omega) (by decide), wI_n (by omega) (by decide)]
          have hst : stP (sI s 33 (i + 1 - b_n B t) (s.1 33 (i + 1 - b_n B t) ||| ((1 : Int32) <<< (nI t &&& 31)))) B T i (t + 1) := by
            intro x hx j hj
            rw [sI_1]
            by_cases y : x = i + 1 - b_n B t
            · rw [if_pos ⟨rfl, y⟩, b_set (by omega) hj, ← y, hs x hx j hj]
              constructor
              · rintro (⟨g1, g2, g3 | g3⟩ | g)
                · exact ⟨g1, g2, Or.inl g3⟩
                · exact ⟨g1, g2, Or.inr ⟨by omega, g3.2⟩⟩
                · rw [g]
                  exact ⟨q, by rw [y]; exact hm, Or.inr ⟨by omega, by omega⟩⟩
              · rintro ⟨g1, g2, g3 | g3⟩
                · exact Or.inl ⟨g1, g2, Or.inl g3⟩
                · by_cases w : j = t
                  · exact Or.inr w
                  · exact Or.inl ⟨g1, g2, Or.inr ⟨by omega, g3.2⟩⟩
            · rw [if_neg (fun g => y g.2), hs x hx j hj]
              constructor
              · rintro ⟨g1, g2, g3 | g3⟩
                · exact ⟨g1, g2, Or.inl g3⟩
                · exact ⟨g1, g2, Or.inr ⟨by omega, g3.2⟩⟩
              · rintro ⟨g1, g2, g3 | g3⟩
                · exact ⟨g1, g2, Or.inl g3⟩
                · refine ⟨g1, g2, Or.inr ⟨?_, g3.2⟩⟩
                  by_cases w : j = t
                  · rw [w] at g3; omega
                  · omega
          obtain ⟨s', d1, d2, d3, d4⟩ := ih (t + 1) (sI s 33 (i + 1 - b_n B t) (s.1 33 (i + 1 - b_n B t) ||| ((1 : Int32) <<< (nI t &&& 31)))) (by omega) (by omega) ((Sm.rf (L := [33]) (K := [])).i (by decide) |>.lex (by decide) (by decide) hl) (by rw [sI_ne _ (by decide)]; exact hb) hst
          exact ⟨s', d1, d2, (Sk.rf.s).tr d3, by rw [d4, sI_ne _ (by decide)]⟩
        · rw [bI_f z, if_pos rfl]
          exact skip (by
            rintro ⟨x, g1, g2⟩
            rw [show x = i + 1 - b_n B t by omega] at g2
            exact z (hiff.mpr ⟨q, by omega, by omega, g2⟩))
    · have : t = b_tc B := by omega
      subst this
      rw [if_pos (nI_le (Nat.le_refl _) (by omega))]
      exact ⟨s, rfl, hs, Sk.rf, rfl⟩
theorem look7_s (hl : lexC s B) (hB : Bok B) (h : txtC s T) (hT : Tok T) {i : Nat} (hi : i < t_c T) (hk : lookP (s.1 32) (s.1 33) B T i) : ∃ s', f_X4_look s (nI i) = some ((), s') ∧ lookP (s'.1 32) (s'.1 33) B T (i + 1) ∧ Sk s s' := by
  have h60 := hT.1
  have h8 := hB.1
  unfold f_X4_look
  rw [beginsSentence7_s h hT hi, cP_s]
  simp only [jn_s]
  obtain ⟨m, s1, e1, e2, e3⟩ := meets7_s hl hB h hT hi
  have e32 : s1.1 32 = s.1 32 := e2.1.1 32 (by decide)
  have e33 : s1.1 33 = s.1 33 := e2.1.1 33 (by decide)
  have go : ∀ v4, (∀ u k, u < 8 → k < 4 → 1 ≤ k → (bt v4 (4 * u + (k - 1)) = true ↔ (i ≠ 0 ∧ t_s T (i - 1) = t_s T i) ∧ u < b_tc B ∧ k - 1 < b_n B u ∧ k ≤ i ∧ met B T u (i - k) k)) → ∃ s', (cA (f_X4_meets s (nI i)) fun x5 s7 => (wI s7 32 60 (nI i) (((v4 <<< ((1 : Int32) &&& 31)) ||| (286331153 : Int32)) &&& x5) fun s8 => (wI s8 33 60 (nI i) 0 fun s11 => (f_X4_look_L51 (fun (s28 : Sg) => some ((), s28)) (nI i) fu s11 0)))) = some ((), s') ∧ lookP (s'.1 32) (s'.1 33) B T (i + 1) ∧ Sk s s' := by
    intro v4 hv
    rw [e1, cA_s, wI_n (by omega) (by decide), wI_n (by omega) (by decide)]
    have hbits : ∀ u k, u < 8 → k < 4 → (bt (((v4 <<< ((1 : Int32) &&& 31)) ||| (286331153 : Int32)) &&& m) (4 * u + k) = true ↔ u < b_tc B ∧ k < b_n B u ∧ k ≤ i ∧ met B T u (i - k) (k + 1)) := by
      intro u k hu hk4
      rw [b_and, b_or, show (1 : Int32) = nI 1 from rfl, b_shl 1 (by decide) v4 (by omega), bt_hex u hu k hk4, Bool.and_eq_true, e3 u k hu hk4]
      by_cases z : k = 0
      · subst z
        simp only [decide_true, Bool.or_true, true_and, Nat.sub_zero]
        constructor
        · rintro ⟨g1, g2, g3⟩
          refine ⟨g1, g2, Nat.zero_le _, fun m hm => ?_⟩
          have : m = 0 := by omega
          subst this
          exact ⟨rfl, g3⟩
        · rintro ⟨g1, g2, -, g3⟩
          exact ⟨g1, g2, (g3 0 (by omega)).2⟩
      · have e4 : 4 * u + k - 1 = 4 * u + (k - 1) := by omega
        have d1 : decide (1 ≤ 4 * u + k) = true := by simp; omega
        have d2 : decide (k = 0) = false := by simp [z]
        rw [d1, d2, Bool.true_and, Bool.or_false, e4, hv u k hu hk4 (by omega)]
        constructor
        · rintro ⟨⟨⟨g1, g2⟩, g3, g4, g5, g6⟩, g7, g8, g9⟩
          refine ⟨g3, g8, g5, met_succ.mpr ⟨g6, ?_, ?_⟩⟩
          · have := (g6 (k - 1) (by omega)).1
            rw [show i - k + (k - 1) = i - 1 by omega, g2] at this
            rw [show i - k + k = i by omega]
            exact this
          · rw [show i - k + k = i by omega]; exact g9
        · rintro ⟨g1, g2, g3, g4⟩
          obtain ⟨g5, g6, g7⟩ := met_succ.mp g4
          have g8 := (g5 (k - 1) (by omega)).1
          rw [show i - k + k = i by omega] at g6 g7
          rw [show i - k + (k - 1) = i - 1 by omega] at g8
          exact ⟨⟨⟨by omega, by rw [g8, g6]⟩, g1, by omega, g3, g5⟩, g1, g2, g7⟩
    have u0 : Sk s (sI (sI s1 32 i (((v4 <<< ((1 : Int32) &&& 31)) ||| (286331153 : Int32)) &&& m)) 33 i 0) := (((Sk.f e2)).b).s
    obtain ⟨s', d1, d2, d3, d4⟩ := look7_L51 (T := T) hB (i := i) (by omega) fu 0 (sI (sI s1 32 i (((v4 <<< ((1 : Int32) &&& 31)) ||| (286331153 : Int32)) &&& m)) 33 i 0) (Nat.zero_le _) (by unfold fu; omega) (u0.1.lex (by decide) (by decide) hl) (fun u k hu hk4 => by rw [sI_ne _ (by decide), sI_1, if_pos ⟨rfl, rfl⟩]; exact hbits u k hu hk4) (fun x hx j hj => by
      rw [sI_1]
      by_cases y : x = i
      · rw [if_pos ⟨rfl, y⟩, b_0]
        constructor
        · intro g; cases g
        · rintro ⟨g1, g2, g3 | g3⟩
          · have := (hB.2.2.1 j g1).1; omega
          · omega
      · rw [if_neg (fun g => y g.2), sI_ne _ (by decide), e33, hk.2 x (by omega) j hj]
        constructor
        · rintro ⟨g1, g2, g3⟩; exact ⟨g1, g3, Or.inl g2⟩
        · rintro ⟨g1, g2, g3 | g3⟩
          · exact ⟨g1, g3, g2⟩
          · omega)
    refine ⟨s', d1, ⟨fun x hx u k hu hk4 => ?_, fun x hx j hj => ?_⟩, u0.tr d3⟩
    · rw [d4, sI_ne _ (by decide), sI_1]
      by_cases y : x = i
      · rw [if_pos ⟨rfl, y⟩, y]; exact hbits u k hu hk4
      · rw [if_neg (fun g => y g.2), e32]; exact hk.1 x (by omega) u k hu hk4
    · rw [d2 x (by omega) j hj]
      constructor
      · rintro ⟨g1, g2, g3 | g3⟩
        · exact ⟨g1, by omega, g2⟩
        · exact ⟨g1, by omega, g2⟩
      · rintro ⟨g1, g2, g3⟩
        exact ⟨g1, g3, by omega⟩
  rcases Classical.em (i = 0 ∨ ¬ t_s T (i - 1) = t_s T i) with z | z
  · rw [bI_t z, if_neg (by decide)]
    refine go 0 (fun u k hu hk4 h1 => ?_)
    rw [b_0]
    constructor
    · intro g; cases g
    · rintro ⟨⟨g1, g2⟩, -⟩
      rcases z with z | z
      · exact absurd z g1
      · exact absurd g2 z
  · have z1 : i ≠ 0 := fun g => z (Or.inl g)
    have z2 : t_s T (i - 1) = t_s T i := Classical.byContradiction (fun g => z (Or.inr g))
    rw [bI_f z, if_pos rfl, nI_s1 (by omega), rI_n (by omega) (by decide)]
    refine go _ (fun u k hu hk4 h1 => ?_)
    rw [hk.1 (i - 1) (by omega) u (k - 1) hu (by omega), show i - 1 - (k - 1) = i - k by omega, show k - 1 + 1 = k by omega]
    constructor
    · rintro ⟨g1, g2, g3, g4⟩; exact ⟨⟨z1, z2⟩, g1, g2, by omega, g4⟩
    · rintro ⟨-, g1, g2, g3, g4⟩; exact ⟨g1, g2, by omega, g4⟩
end LK
end
section
/-! weighing: the best at each word, from the last back -/
theorem n1_add (a : Nat) : 1 + nI a = nI (1 + a) := nI_add 1 a
theorem add_m1 (x : Int32) : x + (-1) = x - 1 := (Int32.sub_eq_add_neg x 1).symm
section WG
variable {B : Bk} {T : Tx}
theorem we_le (hB : Bok B) {t : Nat} (ht : t < b_tc B) : b_we B t * b_n B t ≤ 36 := by
  have h := hB.2.2.1 t ht
  have := Nat.mul_le_mul h.2.1.2 h.1.2
  omega
theorem isFound7_s {s : Sg} (hk : lookP (s.1 32) (s.1 33) B T (t_c T)) (hT : Tok T) {i t : Nat} (hi : i < t_c T) (ht : t < 32) : f_X4_isFound s (nI i) (nI t) = some (bI (t < b_tc B ∧ fnd B T t i)) := by
  have h60 := hT.1
  unfold f_X4_isFound
  rw [rI_n (by omega) (by decide)]
  have hiff : bt (s.1 33 i) t = true ↔ t < b_tc B ∧ fnd B T t i := hk.2 i hi t ht
  by_cases z : bt (s.1 33 i) t = true
  · rw [if_neg (fun y => by rw [bt_test ht] at y; rw [y] at z; cases z), bI_t (hiff.mp z)]
  · rw [if_pos ((bt_test ht).mpr (ts_nt z)), bI_f (fun y => z (hiff.mpr y))]
theorem isFound7_t {s : Sg} (hk : lookP (s.1 32) (s.1 33) B T (t_c T)) (hT : Tok T) (hB : Bok B) {i t : Nat} (hi : i < t_c T) (ht : t < b_tc B) : f_X4_isFound s (nI i) (nI t) = some (bI (fB B T t i = true)) := by
  have h8 := hB.1
  rw [isFound7_s hk hT hi (by omega)]
  exact congrArg some (bI_cg ⟨fun h => fB_iff.mpr h.2, fun h => ⟨ht, fB_iff.mp h⟩⟩)
theorem isBetter7_s {s : Sg} (hl : lexC s B) (hB : Bok B) {i t wo fe p1 p2 : Nat} {p3 : Int32} (hi : i < 60) (ht : t < b_tc B) (h1 : s.1 34 i = nI p1) (h2 : s.1 35 i = nI p2) (h3 : s.1 36 i = p3) (hp : p3 = -1 ∨ ∃ u, u < b_tc B ∧ p3 = nI u) (b1 : p1 < 2 ^ 31) (b2 : p2 < 2 ^ 31) (b3 : wo < 2 ^ 31) (b4 : fe < 2 ^ 31) : f_X4_isBetter s (nI i) (nI t) (nI wo) (nI fe) = some (bI (bet B (p1, p2, p3) wo fe t)) := by
  have h8 := hB.1
  unfold f_X4_isBetter bet
  rw [rI_n (by omega) (by decide), h1]
  by_cases z : wo = p1
  · rw [if_pos (by rw [z]), rI_n (by omega) (by decide), h2]
    by_cases y : fe = p2
    · rw [if_pos (by rw [y]), rI_n hi (by decide), h3]
      rcases hp with rfl | ⟨u, hu, rfl⟩
      · rw [if_pos rfl]
        exact congrArg some (bI_t (Or.inr ⟨z, Or.inr ⟨y, Or.inl rfl⟩⟩)).symm
      · have hnt := (hB.2.2.1 t ht).1
        have hnu := (hB.2.2.1 u hu).1
        rw [if_neg (nI_m1 (by omega)), rI_n (by omega) (by decide), rI_n hi (by decide), h3, rI_n (by omega) (by decide), (hl.2.2.1 t ht).1, (hl.2.2.1 u hu).1]
        by_cases w : b_n B t ≤ b_n B u
        · rw [if_pos (nI_le w (by omega))]
          refine congrArg some (bI_f ?_).symm
          rintro (g | ⟨-, g | ⟨-, g | g⟩⟩)
          · have g : p1 < wo := g
            omega
          · have g : fe < p2 := g
            omega
          · exact nI_m1 (by omega) g
          · have g : b_n B (nI u).toNatClampNeg < b_n B t := g
            rw [nI_clamp (by omega)] at g
            omega
        · rw [if_neg (fun g => w ((nI_leI (by omega) (by omega)).mp g))]
          refine congrArg some (bI_t (Or.inr ⟨z, Or.inr ⟨y, Or.inr ?_⟩⟩)).symm
          show b_n B (nI u).toNatClampNeg < b_n B t
          rw [nI_clamp (by omega)]
          omega
    · rw [if_neg (fun g => y ((nI_eq b4 b2).mp g)), rI_n (by omega) (by decide), h2]
      by_cases w : p2 ≤ fe
      · rw [if_pos (nI_le w b4)]
        refine congrArg some (bI_f ?_).symm
        rintro (g | ⟨-, g | ⟨g, -⟩⟩)
        · have g : p1 < wo := g
          omega
        · have g : fe < p2 := g
          omega
        · exact y g
      · rw [if_neg (fun g => w ((nI_leI b2 b4).mp g))]
        refine congrArg some (bI_t (Or.inr ⟨z, Or.inl ?_⟩)).symm
        show fe < p2
        omega
  · rw [if_neg (fun g => z ((nI_eq b3 b1).mp g)), rI_n (by omega) (by decide), h1]
    by_cases w : wo ≤ p1
    · rw [if_pos (nI_le w b1)]
      refine congrArg some (bI_f ?_).symm
      rintro (g | ⟨g, -⟩)
      · have g : p1 < wo := g
        omega
      · exact z g
    · rw [if_neg (fun g => w ((nI_leI b3 b1).mp g))]
      refine congrArg some (bI_t (Or.inl ?_)).symm
      show p1 < wo
      omega
theorem stp_ok (hB : Bok B) {W F : Nat → Nat} {i M N : Nat} (hW : ∀ j, W j ≤ M) (hF : ∀ j, F j ≤ N) : ∀ t, t ≤ b_tc B → (stp B T W F i t).1 ≤ 36 + M ∧ (stp B T W F i t).2.1 ≤ 1 + N ∧ ((stp B T W F i t).2.2 = -1 ∨ ∃ u, u < t ∧ fnd B T u i ∧ (stp B T W F i t).2.2 = nI u) := by
  intro t
  induction t with
  | zero =>
    intro _
    have h1 := hW (i + 1)
    have h2 := hF (i + 1)
    refine ⟨?_, ?_, Or.inl rfl⟩
    · show W (i + 1) ≤ 36 + M
      omega
    · show F (i + 1) ≤ 1 + N
      omega
  | succ t ih =>
    intro ht
    obtain ⟨h1, h2, h3⟩ := ih (by omega)
    rw [stp]
    by_cases z : fB B T t i = true ∧ bet B (stp B T W F i t) (b_we B t * b_n B t + W (i + b_n B t)) (1 + F (i + b_n B t)) t
    · rw [if_pos z]
      have h4 := we_le hB (show t < b_tc B by omega)
      have h5 := hW (i + b_n B t)
      have h6 := hF (i + b_n B t)
      refine ⟨?_, ?_, Or.inr ⟨t, by omega, fB_iff.mp z.1, rfl⟩⟩
      · show b_we B t * b_n B t + W (i + b_n B t) ≤ 36 + M
        omega
      · show 1 + F (i + b_n B t) ≤ 1 + N
        omega
    · rw [if_neg z]
      refine ⟨h1, h2, ?_⟩
      rcases h3 with h3 | ⟨u, g1, g2⟩
      · exact Or.inl h3
      · exact Or.inr ⟨u, by omega, g2⟩
theorem dp_ok (hB : Bok B) : ∀ d j, (dp B T d).1 j ≤ 36 * d ∧ (dp B T d).2.1 j ≤ d ∧ ((dp B T d).2.2 j = -1 ∨ ∃ u, u < b_tc B ∧ fnd B T u j ∧ (dp B T d).2.2 j = nI u) := by
  intro d
  induction d with
  | zero => intro j; exact ⟨Nat.zero_le _, Nat.zero_le _, Or.inl rfl⟩
  | succ d ih =>
    intro j
    obtain ⟨h1, h2, h3⟩ := ih j
    have hs := stp_ok (T := T) hB (i := t_c T - (d + 1)) (fun j => (ih j).1) (fun j => (ih j).2.1) (b_tc B) (Nat.le_refl _)
    rw [dp]
    by_cases z : j = t_c T - (d + 1)
    · obtain ⟨s1, s2, s3⟩ := hs
      refine ⟨?_, ?_, ?_⟩
      · show (if j = t_c T - (d + 1) then _ else _) ≤ _
        rw [if_pos z]; omega
      · show (if j = t_c T - (d + 1) then _ else _) ≤ _
        rw [if_pos z]; omega
      · show (if j = t_c T - (d + 1) then _ else _) = _ ∨ ∃ u, u < b_tc B ∧ fnd B T u j ∧ (if j = t_c T - (d + 1) then _ else _) = _
        rw [if_pos z, z]
        exact s3
    · refine ⟨?_, ?_, ?_⟩
      · show (if j = t_c T - (d + 1) then _ else _) ≤ _
        rw [if_neg z]; omega
      · show (if j = t_c T - (d + 1) then _ else _) ≤ _
        rw [if_neg z]; omega
      · show (if j = t_c T - (d + 1) then _ else _) = _ ∨ ∃ u, u < b_tc B ∧ fnd B T u j ∧ (if j = t_c T - (d + 1) then _ else _) = _
        rw [if_neg z]
        exact h3
theorem tk_ok (hB : Bok B) (j : Nat) : tk B T j = -1 ∨ ∃ u, u < b_tc B ∧ fnd B T u j ∧ tk B T j = nI u := (dp_ok hB (t_c T) j).2.2
theorem wth_le (hB : Bok B) (hT : Tok T) (j : Nat) : wth B T j ≤ 2160 := by
  have h := (dp_ok (T := T) hB (t_c T) j).1
  have h60 := hT.1
  show (dp B T (t_c T)).1 j ≤ 2160
  omega
/-- only row i of the three -/
def Sx (i : Nat) (s s' : Sg) : Prop := Sm [34, 35, 36] [] s s' ∧ ∀ j, j ≠ i → s'.1 34 j = s.1 34 j ∧ s'.1 35 j = s.1 35 j ∧ s'.1 36 j = s.1 36 j
theorem Sx.rf {i : Nat} {s : Sg} : Sx i s s := ⟨Sm.rf, fun _ _ => ⟨rfl, rfl, rfl⟩⟩
theorem Sx.tr {i : Nat} {a b c : Sg} (h1 : Sx i a b) (h2 : Sx i b c) : Sx i a c := ⟨h1.1.tr h2.1, fun j hj => ⟨((h2.2 j hj).1).trans (h1.2 j hj).1, ((h2.2 j hj).2.1).trans (h1.2 j hj).2.1, ((h2.2 j hj).2.2).trans (h1.2 j hj).2.2⟩⟩
theorem Sx.i {i k : Nat} {a b : Sg} {v : Int32} (h : Sx i a b) (hk : k = 34 ∨ k = 35 ∨ k = 36) : Sx i a (sI b k i v) := ⟨h.1.i (by rcases hk with rfl | rfl | rfl <;> decide), fun j hj => by
  rw [sI_1, sI_1, sI_1, if_neg (fun z => hj z.2), if_neg (fun z => hj z.2), if_neg (fun z => hj z.2)]
  exact h.2 j hj⟩
theorem weighFrom7_L (hB : Bok B) (hT : Tok T) {i : Nat} (hi : i < t_c T) {W F : Nat → Nat} (hW : ∀ j, W j ≤ 2160) (hF : ∀ j, F j ≤ 60) : ∀ n t s, t ≤ b_tc B → b_tc B < n + t → lexC s B → s.1 26 0 = nI (t_c T) → lookP (s.1 32) (s.1 33) B T (t_c T) → (∀ j, i < j → j ≤ t_c T → s.1 34 j = nI (W j) ∧ s.1 35 j = nI (F j)) → s.1 34 i = nI (stp B T W F i t).1 → s.1 35 i = nI (stp B T W F i t).2.1 → s.1 36 i = (stp B T W F i t).2.2 → ∃ s', f_X4_weighFrom_L37 (fun (s44 : Sg) => some ((), s44)) (nI i) n s (nI t) = some ((), s') ∧ Sx i s s' ∧ s'.1 34 i = nI (stp B T W F i (b_tc B)).1 ∧ s'.1 35 i = nI (stp B T W F i (b_tc B)).2.1 ∧ s'.1 36 i = (stp B T W F i (b_tc B)).2.2 := by
  have h8 := hB.1
  have h60 := hT.1
  intro n
  induction n with
  | zero => intro t s h1 h2; omega
  | succ n ih =>
    intro t s h1 h2 hl h26 hk hr r1 r2 r3
    rw [f_X4_weighFrom_L37, hl.1]
    rcases Nat.lt_or_ge t (b_tc B) with q | q
    · have hn := (hB.2.2.1 t q).1
      rw [if_neg (fun z => by have := (nI_leI (by omega) (by omega)).mp z; omega), rI_n (by omega) (by decide), (hl.2.2.1 t q).1, isFound7_t hk hT hB hi q, cP_s]
      have skip : stp B T W F i (t + 1) = stp B T W F i t → ∃ s', f_X4_weighFrom_L37 (fun (s44 : Sg) => some ((), s44)) (nI i) n s (nI (t + 1)) = some ((), s') ∧ Sx i s s' ∧ s'.1 34 i = nI (stp B T W F i (b_tc B)).1 ∧ s'.1 35 i = nI (stp B T W F i (b_tc B)).2.1 ∧ s'.1 36 i = (stp B T W F i (b_tc B)).2.2 := fun e =>
        ih (t + 1) s (by omega) (by omega) hl h26 hk hr (by rw [e]; exact r1) (by rw [e]; exact r2) (by rw [e]; exact r3)
      by_cases z : fB B T t i = true
      · have hz := (fB_iff.mp z).1
        have hw := we_le hB q
        have hw1 := hW (i + b_n B t)
        have hf1 := hF (i + b_n B t)
        obtain ⟨o1, o2, o3⟩ := stp_ok (T := T) hB (i := i) hW hF t (by omega)
        rw [bI_t z, if_neg (by decide), h26, nI_add, if_neg (nI_nlt hz (by omega)), worthOf7_s hl hB q, cP_s, rI_n (by omega) (by decide), rI_n (by omega) (by decide), (hr _ (by omega) hz).1, (hr _ (by omega) hz).2, nI_add, n1_add, isBetter7_s hl hB (by omega) q r1 r2 r3 (by rcases o3 with g | ⟨u, g1, -, g2⟩; exact Or.inl g; exact Or.inr ⟨u, by omega, g2⟩) (by omega) (by omega) (by omega) (by omega), cP_s, nI_1]
        by_cases w : bet B (stp B T W F i t) (b_we B t * b_n B t + W (i + b_n B t)) (1 + F (i + b_n B t)) t
        · have e : stp B T W F i (t + 1) = (b_we B t * b_n B t + W (i + b_n B t), 1 + F (i + b_n B t), nI t) := by rw [stp, if_pos ⟨z, w⟩]
          rw [bI_t w, if_neg (by decide), wI_n (by omega) (by decide), wI_n (by omega) (by decide), wI_n (by omega) (by decide)]
          have u : Sx i s (sI (sI (sI s 36 i (nI t)) 34 i (nI (b_we B t * b_n B t + W (i + b_n B t)))) 35 i (nI (1 + F (i + b_n B t)))) := ((Sx.rf.i (by decide)).i (by decide)).i (by decide)
          obtain ⟨s', d1, d2, d3⟩ := ih (t + 1) _ (by omega) (by omega) (u.1.lex (by decide) (by decide) hl) (by rw [u.1.1 26 (by decide)]; exact h26) (by rw [u.1.1 32 (by decide), u.1.1 33 (by decide)]; exact hk) (fun j h3 h4 => by rw [(u.2 j (by omega)).1, (u.2 j (by omega)).2.1]; exact hr j h3 h4) (by rw [e, sI_ne _ (by decide), sI_1, if_pos ⟨rfl, rfl⟩]) (by rw [e, sI_1, if_pos ⟨rfl, rfl⟩]) (by rw [e, sI_ne _ (by decide), sI_ne _ (by decide), sI_1, if_pos ⟨rfl, rfl⟩])
          exact ⟨s', d1, u.tr d2, d3⟩
        · rw [bI_f w, if_pos rfl]
          exact skip (by rw [stp, if_neg (fun g => w g.2)])
      · rw [bI_f z, if_pos rfl, nI_1]
        exact skip (by rw [stp, if_neg (fun g => z g.1)])
    · have : t = b_tc B := by omega
      subst this
      rw [if_pos (nI_le (Nat.le_refl _) (by omega))]
      exact ⟨s, rfl, Sx.rf, r1, r2, r3⟩
theorem weigh7_s {s : Sg} (hB : Bok B) (hT : Tok T) (hl : lexC s B) (h26 : s.1 26 0 = nI (t_c T)) (hk : lookP (s.1 32) (s.1 33) B T (t_c T)) : ∃ s', f_X4_weigh s = some ((), s') ∧ Sm [34, 35, 36] [] s s' ∧ (∀ i, i ≤ t_c T → s'.1 34 i = nI (wth B T i) ∧ s'.1 35 i = nI (few B T i)) ∧ ∀ i, i < t_c T → s'.1 36 i = tk B T i := by
  have h8 := hB.1
  have h60 := hT.1
  have key : ∀ n m s, m ≤ t_c T → m < n → lexC s B → s.1 26 0 = nI (t_c T) → lookP (s.1 32) (s.1 33) B T (t_c T) → (∀ j, m ≤ j → j ≤ t_c T → s.1 34 j = nI ((dp B T (t_c T - m)).1 j) ∧ s.1 35 j = nI ((dp B T (t_c T - m)).2.1 j)) → (∀ j, m ≤ j → j < t_c T → s.1 36 j = (dp B T (t_c T - m)).2.2 j) → ∃ s', f_X4_weigh_L36 (fun (s11 : Sg) => some ((), s11)) n s (nI m - 1) = some ((), s') ∧ Sm [34, 35, 36] [] s s' ∧ (∀ i, i ≤ t_c T → s'.1 34 i = nI (wth B T i) ∧ s'.1 35 i = nI (few B T i)) ∧ ∀ i, i < t_c T → s'.1 36 i = tk B T i := by
    intro n
    induction n with
    | zero => intro m s h1 h2; omega
    | succ n ih =>
      intro m s h1 h2 hl h26 hk hr ht
      rw [f_X4_weigh_L36]
      by_cases z : m = 0
      · subst z
        rw [if_pos (show nI 0 - 1 < 0 by decide)]
        exact ⟨s, rfl, Sm.rf, fun i hi => hr i (Nat.zero_le _) hi, fun i hi => ht i (Nat.zero_le _) hi⟩
      · have hd := dp_ok (T := T) hB (t_c T - m)
        have e0 : t_c T - (m - 1) = (t_c T - m) + 1 := by omega
        have e1 : t_c T - ((t_c T - m) + 1) = m - 1 := by omega
        rw [nI_s1 (by omega), if_neg (nI_pos (by omega))]
        unfold f_X4_weighFrom
        rw [wI_n (by omega) (by decide), nI_1, show m - 1 + 1 = m by omega, rI_n (by omega) (by decide), wI_n (by omega) (by decide), rI_n (by omega) (by decide), wI_n (by omega) (by decide), sI_ne s (by decide), (hr m (Nat.le_refl _) h1).1, sI_ne _ (by decide), sI_ne s (by decide), (hr m (Nat.le_refl _) h1).2]
        have u : Sx (m - 1) s (sI (sI (sI s 36 (m - 1) (-1)) 34 (m - 1) (nI ((dp B T (t_c T - m)).1 m))) 35 (m - 1) (nI ((dp B T (t_c T - m)).2.1 m))) := ((Sx.rf.i (by decide)).i (by decide)).i (by decide)
        have e2 : m - 1 + 1 = m := by omega
        obtain ⟨s', d1, d2, d3, d4, d5⟩ := weighFrom7_L hB hT (i := m - 1) (by omega) (W := (dp B T (t_c T - m)).1) (F := (dp B T (t_c T - m)).2.1) (fun j => by have := (hd j).1; omega) (fun j => by have := (hd j).2.1; omega) fu 0 _ (Nat.zero_le _) (by unfold fu; omega) (u.1.lex (by decide) (by decide) hl) (by rw [u.1.1 26 (by decide)]; exact h26) (by rw [u.1.1 32 (by decide), u.1.1 33 (by decide)]; exact hk) (fun j h3 h4 => by rw [(u.2 j (by omega)).1, (u.2 j (by omega)).2.1]; exact hr j (by omega) h4) (by rw [sI_ne _ (by decide), sI_1, if_pos ⟨rfl, rfl⟩, stp, e2]) (by rw [sI_1, if_pos ⟨rfl, rfl⟩, stp, e2]) (by rw [sI_ne _ (by decide), sI_ne _ (by decide), sI_1, if_pos ⟨rfl, rfl⟩, stp])
        have d1 : f_X4_weighFrom_L37 (fun (s44 : Sg) => some ((), s44)) (nI (m - 1)) fu (sI (sI (sI s 36 (m - 1) (-1)) 34 (m - 1) (nI ((dp B T (t_c T - m)).1 m))) 35 (m - 1) (nI ((dp B T (t_c T - m)).2.1 m))) 0 = some ((), s') := d1
        rw [d1, cA_s, add_m1]
        have v := u.tr d2
        have q1 : ∀ j, (dp B T (t_c T - (m - 1))).1 j = if j = m - 1 then (stp B T (dp B T (t_c T - m)).1 (dp B T (t_c T - m)).2.1 (m - 1) (b_tc B)).1 else (dp B T (t_c T - m)).1 j := fun j => by rw [e0, dp, e1]
        have q2 : ∀ j, (dp B T (t_c T - (m - 1))).2.1 j = if j = m - 1 then (stp B T (dp B T (t_c T - m)).1 (dp B T (t_c T - m)).2.1 (m - 1) (b_tc B)).2.1 else (dp B T (t_c T - m)).2.1 j := fun j => by rw [e0, dp, e1]
        have q3 : ∀ j, (dp B T (t_c T - (m - 1))).2.2 j = if j = m - 1 then (stp B T (dp B T (t_c T - m)).1 (dp B T (t_c T - m)).2.1 (m - 1) (b_tc B)).2.2 else (dp B T (t_c T - m)).2.2 j := fun j => by rw [e0, dp, e1]
        obtain ⟨s2, c1, c2, c3⟩ := ih (m - 1) s' (by omega) (by omega) (v.1.lex (by decide) (by decide) hl) (by rw [v.1.1 26 (by decide)]; exact h26) (by rw [v.1.1 32 (by decide), v.1.1 33 (by decide)]; exact hk) (fun j h3 h4 => by
          rw [q1, q2]
          by_cases y : j = m - 1
          · rw [if_pos y, if_pos y, y]; exact ⟨d3, d4⟩
          · rw [if_neg y, if_neg y, (v.2 j y).1, (v.2 j y).2.1]; exact hr j (by omega) h4) (fun j h3 h4 => by
          rw [q3]
          by_cases y : j = m - 1
          · rw [if_pos y, y]; exact d5
          · rw [if_neg y, (v.2 j y).2.2]; exact ht j (by omega) h4)
        exact ⟨s2, c1, v.1.tr c2, c3⟩
  unfold f_X4_weigh
  rw [h26, wI_n (by omega) (by decide), sI_ne s (by decide), h26, wI_n (by omega) (by decide), sI_ne _ (by decide), sI_ne s (by decide), h26]
  have u : Sm [34, 35, 36] [] s (sI (sI s 34 (t_c T) 0) 35 (t_c T) 0) := (Sm.rf.i (by decide)).i (by decide)
  obtain ⟨s', c1, c2, c3⟩ := key fu (t_c T) (sI (sI s 34 (t_c T) 0) 35 (t_c T) 0) (Nat.le_refl _) (by unfold fu; omega) (u.lex (by decide) (by decide) hl) (by rw [u.1 26 (by decide)]; exact h26) (by rw [u.1 32 (by decide), u.1 33 (by decide)]; exact hk) (fun j h3 h4 => by
    have : j = t_c T := by omega
    subst this
    rw [Nat.sub_self, sI_ne _ (by decide), sI_1, if_pos ⟨rfl, rfl⟩, sI_1, if_pos ⟨rfl, rfl⟩]
    exact ⟨rfl, rfl⟩) (fun j h3 h4 => by omega)
  exact ⟨s', c1, u.tr c2, c3⟩
end WG
end
section
/-! choosing: what stands at each word -/
section CH
variable {B : Bk} {T : Tx}
theorem ch_A {i : Nat} (h : i < fr B T i) : ch B T i = -1 ∧ fr B T (i + 1) = fr B T i ∧ cc B T (i + 1) = cc B T i := by
  have h1 : ch B T i = -1 := by unfold ch; rw [if_neg (by omega)]
  refine ⟨h1, ?_, ?_⟩
  · rw [fr, if_neg (fun g => by have := g.1; omega)]
  · rw [cc, if_pos h1]
theorem ch_B {i : Nat} (h : fr B T i ≤ i) (h2 : tk B T i = -1) : ch B T i = -1 ∧ fr B T (i + 1) = fr B T i ∧ cc B T (i + 1) = cc B T i := by
  have h1 : ch B T i = -1 := by unfold ch; rw [if_pos h, h2]
  refine ⟨h1, ?_, ?_⟩
  · rw [fr, if_neg (fun g => g.2 h2)]
  · rw [cc, if_pos h1]
theorem ch_C {i u : Nat} (h : fr B T i ≤ i) (h2 : tk B T i = nI u) (hu : u < 2 ^ 31) : ch B T i = nI u ∧ fr B T (i + 1) = i + b_n B u ∧ cc B T (i + 1) = cc B T i + 1 := by
  have h1 : ch B T i = nI u := by unfold ch; rw [if_pos h, h2]
  refine ⟨h1, ?_, ?_⟩
  · rw [fr, if_pos ⟨h, by rw [h2]; exact nI_m1 hu⟩, h2]
    unfold kn
    rw [nI_clamp hu]
  · rw [cc, if_neg (by rw [h1]; exact nI_m1 hu)]
theorem ch_or (hB : Bok B) (i : Nat) : (ch B T i = -1 ∧ fr B T (i + 1) = fr B T i ∧ cc B T (i + 1) = cc B T i ∧ (fr B T i ≤ i → tk B T i = -1)) ∨ (fr B T i ≤ i ∧ ∃ u, u < b_tc B ∧ fnd B T u i ∧ tk B T i = nI u ∧ ch B T i = nI u ∧ fr B T (i + 1) = i + b_n B u ∧ cc B T (i + 1) = cc B T i + 1) := by
  have h8 := hB.1
  rcases Nat.lt_or_ge i (fr B T i) with q | q
  · obtain ⟨g1, g2, g3⟩ := ch_A q
    exact Or.inl ⟨g1, g2, g3, fun g => by omega⟩
  · rcases tk_ok (T := T) hB i with z | ⟨u, z1, z2, z3⟩
    · obtain ⟨g1, g2, g3⟩ := ch_B q z
      exact Or.inl ⟨g1, g2, g3, fun _ => z⟩
    · exact Or.inr ⟨q, u, z1, z2, z3, ch_C q z3 (by omega)⟩
theorem fr_le (hB : Bok B) : ∀ i, fr B T i ≤ t_c T := by
  intro i
  induction i with
  | zero => exact Nat.zero_le _
  | succ i ih =>
    rcases ch_or (T := T) hB i with ⟨-, h, -⟩ | ⟨-, u, -, h1, -, -, h2, -⟩
    · rw [h]; exact ih
    · rw [h2]; exact h1.1
theorem cc_le : ∀ i, cc B T i ≤ i := by
  intro i
  induction i with
  | zero => exact Nat.le_refl _
  | succ i ih => rw [cc]; split <;> omega
theorem cc_s (i : Nat) : cc B T i ≤ cc B T (i + 1) := by rw [cc]; split <;> omega
theorem cc_mono {i : Nat} : ∀ {j : Nat}, i ≤ j → cc B T i ≤ cc B T j := by
  intro j
  induction j with
  | zero => intro h; have : i = 0 := by omega
            rw [this]; exact Nat.le_refl _
  | succ j ih =>
    intro h
    by_cases z : i = j + 1
    · rw [z]; exact Nat.le_refl _
    · exact Nat.le_trans (ih (by omega)) (cc_s j)
theorem cc_lt {i j : Nat} (h : i < j) (h2 : ch B T i ≠ -1) : cc B T i < cc B T j := by
  have h3 : cc B T (i + 1) = cc B T i + 1 := by rw [cc, if_neg h2]
  have := cc_mono (B := B) (T := T) (show i + 1 ≤ j by omega)
  omega
theorem fr_cc (hB : Bok B) : ∀ i, 0 < fr B T i → 1 ≤ cc B T i := by
  intro i
  induction i with
  | zero => intro h; exact absurd h (Nat.lt_irrefl 0)
  | succ i ih =>
    intro h
    rcases ch_or (T := T) hB i with ⟨-, h1, h2, -⟩ | ⟨-, u, -, -, -, -, -, h2⟩
    · rw [h1] at h; rw [h2]; exact ih h
    · omega
def Sc (s s' : Sg) : Prop := Sm [30, 37, 38, 39] [] s s' ∧ ∀ j, j ≠ 11 → s'.1 30 j = s.1 30 j
theorem Sc.rf {s : Sg} : Sc s s := ⟨Sm.rf, fun _ _ => rfl⟩
theorem Sc.tr {a b c : Sg} (h1 : Sc a b) (h2 : Sc b c) : Sc a c := ⟨h1.1.tr h2.1, fun j hj => (h2.2 j hj).trans (h1.2 j hj)⟩
theorem Sc.i {a b : Sg} {k j : Nat} {v : Int32} (h : Sc a b) (hk : k = 37 ∨ k = 38 ∨ k = 39) : Sc a (sI b k j v) := ⟨h.1.i (by rcases hk with rfl | rfl | rfl <;> decide), fun i hi => by
  rw [sI_1, if_neg (by omega)]
  exact h.2 i hi⟩
theorem Sc.c {a b : Sg} {v : Int32} (h : Sc a b) : Sc a (sI b 30 11 v) := ⟨h.1.i (by decide), fun i hi => by
  rw [sI_1, if_neg (fun z => hi z.2)]
  exact h.2 i hi⟩
theorem choose7_s {s : Sg} (hB : Bok B) (hT : Tok T) (hl : lexC s B) (h26 : s.1 26 0 = nI (t_c T)) (ht : ∀ i, i < t_c T → s.1 36 i = tk B T i) : ∃ s', f_X4_choose s = some ((), s') ∧ Sc s s' ∧ s'.1 30 11 = nI (cc B T (t_c T)) ∧ (∀ i, i < t_c T → ch B T i ≠ -1 → s'.1 37 (cc B T i) = nI i ∧ s'.1 38 (cc B T i) = ch B T i) ∧ ∀ i, i < t_c T → s'.1 39 i = co B T i := by
  have h8 := hB.1
  have h60 := hT.1
  have key : ∀ n i s, i ≤ t_c T → t_c T < n + i → lexC s B → s.1 26 0 = nI (t_c T) → (∀ i, i < t_c T → s.1 36 i = tk B T i) → s.1 30 11 = nI (cc B T i) → (∀ j, j < i → ch B T j ≠ -1 → s.1 37 (cc B T j) = nI j ∧ s.1 38 (cc B T j) = ch B T j) → (∀ j, j < i → s.1 39 j = co B T j) → ∃ s', f_X4_choose_L9 (fun (s35 : Sg) => some ((), s35)) n s (nI (fr B T i)) (nI i) = some ((), s') ∧ Sc s s' ∧ s'.1 30 11 = nI (cc B T (t_c T)) ∧ (∀ i, i < t_c T → ch B T i ≠ -1 → s'.1 37 (cc B T i) = nI i ∧ s'.1 38 (cc B T i) = ch B T i) ∧ ∀ i, i < t_c T → s'.1 39 i = co B T i := by
    intro n
    induction n with
    | zero => intro i s h1 h2; omega
    | succ n ih =>
      intro i s h1 h2 hl h26 ht g1 g2 g3
      have hf := fr_le (T := T) hB i
      have hf1 := fr_le (T := T) hB (i + 1)
      have hcl := cc_le (B := B) (T := T) i
      have hcl1 := cc_le (B := B) (T := T) (i + 1)
      rw [f_X4_choose_L9, h26]
      rcases Nat.lt_or_ge i (t_c T) with q | q
      · rw [if_neg (fun z => by have := (nI_leI (by omega) (by omega)).mp z; omega), nI_1]
        simp only [jn_s]
        have go : ∀ s4 x, x = nI (fr B T (i + 1)) → Sc s s4 → s4.1 30 11 = nI (cc B T (i + 1)) → (∀ j, j < i + 1 → ch B T j ≠ -1 → s4.1 37 (cc B T j) = nI j ∧ s4.1 38 (cc B T j) = ch B T j) → s4.1 39 = s.1 39 → ∃ s', (if x ≤ nI i then (wI s4 39 60 (nI i) (-1) fun s8 => (f_X4_choose_L9 (fun (s35 : Sg) => some ((), s35)) n (s8) x (nI (i + 1)))) else (wI s4 39 60 (nI i) ((s4.1 30 11) - 1) fun s8 => (f_X4_choose_L9 (fun (s35 : Sg) => some ((), s35)) n (s8) x (nI (i + 1))))) = some ((), s') ∧ Sc s s' ∧ s'.1 30 11 = nI (cc B T (t_c T)) ∧ (∀ i, i < t_c T → ch B T i ≠ -1 → s'.1 37 (cc B T i) = nI i ∧ s'.1 38 (cc B T i) = ch B T i) ∧ ∀ i, i < t_c T → s'.1 39 i = co B T i := by
          intro s4 x hx u k1 k2 k3
          subst hx
          have fin : ∀ v, v = co B T i → ∃ s', (wI s4 39 60 (nI i) v fun s8 => (f_X4_choose_L9 (fun (s35 : Sg) => some ((), s35)) n (s8) (nI (fr B T (i + 1))) (nI (i + 1)))) = some ((), s') ∧ Sc s s' ∧ s'.1 30 11 = nI (cc B T (t_c T)) ∧ (∀ i, i < t_c T → ch B T i ≠ -1 → s'.1 37 (cc B T i) = nI i ∧ s'.1 38 (cc B T i) = ch B T i) ∧ ∀ i, i < t_c T → s'.1 39 i = co B T i := by
            intro v hv
            rw [wI_n (by omega) (by decide)]
            have u2 : Sc s (sI s4 39 i v) := u.i (by decide)
            obtain ⟨s', c1, c2, c3⟩ := ih (i + 1) (sI s4 39 i v) (by omega) (by omega) (u2.1.lex (by decide) (by decide) hl) (by rw [u2.1.1 26 (by decide)]; exact h26) (by rw [u2.1.1 36 (by decide)]; exact ht) (by rw [sI_ne _ (by decide)]; exact k1) (by rw [sI_ne _ (by decide), sI_ne _ (by decide)]; exact k2) (fun j hj => by
              rw [sI_1]
              by_cases z : j = i
              · rw [if_pos ⟨rfl, z⟩, hv, z]
              · rw [if_neg (fun g => z g.2), k3]; exact g3 j (by omega))
            exact ⟨s', c1, u2.tr c2, c3⟩
          by_cases z : fr B T (i + 1) ≤ i
          · rw [if_pos (nI_le z (by omega))]
            exact fin _ (by unfold co; rw [if_neg (by omega)])
          · rw [if_neg (fun y => z ((nI_leI (by omega) (by omega)).mp y))]
            refine fin _ ?_
            have := fr_cc (T := T) hB (i + 1) (by omega)
            unfold co
            rw [k1, if_pos (by omega), nI_s1 this]
        have same : ch B T i = -1 → fr B T (i + 1) = fr B T i → cc B T (i + 1) = cc B T i → ∃ s', (if nI (fr B T i) ≤ nI i then (wI s 39 60 (nI i) (-1) fun s8 => (f_X4_choose_L9 (fun (s35 : Sg) => some ((), s35)) n (s8) (nI (fr B T i)) (nI (i + 1)))) else (wI s 39 60 (nI i) ((s.1 30 11) - 1) fun s8 => (f_X4_choose_L9 (fun (s35 : Sg) => some ((), s35)) n (s8) (nI (fr B T i)) (nI (i + 1))))) = some ((), s') ∧ Sc s s' ∧ s'.1 30 11 = nI (cc B T (t_c T)) ∧ (∀ i, i < t_c T → ch B T i ≠ -1 → s'.1 37 (cc B T i) = nI i ∧ s'.1 38 (cc B T i) = ch B T i) ∧ ∀ i, i < t_c T → s'.1 39 i = co B T i := fun e1 e2 e3 =>
          go s _ (by rw [e2]) Sc.rf (by rw [e3]; exact g1) (fun j hj hc => by
            by_cases z : j = i
            · rw [z] at hc; exact absurd e1 hc
            · exact g2 j (by omega) hc) rfl
        rcases ch_or (T := T) hB i with ⟨e1, e2, e3, e4⟩ | ⟨e0, u, hu, hfu, e1, e2, e3, e4⟩
        · by_cases z : i < fr B T i
          · rw [if_pos (nI_lt z (by omega))]
            exact same e1 e2 e3
          · rw [if_neg (nI_nlt (by omega) (by omega)), rI_n (by omega) (by decide), ht i q, e4 (by omega), if_pos rfl]
            exact same e1 e2 e3
        · rw [if_neg (nI_nlt (by omega) (by omega)), rI_n (by omega) (by decide), ht i q, e1, if_neg (nI_m1 (by omega)), g1, wI_n (by omega) (by decide), rI_n (by omega) (by decide), sI_ne s (by decide), g1, sI_ne s (by decide), ht i q, e1, wI_n (by omega) (by decide), pI_s, sI_ne _ (by decide), sI_ne _ (by decide), g1, nI_1, rI_n (by omega) (by decide), sI_ne _ (by decide), sI_ne _ (by decide), sI_ne _ (by decide), ht i q, e1, rI_n (by omega) (by decide)]
          have v : Sc s (sI (sI (sI s 37 (cc B T i) (nI i)) 38 (cc B T i) (nI u)) 30 11 (nI (cc B T i + 1))) := ((Sc.rf.i (by decide)).i (by decide)).c
          have hx : (sI (sI (sI s 37 (cc B T i) (nI i)) 38 (cc B T i) (nI u)) 30 11 (nI (cc B T i + 1))).1 6 u = nI (b_n B u) := ((v.1.lex (by decide) (by decide) hl).2.2.1 u hu).1
          refine go _ _ (by rw [hx, nI_add, e3]) v ?_ ?_ ?_
          · rw [sI_1, if_pos ⟨rfl, rfl⟩, e4]
          · intro j hj hc
            rw [sI_ne _ (by decide), sI_ne _ (by decide), sI_1, sI_ne _ (by decide), sI_1]
            by_cases z : j = i
            · rw [z, if_pos ⟨rfl, rfl⟩, if_pos ⟨rfl, rfl⟩, e2]
              exact ⟨rfl, rfl⟩
            · have hlt := cc_lt (B := B) (T := T) (show j < i by omega) hc
              rw [if_neg (by omega), if_neg (by omega)]
              exact g2 j (by omega) hc
          · rw [sI_ne _ (by decide), sI_ne _ (by decide), sI_ne _ (by decide)]
      · have : i = t_c T := by omega
        subst this
        rw [if_pos (nI_le (Nat.le_refl _) (by omega))]
        exact ⟨s, rfl, Sc.rf, g1, g2, g3⟩
  unfold f_X4_choose
  rw [pI_s]
  have u : Sc s (sI s 30 11 0) := Sc.rf.c
  obtain ⟨s', c1, c2, c3⟩ := key fu 0 (sI s 30 11 0) (Nat.zero_le _) (by unfold fu; omega) (u.1.lex (by decide) (by decide) hl) (by rw [u.1.1 26 (by decide)]; exact h26) (by rw [u.1.1 36 (by decide)]; exact ht) (by rw [sI_1, if_pos ⟨rfl, rfl⟩]; rfl) (fun j hj => absurd hj (Nat.not_lt_zero j)) (fun j hj => absurd hj (Nat.not_lt_zero j))
  exact ⟨s', c1, u.tr c2, c3⟩
end CH
end
section
/-! the scan is settled -/
def stl (s : Sg) (B : Bk) (T : Tx) : Prop := lookP (s.1 32) (s.1 33) B T (t_c T) ∧ setP (s.1 30) (s.1 34) (s.1 35) (s.1 36) (s.1 37) (s.1 38) (s.1 39) B T
section ST
variable {B : Bk} {T : Tx}
theorem settle7_L (hB : Bok B) (hT : Tok T) (kk : Sg → Option (Unit × Sg)) : ∀ n i s, i ≤ t_c T → t_c T < n + i → lexC s B → txtC s T → lookP (s.1 32) (s.1 33) B T i → ∃ s', f_X4_settle_L13 kk n s (nI i) = kk s' ∧ lookP (s'.1 32) (s'.1 33) B T (t_c T) ∧ Sk s s' := by
  have h60 := hT.1
  intro n
  induction n with
  | zero => intro i s h1 h2; omega
  | succ n ih =>
    intro i s h1 h2 hl ht hk
    rw [f_X4_settle_L13, ht.1]
    rcases Nat.lt_or_ge i (t_c T) with q | q
    · obtain ⟨s1, d1, d2, d3⟩ := look7_s hl hB ht hT q hk
      rw [if_neg (fun z => by have := (nI_leI (by omega) (by omega)).mp z; omega), d1, cA_s, nI_1]
      obtain ⟨s2, c1, c2, c3⟩ := ih (i + 1) s1 (by omega) (by omega) (d3.1.lex (by decide) (by decide) hl) (d3.1.txt (by decide) (by decide) ht) d2
      exact ⟨s2, c1, c2, d3.tr c3⟩
    · have : i = t_c T := by omega
      subst this
      rw [if_pos (nI_le (Nat.le_refl _) (by omega))]
      exact ⟨s, rfl, hk, Sk.rf⟩
theorem settle7_s {σ : Sg} {S : List Nat} {im : Nat → Option Bk} (hB : Bok B) (hT : Tok T) (hC : InvC σ (S, B, T, im)) : ∃ s', f_X4_settle σ = some ((), s') ∧ InvC s' (S, B, T, im) ∧ stl s' B T ∧ Un43 σ s' := by
  have h60 := hT.1
  have hC' := hC
  obtain ⟨g1, g2, g3, g4, g5, g6⟩ := hC'
  obtain ⟨lk, p1, p2, p3, p4⟩ := g5
  have p1 : lk ≤ t_c T := p1
  unfold f_X4_settle
  rcases p4 with p4 | ⟨p4, p5, p6⟩
  · rw [if_pos p4, p2]
    obtain ⟨s1, a1, a2, a3⟩ := settle7_L hB hT (fun (s5 : Sg) => pI s5 30 2 (s5.1 26 0) fun s6 => (cA (f_X4_weigh s6) fun x8 s10 => (cA (f_X4_choose s10) fun x11 s13 => (pI s13 30 3 1 fun s14 => (some ((), s14)))))) fu lk σ p1 (by unfold fu; omega) g2 g3 p3
    have e26 : s1.1 26 0 = nI (t_c T) := by rw [a3.1.1 26 (by decide)]; exact g3.1
    have hl1 : lexC (sI s1 30 2 (nI (t_c T))) B := (Sm.rf (L := [30]) (K := []) |>.i (by decide)).lex (by decide) (by decide) (a3.1.lex (by decide) (by decide) g2)
    obtain ⟨s2, b1, b2, b3, b4⟩ := weigh7_s (s := sI s1 30 2 (nI (t_c T))) hB hT hl1 (by rw [sI_ne _ (by decide)]; exact e26) (by rw [sI_ne _ (by decide), sI_ne _ (by decide)]; exact a2)
    obtain ⟨s3, c1, c2, c3, c4, c5⟩ := choose7_s hB hT (b2.lex (by decide) (by decide) hl1) (by rw [b2.1 26 (by decide), sI_ne _ (by decide)]; exact e26) b4
    rw [a1, pI_s, e26, b1, cA_s, c1, cA_s, pI_s]
    have v : Sm [30, 32, 33, 34, 35, 36, 37, 38, 39] [31] σ (sI s3 30 3 1) := ((((a3.1.up (by decide) (by decide)).i (by decide)).tr (b2.up (by decide) (by decide))).tr (c2.1.up (by decide) (by decide))).i (by decide)
    have e2 : (sI s3 30 3 1).1 30 2 = nI (t_c T) := by
      rw [sI_1, if_neg (by decide), c2.2 2 (by decide), b2.1 30 (by decide), sI_1, if_pos ⟨rfl, rfl⟩]
    have eL : lookP ((sI s3 30 3 1).1 32) ((sI s3 30 3 1).1 33) B T (t_c T) := by
      rw [sI_ne _ (by decide), sI_ne _ (by decide), c2.1.1 32 (by decide), c2.1.1 33 (by decide), b2.1 32 (by decide), b2.1 33 (by decide), sI_ne _ (by decide), sI_ne _ (by decide)]
      exact a2
    have eS : setP ((sI s3 30 3 1).1 30) ((sI s3 30 3 1).1 34) ((sI s3 30 3 1).1 35) ((sI s3 30 3 1).1 36) ((sI s3 30 3 1).1 37) ((sI s3 30 3 1).1 38) ((sI s3 30 3 1).1 39) B T := by
      refine ⟨?_, ?_, ?_, ?_, ?_⟩
      · rw [sI_ne _ (by decide), sI_ne _ (by decide), c2.1.1 34 (by decide), c2.1.1 35 (by decide)]; exact b3
      · rw [sI_ne _ (by decide), c2.1.1 36 (by decide)]; exact b4
      · rw [sI_1, if_neg (by decide)]; exact c3
      · rw [sI_ne _ (by decide), sI_ne _ (by decide)]; exact c4
      · rw [sI_ne _ (by decide)]; exact c5
    refine ⟨_, rfl, ⟨v.slp (by decide) g1, v.lex (by decide) (by decide) g2, v.txt (by decide) (by decide) g3, v.ims (by decide) (by decide) g4, ⟨t_c T, Nat.le_refl _, e2, eL, Or.inr ⟨by rw [sI_1, if_pos ⟨rfl, rfl⟩], rfl, eS⟩⟩, v.mnd (by decide) g6⟩, ⟨eL, eS⟩, v.u43 (by decide)⟩
  · rw [if_neg (by rw [p4]; decide)]
    subst p5
    exact ⟨σ, rfl, hC, ⟨p3, p6⟩, Un43.rf⟩
theorem settled7_s {σ : Sg} {S : List Nat} {im : Nat → Option Bk} (hB : Bok B) (hT : Tok T) (hC : InvC σ (S, B, T, im)) : ∃ s', f_X7_settled σ = some ((), s') ∧ InvC s' (S, B, T, im) ∧ stl s' B T ∧ Un43 σ s' := by
  obtain ⟨s', h1, h2⟩ := settle7_s hB hT hC
  exact ⟨s', by unfold f_X7_settled; rw [h1, cA_s], h2⟩
end ST
end
section
/-! what is met, found: the reference -/
def eqN (v : List Nat) (f : Nat) (w : List Nat) (k : Nat) : Prop := ∀ m, m < k → v[f + m]? = w[m]?
theorem eqN_s {v w : List Nat} {f k : Nat} : eqN v f w (k + 1) ↔ eqN v f w k ∧ v[f + k]? = w[k]? := by
  constructor
  · intro h
    exact ⟨fun m hm => h m (by omega), h k (by omega)⟩
  · rintro ⟨h1, h2⟩ m hm
    by_cases z : m = k
    · rw [z]; exact h2
    · exact h1 m (by omega)
theorem eqN_0 {v w : List Nat} {f : Nat} : eqN v f w 0 := fun m hm => absurd hm (Nat.not_lt_zero m)
theorem app_iff {v w e : List Nat} : v = w ++ e ↔ (w.length ≤ v.length ∧ eqN v 0 w w.length) ∧ v.length = w.length + e.length ∧ eqN v w.length e e.length := by
  constructor
  · rintro rfl
    rw [List.length_append]
    refine ⟨⟨by omega, fun m hm => ?_⟩, rfl, fun m hm => ?_⟩
    · rw [Nat.zero_add, List.getElem?_append, if_pos hm]
    · rw [List.getElem?_append, if_neg (by omega), show w.length + m - w.length = m by omega]
  · rintro ⟨⟨h1, h2⟩, h3, h4⟩
    rw [ext_iff]
    refine ⟨by rw [List.length_append]; exact h3, fun j hj => ?_⟩
    rw [List.getElem?_append]
    by_cases z : j < w.length
    · rw [if_pos z]
      have := h2 j z
      rw [Nat.zero_add] at this
      exact this
    · rw [if_neg z]
      have := h4 (j - w.length) (by omega)
      rw [show w.length + (j - w.length) = j by omega] at this
      exact this
section FO
variable {σ : Sg} {B : Bk} {T : Tx}
theorem isBegun8_s (h : txR σ T) (hT : Tok T) {i p : Nat} {w : List Nat} (hi : i < t_c T) (hw : wordP (σ.1 44) p w) (hp : p + 1 + w.length ≤ 475) (hlw : lok1 w) : f_X8_isBegun σ (nI i) (nI p) = some (bI (w.length ≤ (t_w T i).length ∧ eqN (t_w T i) 0 w w.length)) := by
  have h60 := hT.1
  obtain ⟨⟨a1, a2⟩, -, -⟩ := h.2.2.1 i hi
  have hv := (hT.2.1 i hi).1
  have hv12 := hv.2.2
  have z0 : ∀ n k, f_X8_isBegun_L27 (fun (v21 : Int32) => mH (v21 = 0 ∨ v21 = 1) (some v21)) σ (nI i) (nI p) (n + 1) 0 (nI k) = some 0 := by
    intro n k
    rw [f_X8_isBegun_L27, rI_n (by omega) (by decide)]
    split
    · rfl
    · rfl
  have key : w.length ≤ (t_w T i).length → ∀ n k, k ≤ w.length → w.length < n + k → f_X8_isBegun_L27 (fun (v21 : Int32) => mH (v21 = 0 ∨ v21 = 1) (some v21)) σ (nI i) (nI p) n (bI (eqN (t_w T i) 0 w k)) (nI k) = some (bI (eqN (t_w T i) 0 w w.length)) := by
    intro hle n
    induction n with
    | zero => intro k h1 h2; omega
    | succ n ih =>
      intro k h1 h2
      rw [f_X8_isBegun_L27, rI_n (by omega) (by decide), hw.1]
      rcases Nat.lt_or_ge k w.length with z | z
      · rw [if_neg (fun hc => by have := (nI_leI (by omega) (by omega)).mp hc; omega)]
        rcases Classical.em (eqN (t_w T i) 0 w k) with g | g
        · have gi : (t_w T i)[k]? = some ((t_w T i)[k]'(by omega)) := List.getElem?_eq_getElem (by omega)
          have gj : w[k]? = some w[k] := List.getElem?_eq_getElem z
          have x1 := hv.1 _ (List.mem_of_getElem? gi)
          have x2 := hlw _ (List.mem_of_getElem? gj)
          rw [bI_t g, if_neg (by decide), i15, nI_p3, nI_add, rI_n (by omega) (by decide), nI_1, nI_add, rI_n (by omega) (by decide), a2 k _ gi, hw.2 k _ gj, nI_1]
          have hiff : nI ((t_w T i)[k]'(by omega) + 96) = nI (w[k] + 96) ↔ (t_w T i)[0 + k]? = w[k]? := by
            rw [nI_eq (by omega) (by omega), Nat.zero_add, gi, gj]
            constructor
            · intro h; congr 1; omega
            · intro h; have := Option.some.inj h; omega
          have := ih (k + 1) (by omega) (by omega)
          by_cases h2 : (t_w T i)[0 + k]? = w[k]?
          · rw [if_pos (hiff.mpr h2)]
            rw [bI_t (eqN_s.mpr ⟨g, h2⟩)] at this
            exact this
          · rw [if_neg (fun hc => h2 (hiff.mp hc))]
            rw [bI_f (fun hc => h2 (eqN_s.mp hc).2)] at this
            exact this
        · rw [bI_f g, if_pos rfl, bI_f (fun hc => g (fun m hm => hc m (by omega)))]
          rfl
      · have : k = w.length := by omega
        subst this
        rw [if_pos (nI_le (Nat.le_refl _) (by omega)), mH_t (bI_01 _)]
  unfold f_X8_isBegun
  rw [i15, rI_n (by omega) (by decide), rI_n (by omega) (by decide), a1, hw.1]
  simp only [jn_s]
  by_cases z : (t_w T i).length < w.length
  · rw [if_pos (nI_lt z (by omega)), bI_f (fun g => by have := g.1; omega)]
    exact z0 4999 0
  · rw [if_neg (nI_nlt (by omega) (by omega))]
    have := key (by omega) fu 0 (Nat.zero_le _) (by unfold fu; omega)
    rw [bI_t eqN_0] at this
    rw [bI_cg (show (w.length ≤ (t_w T i).length ∧ eqN (t_w T i) 0 w w.length) ↔ eqN (t_w T i) 0 w w.length from ⟨fun g => g.2, fun g => ⟨by omega, g⟩⟩)]
    exact this
theorem isAs8_s (h : txR σ T) (hT : Tok T) {i p f : Nat} {w : List Nat} (hi : i < t_c T) (hf : f ≤ (t_w T i).length) (hw : wordP (σ.1 44) p w) (hp : p + 1 + w.length ≤ 475) (hlw : lok1 w) : f_X8_isAs σ (nI i) (nI f) (nI p) = some (bI ((t_w T i).length = f + w.length ∧ eqN (t_w T i) f w w.length)) := by
  have h60 := hT.1
  obtain ⟨⟨a1, a2⟩, -, -⟩ := h.2.2.1 i hi
  have hv := (hT.2.1 i hi).1
  have hv12 := hv.2.2
  have z0 : ∀ n k, f_X8_isAs_L30 (fun (v21 : Int32) => mH (v21 = 0 ∨ v21 = 1) (some v21)) σ (nI i) (nI f) (nI p) (n + 1) 0 (nI k) = some 0 := by
    intro n k
    rw [f_X8_isAs_L30, rI_n (by omega) (by decide)]
    split
    · rfl
    · rfl
  have key : (t_w T i).length = f + w.length → ∀ n k, k ≤ w.length → w.length < n + k → f_X8_isAs_L30 (fun (v21 : Int32) => mH (v21 = 0 ∨ v21 = 1) (some v21)) σ (nI i) (nI f) (nI p) n (bI (eqN (t_w T i) f w k)) (nI k) = some (bI (eqN (t_w T i) f w w.length)) := by
    intro hle n
    induction n with
    | zero => intro k h1 h2; omega
    | succ n ih =>
      intro k h1 h2
      rw [f_X8_isAs_L30, rI_n (by omega) (by decide), hw.1]
      rcases Nat.lt_or_ge k w.length with z | z
      · rw [if_neg (fun hc => by have := (nI_leI (by omega) (by omega)).mp hc; omega)]
        rcases Classical.em (eqN (t_w T i) f w k) with g | g
        · have gi : (t_w T i)[f + k]? = some ((t_w T i)[f + k]'(by omega)) := List.getElem?_eq_getElem (by omega)
          have gj : w[k]? = some w[k] := List.getElem?_eq_getElem z
          have x1 := hv.1 _ (List.mem_of_getElem? gi)
          have x2 := hlw _ (List.mem_of_getElem? gj)
          rw [bI_t g, if_neg (by decide), i15, nI_p3, nI_add, nI_add, Nat.add_assoc (15 * i + 3) f k, rI_n (by omega) (by decide), nI_1, nI_add, rI_n (by omega) (by decide), a2 (f + k) _ gi, hw.2 k _ gj, nI_1]
          have hiff : nI ((t_w T i)[f + k]'(by omega) + 96) = nI (w[k] + 96) ↔ (t_w T i)[f + k]? = w[k]? := by
            rw [nI_eq (by omega) (by omega), gi, gj]
            constructor
            · intro h; congr 1; omega
            · intro h; have := Option.some.inj h; omega
          have := ih (k + 1) (by omega) (by omega)
          by_cases h2 : (t_w T i)[f + k]? = w[k]?
          · rw [if_pos (hiff.mpr h2)]
            rw [bI_t (eqN_s.mpr ⟨g, h2⟩)] at this
            exact this
          · rw [if_neg (fun hc => h2 (hiff.mp hc))]
            rw [bI_f (fun hc => h2 (eqN_s.mp hc).2)] at this
            exact this
        · rw [bI_f g, if_pos rfl, bI_f (fun hc => g (fun m hm => hc m (by omega)))]
          rfl
      · have : k = w.length := by omega
        subst this
        rw [if_pos (nI_le (Nat.le_refl _) (by omega)), mH_t (bI_01 _)]
  unfold f_X8_isAs
  rw [i15, rI_n (by omega) (by decide), rI_n (by omega) (by decide), a1, hw.1, pk_sub hf]
  simp only [jn_s]
  by_cases z : (t_w T i).length = f + w.length
  · rw [if_pos (by rw [z]; congr 1; omega)]
    have := key z fu 0 (Nat.zero_le _) (by unfold fu; omega)
    rw [bI_t eqN_0] at this
    rw [bI_cg (show ((t_w T i).length = f + w.length ∧ eqN (t_w T i) f w w.length) ↔ eqN (t_w T i) f w w.length from ⟨fun g => g.2, fun g => ⟨z, g⟩⟩)]
    exact this
  · rw [if_neg (fun g => by have := (nI_eq (by omega) (by omega)).mp g; omega), bI_f (fun g => z g.1)]
    exact z0 4999 0
theorem meets8_s (h : txR σ T) (hT : Tok T) (hb : bookP (σ.1 44) B) (hB : Bok B) {i t k : Nat} (hi : i < t_c T) (ht : t < b_tc B) (hk : k < b_n B t) : f_X8_meets σ (nI i) (nI t) (nI k) = some (bI (mt B T i t k)) := by
  have h60 := hT.1
  have h8 := hB.1
  have h5 := hB.2.1
  have hb0 := hb.2.2.1 t ht
  have hw := hb0.2.2.2.2 k hk
  have hn := (hB.2.2.1 t ht).1
  have hwo := (hB.2.2.1 t ht).2.2.2.2.1 k hk
  have hw12 := hwo.2.2
  have hbe := (hB.2.2.1 t ht).2.2.1
  obtain ⟨⟨a1, a2⟩, -, a3⟩ := h.2.2.1 i hi
  have hv := (hT.2.1 i hi).1
  have hv12 := hv.2.2
  have htl := (hT.2.1 i hi).2.1
  unfold f_X8_meets
  rw [wordAt8_s, cP_s, i15, nI_p2, rI_n (by omega) (by decide), a3]
  by_cases hl : t_l T i = 0
  · rw [if_neg (fun g => by have := (c_eq 1 (by omega) (by decide)).mp g; omega), isBegun8_s h hT hi hw (by omega) hwo.1, cP_s]
    by_cases hbg : (b_w B t k).length ≤ (t_w T i).length ∧ eqN (t_w T i) 0 (b_w B t k) (b_w B t k).length
    · rw [bI_t hbg, if_neg (by decide), rI_n (by omega) (by decide), rI_n (by omega) (by decide), a1, hw.1]
      simp only [jn_s]
      have e1 : (t_w T i).length = (b_w B t k).length ↔ t_w T i = b_w B t k := by
        constructor
        · intro g
          refine (ext_iff).mpr ⟨g, fun j hj => ?_⟩
          have := hbg.2 j (by omega)
          rw [Nat.zero_add] at this
          exact this
        · intro g; rw [g]
      have e2 : ∀ e, ((t_w T i).length = (b_w B t k).length + (b_en B e).length ∧ eqN (t_w T i) (b_w B t k).length (b_en B e) (b_en B e).length) ↔ t_w T i = b_w B t k ++ b_en B e := fun e => by
        rw [app_iff]
        exact ⟨fun g => ⟨hbg, g⟩, fun g => g.2⟩
      have e0 : ∀ x : Int32, (x = 0 ∨ x = 1) → b_be B t ≠ 1 → f_X8_meets_L63 (fun (v37 : Int32) => mH (v37 = 0 ∨ v37 = 1) (some v37)) σ (nI i) (nI t) (nI (2 + 56 * t + 4 + 13 * k)) fu x 0 = some x := by
        intro x hx hne
        show f_X8_meets_L63 _ σ (nI i) (nI t) (nI (2 + 56 * t + 4 + 13 * k)) (4999 + 1) x 0 = _
        rw [f_X8_meets_L63, show (1 : Int32) = nI 1 from rfl, rI_n (by omega) (by decide), hb.2.1]
        split
        · exact mH_t hx
        · rw [termAt8_s, cP_s, nI_p2, rI_n (by omega) (by decide), hb0.2.2.1, if_neg (fun g => hne ((nI_eq (by omega) (by decide)).mp g))]
          exact mH_t hx
      have key : b_be B t = 1 → ∀ n e, e ≤ b_ec B → b_ec B < n + e → f_X8_meets_L63 (fun (v37 : Int32) => mH (v37 = 0 ∨ v37 = 1) (some v37)) σ (nI i) (nI t) (nI (2 + 56 * t + 4 + 13 * k)) n (bI (t_w T i = b_w B t k ∨ ∃ e', e' < e ∧ t_w T i = b_w B t k ++ b_en B e')) (nI e) = some (bI (t_w T i = b_w B t k ∨ ∃ e', e' < b_ec B ∧ t_w T i = b_w B t k ++ b_en B e')) := by
        intro hb1 n
        induction n with
        | zero => intro e h1 h2; omega
        | succ n ih =>
          intro e h1 h2
          rw [f_X8_meets_L63, show rI σ 44 475 1 = rI (α := Int32) σ 44 475 (nI 1) from rfl, rI_n (by omega) (by decide), hb.2.1]
          rcases Nat.lt_or_ge e (b_ec B) with z | z
          · have he := hB.2.2.2 e z
            have he4 := he.2.2
            have hbe2 := hb.2.2.2 e z
            rw [if_neg (fun hc => by have := (nI_leI (by omega) (by omega)).mp hc; omega), termAt8_s, cP_s, nI_p2, rI_n (by omega) (by decide), hb0.2.2.1, hb1, if_pos (show nI 1 = 1 from rfl)]
            simp only [jn_s]
            have := ih (e + 1) (by omega) (by omega)
            rcases Classical.em (t_w T i = b_w B t k ∨ ∃ e', e' < e ∧ t_w T i = b_w B t k ++ b_en B e') with g | g
            · rw [bI_t g, if_neg (by decide), nI_1]
              rw [bI_t (by
                rcases g with g | ⟨e', g1, g2⟩
                · exact Or.inl g
                · exact Or.inr ⟨e', by omega, g2⟩)] at this
              exact this
            · rw [bI_f g, if_pos rfl, rI_n (by omega) (by decide), hw.1, endingAt8_s, cP_s, isAs8_s h hT hi hbg.1 hbe2 (by omega) he.1, cP_s, nI_1, bI_cg (e2 e)]
              by_cases y : t_w T i = b_w B t k ++ b_en B e
              · rw [bI_t y, if_neg (by decide)]
                rw [bI_t (Or.inr ⟨e, by omega, y⟩)] at this
                exact this
              · rw [bI_f y, if_pos rfl]
                rw [bI_f (by
                  rintro (g1 | ⟨e', g1, g2⟩)
                  · exact g (Or.inl g1)
                  · by_cases q : e' = e
                    · rw [q] at g2; exact y g2
                    · exact g (Or.inr ⟨e', by omega, g2⟩))] at this
                exact this
          · have : e = b_ec B := by omega
            subst this
            rw [if_pos (nI_le (Nat.le_refl _) (by omega)), mH_t (bI_01 _)]
      have fin : f_X8_meets_L63 (fun (v37 : Int32) => mH (v37 = 0 ∨ v37 = 1) (some v37)) σ (nI i) (nI t) (nI (2 + 56 * t + 4 + 13 * k)) fu (bI (t_w T i = b_w B t k)) 0 = some (bI (mt B T i t k)) := by
        by_cases hb1 : b_be B t = 1
        · have := key hb1 fu 0 (Nat.zero_le _) (by unfold fu; omega)
          rw [bI_cg (show (t_w T i = b_w B t k ∨ ∃ e', e' < 0 ∧ t_w T i = b_w B t k ++ b_en B e') ↔ t_w T i = b_w B t k from ⟨fun g => by rcases g with g | ⟨e', g1, -⟩; exact g; omega, Or.inl⟩)] at this
          refine this.trans (congrArg some (bI_cg ?_))
          unfold mt
          constructor
          · rintro (g | ⟨e, g1, g2⟩)
            · exact ⟨hl, Or.inl g⟩
            · exact ⟨hl, Or.inr ⟨hb1, e, g1, g2⟩⟩
          · rintro ⟨-, g | ⟨-, g⟩⟩
            · exact Or.inl g
            · exact Or.inr g
        · rw [e0 _ (bI_01 _) hb1]
          refine congrArg some (bI_cg ?_)
          unfold mt
          constructor
          · intro g; exact ⟨hl, Or.inl g⟩
          · rintro ⟨-, g | ⟨g, -⟩⟩
            · exact g
            · exact absurd g hb1
      by_cases y : t_w T i = b_w B t k
      · rw [if_pos (by rw [y])]
        rw [bI_t y] at fin
        exact fin
      · rw [if_neg (fun g => y (e1.mp ((nI_eq (by omega) (by omega)).mp g)))]
        rw [bI_f y] at fin
        exact fin
    · rw [bI_f hbg, if_pos rfl]
      refine congrArg some (bI_f ?_).symm
      rintro ⟨-, g | ⟨-, e, -, g⟩⟩
      · exact hbg (by rw [g]; exact ⟨Nat.le_refl _, fun m hm => by rw [Nat.zero_add]⟩)
      · exact hbg (app_iff.mp g).1
  · rw [if_pos (by rw [show t_l T i = 1 by omega]; rfl)]
    exact congrArg some (bI_f (fun g => hl g.1)).symm
end FO
end
section
/-! so many words are met; found: the reference -/
section ME
variable {σ : Sg} {B : Bk} {T : Tx}
theorem isMet8_L0 {K : Int32 → Option Int32} {a b c x : Int32} : f_X8_isMet_L24 K σ a b c fu 0 x = K 0 := by
  show f_X8_isMet_L24 K σ a b c (4999 + 1) 0 x = K 0
  rw [f_X8_isMet_L24]
  split
  · rfl
  · rw [if_pos rfl]
theorem isMet8_n {a b c : Int32} (h : b < 0) : f_X8_isMet σ a b c = some 0 := by
  unfold f_X8_isMet
  rw [jn_s, if_pos h, isMet8_L0]
  rfl
theorem isMet8_s (h : txR σ T) (hT : Tok T) (hb : bookP (σ.1 44) B) (hB : Bok B) {i t m : Nat} (hi : i ≤ 100) (ht : t < b_tc B) (hm : m ≤ b_n B t) : f_X8_isMet σ (nI t) (nI i) (nI m) = some (bI (i + m ≤ t_c T ∧ met B T t i m)) := by
  have h60 := hT.1
  have h8 := hB.1
  have hn := (hB.2.2.1 t ht).1
  have e6 : σ.1 43 6 = nI (t_c T) := h.1
  unfold f_X8_isMet
  rw [jn_s, if_neg (nI_pos (by omega)), e6, nI_add]
  by_cases z : t_c T < i + m
  · rw [if_pos (nI_lt z (by omega)), isMet8_L0]
    exact congrArg some (bI_f (fun g => by have := g.1; omega)).symm
  · rw [if_neg (nI_nlt (by omega) (by omega))]
    have z0 : ∀ n x, f_X8_isMet_L24 (fun (v18 : Int32) => mH (v18 = 0 ∨ v18 = 1) (some v18)) σ (nI t) (nI i) (nI m) (n + 1) 0 x = some 0 := by
      intro n x
      rw [f_X8_isMet_L24]
      split
      · rfl
      · rw [if_pos rfl]; rfl
    have key : ∀ n j, j ≤ m → m < n + j → met B T t i j → f_X8_isMet_L24 (fun (v18 : Int32) => mH (v18 = 0 ∨ v18 = 1) (some v18)) σ (nI t) (nI i) (nI m) n 1 (nI j) = some (bI (met B T t i m)) := by
      intro n
      induction n with
      | zero => intro j h1 h2; omega
      | succ n ih =>
        intro j h1 h2 hj
        rw [f_X8_isMet_L24]
        rcases Nat.lt_or_ge j m with q | q
        · have c1 := h.2.2.1 (i + j) (by omega)
          have c2 := h.2.2.1 i (by omega)
          have d1 := (hT.2.1 (i + j) (by omega)).2.2
          have d2 := (hT.2.1 i (by omega)).2.2
          obtain ⟨n', rfl⟩ : ∃ n', n = n' + 1 := ⟨n - 1, by omega⟩
          rw [if_neg (fun hc => by have := (nI_leI (by omega) (by omega)).mp hc; omega), if_neg (by decide), nI_add, i15, i15, nI_1, nI_1, rI_n (by omega) (by decide), rI_n (by omega) (by decide), c1.2.1, c2.2.1]
          simp only [jn_s]
          by_cases y : t_s T (i + j) = t_s T i
          · rw [if_pos (by rw [y]), meets8_s h hT hb hB (by omega) ht (by omega), cP_s]
            by_cases w : mt B T (i + j) t j
            · rw [bI_t w, if_neg (by decide), nI_1]
              exact ih (j + 1) (by omega) (by omega) (met_succ.mpr ⟨hj, y, w⟩)
            · rw [bI_f w, if_pos rfl, z0]
              exact congrArg some (bI_f (fun g => w (g j q).2)).symm
          · rw [if_neg (fun g => y ((nI_eq (by omega) (by omega)).mp g)), z0]
            exact congrArg some (bI_f (fun g => y (g j q).1)).symm
        · have : j = m := by omega
          subst this
          rw [if_pos (nI_le (Nat.le_refl _) (by omega)), bI_t hj]
          rfl
    refine (key fu 0 (Nat.zero_le _) (by unfold fu; omega) (fun k hk => absurd hk (Nat.not_lt_zero k))).trans (congrArg some (bI_cg ⟨fun g => ⟨by omega, g⟩, fun g => g.2⟩))
theorem isFound8_s (h : txR σ T) (hT : Tok T) (hb : bookP (σ.1 44) B) (hB : Bok B) {i t : Nat} (hi : i ≤ 100) (ht : t < b_tc B) : f_X8_isFound σ (nI t) (nI i) = some (bI (fB B T t i = true)) := by
  have h8 := hB.1
  unfold f_X8_isFound
  rw [termAt8_s, cP_s, nI_p0, rI_n (by omega) (by decide), (hb.2.2.1 t ht).1, isMet8_s h hT hb hB hi ht (Nat.le_refl _), cP_s, mH_t (bI_01 _)]
  exact congrArg some (bI_cg fB_iff.symm)
theorem isFound8_n (hb : bookP (σ.1 44) B) (hB : Bok B) {b : Int32} {t : Nat} (hn : b < 0) (ht : t < b_tc B) : f_X8_isFound σ (nI t) b = some 0 := by
  have h8 := hB.1
  unfold f_X8_isFound
  rw [termAt8_s, cP_s, nI_p0, rI_n (by omega) (by decide), isMet8_n hn, cP_s, mH_t (Or.inl rfl)]
theorem worthOf8_s (hb : bookP (σ.1 44) B) (hB : Bok B) {t : Nat} (ht : t < b_tc B) : f_X8_worthOf σ (nI t) = some (nI (b_we B t * b_n B t)) := by
  have h8 := hB.1
  unfold f_X8_worthOf
  rw [termAt8_s, cP_s, nI_1, rI_n (by omega) (by decide), cP_s, nI_p0, rI_n (by omega) (by decide), (hb.2.2.1 t ht).1, (hb.2.2.1 t ht).2.1, pk_mul]
end ME
/-! the best of some: one and the same, however they come -/
section BE
variable {W0 F0 : Nat} {wo fe sz : Nat → Nat} {P Q : Nat → Prop} {p q : Nat × Nat × Int32}
def beats (W0 F0 : Nat) (wo fe : Nat → Nat) (u : Nat) : Prop := W0 < wo u ∨ (wo u = W0 ∧ fe u ≤ F0)
def geT (wo fe sz : Nat → Nat) (t u : Nat) : Prop := wo u < wo t ∨ (wo u = wo t ∧ (fe t < fe u ∨ (fe t = fe u ∧ (sz u < sz t ∨ (sz u = sz t ∧ t ≤ u)))))
def Best (W0 F0 : Nat) (wo fe sz : Nat → Nat) (P : Nat → Prop) (p : Nat × Nat × Int32) : Prop := (p = (W0, F0, -1) ∧ ∀ u, P u → ¬ beats W0 F0 wo fe u) ∨ ∃ t, t < 8 ∧ P t ∧ p = (wo t, fe t, nI t) ∧ beats W0 F0 wo fe t ∧ ∀ u, P u → geT wo fe sz t u
theorem geT_r (t : Nat) : geT wo fe sz t t := Or.inr ⟨rfl, Or.inr ⟨rfl, Or.inr ⟨rfl, Nat.le_refl _⟩⟩⟩
theorem geT_t {a b c : Nat} (h1 : geT wo fe sz a b) (h2 : geT wo fe sz b c) : geT wo fe sz a c := by
  unfold geT at h1 h2 ⊢
  omega
theorem geT_a {a b : Nat} (h1 : geT wo fe sz a b) (h2 : geT wo fe sz b a) : a = b := by
  unfold geT at h1 h2
  omega
theorem Best_u (h1 : Best W0 F0 wo fe sz P p) (h2 : Best W0 F0 wo fe sz P q) : p = q := by
  rcases h1 with ⟨a1, a2⟩ | ⟨t, -, a1, a2, a3, a4⟩
  · rcases h2 with ⟨b1, b2⟩ | ⟨u, -, b1, b2, b3, b4⟩
    · rw [a1, b1]
    · exact absurd b3 (a2 u b1)
  · rcases h2 with ⟨b1, b2⟩ | ⟨u, -, b1, b2, b3, b4⟩
    · exact absurd a3 (b2 t a1)
    · rw [a2, b2, geT_a (a4 u b1) (b4 t a1)]
theorem Best_c (h : Best W0 F0 wo fe sz P p) (hQ : ∀ u, Q u ↔ P u) : Best W0 F0 wo fe sz Q p := by
  have : Q = P := funext fun u => propext (hQ u)
  rw [this]
  exact h
theorem Best_take {t : Nat} (hp : Best W0 F0 wo fe sz P p) (hQ : ∀ u, Q u ↔ P u ∨ u = t) (h8 : t < 8) (h0 : p = (W0, F0, -1) → beats W0 F0 wo fe t) (h1 : ∀ v, v < 8 → P v → p = (wo v, fe v, nI v) → geT wo fe sz t v) : Best W0 F0 wo fe sz Q (wo t, fe t, nI t) := by
  refine Or.inr ⟨t, h8, (hQ t).mpr (Or.inr rfl), rfl, ?_, ?_⟩
  · rcases hp with ⟨a1, a2⟩ | ⟨v, v8, a1, a2, a3, a4⟩
    · exact h0 a1
    · have := h1 v v8 a1 a2
      unfold beats at a3 ⊢
      unfold geT at this
      omega
  · intro u hu
    rcases (hQ u).mp hu with g | g
    · rcases hp with ⟨a1, a2⟩ | ⟨v, v8, a1, a2, a3, a4⟩
      · have g1 := h0 a1
        have g2 := a2 u g
        unfold beats at g1 g2
        unfold geT
        omega
      · exact geT_t (h1 v v8 a1 a2) (a4 u g)
    · rw [g]; exact geT_r t
theorem Best_keep {t : Nat} (hp : Best W0 F0 wo fe sz P p) (hQ : ∀ u, Q u ↔ P u ∨ u = t) (h0 : p = (W0, F0, -1) → ¬ beats W0 F0 wo fe t) (h1 : ∀ v, v < 8 → P v → p = (wo v, fe v, nI v) → geT wo fe sz v t) : Best W0 F0 wo fe sz Q p := by
  rcases hp with ⟨a1, a2⟩ | ⟨v, v8, a1, a2, a3, a4⟩
  · refine Or.inl ⟨a1, fun u hu => ?_⟩
    rcases (hQ u).mp hu with g | g
    · exact a2 u g
    · rw [g]; exact h0 a1
  · refine Or.inr ⟨v, v8, (hQ v).mpr (Or.inl a1), a2, a3, fun u hu => ?_⟩
    rcases (hQ u).mp hu with g | g
    · exact a4 u g
    · rw [g]; exact h1 v v8 a1 a2
end BE
def woF (B : Bk) (W : Nat → Nat) (i t : Nat) : Nat := b_we B t * b_n B t + W (i + b_n B t)
def feF (B : Bk) (F : Nat → Nat) (i t : Nat) : Nat := 1 + F (i + b_n B t)
theorem stp_best {B : Bk} {T : Tx} {W F : Nat → Nat} {i : Nat} (hB : Bok B) : ∀ t, t ≤ b_tc B → Best (W (i + 1)) (F (i + 1)) (woF B W i) (feF B F i) (b_n B) (fun u => fB B T u i = true ∧ u < t) (stp B T W F i t) := by
  have h8 := hB.1
  intro t
  induction t with
  | zero => intro _; exact Or.inl ⟨rfl, fun u hu => absurd hu.2 (Nat.not_lt_zero u)⟩
  | succ t ih =>
    intro ht
    have hp := ih (by omega)
    rw [stp]
    by_cases z : fB B T t i = true
    · have hQ : ∀ u, (fB B T u i = true ∧ u < t + 1) ↔ (fB B T u i = true ∧ u < t) ∨ u = t := by
        intro u
        constructor
        · rintro ⟨g1, g2⟩
          by_cases y : u = t
          · exact Or.inr y
          · exact Or.inl ⟨g1, by omega⟩
        · rintro (⟨g1, g2⟩ | g)
          · exact ⟨g1, by omega⟩
          · rw [g]; exact ⟨z, by omega⟩
      by_cases w : bet B (stp B T W F i t) (b_we B t * b_n B t + W (i + b_n B t)) (1 + F (i + b_n B t)) t
      · rw [if_pos ⟨z, w⟩]
        refine Best_take hp hQ (by omega) (fun e => ?_) (fun v v8 hv e => ?_)
        · rw [e] at w
          unfold bet at w
          unfold beats woF feF
          have w : W (i + 1) < b_we B t * b_n B t + W (i + b_n B t) ∨ (b_we B t * b_n B t + W (i + b_n B t) = W (i + 1) ∧ (1 + F (i + b_n B t) < F (i + 1) ∨ (1 + F (i + b_n B t) = F (i + 1) ∧ _))) := w
          rcases w with w | ⟨w1, w2 | ⟨w2, -⟩⟩
          · exact Or.inl w
          · exact Or.inr ⟨w1, by omega⟩
          · exact Or.inr ⟨w1, by omega⟩
        · rw [e] at w
          unfold bet at w
          unfold geT
          rcases w with w | ⟨w1, w2 | ⟨w2, w3 | w3⟩⟩
          · exact Or.inl w
          · exact Or.inr ⟨w1.symm, Or.inl w2⟩
          · exact absurd w3 (nI_m1 (by omega))
          · have w3 : b_n B (nI v).toNatClampNeg < b_n B t := w3
            rw [nI_clamp (by omega)] at w3
            exact Or.inr ⟨w1.symm, Or.inr ⟨w2, Or.inl w3⟩⟩
      · rw [if_neg (fun g => w g.2)]
        refine Best_keep hp hQ (fun e g => w ?_) (fun v v8 hv e => ?_)
        · rw [e]
          unfold bet
          unfold beats woF feF at g
          rcases g with g | ⟨g1, g2⟩
          · exact Or.inl g
          · rcases Nat.lt_or_ge (1 + F (i + b_n B t)) (F (i + 1)) with y | y
            · exact Or.inr ⟨g1, Or.inl y⟩
            · exact Or.inr ⟨g1, Or.inr ⟨Nat.le_antisymm g2 y, Or.inl rfl⟩⟩
        · rw [e] at w
          unfold bet at w
          have w : ¬ (woF B W i v < woF B W i t ∨ (woF B W i t = woF B W i v ∧ (feF B F i t < feF B F i v ∨ (feF B F i t = feF B F i v ∧ (nI v = -1 ∨ b_n B (nI v).toNatClampNeg < b_n B t))))) := w
          rw [nI_clamp (by omega)] at w
          have hv2 := hv.2
          unfold geT
          rcases Nat.lt_or_ge (woF B W i t) (woF B W i v) with y | y
          · exact Or.inl y
          · have e1 : woF B W i t = woF B W i v := Nat.le_antisymm (Nat.le_of_not_lt (fun g => w (Or.inl g))) y
            rcases Nat.lt_or_ge (feF B F i v) (feF B F i t) with x | x
            · exact Or.inr ⟨e1, Or.inl x⟩
            · have e2 : feF B F i v = feF B F i t := Nat.le_antisymm (Nat.le_of_not_lt (fun g => w (Or.inr ⟨e1, Or.inl g⟩))) x
              have e3 : ¬ b_n B v < b_n B t := fun g => w (Or.inr ⟨e1, Or.inr ⟨e2.symm, Or.inr g⟩⟩)
              exact Or.inr ⟨e1, Or.inr ⟨e2, by omega⟩⟩
    · rw [if_neg (fun g => z g.1)]
      refine Best_c hp (fun u => ⟨fun g => ⟨g.1, ?_⟩, fun g => ⟨g.1, by omega⟩⟩)
      by_cases y : u = t
      · rw [y] at g; exact absurd g.1 z
      · have := g.2; omega
end
section
/-! choosing: the reference -/
def Sy (i : Nat) (s s' : Sg) : Prop := Sm [51, 52, 53] [] s s' ∧ ∀ j, j ≠ i → s'.1 51 j = s.1 51 j ∧ s'.1 52 j = s.1 52 j ∧ s'.1 53 j = s.1 53 j
theorem Sy.rf {i : Nat} {s : Sg} : Sy i s s := ⟨Sm.rf, fun _ _ => ⟨rfl, rfl, rfl⟩⟩
theorem Sy.tr {i : Nat} {a b c : Sg} (h1 : Sy i a b) (h2 : Sy i b c) : Sy i a c := ⟨h1.1.tr h2.1, fun j hj => ⟨((h2.2 j hj).1).trans (h1.2 j hj).1, ((h2.2 j hj).2.1).trans (h1.2 j hj).2.1, ((h2.2 j hj).2.2).trans (h1.2 j hj).2.2⟩⟩
theorem Sy.i {i k : Nat} {a b : Sg} {v : Int32} (h : Sy i a b) (hk : k = 51 ∨ k = 52 ∨ k = 53) : Sy i a (sI b k i v) := ⟨h.1.i (by rcases hk with rfl | rfl | rfl <;> decide), fun j hj => by
  rw [sI_1, sI_1, sI_1, if_neg (fun z => hj z.2), if_neg (fun z => hj z.2), if_neg (fun z => hj z.2)]
  exact h.2 j hj⟩
theorem Sm.bk {L K : List Nat} {a b : Sg} {B : Bk} (u : Sm L K a b) (hL : 44 ∉ L) (h : bookP (a.1 44) B) : bookP (b.1 44) B := by rw [u.1 44 hL]; exact h
theorem Sm.tx {L K : List Nat} {a b : Sg} {T : Tx} (u : Sm L K a b) (hL : 43 ∉ L ∧ 48 ∉ L) (h : txR a T) : txR b T := by
  unfold txR
  rw [u.1 43 hL.1, u.1 48 hL.2]
  exact h
section C8
variable {B : Bk} {T : Tx}
def row8 (s : Sg) (i : Nat) (p : Nat × Nat × Int32) : Prop := s.1 51 i = nI p.1 ∧ s.1 52 i = nI p.2.1 ∧ s.1 53 i = p.2.2
theorem choose8_L74 (hB : Bok B) (hT : Tok T) {i m : Nat} (hi : i < t_c T) (hm : 1 ≤ m ∧ m ≤ 4) {W F : Nat → Nat} (hW : ∀ j, W j ≤ 2160) (hF : ∀ j, F j ≤ 60) (kk : Sg → Option (Unit × Sg)) : ∀ n t s p, t ≤ b_tc B → b_tc B < n + t → bookP (s.1 44) B → txR s T → (∀ j, i < j → j ≤ t_c T → s.1 51 j = nI (W j) ∧ s.1 52 j = nI (F j)) → Best (W (i + 1)) (F (i + 1)) (woF B W i) (feF B F i) (b_n B) (fun u => (fB B T u i = true ∧ u < b_tc B) ∧ (m < b_n B u ∨ (b_n B u = m ∧ u < t))) p → row8 s i p → ∃ s' p', f_X8_choose_L74 kk (nI i) (nI m) n s (nI t) = kk s' ∧ Sy i s s' ∧ Best (W (i + 1)) (F (i + 1)) (woF B W i) (feF B F i) (b_n B) (fun u => (fB B T u i = true ∧ u < b_tc B) ∧ m ≤ b_n B u) p' ∧ row8 s' i p' := by
  have h8 := hB.1
  have h60 := hT.1
  intro n
  induction n with
  | zero => intro t s p h1 h2; omega
  | succ n ih =>
    intro t s p h1 h2 hb htx hr hp hrow
    obtain ⟨r1, r2, r3⟩ := hrow
    have hbd : p.1 ≤ 2196 ∧ p.2.1 ≤ 61 := by
      rcases hp with ⟨e, -⟩ | ⟨v, -, ⟨⟨-, hv⟩, -⟩, e, -⟩
      · rw [e]
        have g1 := hW (i + 1)
        have g2 := hF (i + 1)
        exact ⟨by show W (i + 1) ≤ 2196; omega, by show F (i + 1) ≤ 61; omega⟩
      · rw [e]
        have g1 := hW (i + b_n B v)
        have g2 := hF (i + b_n B v)
        have g3 := we_le hB hv
        exact ⟨by show b_we B v * b_n B v + W (i + b_n B v) ≤ 2196; omega, by show 1 + F (i + b_n B v) ≤ 61; omega⟩
    obtain ⟨bd1, bd2⟩ := hbd
    rw [f_X8_choose_L74, show rI s 44 475 0 = rI (α := Unit × Sg) s 44 475 (nI 0) from rfl, rI_n (by omega) (by decide), hb.1]
    rcases Nat.lt_or_ge t (b_tc B) with q | q
    · rw [if_neg (fun z => by have := (nI_leI (by omega) (by omega)).mp z; omega), termAt8_s, cP_s, nI_p0, rI_n (by omega) (by decide), (hb.2.2.1 t q).1]
      have hn := (hB.2.2.1 t q).1
      have skip : (¬ (b_n B t = m ∧ fB B T t i = true)) → ∃ s' p', f_X8_choose_L74 kk (nI i) (nI m) n s (nI (t + 1)) = kk s' ∧ Sy i s s' ∧ Best (W (i + 1)) (F (i + 1)) (woF B W i) (feF B F i) (b_n B) (fun u => (fB B T u i = true ∧ u < b_tc B) ∧ m ≤ b_n B u) p' ∧ row8 s' i p' := fun hno =>
        ih (t + 1) s p (by omega) (by omega) hb htx hr (Best_c hp (fun u => by
          constructor
          · rintro ⟨⟨g1, g2⟩, g3 | ⟨g3, g4⟩⟩
            · exact ⟨⟨g1, g2⟩, Or.inl g3⟩
            · refine ⟨⟨g1, g2⟩, Or.inr ⟨g3, ?_⟩⟩
              by_cases y : u = t
              · rw [y] at g1 g3; exact absurd ⟨g3, g1⟩ hno
              · omega
          · rintro ⟨⟨g1, g2⟩, g3 | ⟨g3, g4⟩⟩
            · exact ⟨⟨g1, g2⟩, Or.inl g3⟩
            · exact ⟨⟨g1, g2⟩, Or.inr ⟨g3, by omega⟩⟩)) ⟨r1, r2, r3⟩
      by_cases zn : b_n B t = m
      · rw [if_pos (by rw [zn]), isFound8_s htx hT hb hB (by omega) q, cP_s]
        by_cases z : fB B T t i = true
        · have hz := (fB_iff.mp z).1
          rw [zn] at hz
          have hw := we_le hB q
          have hw1 := hW (i + m)
          have hf1 := hF (i + m)
          rw [bI_t z, if_neg (by decide), worthOf8_s hb hB q, cP_s, nI_add, rI_n (by omega) (by decide), rI_n (by omega) (by decide), rI_n (by omega) (by decide), (hr (i + m) (by omega) hz).1, (hr (i + m) (by omega) hz).2, r1, nI_add, n1_add, nI_1]
          simp only [jn_s]
          have ew : woF B W i t = b_we B t * b_n B t + W (i + m) := by unfold woF; rw [zn]
          have ef : feF B F i t = 1 + F (i + m) := by unfold feF; rw [zn]
          have hQ : ∀ u, ((fB B T u i = true ∧ u < b_tc B) ∧ (m < b_n B u ∨ (b_n B u = m ∧ u < t + 1))) ↔ ((fB B T u i = true ∧ u < b_tc B) ∧ (m < b_n B u ∨ (b_n B u = m ∧ u < t))) ∨ u = t := by
            intro u
            constructor
            · rintro ⟨⟨g1, g2⟩, g3 | ⟨g3, g4⟩⟩
              · exact Or.inl ⟨⟨g1, g2⟩, Or.inl g3⟩
              · by_cases y : u = t
                · exact Or.inr y
                · exact Or.inl ⟨⟨g1, g2⟩, Or.inr ⟨g3, by omega⟩⟩
            · rintro (⟨⟨g1, g2⟩, g3 | ⟨g3, g4⟩⟩ | g)
              · exact ⟨⟨g1, g2⟩, Or.inl g3⟩
              · exact ⟨⟨g1, g2⟩, Or.inr ⟨g3, by omega⟩⟩
              · rw [g]; exact ⟨⟨z, q⟩, Or.inr ⟨zn, by omega⟩⟩
          have take : (p.1 < woF B W i t ∨ (woF B W i t = p.1 ∧ (feF B F i t < p.2.1 ∨ (feF B F i t = p.2.1 ∧ p.2.2 = -1)))) → ∃ s' p', (wI s 51 65 (nI i) (nI (b_we B t * b_n B t + W (i + m))) fun s45 => (wI s45 52 65 (nI i) (nI (1 + F (i + m))) fun s48 => (wI s48 53 60 (nI i) (nI t) fun s51 => (f_X8_choose_L74 kk (nI i) (nI m) n (s51) (nI (t + 1)))))) = kk s' ∧ Sy i s s' ∧ Best (W (i + 1)) (F (i + 1)) (woF B W i) (feF B F i) (b_n B) (fun u => (fB B T u i = true ∧ u < b_tc B) ∧ m ≤ b_n B u) p' ∧ row8 s' i p' := by
            intro bt
            rw [wI_n (by omega) (by decide), wI_n (by omega) (by decide), wI_n (by omega) (by decide)]
            have u : Sy i s (sI (sI (sI s 51 i (nI (b_we B t * b_n B t + W (i + m)))) 52 i (nI (1 + F (i + m)))) 53 i (nI t)) := ((Sy.rf.i (by decide)).i (by decide)).i (by decide)
            obtain ⟨s', p', d1, d2, d3⟩ := ih (t + 1) _ (woF B W i t, feF B F i t, nI t) (by omega) (by omega) (u.1.bk (by decide) hb) (u.1.tx (by decide) htx) (fun j h3 h4 => by rw [(u.2 j (by omega)).1, (u.2 j (by omega)).2.1]; exact hr j h3 h4) (Best_take hp hQ (by omega) (fun e => by
              rw [e] at bt
              unfold beats
              rcases bt with g | ⟨g1, g2 | ⟨g2, -⟩⟩
              · exact Or.inl g
              · exact Or.inr ⟨g1, Nat.le_of_lt g2⟩
              · exact Or.inr ⟨g1, Nat.le_of_eq g2⟩) (fun v v8 hv e => by
              rw [e] at bt
              unfold geT
              rcases bt with g | ⟨g1, g2 | ⟨g2, g3⟩⟩
              · exact Or.inl g
              · exact Or.inr ⟨g1.symm, Or.inl g2⟩
              · exact absurd g3 (nI_m1 (by omega)))) ⟨by rw [sI_ne _ (by decide), sI_ne _ (by decide), sI_1, if_pos ⟨rfl, rfl⟩, ew], by rw [sI_ne _ (by decide), sI_1, if_pos ⟨rfl, rfl⟩, ef], by rw [sI_1, if_pos ⟨rfl, rfl⟩]⟩
            exact ⟨s', p', d1, u.tr d2, d3⟩
          have keep : (¬ (p.1 < woF B W i t ∨ (woF B W i t = p.1 ∧ (feF B F i t < p.2.1 ∨ (feF B F i t = p.2.1 ∧ p.2.2 = -1))))) → ∃ s' p', f_X8_choose_L74 kk (nI i) (nI m) n s (nI (t + 1)) = kk s' ∧ Sy i s s' ∧ Best (W (i + 1)) (F (i + 1)) (woF B W i) (feF B F i) (b_n B) (fun u => (fB B T u i = true ∧ u < b_tc B) ∧ m ≤ b_n B u) p' ∧ row8 s' i p' := by
            intro bt
            refine ih (t + 1) s p (by omega) (by omega) hb htx hr (Best_keep hp hQ (fun e g => bt ?_) (fun v v8 hv e => ?_)) ⟨r1, r2, r3⟩
            · rw [e]
              unfold beats at g
              rcases g with g | ⟨g1, g2⟩
              · exact Or.inl g
              · rcases Nat.lt_or_ge (feF B F i t) (F (i + 1)) with y | y
                · exact Or.inr ⟨g1, Or.inl y⟩
                · exact Or.inr ⟨g1, Or.inr ⟨Nat.le_antisymm g2 y, rfl⟩⟩
            · rw [e] at bt
              have bt : ¬ (woF B W i v < woF B W i t ∨ (woF B W i t = woF B W i v ∧ (feF B F i t < feF B F i v ∨ (feF B F i t = feF B F i v ∧ nI v = -1)))) := bt
              have hv2 := hv.2
              unfold geT
              rcases Nat.lt_or_ge (woF B W i t) (woF B W i v) with y | y
              · exact Or.inl y
              · have e1 : woF B W i t = woF B W i v := Nat.le_antisymm (Nat.le_of_not_lt (fun g => bt (Or.inl g))) y
                rcases Nat.lt_or_ge (feF B F i v) (feF B F i t) with x | x
                · exact Or.inr ⟨e1, Or.inl x⟩
                · have e2 : feF B F i v = feF B F i t := Nat.le_antisymm (Nat.le_of_not_lt (fun g => bt (Or.inr ⟨e1, Or.inl g⟩))) x
                  exact Or.inr ⟨e1, Or.inr ⟨e2, by omega⟩⟩
          rw [← ew] at take ⊢
          rw [← ef] at take ⊢
          have b3 : woF B W i t < 2 ^ 31 := by rw [ew]; omega
          have b4 : feF B F i t < 2 ^ 31 := by rw [ef]; omega
          by_cases c1 : p.1 < woF B W i t
          · rw [if_pos (nI_lt c1 b3), if_neg (by decide)]
            exact take (Or.inl c1)
          · rw [if_neg (nI_nlt (by omega) (by omega)), rI_n (by omega) (by decide), r1]
            by_cases c2 : woF B W i t = p.1
            · rw [if_pos (by rw [c2]), rI_n (by omega) (by decide), r2]
              by_cases c3 : feF B F i t < p.2.1
              · rw [if_pos (nI_lt c3 (by omega)), if_neg (by decide)]
                exact take (Or.inr ⟨c2, Or.inl c3⟩)
              · rw [if_neg (nI_nlt (by omega) b4), rI_n (by omega) (by decide), r2]
                by_cases c4 : feF B F i t = p.2.1
                · rw [if_pos (by rw [c4]), rI_n (by omega) (by decide), r3]
                  by_cases c5 : p.2.2 = -1
                  · rw [if_pos c5, if_neg (by decide)]
                    exact take (Or.inr ⟨c2, Or.inr ⟨c4, c5⟩⟩)
                  · rw [if_neg c5, if_pos trivial]
                    refine keep ?_
                    rintro (g | ⟨-, g | ⟨-, g⟩⟩)
                    · exact c1 g
                    · exact c3 g
                    · exact c5 g
                · rw [if_neg (fun g => c4 ((nI_eq b4 (by omega)).mp g)), if_pos trivial]
                  refine keep ?_
                  rintro (g | ⟨-, g | ⟨g, -⟩⟩)
                  · exact c1 g
                  · exact c3 g
                  · exact c4 g
            · rw [if_neg (fun g => c2 ((nI_eq b3 (by omega)).mp g)), if_pos trivial]
              refine keep ?_
              rintro (g | ⟨g, -⟩)
              · exact c1 g
              · exact c2 g
        · rw [bI_f z, if_pos rfl, nI_1]
          exact skip (fun g => z g.2)
      · rw [if_neg (fun g => zn ((nI_eq (by omega) (by omega)).mp g)), nI_1]
        exact skip (fun g => zn g.1)
    · have : t = b_tc B := by omega
      subst this
      rw [if_pos (nI_le (Nat.le_refl _) (by omega))]
      refine ⟨s, p, rfl, Sy.rf, Best_c hp (fun u => ?_), r1, r2, r3⟩
      constructor
      · rintro ⟨⟨g1, g2⟩, g3⟩
        exact ⟨⟨g1, g2⟩, by omega⟩
      · rintro ⟨⟨g1, g2⟩, g3⟩
        exact ⟨⟨g1, g2⟩, by omega⟩
theorem choose8_L68 (hB : Bok B) (hT : Tok T) {i : Nat} (hi : i < t_c T) {W F : Nat → Nat} (hW : ∀ j, W j ≤ 2160) (hF : ∀ j, F j ≤ 60) (kk : Sg → Option (Unit × Sg)) : ∀ n m s p, m ≤ 4 → m < n → bookP (s.1 44) B → txR s T → (∀ j, i < j → j ≤ t_c T → s.1 51 j = nI (W j) ∧ s.1 52 j = nI (F j)) → Best (W (i + 1)) (F (i + 1)) (woF B W i) (feF B F i) (b_n B) (fun u => (fB B T u i = true ∧ u < b_tc B) ∧ m < b_n B u) p → row8 s i p → ∃ s' p', f_X8_choose_L68 kk (nI i) n s (nI m) = kk s' ∧ Sy i s s' ∧ Best (W (i + 1)) (F (i + 1)) (woF B W i) (feF B F i) (b_n B) (fun u => fB B T u i = true ∧ u < b_tc B) p' ∧ row8 s' i p' := by
  have h8 := hB.1
  intro n
  induction n with
  | zero => intro m s p h1 h2; omega
  | succ n ih =>
    intro m s p h1 h2 hb htx hr hp hrow
    rw [f_X8_choose_L68]
    by_cases z : m = 0
    · subst z
      rw [if_pos (by decide)]
      refine ⟨s, p, rfl, Sy.rf, Best_c hp (fun u => ⟨fun g => ⟨g, ?_⟩, fun g => g.1⟩), hrow⟩
      have := (hB.2.2.1 u g.2).1
      omega
    · rw [if_neg (nI_nle (by omega) (by omega))]
      obtain ⟨s1, p1, d1, d2, d3, d4⟩ := choose8_L74 hB hT hi (m := m) (by omega) hW hF (fun (s75 : Sg) => f_X8_choose_L68 kk (nI i) n (s75) ((nI m + (-1)))) fu 0 s p (Nat.zero_le _) (by unfold fu; omega) hb htx hr (Best_c hp (fun u => ⟨fun g => ⟨g.1, by have := g.2; omega⟩, fun g => ⟨g.1, Or.inl g.2⟩⟩)) hrow
      have d1 : f_X8_choose_L74 (fun (s75 : Sg) => f_X8_choose_L68 kk (nI i) n (s75) ((nI m + (-1)))) (nI i) (nI m) fu s 0 = f_X8_choose_L68 kk (nI i) n s1 (nI m + (-1)) := d1
      rw [d1, add_m1, nI_s1 (by omega)]
      obtain ⟨s2, p2, e1, e2, e3⟩ := ih (m - 1) s1 p1 (by omega) (by omega) (d2.1.bk (by decide) hb) (d2.1.tx (by decide) htx) (fun j h3 h4 => by rw [(d2.2 j (by omega)).1, (d2.2 j (by omega)).2.1]; exact hr j h3 h4) (Best_c d3 (fun u => ⟨fun g => ⟨g.1, by have := g.2; omega⟩, fun g => ⟨g.1, by have := g.2; omega⟩⟩)) d4
      exact ⟨s2, p2, e1, d2.tr e2, e3⟩
theorem choose8_L27 (hB : Bok B) (hT : Tok T) (kk : Sg → Option (Unit × Sg)) : ∀ n m s, m ≤ t_c T → m < n → bookP (s.1 44) B → txR s T → (∀ j, m ≤ j → j ≤ t_c T → s.1 51 j = nI ((dp B T (t_c T - m)).1 j) ∧ s.1 52 j = nI ((dp B T (t_c T - m)).2.1 j)) → (∀ j, m ≤ j → j < t_c T → s.1 53 j = (dp B T (t_c T - m)).2.2 j) → ∃ s', f_X8_choose_L27 kk n s (nI m - 1) = kk s' ∧ Sm [51, 52, 53] [] s s' ∧ (∀ i, i ≤ t_c T → s'.1 51 i = nI (wth B T i)) ∧ ∀ i, i < t_c T → s'.1 53 i = tk B T i := by
  have h8 := hB.1
  have h60 := hT.1
  intro n
  induction n with
  | zero => intro m s h1 h2; omega
  | succ n ih =>
    intro m s h1 h2 hb htx hr ht
    rw [f_X8_choose_L27]
    by_cases z : m = 0
    · subst z
      rw [if_pos (show nI 0 - 1 < 0 by decide)]
      exact ⟨s, rfl, Sm.rf, fun i hi => (hr i (Nat.zero_le _) hi).1, fun i hi => ht i (Nat.zero_le _) hi⟩
    · have hd := dp_ok (T := T) hB (t_c T - m)
      have e0 : t_c T - (m - 1) = (t_c T - m) + 1 := by omega
      have e1 : t_c T - ((t_c T - m) + 1) = m - 1 := by omega
      have e2 : m - 1 + 1 = m := by omega
      rw [nI_s1 (by omega), if_neg (nI_pos (by omega)), wI_n (by omega) (by decide), nI_1, e2, rI_n (by omega) (by decide), wI_n (by omega) (by decide), rI_n (by omega) (by decide), wI_n (by omega) (by decide), sI_ne s (by decide), (hr m (Nat.le_refl _) h1).1, sI_ne _ (by decide), sI_ne s (by decide), (hr m (Nat.le_refl _) h1).2]
      have u : Sy (m - 1) s (sI (sI (sI s 53 (m - 1) (-1)) 51 (m - 1) (nI ((dp B T (t_c T - m)).1 m))) 52 (m - 1) (nI ((dp B T (t_c T - m)).2.1 m))) := ((Sy.rf.i (by decide)).i (by decide)).i (by decide)
      have hW : ∀ j, (dp B T (t_c T - m)).1 j ≤ 2160 := fun j => by have := (hd j).1; omega
      have hF : ∀ j, (dp B T (t_c T - m)).2.1 j ≤ 60 := fun j => by have := (hd j).2.1; omega
      obtain ⟨s', p', d1, d2, d3, d4, d5, d6⟩ := choose8_L68 hB hT (i := m - 1) (by omega) hW hF (fun (s77 : Sg) => f_X8_choose_L27 kk n (s77) ((nI (m - 1) + (-1)))) fu 4 _ ((dp B T (t_c T - m)).1 m, (dp B T (t_c T - m)).2.1 m, -1) (Nat.le_refl _) (by decide) (u.1.bk (by decide) hb) (u.1.tx (by decide) htx) (fun j h3 h4 => by rw [(u.2 j (by omega)).1, (u.2 j (by omega)).2.1]; exact hr j (by omega) h4) (Or.inl ⟨by rw [e2], fun v hv => by
        have := (hB.2.2.1 v hv.1.2).1
        have := hv.2
        omega⟩) ⟨by rw [sI_ne _ (by decide), sI_1, if_pos ⟨rfl, rfl⟩], by rw [sI_1, if_pos ⟨rfl, rfl⟩], by rw [sI_ne _ (by decide), sI_ne _ (by decide), sI_1, if_pos ⟨rfl, rfl⟩]⟩
      have d1 : f_X8_choose_L68 (fun (s77 : Sg) => f_X8_choose_L27 kk n (s77) ((nI (m - 1) + (-1)))) (nI (m - 1)) fu (sI (sI (sI s 53 (m - 1) (-1)) 51 (m - 1) (nI ((dp B T (t_c T - m)).1 m))) 52 (m - 1) (nI ((dp B T (t_c T - m)).2.1 m))) 4 = f_X8_choose_L27 kk n s' (nI (m - 1) + (-1)) := d1
      have hu := Best_u d3 (stp_best (T := T) hB (W := (dp B T (t_c T - m)).1) (F := (dp B T (t_c T - m)).2.1) (i := m - 1) (b_tc B) (Nat.le_refl _))
      subst hu
      rw [d1, add_m1]
      have v := u.tr d2
      have q1 : ∀ j, (dp B T (t_c T - (m - 1))).1 j = if j = m - 1 then (stp B T (dp B T (t_c T - m)).1 (dp B T (t_c T - m)).2.1 (m - 1) (b_tc B)).1 else (dp B T (t_c T - m)).1 j := fun j => by rw [e0, dp, e1]
      have q2 : ∀ j, (dp B T (t_c T - (m - 1))).2.1 j = if j = m - 1 then (stp B T (dp B T (t_c T - m)).1 (dp B T (t_c T - m)).2.1 (m - 1) (b_tc B)).2.1 else (dp B T (t_c T - m)).2.1 j := fun j => by rw [e0, dp, e1]
      have q3 : ∀ j, (dp B T (t_c T - (m - 1))).2.2 j = if j = m - 1 then (stp B T (dp B T (t_c T - m)).1 (dp B T (t_c T - m)).2.1 (m - 1) (b_tc B)).2.2 else (dp B T (t_c T - m)).2.2 j := fun j => by rw [e0, dp, e1]
      obtain ⟨s2, c1, c2, c3⟩ := ih (m - 1) s' (by omega) (by omega) (v.1.bk (by decide) hb) (v.1.tx (by decide) htx) (fun j h3 h4 => by
        rw [q1, q2]
        by_cases y : j = m - 1
        · rw [if_pos y, if_pos y, y]; exact ⟨d4, d5⟩
        · rw [if_neg y, if_neg y, (v.2 j y).1, (v.2 j y).2.1]; exact hr j (by omega) h4) (fun j h3 h4 => by
        rw [q3]
        by_cases y : j = m - 1
        · rw [if_pos y, y]; exact d6
        · rw [if_neg y, (v.2 j y).2.2]; exact ht j (by omega) h4)
      exact ⟨s2, c1, v.1.tr c2, c3⟩
theorem choose8_L286 {i m : Nat} (him : i + m ≤ 60) (kk : Sg → Option (Unit × Sg)) : ∀ n k s, k ≤ m → m < n + k → ∃ s', f_X8_choose_L286 kk (nI i) (nI m) n s (nI k) = kk s' ∧ Sm [53] [] s s' ∧ ∀ j, s'.1 53 j = if i + k ≤ j ∧ j < i + m then -1 else s.1 53 j := by
  intro n
  induction n with
  | zero => intro k s h1 h2; omega
  | succ n ih =>
    intro k s h1 h2
    rw [f_X8_choose_L286]
    rcases Nat.lt_or_ge k m with q | q
    · rw [if_neg (fun z => by have := (nI_leI (by omega) (by omega)).mp z; omega), nI_add, wI_n (by omega) (by decide), nI_1]
      obtain ⟨s', d1, d2, d3⟩ := ih (k + 1) (sI s 53 (i + k) (-1)) (by omega) (by omega)
      refine ⟨s', d1, (Sm.rf.i (by decide)).tr d2, fun j => ?_⟩
      rw [d3, sI_1]
      by_cases y : j = i + k
      · rw [if_neg (by omega), if_pos ⟨rfl, y⟩, if_pos (by omega)]
      · by_cases w : i + k ≤ j ∧ j < i + m
        · rw [if_pos (by omega), if_pos w]
        · rw [if_neg (by omega), if_neg (fun g => y g.2), if_neg w]
    · have : k = m := by omega
      subst this
      rw [if_pos (nI_le (Nat.le_refl _) (by omega))]
      exact ⟨s, rfl, Sm.rf, fun j => by rw [if_neg (by omega)]⟩
/-- the words behind the first of what is chosen -/
theorem fr_in {i n : Nat} (h : fr B T (i + 1) = i + n) : ∀ d, i + 1 + d ≤ i + n → fr B T (i + 1 + d) = i + n := by
  intro d
  induction d with
  | zero => intro _; exact h
  | succ d ih =>
    intro hd
    have h1 := ih (by omega)
    have := (ch_A (B := B) (T := T) (i := i + 1 + d) (by omega)).2.1
    rw [show i + 1 + (d + 1) = i + 1 + d + 1 by omega, this, h1]
theorem ch_in {i n j : Nat} (h : fr B T (i + 1) = i + n) (h1 : i + 1 ≤ j) (h2 : j < i + n) : ch B T j = -1 := by
  have := fr_in h (j - (i + 1)) (by omega)
  rw [show i + 1 + (j - (i + 1)) = j by omega] at this
  exact (ch_A (by omega)).1
theorem choose8_L245 (hB : Bok B) (hT : Tok T) : ∀ n i s, i ≤ t_c T → t_c T < n + i → bookP (s.1 44) B → txR s T → fr B T i ≤ i → (∀ j, j < i → s.1 53 j = ch B T j) → (∀ j, i ≤ j → j < t_c T → s.1 53 j = tk B T j) → ∃ s', f_X8_choose_L245 (fun (s100 : Sg) => some ((), s100)) n s (nI i) = some ((), s') ∧ Sm [53] [] s s' ∧ ∀ j, j < t_c T → s'.1 53 j = ch B T j := by
  have h8 := hB.1
  have h60 := hT.1
  intro n
  induction n with
  | zero => intro i s h1 h2; omega
  | succ n ih =>
    intro i s h1 h2 hb htx hf hc ht
    have e6 : s.1 43 6 = nI (t_c T) := htx.1
    rw [f_X8_choose_L245, e6]
    rcases Nat.lt_or_ge i (t_c T) with q | q
    · rw [if_neg (fun z => by have := (nI_leI (by omega) (by omega)).mp z; omega), rI_n (by omega) (by decide), ht i (Nat.le_refl _) q]
      simp only [jn_s]
      rcases ch_or (T := T) hB i with ⟨g1, g2, g3, g4⟩ | ⟨g0, u, hu, hfu, g1, g2, g3, g4⟩
      · rw [g4 hf, if_pos rfl]
        obtain ⟨s', d1, d2, d3⟩ := choose8_L286 (i := i) (m := 1) (by omega) (fun (s89 : Sg) => f_X8_choose_L245 (fun (s100 : Sg) => some ((), s100)) n (s89) (nI i + 1)) fu 1 s (by omega) (by decide)
        have d1 : f_X8_choose_L286 (fun (s89 : Sg) => f_X8_choose_L245 (fun (s100 : Sg) => some ((), s100)) n (s89) (nI i + 1)) (nI i) 1 fu s 1 = f_X8_choose_L245 (fun (s100 : Sg) => some ((), s100)) n s' (nI i + 1) := d1
        rw [d1, nI_1]
        have same : ∀ j, s'.1 53 j = s.1 53 j := fun j => by rw [d3, if_neg (by omega)]
        obtain ⟨s2, c1, c2, c3⟩ := ih (i + 1) s' (by omega) (by omega) (d2.bk (by decide) hb) (d2.tx (by decide) htx) (by omega) (fun j hj => by
          rw [same]
          by_cases y : j = i
          · rw [y, ht i (Nat.le_refl _) q, g4 hf, g1]
          · exact hc j (by omega)) (fun j h3 h4 => by rw [same]; exact ht j (by omega) h4)
        exact ⟨s2, c1, d2.tr c2, c3⟩
      · have hn := (hB.2.2.1 u hu).1
        have hz := hfu.1
        rw [g1, if_neg (nI_m1 (by omega)), rI_n (by omega) (by decide), ht i (Nat.le_refl _) q, g1, termAt8_s, cP_s, nI_p0, rI_n (by omega) (by decide), (hb.2.2.1 u hu).1]
        obtain ⟨s', d1, d2, d3⟩ := choose8_L286 (i := i) (m := b_n B u) (by omega) (fun (s89 : Sg) => f_X8_choose_L245 (fun (s100 : Sg) => some ((), s100)) n (s89) (nI i + nI (b_n B u))) fu 1 s (by omega) (by unfold fu; omega)
        have d1 : f_X8_choose_L286 (fun (s89 : Sg) => f_X8_choose_L245 (fun (s100 : Sg) => some ((), s100)) n (s89) (nI i + nI (b_n B u))) (nI i) (nI (b_n B u)) fu s 1 = f_X8_choose_L245 (fun (s100 : Sg) => some ((), s100)) n s' (nI i + nI (b_n B u)) := d1
        rw [d1, nI_add]
        have hfr := fr_in g3 (b_n B u - 1) (by omega)
        rw [show i + 1 + (b_n B u - 1) = i + b_n B u by omega] at hfr
        obtain ⟨s2, c1, c2, c3⟩ := ih (i + b_n B u) s' hz (by omega) (d2.bk (by decide) hb) (d2.tx (by decide) htx) (by omega) (fun j hj => by
          rw [d3]
          by_cases y : i + 1 ≤ j ∧ j < i + b_n B u
          · rw [if_pos y, ch_in g3 y.1 y.2]
          · rw [if_neg y]
            by_cases w : j = i
            · rw [w, ht i (Nat.le_refl _) q, g1, g2]
            · exact hc j (by omega)) (fun j h3 h4 => by rw [d3, if_neg (by omega)]; exact ht j (by omega) h4)
        exact ⟨s2, c1, d2.tr c2, c3⟩
    · have : i = t_c T := by omega
      subst this
      rw [if_pos (nI_le (Nat.le_refl _) (by omega))]
      exact ⟨s, rfl, Sm.rf, hc⟩
theorem choose8_s {s : Sg} (hB : Bok B) (hT : Tok T) (hb : bookP (s.1 44) B) (htx : txR s T) : ∃ s', f_X8_choose s = some ((), s') ∧ Sm [51, 52, 53] [] s s' ∧ s'.1 51 0 = nI (wth B T 0) ∧ ∀ j, j < t_c T → s'.1 53 j = ch B T j := by
  have h60 := hT.1
  have e6 : s.1 43 6 = nI (t_c T) := htx.1
  unfold f_X8_choose
  rw [e6, wI_n (by omega) (by decide), sI_ne s (by decide), e6, wI_n (by omega) (by decide), sI_ne _ (by decide), sI_ne s (by decide), e6]
  have u : Sm [51, 52, 53] [] s (sI (sI s 51 (t_c T) 0) 52 (t_c T) 0) := (Sm.rf.i (by decide)).i (by decide)
  obtain ⟨s1, c1, c2, c3, c4⟩ := choose8_L27 hB hT (fun (s79 : Sg) => f_X8_choose_L245 (fun (s100 : Sg) => some ((), s100)) fu s79 0) fu (t_c T) (sI (sI s 51 (t_c T) 0) 52 (t_c T) 0) (Nat.le_refl _) (by unfold fu; omega) (u.bk (by decide) hb) (u.tx (by decide) htx) (fun j h3 h4 => by
    have : j = t_c T := by omega
    subst this
    rw [Nat.sub_self, sI_ne _ (by decide), sI_1, if_pos ⟨rfl, rfl⟩, sI_1, if_pos ⟨rfl, rfl⟩]
    exact ⟨rfl, rfl⟩) (fun j h3 h4 => by omega)
  have v := u.tr c2
  obtain ⟨s2, d1, d2, d3⟩ := choose8_L245 hB hT fu 0 s1 (Nat.zero_le _) (by unfold fu; omega) (v.bk (by decide) hb) (v.tx (by decide) htx) (Nat.le_refl _) (fun j hj => absurd hj (Nat.not_lt_zero j)) (fun j _ h4 => c4 j h4)
  refine ⟨s2, ?_, v.tr (d2.up (by decide) (by decide)), ?_, d3⟩
  · rw [c1]; exact d1
  · rw [d2.1 51 (by decide)]; exact c3 0 (Nat.zero_le _)
theorem InvR.c8 {a b : Sg} {M : Ms} (h : InvR a M) (u : Sm [51, 52, 53] [] a b) : InvR b M := by
  unfold InvR
  rw [u.1 43 (by decide), u.1 44 (by decide), u.1 45 (by decide), u.1 46 (by decide), u.1 47 (by decide), u.1 48 (by decide)]
  exact h
end C8
end
section
/-! sums; a term's numbers -/
def sumN (f : Nat → Nat) : Nat → Nat
  | 0 => 0
  | k + 1 => sumN f k + f k
theorem sumN_cg {f g : Nat → Nat} : ∀ {n : Nat}, (∀ k, k < n → f k = g k) → sumN f n = sumN g n
  | 0, _ => rfl
  | n + 1, h => by
    show sumN f n + f n = sumN g n + g n
    rw [sumN_cg (fun k hk => h k (by omega)), h n (by omega)]
section SU
variable {B : Bk} {T : Tx} {s : Sg}
theorem sum_cc {ct : Nat → Int32} {g : Int32 → Nat} (h : ∀ i, i < t_c T → ch B T i ≠ -1 → ct (cc B T i) = ch B T i) : ∀ i, i ≤ t_c T → sumN (fun k => g (ct k)) (cc B T i) = sumN (fun j => if ch B T j = -1 then 0 else g (ch B T j)) i := by
  intro i
  induction i with
  | zero => intro _; rfl
  | succ i ih =>
    intro hi
    show _ = sumN _ i + (if ch B T i = -1 then 0 else g (ch B T i))
    rw [cc]
    by_cases z : ch B T i = -1
    · rw [if_pos z, if_pos z, ih (by omega)]; rfl
    · rw [if_neg z, if_neg z]
      show sumN _ (cc B T i) + g (ct (cc B T i)) = _
      rw [ih (by omega), h i (by omega) z]
theorem timesFound7_s (hB : Bok B) (hT : Tok T) (hx : txtC s T) (hk : lookP (s.1 32) (s.1 33) B T (t_c T)) {t : Nat} (ht : t < b_tc B) : f_X4_timesFound s (nI t) = some (nI (sumN (fun i => if fB B T t i = true then 1 else 0) (t_c T))) := by
  have h60 := hT.1
  have key : ∀ n i, i ≤ t_c T → t_c T < n + i → f_X4_timesFound_L4 (fun (v7 : Int32) => some v7) s (nI t) n (nI (sumN (fun i => if fB B T t i = true then 1 else 0) i)) (nI i) = some (nI (sumN (fun i => if fB B T t i = true then 1 else 0) (t_c T))) := by
    intro n
    induction n with
    | zero => intro i h1 h2; omega
    | succ n ih =>
      intro i h1 h2
      rw [f_X4_timesFound_L4, hx.1]
      rcases Nat.lt_or_ge i (t_c T) with q | q
      · rw [if_neg (fun z => by have := (nI_leI (by omega) (by omega)).mp z; omega), isFound7_t hk hT hB q ht, cP_s]
        simp only [jn_s]
        have := ih (i + 1) (by omega) (by omega)
        rw [sumN] at this
        by_cases z : fB B T t i = true
        · rw [if_pos z] at this
          rw [bI_t z, if_neg (by decide), nI_1, nI_1]
          exact this
        · rw [if_neg z] at this
          rw [bI_f z, if_pos rfl, nI_p0, nI_1]
          exact this
      · have : i = t_c T := by omega
        subst this
        rw [if_pos (nI_le (Nat.le_refl _) (by omega))]
  exact key fu 0 (Nat.zero_le _) (by unfold fu; omega)
theorem timesChosen7_s (hB : Bok B) (hT : Tok T) (hst : stl s B T) {t : Nat} (ht : t < b_tc B) : f_X4_timesChosen s (nI t) = some (nI (sumN (fun i => if ch B T i = nI t then 1 else 0) (t_c T))) := by
  have h60 := hT.1
  have h8 := hB.1
  obtain ⟨-, -, -, g3, g4, -⟩ := hst
  have hcl := cc_le (B := B) (T := T) (t_c T)
  have key : ∀ n i, i ≤ cc B T (t_c T) → cc B T (t_c T) < n + i → f_X4_timesChosen_L4 (fun (v8 : Int32) => some v8) s (nI t) n (nI (sumN (fun k => if s.1 38 k = nI t then 1 else 0) i)) (nI i) = some (nI (sumN (fun k => if s.1 38 k = nI t then 1 else 0) (cc B T (t_c T)))) := by
    intro n
    induction n with
    | zero => intro i h1 h2; omega
    | succ n ih =>
      intro i h1 h2
      rw [f_X4_timesChosen_L4, g3]
      rcases Nat.lt_or_ge i (cc B T (t_c T)) with q | q
      · rw [if_neg (fun z => by have := (nI_leI (by omega) (by omega)).mp z; omega), rI_n (by omega) (by decide)]
        simp only [jn_s]
        have := ih (i + 1) (by omega) (by omega)
        rw [sumN] at this
        by_cases z : s.1 38 i = nI t
        · rw [if_pos z] at this
          rw [if_pos z, nI_1, nI_1]
          exact this
        · rw [if_neg z] at this
          rw [if_neg z, nI_p0, nI_1]
          exact this
      · have : i = cc B T (t_c T) := by omega
        subst this
        rw [if_pos (nI_le (Nat.le_refl _) (by omega))]
  have e := sum_cc (B := B) (T := T) (ct := s.1 38) (g := fun x => if x = nI t then 1 else 0) (fun i hi hc => (g4 i hi hc).2) (t_c T) (Nat.le_refl _)
  have e2 : sumN (fun j => if ch B T j = -1 then 0 else (if ch B T j = nI t then 1 else 0)) (t_c T) = sumN (fun i => if ch B T i = nI t then 1 else 0) (t_c T) := sumN_cg (fun k _ => by
    by_cases z : ch B T k = -1
    · rw [if_pos z, if_neg (by rw [z]; exact fun y => nI_m1 (by omega) y.symm)]
    · rw [if_neg z])
  rw [← e2, ← e]
  exact key fu 0 (Nat.zero_le _) (by unfold fu; omega)
theorem termOf8_F (hB : Bok B) (hT : Tok T) (hb : bookP (s.1 44) B) (hx : txR s T) {t : Nat} (ht : t < b_tc B) : f_X8_termOf_L49 (fun (v19 : Int32) => some (v19, s)) s (nI t) (nI 4) fu 0 0 = some (nI (sumN (fun i => if fB B T t i = true then 1 else 0) (t_c T)), s) := by
  have h60 := hT.1
  have e6 : s.1 43 6 = nI (t_c T) := hx.1
  have key : ∀ n i, i ≤ t_c T → t_c T < n + i → f_X8_termOf_L49 (fun (v19 : Int32) => some (v19, s)) s (nI t) (nI 4) n (nI (sumN (fun i => if fB B T t i = true then 1 else 0) i)) (nI i) = some (nI (sumN (fun i => if fB B T t i = true then 1 else 0) (t_c T)), s) := by
    intro n
    induction n with
    | zero => intro i h1 h2; omega
    | succ n ih =>
      intro i h1 h2
      rw [f_X8_termOf_L49, e6]
      rcases Nat.lt_or_ge i (t_c T) with q | q
      · rw [if_neg (fun z => by have := (nI_leI (by omega) (by omega)).mp z; omega)]
        simp only [jn_s]
        rw [if_pos (show nI 4 = 4 from rfl), isFound8_s hx hT hb hB (by omega) ht, cP_s]
        have := ih (i + 1) (by omega) (by omega)
        rw [sumN] at this
        by_cases z : fB B T t i = true
        · rw [if_pos z] at this
          rw [bI_t z, if_neg (by decide), nI_1, nI_1]
          exact this
        · rw [if_neg z] at this
          rw [bI_f z, if_pos rfl, nI_p0, nI_1]
          exact this
      · have : i = t_c T := by omega
        subst this
        rw [if_pos (nI_le (Nat.le_refl _) (by omega))]
  exact key fu 0 (Nat.zero_le _) (by unfold fu; omega)
theorem termOf8_C (hT : Tok T) (hx : txR s T) (hc : ∀ j, j < t_c T → s.1 53 j = ch B T j) {t : Nat} : f_X8_termOf_L49 (fun (v19 : Int32) => some (v19, s)) s (nI t) (nI 5) fu 0 0 = some (nI (sumN (fun i => if ch B T i = nI t then 1 else 0) (t_c T)), s) := by
  have h60 := hT.1
  have e6 : s.1 43 6 = nI (t_c T) := hx.1
  have key : ∀ n i, i ≤ t_c T → t_c T < n + i → f_X8_termOf_L49 (fun (v19 : Int32) => some (v19, s)) s (nI t) (nI 5) n (nI (sumN (fun i => if ch B T i = nI t then 1 else 0) i)) (nI i) = some (nI (sumN (fun i => if ch B T i = nI t then 1 else 0) (t_c T)), s) := by
    intro n
    induction n with
    | zero => intro i h1 h2; omega
    | succ n ih =>
      intro i h1 h2
      rw [f_X8_termOf_L49, e6]
      rcases Nat.lt_or_ge i (t_c T) with q | q
      · rw [if_neg (fun z => by have := (nI_leI (by omega) (by omega)).mp z; omega)]
        simp only [jn_s]
        rw [if_neg (show ¬ nI 5 = 4 by decide), rI_n (by omega) (by decide), hc i q]
        have := ih (i + 1) (by omega) (by omega)
        rw [sumN] at this
        by_cases z : ch B T i = nI t
        · rw [if_pos z] at this
          rw [if_pos z, nI_1, nI_1]
          exact this
        · rw [if_neg z] at this
          rw [if_neg z, nI_p0, nI_1]
          exact this
      · have : i = t_c T := by omega
        subst this
        rw [if_pos (nI_le (Nat.le_refl _) (by omega))]
  exact key fu 0 (Nat.zero_le _) (by unfold fu; omega)
end SU
theorem ps_termOf (σ : Sg) (a1 a2 : Int32) (h : InvA σ) : ∃ (r : Int32) (σ1 σ2 : Sg), f_X7_termOf σ a1 a2 = some (r, σ1) ∧ f_X8_termOf σ1 a1 a2 = some (r, σ2) ∧ InvA σ2 := by
  refine step2 (f7 := fun s => f_X7_termOf s a1 a2) (f8 := fun s => f_X8_termOf s a1 a2) h (fun M hm => ?_)
  obtain ⟨S, B, T, im⟩ := M
  have hm0 := hm
  obtain ⟨hS, hB, hT, hI⟩ := hm
  have hB : Bok B := hB
  have hT : Tok T := hT
  have h8 := hB.1
  have n10 : ¬ (1 : Int32) = 0 := by decide
  rcases Classical.em (rg a1 (b_tc B)) with hr | hr
  · obtain ⟨t, ht, rfl⟩ := hr
    have i7 : ∀ s, InvC s (S, B, T, im) → f_X1_isTerm s (nI t) = some 1 := fun s hC => by rw [isTerm7_s hC.2.1 hB, bI_t ⟨t, ht, rfl⟩]
    have i8 : ∀ s, InvR s (S, B, T, im) → f_X8_isTerm s (nI t) = some 1 := fun s hR => by rw [isTerm8_s hR.2.1 hB, bI_t ⟨t, ht, rfl⟩]
    by_cases hw : 0 ≤ a2 ∧ a2 ≤ 5
    · have hw' := hw
      obtain ⟨w, -, w2, rfl⟩ := nat_of (lo := 0) (hi := 5) (by decide) hw (by decide)
      have small : w < 4 → ∀ s, InvR s (S, B, T, im) → f_X8_termOf s (nI t) (nI w) = some (s.1 44 (2 + 56 * t + w), s) := fun hw4 s hR => by
        unfold f_X8_termOf
        rw [i8 s hR, cP_s, if_neg n10, in8_s, in_bI, cP_s, bI_t hw', if_neg n10, if_neg (fun z => by have := (c_ge 4 (by omega) (by decide)).mp z; omega), termAt8_s, cP_s, nI_add, rI_n (by omega) (by decide)]
      rcases (show w = 0 ∨ w = 1 ∨ w = 2 ∨ w = 3 ∨ w = 4 ∨ w = 5 by omega) with rfl | rfl | rfl | rfl | rfl | rfl
      · refine ⟨nI (b_n B t), (S, B, T, im), hm0, fun hC => ⟨σ, ?_, hC, Un43.rf⟩, fun s hR => ⟨s, ?_, hR, Un42.rf⟩⟩
        · unfold f_X7_termOf
          rw [i7 σ hC, cP_s, if_neg n10, if_pos (show nI 0 = 0 from rfl), rI_n (by omega) (by decide), (hC.2.1.2.2.1 t ht).1]
        · rw [small (by decide) s hR, Nat.add_zero, (hR.2.1.2.2.1 t ht).1]
      · refine ⟨nI (b_we B t), (S, B, T, im), hm0, fun hC => ⟨σ, ?_, hC, Un43.rf⟩, fun s hR => ⟨s, ?_, hR, Un42.rf⟩⟩
        · unfold f_X7_termOf
          rw [i7 σ hC, cP_s, if_neg n10, if_neg (show ¬ nI 1 = 0 by decide), if_pos (show nI 1 = 1 from rfl), rI_n (by omega) (by decide), (hC.2.1.2.2.1 t ht).2.1]
        · rw [small (by decide) s hR, (hR.2.1.2.2.1 t ht).2.1]
      · refine ⟨nI (b_be B t), (S, B, T, im), hm0, fun hC => ⟨σ, ?_, hC, Un43.rf⟩, fun s hR => ⟨s, ?_, hR, Un42.rf⟩⟩
        · unfold f_X7_termOf
          rw [i7 σ hC, cP_s, if_neg n10, if_neg (show ¬ nI 2 = 0 by decide), if_neg (show ¬ nI 2 = 1 by decide), if_pos (show nI 2 = 2 from rfl), rI_n (by omega) (by decide), (hC.2.1.2.2.1 t ht).2.2.1]
        · rw [small (by decide) s hR, (hR.2.1.2.2.1 t ht).2.2.1]
      · refine ⟨b_pr B t, (S, B, T, im), hm0, fun hC => ⟨σ, ?_, hC, Un43.rf⟩, fun s hR => ⟨s, ?_, hR, Un42.rf⟩⟩
        · unfold f_X7_termOf
          rw [i7 σ hC, cP_s, if_neg n10, if_neg (show ¬ nI 3 = 0 by decide), if_neg (show ¬ nI 3 = 1 by decide), if_neg (show ¬ nI 3 = 2 by decide), if_pos (show nI 3 = 3 from rfl), rI_n (by omega) (by decide), (hC.2.1.2.2.1 t ht).2.2.2.1]
        · rw [small (by decide) s hR, (hR.2.1.2.2.1 t ht).2.2.2.1]
      · refine ⟨nI (sumN (fun i => if fB B T t i = true then 1 else 0) (t_c T)), (S, B, T, im), hm0, fun hC => ?_, fun s hR => ?_⟩
        · obtain ⟨s', e1, e2, e3, e4⟩ := settled7_s hB hT hC
          refine ⟨s', ?_, e2, e4⟩
          unfold f_X7_termOf
          rw [i7 σ hC, cP_s, if_neg n10, if_neg (show ¬ nI 4 = 0 by decide), if_neg (show ¬ nI 4 = 1 by decide), if_neg (show ¬ nI 4 = 2 by decide), if_neg (show ¬ nI 4 = 3 by decide), if_pos (show nI 4 = 4 from rfl), e1, cA_s, timesFound7_s hB hT e2.2.2.1 e3.1 ht, cP_s]
        · obtain ⟨s', e1, e2, e3, e4⟩ := choose8_s hB hT hR.2.1 hR.2.2.1
          refine ⟨s', ?_, hR.c8 e2, e2.u42 (by decide)⟩
          unfold f_X8_termOf
          rw [i8 s hR, cP_s, if_neg n10, in8_s, in_bI, cP_s, bI_t hw', if_neg n10, if_pos (show (4 : Int32) ≤ nI 4 by decide), e1, cA_s, termOf8_F hB hT (e2.bk (by decide) hR.2.1) (e2.tx (by decide) hR.2.2.1) ht]
      · refine ⟨nI (sumN (fun i => if ch B T i = nI t then 1 else 0) (t_c T)), (S, B, T, im), hm0, fun hC => ?_, fun s hR => ?_⟩
        · obtain ⟨s', e1, e2, e3, e4⟩ := settled7_s hB hT hC
          refine ⟨s', ?_, e2, e4⟩
          unfold f_X7_termOf
          rw [i7 σ hC, cP_s, if_neg n10, if_neg (show ¬ nI 5 = 0 by decide), if_neg (show ¬ nI 5 = 1 by decide), if_neg (show ¬ nI 5 = 2 by decide), if_neg (show ¬ nI 5 = 3 by decide), if_neg (show ¬ nI 5 = 4 by decide), if_pos (show nI 5 = 5 from rfl), e1, cA_s, timesChosen7_s hB hT e3 ht, cP_s]
        · obtain ⟨s', e1, e2, e3, e4⟩ := choose8_s hB hT hR.2.1 hR.2.2.1
          refine ⟨s', ?_, hR.c8 e2, e2.u42 (by decide)⟩
          unfold f_X8_termOf
          rw [i8 s hR, cP_s, if_neg n10, in8_s, in_bI, cP_s, bI_t hw', if_neg n10, if_pos (show (4 : Int32) ≤ nI 5 by decide), e1, cA_s, termOf8_C hT (e2.tx (by decide) hR.2.2.1) e4]
    · refine ⟨-1000000002, (S, B, T, im), hm0, fun hC => ⟨σ, ?_, hC, Un43.rf⟩, fun s hR => ⟨s, ?_, hR, Un42.rf⟩⟩
      · have ne : ∀ c : Int32, (0 ≤ c ∧ c ≤ 5) → ¬ a2 = c := fun c hc e => hw (by rw [e]; exact hc)
        unfold f_X7_termOf
        rw [i7 σ hC, cP_s, if_neg n10, if_neg (ne 0 (by decide)), if_neg (ne 1 (by decide)), if_neg (ne 2 (by decide)), if_neg (ne 3 (by decide)), if_neg (ne 4 (by decide)), if_neg (ne 5 (by decide))]
      · unfold f_X8_termOf
        rw [i8 s hR, cP_s, if_neg n10, in8_s, in_bI, cP_s, bI_f hw, if_pos rfl]
  · refine ⟨-1000000001, (S, B, T, im), hm0, fun hC => ⟨σ, ?_, hC, Un43.rf⟩, fun s hR => ⟨s, ?_, hR, Un42.rf⟩⟩
    · unfold f_X7_termOf
      rw [isTerm7_s hC.2.1 hB, bI_f hr, cP_s, if_pos rfl]
    · unfold f_X8_termOf
      rw [isTerm8_s hR.2.1 hB, bI_f hr, cP_s, if_pos rfl]
end
section
/-! how far what ends at a word begins a term -/
def rc (B : Bk) (T : Tx) (i n : Nat) : Prop := 1 ≤ n ∧ ∃ t, t < b_tc B ∧ n ≤ b_n B t ∧ n ≤ i + 1 ∧ met B T t (i + 1 - n) n
noncomputable def rm (B : Bk) (T : Tx) (i : Nat) : Nat → Nat
  | 0 => 0
  | m + 1 => @ite _ (rc B T i (m + 1)) (Classical.propDecidable _) (m + 1) (rm B T i m)
theorem rm_p {B : Bk} {T : Tx} {i : Nat} : ∀ m, rm B T i m ≤ m ∧ (rm B T i m = 0 ∨ rc B T i (rm B T i m)) ∧ ∀ n, n ≤ m → rc B T i n → n ≤ rm B T i m := by
  intro m
  induction m with
  | zero => exact ⟨Nat.le_refl _, Or.inl rfl, fun n hn _ => hn⟩
  | succ m ih =>
    obtain ⟨h1, h2, h3⟩ := ih
    rw [rm]
    by_cases z : rc B T i (m + 1)
    · rw [if_pos z]
      exact ⟨Nat.le_refl _, Or.inr z, fun n hn _ => hn⟩
    · rw [if_neg z]
      refine ⟨by omega, h2, fun n hn hr => ?_⟩
      by_cases y : n = m + 1
      · rw [y] at hr; exact absurd hr z
      · exact h3 n (by omega) hr
section RE
variable {B : Bk} {T : Tx} {s : Sg}
theorem rm_u (hB : Bok B) {i r : Nat} (h1 : r = 0 ∨ rc B T i r) (h2 : ∀ n, rc B T i n → n ≤ r) : r = rm B T i 4 := by
  obtain ⟨g1, g2, g3⟩ := rm_p (B := B) (T := T) (i := i) 4
  have h4 : ∀ n, rc B T i n → n ≤ 4 := fun n hn => by
    obtain ⟨-, t, q1, q2, -⟩ := hn
    have := (hB.2.2.1 t q1).1
    omega
  have a1 : r ≤ rm B T i 4 := by
    rcases h1 with h | h
    · omega
    · exact g3 r (h4 r h) h
  have a2 : rm B T i 4 ≤ r := by
    rcases g2 with h | h
    · omega
    · exact h2 _ h
  omega
theorem reach7_s (hB : Bok B) (hT : Tok T) (hl : lexC s B) (hk : lookP (s.1 32) (s.1 33) B T (t_c T)) {i : Nat} (hi : i < t_c T) : f_X4_reach s (nI i) = some (nI (rm B T i 4)) := by
  have h60 := hT.1
  have h8 := hB.1
  have inner : ∀ (k : Option Int32) m, 1 ≤ m → m ≤ 4 → ∀ n t, t ≤ b_tc B → b_tc B < n + t → (∀ u, u < t → ¬ (m ≤ b_n B u ∧ m ≤ i + 1 ∧ met B T u (i + 1 - m) m)) → (rc B T i m → f_X4_reach_L8 k s (nI i) (nI m) n (nI t) = some (nI m)) ∧ (¬ rc B T i m → f_X4_reach_L8 k s (nI i) (nI m) n (nI t) = k) := by
    intro k m hm1 hm4 n
    induction n with
    | zero => intro t h1 h2; omega
    | succ n ih =>
      intro t h1 h2 hno
      rw [f_X4_reach_L8, hl.1]
      rcases Nat.lt_or_ge t (b_tc B) with q | q
      · have hn := (hB.2.2.1 t q).1
        have hiff := hk.1 i hi t (m - 1) (by omega) (by omega)
        rw [show i - (m - 1) = i + 1 - m by omega, show m - 1 + 1 = m by omega] at hiff
        rw [if_neg (fun z => by have := (nI_leI (by omega) (by omega)).mp z; omega), hasBegun7_s (by omega) (by omega) ⟨hm1, hm4⟩, cP_s, nI_1]
        by_cases z : bt (s.1 32 i) (4 * t + (m - 1)) = true
        · obtain ⟨g1, g2, g3, g4⟩ := hiff.mp z
          rw [bI_t z, if_neg (by decide)]
          exact ⟨fun _ => rfl, fun hc => absurd ⟨hm1, t, q, by omega, by omega, g4⟩ hc⟩
        · rw [bI_f z, if_pos rfl]
          refine ih (t + 1) (by omega) (by omega) (fun u hu => ?_)
          by_cases y : u = t
          · rw [y]
            rintro ⟨g1, g2, g3⟩
            exact z (hiff.mpr ⟨q, by omega, by omega, g3⟩)
          · exact hno u (by omega)
      · have : t = b_tc B := by omega
        subst this
        rw [if_pos (nI_le (Nat.le_refl _) (by omega))]
        refine ⟨fun hc => ?_, fun _ => rfl⟩
        obtain ⟨-, u, g1, g2, g3, g4⟩ := hc
        exact absurd ⟨g2, g3, g4⟩ (hno u g1)
  have outer : ∀ n m, m ≤ 4 → m < n → f_X4_reach_L2 (some 0) s (nI i) n (nI m) = some (nI (rm B T i m)) := by
    intro n
    induction n with
    | zero => intro m h1 h2; omega
    | succ n ih =>
      intro m h1 h2
      rw [f_X4_reach_L2]
      cases m with
      | zero => rw [if_pos (by decide)]; rfl
      | succ m =>
        rw [if_neg (nI_nle (by omega) (by omega))]
        have h := inner (f_X4_reach_L2 (some 0) s (nI i) n (nI (m + 1) + (-1))) (m + 1) (by omega) h1 fu 0 (Nat.zero_le _) (by unfold fu; omega) (fun u hu => absurd hu (Nat.not_lt_zero u))
        rw [rm]
        by_cases z : rc B T i (m + 1)
        · rw [if_pos z]
          exact h.1 z
        · rw [if_neg z]
          refine (h.2 z).trans ?_
          rw [add_m1, nI_s1 (by omega)]
          exact ih m (by omega) (by omega)
  exact outer fu 4 (Nat.le_refl _) (by decide)
/-- all that was looked at is below most -/
def rP (B : Bk) (T : Tx) (i M t n : Nat) : Prop := M ≤ 4 ∧ (M = 0 ∨ rc B T i M) ∧ ∀ u m, u < b_tc B → (u < t ∨ (u = t ∧ m < n)) → 1 ≤ m → m ≤ b_n B u → m ≤ i + 1 → met B T u (i + 1 - m) m → m ≤ M
theorem reach8_L17 (hB : Bok B) (hT : Tok T) (hb : bookP (s.1 44) B) (hx : txR s T) {i t : Nat} (hi : i < t_c T) (ht : t < b_tc B) (kk : Int32 → Option Int32) : ∀ n m M, 1 ≤ m → m ≤ b_n B t + 1 → b_n B t + 1 < n + m → rP B T i M t m → ∃ M', f_X8_reach_L17 kk s (nI i) (nI t) n (nI M) (nI m) = kk (nI M') ∧ rP B T i M' (t + 1) 0 := by
  have h60 := hT.1
  have h8 := hB.1
  have hn := (hB.2.2.1 t ht).1
  intro n
  induction n with
  | zero => intro m M h1 h2; omega
  | succ n ih =>
    intro m M h0 h1 h2 hp
    rw [f_X8_reach_L17, termAt8_s, cP_s, nI_p0, rI_n (by omega) (by decide), (hb.2.2.1 t ht).1]
    have hM := hp.1
    rcases Nat.lt_or_ge (b_n B t) m with q | q
    · rw [if_pos (nI_lt q (by omega))]
      refine ⟨M, rfl, hp.1, hp.2.1, fun u k g1 g2 g3 g4 g5 g6 => ?_⟩
      refine hp.2.2 u k g1 ?_ g3 g4 g5 g6
      by_cases y : u = t
      · rw [y] at g4; omega
      · omega
    · rw [if_neg (nI_nlt (by omega) (by omega))]
      simp only [jn_s]
      have nxt : (¬ (m ≤ i + 1 ∧ met B T t (i + 1 - m) m) ∨ m ≤ M) → ∃ M', f_X8_reach_L17 kk s (nI i) (nI t) n (nI M) (nI (m + 1)) = kk (nI M') ∧ rP B T i M' (t + 1) 0 := by
        intro hno
        refine ih (m + 1) M (by omega) (by omega) (by omega) ⟨hp.1, hp.2.1, fun u k g1 g2 g3 g4 g5 g6 => ?_⟩
        by_cases y : u = t ∧ k = m
        · obtain ⟨rfl, rfl⟩ := y
          rcases hno with hno | hno
          · exact absurd ⟨g5, g6⟩ hno
          · exact hno
        · exact hp.2.2 u k g1 (by omega) g3 g4 g5 g6
      by_cases z : m ≤ M
      · rw [if_pos (nI_le z (by omega)), nI_1]
        exact nxt (Or.inr z)
      · rw [if_neg (fun y => z ((nI_leI (by omega) (by omega)).mp y)), nI_sub_p1, nI_1]
        by_cases w : m ≤ i + 1
        · rw [pk_sub w, isMet8_s hx hT hb hB (by omega) ht q, cP_s]
          by_cases y : met B T t (i + 1 - m) m
          · rw [bI_t ⟨by omega, y⟩, if_neg (by decide)]
            refine ih (m + 1) m (by omega) (by omega) (by omega) ⟨by omega, Or.inr ⟨h0, t, ht, q, w, y⟩, fun u k g1 g2 g3 g4 g5 g6 => ?_⟩
            by_cases x : u = t ∧ k = m
            · omega
            · have := hp.2.2 u k g1 (by omega) g3 g4 g5 g6
              omega
          · rw [bI_f (fun g => y g.2), if_pos rfl]
            exact nxt (Or.inl (fun g => y g.2))
        · rw [isMet8_n (pk_sneg (by omega) (by omega)), cP_s, if_pos rfl]
          exact nxt (Or.inl (fun g => w g.1))
theorem reach8_s (hB : Bok B) (hT : Tok T) (hb : bookP (s.1 44) B) (hx : txR s T) {i : Nat} (hi : i < t_c T) : f_X8_reach s (nI i) = some (nI (rm B T i 4)) := by
  have h60 := hT.1
  have h8 := hB.1
  have key : ∀ n t M, t ≤ b_tc B → b_tc B < n + t → rP B T i M t 0 → f_X8_reach_L4 (fun (v19 : Int32) => some v19) s (nI i) n (nI M) (nI t) = some (nI (rm B T i 4)) := by
    intro n
    induction n with
    | zero => intro t M h1 h2; omega
    | succ n ih =>
      intro t M h1 h2 hp
      rw [f_X8_reach_L4, show rI s 44 475 0 = rI (α := Int32) s 44 475 (nI 0) from rfl, rI_n (by omega) (by decide), hb.1]
      rcases Nat.lt_or_ge t (b_tc B) with q | q
      · rw [if_neg (fun z => by have := (nI_leI (by omega) (by omega)).mp z; omega), nI_1]
        obtain ⟨M', g1, g2⟩ := reach8_L17 hB hT hb hx hi q (fun (v17 : Int32) => f_X8_reach_L4 (fun (v19 : Int32) => some v19) s (nI i) n v17 (nI (t + 1))) fu 1 M (Nat.le_refl _) (by omega) (by have := (hB.2.2.1 t q).1; unfold fu; omega) ⟨hp.1, hp.2.1, fun u k a1 a2 a3 a4 a5 a6 => hp.2.2 u k a1 (by omega) a3 a4 a5 a6⟩
        refine Eq.trans g1 ?_
        exact ih (t + 1) M' (by omega) (by omega) g2
      · have : t = b_tc B := by omega
        subst this
        rw [if_pos (nI_le (Nat.le_refl _) (by omega)), rm_u (T := T) hB hp.2.1 (fun n hn => ?_)]
        obtain ⟨c1, u, c2, c3, c4, c5⟩ := hn
        exact hp.2.2 u n c2 (Or.inl c2) c1 c3 c4 c5
  exact key fu 0 0 (Nat.zero_le _) (by unfold fu; omega) ⟨by omega, Or.inl rfl, fun u k a1 a2 => by omega⟩
end RE
/-! what is found over a word, a set -/
theorem or_id (x y : Int32) : (x ||| y) ||| y = x ||| y := by
  apply b_ext
  intro i _
  rw [b_or, b_or]
  cases bt x i <;> cases bt y i <;> rfl
def ovP (B : Bk) (T : Tx) (i t k : Nat) : Prop := ∃ j, j < k ∧ j ≤ i ∧ fnd B T t (i - j)
noncomputable def ovb (p : Prop) (x : Int32) (t : Nat) : Int32 := @ite _ p (Classical.propDecidable p) (x ||| ((1 : Int32) <<< (nI t &&& 31))) x
theorem ovb_t {p : Prop} {x : Int32} {t : Nat} (h : p) : ovb p x t = x ||| ((1 : Int32) <<< (nI t &&& 31)) := by unfold ovb; rw [if_pos h]
theorem ovb_f {p : Prop} {x : Int32} {t : Nat} (h : ¬ p) : ovb p x t = x := by unfold ovb; rw [if_neg h]
theorem ovb_c {p q : Prop} {x : Int32} {t : Nat} (h : p ↔ q) : ovb p x t = ovb q x t := by rw [propext h]
noncomputable def ovs (B : Bk) (T : Tx) (i : Nat) : Nat → Int32
  | 0 => 0
  | t + 1 => ovb (ovP B T i t (b_n B t)) (ovs B T i t) t
theorem ovP_s {B : Bk} {T : Tx} {i t k : Nat} : ovP B T i t (k + 1) ↔ ovP B T i t k ∨ (k ≤ i ∧ fnd B T t (i - k)) := by
  constructor
  · rintro ⟨j, h1, h2, h3⟩
    by_cases z : j = k
    · rw [z] at h2 h3; exact Or.inr ⟨h2, h3⟩
    · exact Or.inl ⟨j, by omega, h2, h3⟩
  · rintro (⟨j, h1, h2, h3⟩ | ⟨h2, h3⟩)
    · exact ⟨j, by omega, h2, h3⟩
    · exact ⟨k, by omega, h2, h3⟩
/-- one more, where it is found -/
theorem ovb_1 {B : Bk} {T : Tx} {i t k : Nat} {x : Int32} (h : k ≤ i ∧ fnd B T t (i - k)) : ovb (ovP B T i t k) x t ||| ((1 : Int32) <<< (nI t &&& 31)) = ovb (ovP B T i t (k + 1)) x t := by
  rw [ovb_t (p := ovP B T i t (k + 1)) (ovP_s.mpr (Or.inr h))]
  rcases Classical.em (ovP B T i t k) with z | z
  · rw [ovb_t z, or_id]
  · rw [ovb_f z]
theorem ovb_0 {B : Bk} {T : Tx} {i t k : Nat} {x : Int32} (h : ¬ (k ≤ i ∧ fnd B T t (i - k))) : ovb (ovP B T i t k) x t = ovb (ovP B T i t (k + 1)) x t :=
  ovb_c ⟨fun g => ovP_s.mpr (Or.inl g), fun g => by rcases ovP_s.mp g with g | g; exact g; exact absurd g h⟩
section OV
variable {B : Bk} {T : Tx} {s : Sg}
theorem termsOver7_s (hB : Bok B) (hT : Tok T) (hl : lexC s B) (hk : lookP (s.1 32) (s.1 33) B T (t_c T)) {i : Nat} (hi : i < t_c T) : f_X4_termsOver s (nI i) = some (ovs B T i (b_tc B)) := by
  have h60 := hT.1
  have h8 := hB.1
  have inner : ∀ (kk : Int32 → Option Int32) t x, t < b_tc B → ∀ n k, k ≤ b_n B t → b_n B t < n + k → f_X4_termsOver_L18 kk s (nI i) (nI t) n (ovb (ovP B T i t k) x t) (nI k) = kk (ovb (ovP B T i t (b_n B t)) x t) := by
    intro kk t x q n
    have hn := (hB.2.2.1 t q).1
    induction n with
    | zero => intro k h1 h2; omega
    | succ n ih =>
      intro k h1 h2
      rw [f_X4_termsOver_L18, rI_n (by omega) (by decide), (hl.2.2.1 t q).1]
      rcases Nat.lt_or_ge k (b_n B t) with z | z
      · rw [if_neg (fun y => by have := (nI_leI (by omega) (by omega)).mp y; omega)]
        by_cases w : i < k
        · rw [if_pos (nI_lt w (by omega))]
          congr 1
          refine ovb_c ⟨fun g => ?_, fun g => ?_⟩
          · obtain ⟨j, g1, g2, g3⟩ := g; exact ⟨j, by omega, g2, g3⟩
          · obtain ⟨j, g1, g2, g3⟩ := g; exact ⟨j, by omega, g2, g3⟩
        · rw [if_neg (nI_nlt (by omega) (by omega)), pk_sub (by omega), isFound7_t hk hT hB (by omega) q, cP_s, nI_1]
          by_cases y : fB B T t (i - k) = true
          · rw [bI_t y, if_neg (by decide), ovb_1 ⟨by omega, fB_iff.mp y⟩]
            exact ih (k + 1) (by omega) (by omega)
          · rw [bI_f y, if_pos rfl, ovb_0 (fun g => y (fB_iff.mpr g.2))]
            exact ih (k + 1) (by omega) (by omega)
      · have : k = b_n B t := by omega
        subst this
        rw [if_pos (nI_le (Nat.le_refl _) (by omega))]
  have key : ∀ n t, t ≤ b_tc B → b_tc B < n + t → f_X4_termsOver_L4 (fun (v11 : Int32) => some v11) s (nI i) n (ovs B T i t) (nI t) = some (ovs B T i (b_tc B)) := by
    intro n
    induction n with
    | zero => intro t h1 h2; omega
    | succ n ih =>
      intro t h1 h2
      rw [f_X4_termsOver_L4, hl.1]
      rcases Nat.lt_or_ge t (b_tc B) with q | q
      · rw [if_neg (fun z => by have := (nI_leI (by omega) (by omega)).mp z; omega), nI_1]
        have h := inner (fun (v9 : Int32) => f_X4_termsOver_L4 (fun (v11 : Int32) => some v11) s (nI i) n v9 (nI (t + 1))) t (ovs B T i t) q fu 0 (Nat.zero_le _) (by have := (hB.2.2.1 t q).1; unfold fu; omega)
        rw [ovb_f (p := ovP B T i t 0) (by rintro ⟨j, g, -⟩; omega)] at h
        refine Eq.trans h ?_
        exact ih (t + 1) (by omega) (by omega)
      · have : t = b_tc B := by omega
        subst this
        rw [if_pos (nI_le (Nat.le_refl _) (by omega))]
  exact key fu 0 (Nat.zero_le _) (by unfold fu; omega)
theorem foundOver8_s (hB : Bok B) (hT : Tok T) (hb : bookP (s.1 44) B) (hx : txR s T) {i : Nat} (hi : i < t_c T) : f_X8_foundOver s (nI i) = some (ovs B T i (b_tc B)) := by
  have h60 := hT.1
  have h8 := hB.1
  have inner : ∀ (kk : Int32 → Option Int32) t x, t < b_tc B → ∀ n k, k ≤ b_n B t → b_n B t < n + k → f_X8_foundOver_L17 kk s (nI i) (nI t) n (ovb (ovP B T i t k) x t) (nI k) = kk (ovb (ovP B T i t (b_n B t)) x t) := by
    intro kk t x q n
    have hn := (hB.2.2.1 t q).1
    induction n with
    | zero => intro k h1 h2; omega
    | succ n ih =>
      intro k h1 h2
      rw [f_X8_foundOver_L17, termAt8_s, cP_s, nI_p0, rI_n (by omega) (by decide), (hb.2.2.1 t q).1]
      rcases Nat.lt_or_ge k (b_n B t) with z | z
      · rw [if_neg (fun y => by have := (nI_leI (by omega) (by omega)).mp y; omega)]
        by_cases w : i < k
        · rw [isFound8_n hb hB (pk_sneg (by omega) w) q, cP_s]
          simp only [jn_s]
          rw [if_pos trivial, or_0, nI_1, ovb_0 (fun g => by have := g.1; omega)]
          exact ih (k + 1) (by omega) (by omega)
        · rw [pk_sub (by omega), isFound8_s hx hT hb hB (by omega) q, cP_s]
          simp only [jn_s]
          rw [nI_1]
          by_cases y : fB B T t (i - k) = true
          · rw [bI_t y, if_neg (by decide), ovb_1 ⟨by omega, fB_iff.mp y⟩]
            exact ih (k + 1) (by omega) (by omega)
          · rw [bI_f y, if_pos rfl, or_0, ovb_0 (fun g => y (fB_iff.mpr g.2))]
            exact ih (k + 1) (by omega) (by omega)
      · have : k = b_n B t := by omega
        subst this
        rw [if_pos (nI_le (Nat.le_refl _) (by omega))]
  have key : ∀ n t, t ≤ b_tc B → b_tc B < n + t → f_X8_foundOver_L4 (fun (v17 : Int32) => some v17) s (nI i) n (ovs B T i t) (nI t) = some (ovs B T i (b_tc B)) := by
    intro n
    induction n with
    | zero => intro t h1 h2; omega
    | succ n ih =>
      intro t h1 h2
      rw [f_X8_foundOver_L4, show rI s 44 475 0 = rI (α := Int32) s 44 475 (nI 0) from rfl, rI_n (by omega) (by decide), hb.1]
      rcases Nat.lt_or_ge t (b_tc B) with q | q
      · rw [if_neg (fun z => by have := (nI_leI (by omega) (by omega)).mp z; omega), nI_1]
        have h := inner (fun (v15 : Int32) => f_X8_foundOver_L4 (fun (v17 : Int32) => some v17) s (nI i) n v15 (nI (t + 1))) t (ovs B T i t) q fu 0 (Nat.zero_le _) (by have := (hB.2.2.1 t q).1; unfold fu; omega)
        rw [ovb_f (p := ovP B T i t 0) (by rintro ⟨j, g, -⟩; omega)] at h
        refine Eq.trans h ?_
        exact ih (t + 1) (by omega) (by omega)
      · have : t = b_tc B := by omega
        subst this
        rw [if_pos (nI_le (Nat.le_refl _) (by omega))]
  exact key fu 0 (Nat.zero_le _) (by unfold fu; omega)
end OV
end
section
/-! a word's numbers -/
section CO
variable {B : Bk} {T : Tx} {s : Sg}
theorem cc_in {i n : Nat} (h : fr B T (i + 1) = i + n) : ∀ d, i + 1 + d ≤ i + n → cc B T (i + 1 + d) = cc B T (i + 1) := by
  intro d
  induction d with
  | zero => intro _; rfl
  | succ d ih =>
    intro hd
    have h1 := fr_in h d (by omega)
    have := (ch_A (B := B) (T := T) (i := i + 1 + d) (by omega)).2.2
    rw [show i + 1 + (d + 1) = i + 1 + d + 1 by omega, this, ih (by omega)]
/-- what is chosen at k stands over word i -/
theorem co_at (hB : Bok B) {i k u : Nat} (hk : k ≤ i) (h1 : fr B T (k + 1) = k + b_n B u) (h2 : cc B T (k + 1) = cc B T k + 1) (h3 : i < k + b_n B u) : co B T i = nI (cc B T k) := by
  have e1 := fr_in h1 (i - k) (by omega)
  have e2 := cc_in h1 (i - k) (by omega)
  rw [show k + 1 + (i - k) = i + 1 by omega] at e1 e2
  unfold co
  rw [if_pos (by omega), e2, h2]
  rfl
theorem chosenOver8_L (hB : Bok B) (hT : Tok T) (hb : bookP (s.1 44) B) (hc : ∀ j, j < t_c T → s.1 53 j = ch B T j) {i : Nat} (hi : i < t_c T) : ∀ n k, k ≤ i + 1 → i + 1 < n + k → fr B T k ≤ i → f_X8_chosenOver_L8 (some ((-1), s)) s (nI i) n (nI (cc B T k)) (nI k) = some (co B T i, s) := by
  have h60 := hT.1
  have h8 := hB.1
  intro n
  induction n with
  | zero => intro k h1 h2; omega
  | succ n ih =>
    intro k h1 h2 hf
    rw [f_X8_chosenOver_L8]
    by_cases z : i < k
    · have : k = i + 1 := by omega
      subst this
      rw [if_pos (nI_lt z (by omega))]
      unfold co
      rw [if_neg (by omega)]
    · rw [if_neg (nI_nlt (by omega) (by omega)), rI_n (by omega) (by decide), hc k (by omega), nI_1]
      rcases ch_or (T := T) hB k with ⟨g1, g2, g3, -⟩ | ⟨g0, u, hu, hfu, g1, g2, g3, g4⟩
      · rw [g1, if_pos rfl, ← g3]
        exact ih (k + 1) (by omega) (by omega) (by omega)
      · have hn := (hB.2.2.1 u hu).1
        rw [g2, if_neg (nI_m1 (by omega)), rI_n (by omega) (by decide), hc k (by omega), g2, termAt8_s, cP_s, nI_p0, rI_n (by omega) (by decide), (hb.2.2.1 u hu).1, nI_add, nI_1]
        by_cases y : k + b_n B u ≤ i
        · rw [if_pos (nI_le y (by omega)), ← g4]
          exact ih (k + 1) (by omega) (by omega) (by omega)
        · rw [if_neg (fun w => y ((nI_leI (by omega) (by omega)).mp w)), co_at hB (by omega) g3 g4 (by omega)]
theorem chosenOver8_s (hB : Bok B) (hT : Tok T) (hb : bookP (s.1 44) B) (hx : txR s T) {i : Nat} (hi : i < t_c T) : ∃ s', f_X8_chosenOver s (nI i) = some (co B T i, s') ∧ Sm [51, 52, 53] [] s s' := by
  obtain ⟨s', e1, e2, e3, e4⟩ := choose8_s hB hT hb hx
  refine ⟨s', ?_, e2⟩
  unfold f_X8_chosenOver
  have h60 := hT.1
  rw [e1, cA_s]
  exact chosenOver8_L hB hT (e2.bk (by decide) hb) e4 hi fu 0 (Nat.zero_le _) (by unfold fu; omega) (Nat.zero_le _)
end CO
theorem ps_word (σ : Sg) (a1 a2 : Int32) (h : InvA σ) : ∃ (r : Int32) (σ1 σ2 : Sg), f_X7_word σ a1 a2 = some (r, σ1) ∧ f_X8_word σ1 a1 a2 = some (r, σ2) ∧ InvA σ2 := by
  refine step2 (f7 := fun s => f_X7_word s a1 a2) (f8 := fun s => f_X8_word s a1 a2) h (fun M hm => ?_)
  obtain ⟨S, B, T, im⟩ := M
  have hm0 := hm
  obtain ⟨hS, hB, hT, hI⟩ := hm
  have hB : Bok B := hB
  have hT : Tok T := hT
  have h60 := hT.1
  have n10 : ¬ (1 : Int32) = 0 := by decide
  rcases Classical.em (rg a1 (t_c T)) with hr | hr
  · obtain ⟨i, hi, rfl⟩ := hr
    have i7 : ∀ s, InvC s (S, B, T, im) → f_X6_isWord s (nI i) = some 1 := fun s hC => by rw [isWord7_s hC.2.2.1 hT, bI_t ⟨i, hi, rfl⟩]
    have i8 : ∀ s, InvR s (S, B, T, im) → f_X8_isWord s (nI i) = some 1 := fun s hR => by rw [isWord8_s hR.2.2.1 hT, bI_t ⟨i, hi, rfl⟩]
    obtain ⟨w1, w2, w3⟩ := hT.2.1 i hi
    by_cases hw : 0 ≤ a2 ∧ a2 ≤ 5
    · obtain ⟨w, -, wl, rfl⟩ := nat_of (lo := 0) (hi := 5) (by decide) hw (by decide)
      rcases (show w = 0 ∨ w = 1 ∨ w = 2 ∨ w = 3 ∨ w = 4 ∨ w = 5 by omega) with rfl | rfl | rfl | rfl | rfl | rfl
      · refine ⟨nI (t_w T i).length, (S, B, T, im), hm0, fun hC => ⟨σ, ?_, hC, Un43.rf⟩, fun s hR => ⟨s, ?_, hR, Un42.rf⟩⟩
        · unfold f_X7_word
          rw [i7 σ hC, cP_s, if_neg n10, if_pos (show nI 0 = 0 from rfl), rL_n (by omega) (by decide), (hC.2.2.1.2.2.2.2 i hi).1, sizeOf_s w1.1 w1.2.2, cP_s]
        · unfold f_X8_word
          rw [i8 s hR, cP_s, if_neg n10, if_pos (show nI 0 = 0 from rfl), i15, nI_add, rI_n (by omega) (by decide), Nat.add_zero, (hR.2.2.1.2.2.1 i hi).1.1]
      · refine ⟨nI (t_s T i), (S, B, T, im), hm0, fun hC => ⟨σ, ?_, hC, Un43.rf⟩, fun s hR => ⟨s, ?_, hR, Un42.rf⟩⟩
        · unfold f_X7_word
          rw [i7 σ hC, cP_s, if_neg n10, if_neg (show ¬ nI 1 = 0 by decide), if_pos (show nI 1 = 1 from rfl), rI_n (by omega) (by decide), (hC.2.2.1.2.2.2.2 i hi).2.2]
        · unfold f_X8_word
          rw [i8 s hR, cP_s, if_neg n10, if_neg (show ¬ nI 1 = 0 by decide), if_pos (show nI 1 = 1 from rfl), i15, nI_add, rI_n (by omega) (by decide), (hR.2.2.1.2.2.1 i hi).2.1]
      · refine ⟨nI (t_l T i), (S, B, T, im), hm0, fun hC => ⟨σ, ?_, hC, Un43.rf⟩, fun s hR => ⟨s, ?_, hR, Un42.rf⟩⟩
        · unfold f_X7_word
          rw [i7 σ hC, cP_s, if_neg n10, if_neg (show ¬ nI 2 = 0 by decide), if_neg (show ¬ nI 2 = 1 by decide), if_pos (show nI 2 = 2 from rfl), rI_n (by omega) (by decide), (hC.2.2.1.2.2.2.2 i hi).2.1]
          rcases (show t_l T i = 0 ∨ t_l T i = 1 by omega) with e | e
          · rw [e, if_pos (show nI 0 = 0 from rfl)]; rfl
          · rw [e, if_neg (show ¬ nI 1 = 0 by decide)]; rfl
        · unfold f_X8_word
          rw [i8 s hR, cP_s, if_neg n10, if_neg (show ¬ nI 2 = 0 by decide), if_neg (show ¬ nI 2 = 1 by decide), if_pos (show nI 2 = 2 from rfl), i15, nI_add, rI_n (by omega) (by decide), (hR.2.2.1.2.2.1 i hi).2.2]
      · refine ⟨nI (rm B T i 4), (S, B, T, im), hm0, fun hC => ?_, fun s hR => ⟨s, ?_, hR, Un42.rf⟩⟩
        · obtain ⟨s', e1, e2, e3, e4⟩ := settled7_s hB hT hC
          refine ⟨s', ?_, e2, e4⟩
          unfold f_X7_word
          rw [i7 σ hC, cP_s, if_neg n10, if_neg (show ¬ nI 3 = 0 by decide), if_neg (show ¬ nI 3 = 1 by decide), if_neg (show ¬ nI 3 = 2 by decide), if_pos (show nI 3 = 3 from rfl), e1, cA_s, reach7_s hB hT e2.2.1 e3.1 hi, cP_s]
        · unfold f_X8_word
          rw [i8 s hR, cP_s, if_neg n10, if_neg (show ¬ nI 3 = 0 by decide), if_neg (show ¬ nI 3 = 1 by decide), if_neg (show ¬ nI 3 = 2 by decide), if_pos (show nI 3 = 3 from rfl), reach8_s hB hT hR.2.1 hR.2.2.1 hi, cP_s]
      · refine ⟨ovs B T i (b_tc B), (S, B, T, im), hm0, fun hC => ?_, fun s hR => ⟨s, ?_, hR, Un42.rf⟩⟩
        · obtain ⟨s', e1, e2, e3, e4⟩ := settled7_s hB hT hC
          refine ⟨s', ?_, e2, e4⟩
          unfold f_X7_word
          rw [i7 σ hC, cP_s, if_neg n10, if_neg (show ¬ nI 4 = 0 by decide), if_neg (show ¬ nI 4 = 1 by decide), if_neg (show ¬ nI 4 = 2 by decide), if_neg (show ¬ nI 4 = 3 by decide), if_pos (show nI 4 = 4 from rfl), e1, cA_s, termsOver7_s hB hT e2.2.1 e3.1 hi, cP_s]
        · unfold f_X8_word
          rw [i8 s hR, cP_s, if_neg n10, if_neg (show ¬ nI 4 = 0 by decide), if_neg (show ¬ nI 4 = 1 by decide), if_neg (show ¬ nI 4 = 2 by decide), if_neg (show ¬ nI 4 = 3 by decide), if_pos (show nI 4 = 4 from rfl), foundOver8_s hB hT hR.2.1 hR.2.2.1 hi, cP_s]
      · refine ⟨co B T i, (S, B, T, im), hm0, fun hC => ?_, fun s hR => ?_⟩
        · obtain ⟨s', e1, e2, e3, e4⟩ := settled7_s hB hT hC
          refine ⟨s', ?_, e2, e4⟩
          unfold f_X7_word
          rw [i7 σ hC, cP_s, if_neg n10, if_neg (show ¬ nI 5 = 0 by decide), if_neg (show ¬ nI 5 = 1 by decide), if_neg (show ¬ nI 5 = 2 by decide), if_neg (show ¬ nI 5 = 3 by decide), if_neg (show ¬ nI 5 = 4 by decide), if_pos (show nI 5 = 5 from rfl), e1, cA_s, rI_n (by omega) (by decide), e3.2.2.2.2.2 i hi]
        · obtain ⟨s', e1, e2⟩ := chosenOver8_s hB hT hR.2.1 hR.2.2.1 hi
          refine ⟨s', ?_, hR.c8 e2, e2.u42 (by decide)⟩
          unfold f_X8_word
          rw [i8 s hR, cP_s, if_neg n10, if_neg (show ¬ nI 5 = 0 by decide), if_neg (show ¬ nI 5 = 1 by decide), if_neg (show ¬ nI 5 = 2 by decide), if_neg (show ¬ nI 5 = 3 by decide), if_neg (show ¬ nI 5 = 4 by decide), if_pos (show nI 5 = 5 from rfl), e1, cA_s]
    · have ne : ∀ c : Int32, (0 ≤ c ∧ c ≤ 5) → ¬ a2 = c := fun c hc e => hw (by rw [e]; exact hc)
      refine ⟨-1000000002, (S, B, T, im), hm0, fun hC => ⟨σ, ?_, hC, Un43.rf⟩, fun s hR => ⟨s, ?_, hR, Un42.rf⟩⟩
      · unfold f_X7_word
        rw [i7 σ hC, cP_s, if_neg n10, if_neg (ne 0 (by decide)), if_neg (ne 1 (by decide)), if_neg (ne 2 (by decide)), if_neg (ne 3 (by decide)), if_neg (ne 4 (by decide)), if_neg (ne 5 (by decide))]
      · unfold f_X8_word
        rw [i8 s hR, cP_s, if_neg n10, if_neg (ne 0 (by decide)), if_neg (ne 1 (by decide)), if_neg (ne 2 (by decide)), if_neg (ne 3 (by decide)), if_neg (ne 4 (by decide)), if_neg (ne 5 (by decide))]
  · refine ⟨-1000000001, (S, B, T, im), hm0, fun hC => ⟨σ, ?_, hC, Un43.rf⟩, fun s hR => ⟨s, ?_, hR, Un42.rf⟩⟩
    · unfold f_X7_word
      rw [isWord7_s hC.2.2.1 hT, bI_f hr, cP_s, if_pos rfl]
    · unfold f_X8_word
      rw [isWord8_s hR.2.2.1 hT, bI_f hr, cP_s, if_pos rfl]
end
section
/-! the longest at a word -/
def ky (B : Bk) (t : Nat) : Nat := 10 * b_n B t + b_we B t
noncomputable def lg (B : Bk) (T : Tx) (i : Nat) : Nat → Int32
  | 0 => -1
  | t + 1 => if fB B T t i = true ∧ (lg B T i t = -1 ∨ ky B (lg B T i t).toNatClampNeg < ky B t) then nI t else lg B T i t
theorem lg_ok {B : Bk} {T : Tx} {i : Nat} : ∀ t, lg B T i t = -1 ∨ ∃ u, u < t ∧ lg B T i t = nI u := by
  intro t
  induction t with
  | zero => exact Or.inl rfl
  | succ t ih =>
    rw [lg]
    split
    · exact Or.inr ⟨t, by omega, rfl⟩
    · rcases ih with h | ⟨u, h1, h2⟩
      · exact Or.inl h
      · exact Or.inr ⟨u, by omega, h2⟩
noncomputable def mo (B : Bk) (T : Tx) (i t : Nat) : Nat := if lg B T i t = -1 then 0 else ky B (lg B T i t).toNatClampNeg
section LO
variable {B : Bk} {T : Tx} {s : Sg}
theorem isLonger7_s (hB : Bok B) (hl : lexC s B) {t u : Nat} (ht : t < b_tc B) (hu : u < b_tc B) : f_X4_isLonger s (nI t) (nI u) = some (bI (ky B u < ky B t)) := by
  have h8 := hB.1
  obtain ⟨t1, t2, -⟩ := hB.2.2.1 t ht
  obtain ⟨u1, u2, -⟩ := hB.2.2.1 u hu
  unfold f_X4_isLonger ky
  rw [rI_n (by omega) (by decide), rI_n (by omega) (by decide), (hl.2.2.1 t ht).1, (hl.2.2.1 u hu).1]
  by_cases z : b_n B t = b_n B u
  · rw [if_pos (by rw [z]), rI_n (by omega) (by decide), rI_n (by omega) (by decide), (hl.2.2.1 t ht).2.1, (hl.2.2.1 u hu).2.1]
    by_cases y : b_we B t ≤ b_we B u
    · rw [if_pos (nI_le y (by omega)), bI_f (by omega)]
    · rw [if_neg (fun g => y ((nI_leI (by omega) (by omega)).mp g)), bI_t (by omega)]
  · rw [if_neg (fun g => z ((nI_eq (by omega) (by omega)).mp g)), rI_n (by omega) (by decide), rI_n (by omega) (by decide), (hl.2.2.1 t ht).1, (hl.2.2.1 u hu).1]
    by_cases y : b_n B t ≤ b_n B u
    · rw [if_pos (nI_le y (by omega)), bI_f (by omega)]
    · rw [if_neg (fun g => y ((nI_leI (by omega) (by omega)).mp g)), bI_t (by omega)]
theorem longestAt7_s (hB : Bok B) (hT : Tok T) (hl : lexC s B) (hk : lookP (s.1 32) (s.1 33) B T (t_c T)) {i : Nat} (hi : i < t_c T) : f_X4_longestAt s (nI i) = some (lg B T i (b_tc B)) := by
  have h8 := hB.1
  have h60 := hT.1
  have key : ∀ n t, t ≤ b_tc B → b_tc B < n + t → f_X4_longestAt_L4 (fun (v11 : Int32) => some v11) s (nI i) n (lg B T i t) (nI t) = some (lg B T i (b_tc B)) := by
    intro n
    induction n with
    | zero => intro t h1 h2; omega
    | succ n ih =>
      intro t h1 h2
      rw [f_X4_longestAt_L4, hl.1]
      rcases Nat.lt_or_ge t (b_tc B) with q | q
      · rw [if_neg (fun z => by have := (nI_leI (by omega) (by omega)).mp z; omega), isFound7_t hk hT hB hi q, cP_s, nI_1]
        have hh := ih (t + 1) (by omega) (by omega)
        rw [lg] at hh
        by_cases z : fB B T t i = true
        · rw [bI_t z, if_neg (by decide)]
          simp only [jn_s]
          rw [nI_1]
          rcases lg_ok (B := B) (T := T) (i := i) t with g | ⟨u, g1, g2⟩
          · rw [if_pos ⟨z, Or.inl g⟩] at hh
            rw [if_pos g]
            exact hh
          · rw [g2, if_neg (nI_m1 (by omega)), isLonger7_s hB hl q (by omega), cP_s]
            rw [g2, nI_clamp (by omega)] at hh
            by_cases y : ky B u < ky B t
            · rw [if_pos ⟨z, Or.inr y⟩] at hh
              rw [bI_t y, if_neg (by decide)]
              exact hh
            · rw [if_neg (by
                rintro ⟨-, w | w⟩
                · exact nI_m1 (by omega) w
                · exact y w)] at hh
              rw [bI_f y, if_pos rfl]
              exact hh
        · rw [if_neg (fun g => z g.1)] at hh
          rw [bI_f z, if_pos rfl]
          exact hh
      · have : t = b_tc B := by omega
        subst this
        rw [if_pos (nI_le (Nat.le_refl _) (by omega))]
  exact key fu 0 (Nat.zero_le _) (by unfold fu; omega)
theorem longest8_L (hB : Bok B) (hT : Tok T) (hb : bookP (s.1 44) B) (hx : txR s T) {i : Nat} (hi : i < t_c T) : f_X8_longest_L18 (fun (v27 : Int32) => some v27) s (nI i) fu (-1) 0 0 = some (lg B T i (b_tc B)) := by
  have h8 := hB.1
  have h60 := hT.1
  have key : ∀ n t, t ≤ b_tc B → b_tc B < n + t → f_X8_longest_L18 (fun (v27 : Int32) => some v27) s (nI i) n (lg B T i t) (nI (mo B T i t)) (nI t) = some (lg B T i (b_tc B)) := by
    intro n
    induction n with
    | zero => intro t h1 h2; omega
    | succ n ih =>
      intro t h1 h2
      rw [f_X8_longest_L18, show rI s 44 475 0 = rI (α := Int32) s 44 475 (nI 0) from rfl, rI_n (by omega) (by decide), hb.1]
      rcases Nat.lt_or_ge t (b_tc B) with q | q
      · obtain ⟨t1, t2, -⟩ := hB.2.2.1 t q
        rw [if_neg (fun z => by have := (nI_leI (by omega) (by omega)).mp z; omega), termAt8_s, cP_s, nI_p0, rI_n (by omega) (by decide), cP_s, nI_1, rI_n (by omega) (by decide), (hb.2.2.1 t q).1, (hb.2.2.1 t q).2.1, li 10, pk_mul, nI_add, nI_1]
        have hh := ih (t + 1) (by omega) (by omega)
        have hmo : mo B T i t ≤ 49 := by
          unfold mo
          rcases lg_ok (B := B) (T := T) (i := i) t with g | ⟨u, g1, g2⟩
          · rw [if_pos g]; omega
          · rw [g2, if_neg (nI_m1 (by omega)), nI_clamp (by omega)]
            obtain ⟨u1, u2, -⟩ := hB.2.2.1 u (by omega)
            unfold ky
            omega
        have hcond : (lg B T i t = -1 ∨ ky B (lg B T i t).toNatClampNeg < ky B t) ↔ mo B T i t < ky B t := by
          unfold mo
          rcases lg_ok (B := B) (T := T) (i := i) t with g | ⟨u, g1, g2⟩
          · rw [if_pos g]
            exact ⟨fun _ => by unfold ky; omega, fun _ => Or.inl g⟩
          · rw [g2, if_neg (nI_m1 (by omega))]
            exact ⟨fun h => by rcases h with h | h; exact absurd h (nI_m1 (by omega)); exact h, Or.inr⟩
        have hkt : ky B t ≤ 49 := by unfold ky; omega
        have keep : ¬ (fB B T t i = true ∧ mo B T i t < ky B t) → f_X8_longest_L18 (fun (v27 : Int32) => some v27) s (nI i) n (lg B T i t) (nI (mo B T i t)) (nI (t + 1)) = some (lg B T i (b_tc B)) := fun hno => by
          have e : lg B T i (t + 1) = lg B T i t := by rw [lg, if_neg (fun g => hno ⟨g.1, hcond.mp g.2⟩)]
          have e2 : mo B T i (t + 1) = mo B T i t := by unfold mo; rw [e]
          rw [e, e2] at hh
          exact hh
        simp only [jn_s]
        rw [show 10 * b_n B t + b_we B t = ky B t from rfl]
        by_cases y : ky B t ≤ mo B T i t
        · rw [if_pos (nI_le y (by omega)), if_pos trivial, if_pos trivial]
          exact keep (fun g => by have := g.2; omega)
        · rw [if_neg (fun g => y ((nI_leI (by omega) (by omega)).mp g)), isFound8_s hx hT hb hB (by omega) q, cP_s]
          by_cases z : fB B T t i = true
          · rw [bI_t z, if_neg (by decide), if_neg (by decide), if_neg (by decide)]
            have e : lg B T i (t + 1) = nI t := by rw [lg, if_pos ⟨z, hcond.mpr (by omega)⟩]
            have e2 : mo B T i (t + 1) = ky B t := by unfold mo; rw [e, if_neg (nI_m1 (by omega)), nI_clamp (by omega)]
            rw [e, e2] at hh
            exact hh
          · rw [bI_f z, if_pos rfl, if_pos trivial, if_pos trivial]
            exact keep (fun g => z g.1)
      · have : t = b_tc B := by omega
        subst this
        rw [if_pos (nI_le (Nat.le_refl _) (by omega))]
  have := key fu 0 (Nat.zero_le _) (by unfold fu; omega)
  exact this
end LO
theorem ps_longest (σ : Sg) (a1 : Int32) (h : InvA σ) : ∃ (r : Int32) (σ1 : Sg), f_X7_longest σ a1 = some (r, σ1) ∧ f_X8_longest σ1 a1 = some r ∧ InvA σ1 := by
  obtain ⟨⟨S, B, T, im⟩, hm, hC, hR⟩ := h
  have hB : Bok B := hm.2.1
  have hT : Tok T := hm.2.2.1
  have n10 : ¬ (1 : Int32) = 0 := by decide
  rcases Classical.em (rg a1 (t_c T)) with hr | hr
  · have hr' := hr
    obtain ⟨i, hi, rfl⟩ := hr
    obtain ⟨s', e1, e2, e3, e4⟩ := settled7_s hB hT hC
    have hR' := hR.cg e4
    refine ⟨lg B T i (b_tc B), s', ?_, ?_, (S, B, T, im), hm, e2, hR'⟩
    · unfold f_X7_longest
      rw [isWord7_s hC.2.2.1 hT, bI_t hr', cP_s, if_neg n10, e1, cA_s, longestAt7_s hB hT e2.2.1 e3.1 hi, cP_s]
    · unfold f_X8_longest
      rw [isWord8_s hR'.2.2.1 hT, bI_t hr', cP_s, if_neg n10, longest8_L hB hT hR'.2.1 hR'.2.2.1 hi]
  · refine ⟨-1000000001, σ, ?_, ?_, (S, B, T, im), hm, hC, hR⟩
    · unfold f_X7_longest
      rw [isWord7_s hC.2.2.1 hT, bI_f hr, cP_s, if_pos rfl]
    · unfold f_X8_longest
      rw [isWord8_s hR.2.2.1 hT, bI_f hr, cP_s, if_pos rfl]
end
section
/-! the k-th of those that are so, by word, then by term -/
theorem sumN_mono {f : Nat → Nat} {a : Nat} : ∀ {b : Nat}, a ≤ b → sumN f a ≤ sumN f b
  | 0, h => by
    have : a = 0 := by omega
    rw [this]; exact Nat.le_refl _
  | b + 1, h => by
    by_cases z : a = b + 1
    · rw [z]; exact Nat.le_refl _
    · have := sumN_mono (f := f) (a := a) (b := b) (by omega)
      show sumN f a ≤ sumN f b + f b
      omega
theorem sumN_ext {f : Nat → Nat} {a : Nat} : ∀ {b : Nat}, a ≤ b → (∀ u, a ≤ u → u < b → f u = 0) → sumN f b = sumN f a
  | 0, h, _ => by
    have : a = 0 := by omega
    rw [this]
  | b + 1, h, hz => by
    by_cases z : a = b + 1
    · rw [z]
    · show sumN f b + f b = _
      rw [sumN_ext (by omega) (fun u h1 h2 => hz u h1 (by omega)), hz b (by omega) (by omega)]
      rfl
theorem ivt {f : Nat → Nat} {k : Nat} : ∀ n, k < sumN f n → ∃ j, j < n ∧ sumN f j ≤ k ∧ k < sumN f j + f j := by
  intro n
  induction n with
  | zero => intro h; exact absurd h (Nat.not_lt_zero k)
  | succ n ih =>
    intro h
    have h : k < sumN f n + f n := h
    rcases Nat.lt_or_ge k (sumN f n) with q | q
    · obtain ⟨j, h1, h2⟩ := ih q
      exact ⟨j, by omega, h2⟩
    · exact ⟨n, by omega, q, h⟩
def ind (Q : Nat → Nat → Bool) (j u : Nat) : Nat := if Q j u = true then 1 else 0
def rcn (Q : Nat → Nat → Bool) (m j : Nat) : Nat := sumN (ind Q j) m
def pf (Q : Nat → Nat → Bool) (m j u : Nat) : Nat := sumN (rcn Q m) j + sumN (ind Q j) u
section PF
variable {Q : Nat → Nat → Bool} {c m k : Nat}
theorem ind_t {j u : Nat} (h : Q j u = true) : ind Q j u = 1 := by unfold ind; rw [if_pos h]
theorem ind_f {j u : Nat} (h : ¬ Q j u = true) : ind Q j u = 0 := by unfold ind; rw [if_neg h]
theorem pf_t {j u : Nat} (h : Q j u = true) : pf Q m j (u + 1) = pf Q m j u + 1 := by
  show sumN (rcn Q m) j + (sumN (ind Q j) u + ind Q j u) = _
  rw [ind_t h]; rfl
theorem pf_f {j u : Nat} (h : ¬ Q j u = true) : pf Q m j (u + 1) = pf Q m j u := by
  show sumN (rcn Q m) j + (sumN (ind Q j) u + ind Q j u) = _
  rw [ind_f h]; rfl
theorem pf_n {j : Nat} : pf Q m (j + 1) 0 = pf Q m j m := rfl
theorem pf_le {i j t u : Nat} (hu : u ≤ m) (h : j < i ∨ (j = i ∧ u ≤ t)) : pf Q m j u ≤ pf Q m i t := by
  rcases h with h | ⟨rfl, h⟩
  · have h1 := sumN_mono (f := rcn Q m) (show j + 1 ≤ i by omega)
    have h2 := sumN_mono (f := ind Q j) hu
    have h1 : sumN (rcn Q m) j + sumN (ind Q j) m ≤ sumN (rcn Q m) i := h1
    unfold pf
    omega
  · have h2 := sumN_mono (f := ind Q j) h
    unfold pf
    omega
theorem pf_lt {i j t u : Nat} (hu : u < m) (hq : Q j u = true) (h : j < i ∨ (j = i ∧ u < t)) : pf Q m j u < pf Q m i t := by
  have h1 := pf_t (m := m) hq
  have h2 := pf_le (Q := Q) (m := m) (i := i) (t := t) (j := j) (u := u + 1) (by omega) (by omega)
  omega
theorem pf_ex (h : k < sumN (rcn Q m) c) : ∃ i t, i < c ∧ t < m ∧ Q i t = true ∧ pf Q m i t = k := by
  obtain ⟨i, h1, h2, h3⟩ := ivt c h
  have h3 : k < sumN (rcn Q m) i + sumN (ind Q i) m := h3
  obtain ⟨t, g1, g2, g3⟩ := ivt (f := ind Q i) (k := k - sumN (rcn Q m) i) m (by omega)
  have hq : Q i t = true := by
    by_cases z : Q i t = true
    · exact z
    · rw [ind_f z] at g3; omega
  refine ⟨i, t, h1, g1, hq, ?_⟩
  rw [ind_t hq] at g3
  unfold pf
  omega
theorem pf_tot {i t : Nat} (hi : i < c) (ht : t < m) (hq : Q i t = true) : pf Q m i t < sumN (rcn Q m) c := by
  have := pf_lt (Q := Q) (m := m) (i := c) (t := 0) ht hq (Or.inl hi)
  exact this
end PF
/-! the reference's place -/
theorem nI_m0 (y : Nat) : nI y - 0 = nI y := pk_sub (Nat.zero_le y)
/-- the loop's step, by what is asked -/
def plH (s : Sg) (c2 : Int32) (Q : Nat → Nat → Bool) (c m : Nat) : Prop := ∀ (kk : Int32 → Option (Int32 × Sg)) (n j u y : Nat), j < c → (u < m → (Q j u = true → f_X8_place_L21 kk s c2 (nI j) (n + 1) (nI y) (nI u) = if nI y = 0 then some (nI (8 * j + u), s) else f_X8_place_L21 kk s c2 (nI j) n (nI y - 1) (nI (u + 1))) ∧ (¬ Q j u = true → f_X8_place_L21 kk s c2 (nI j) (n + 1) (nI y) (nI u) = f_X8_place_L21 kk s c2 (nI j) n (nI y) (nI (u + 1)))) ∧ (u = m → f_X8_place_L21 kk s c2 (nI j) (n + 1) (nI y) (nI u) = kk (nI y))
section PL
variable {s : Sg} {c2 : Int32} {Q : Nat → Nat → Bool} {c m k : Nat}
theorem place8_row (H : plH s c2 Q c m) (hk : k < 2 ^ 31) {j : Nat} (hj : j < c) (hno : ∀ u, u < m → Q j u = true → pf Q m j u ≠ k) (kk : Int32 → Option (Int32 × Sg)) : ∀ n u, u ≤ m → m < n + u → pf Q m j u ≤ k → f_X8_place_L21 kk s c2 (nI j) n (nI (k - pf Q m j u)) (nI u) = kk (nI (k - pf Q m j m)) := by
  intro n
  induction n with
  | zero => intro u h1 h2; omega
  | succ n ih =>
    intro u h1 h2 h3
    by_cases z : u = m
    · rw [z] at *
      exact (H kk n j m _ hj).2 rfl
    · obtain ⟨a1, a2⟩ := (H kk n j u (k - pf Q m j u) hj).1 (by omega)
      by_cases q : Q j u = true
      · have hne := hno u (by omega) q
        have e := pf_t (m := m) q
        rw [a1 q, if_neg (nI_ne0 (by omega) (by omega)), nI_s1 (by omega), show k - pf Q m j u - 1 = k - pf Q m j (u + 1) by omega]
        exact ih (u + 1) (by omega) (by omega) (by omega)
      · rw [a2 q, ← pf_f (m := m) q]
        exact ih (u + 1) (by omega) (by omega) (by rw [pf_f q]; exact h3)
theorem place8_hit (H : plH s c2 Q c m) (hk : k < 2 ^ 31) {j t : Nat} (hj : j < c) (ht : t < m) (hq : Q j t = true) (hp : pf Q m j t = k) (kk : Int32 → Option (Int32 × Sg)) : ∀ n u, u ≤ t → m < n + u → f_X8_place_L21 kk s c2 (nI j) n (nI (k - pf Q m j u)) (nI u) = some (nI (8 * j + t), s) := by
  intro n
  induction n with
  | zero => intro u h1 h2; omega
  | succ n ih =>
    intro u h1 h2
    obtain ⟨a1, a2⟩ := (H kk n j u (k - pf Q m j u) hj).1 (by omega)
    by_cases z : u = t
    · subst z
      rw [a1 hq, if_pos (by rw [hp, Nat.sub_self]; rfl)]
    · by_cases q : Q j u = true
      · have hlt := pf_lt (Q := Q) (m := m) (i := j) (t := t) (show u < m by omega) q (Or.inr ⟨rfl, by omega⟩)
        have e := pf_t (m := m) q
        rw [a1 q, if_neg (nI_ne0 (by omega) (by omega)), nI_s1 (by omega), show k - pf Q m j u - 1 = k - pf Q m j (u + 1) by omega]
        exact ih (u + 1) (by omega) (by omega)
      · rw [a2 q, ← pf_f (m := m) q]
        exact ih (u + 1) (by omega) (by omega)
theorem place8_A (H : plH s c2 Q c m) (hk : k < 2 ^ 31) (hc : c ≤ 60) (hm : m ≤ 8) (hx : s.1 43 6 = nI c) {i t : Nat} (hi : i < c) (ht : t < m) (hq : Q i t = true) (hp : pf Q m i t = k) : f_X8_place_L9 (some ((-1), s)) s c2 fu (nI k) 0 = some (nI (8 * i + t), s) := by
  have key : ∀ n j, j ≤ i → c < n + j → f_X8_place_L9 (some ((-1), s)) s c2 n (nI (k - pf Q m j 0)) (nI j) = some (nI (8 * i + t), s) := by
    intro n
    induction n with
    | zero => intro j h1 h2; omega
    | succ n ih =>
      intro j h1 h2
      rw [f_X8_place_L9, hx, if_neg (fun z => by have := (nI_leI (by omega) (by omega)).mp z; omega), nI_1]
      by_cases z : j = i
      · subst z
        exact place8_hit H hk hi ht hq hp _ fu 0 (Nat.zero_le _) (by unfold fu; omega)
      · have hle := pf_le (Q := Q) (m := m) (i := i) (t := t) (j := j) (u := 0) (Nat.zero_le _) (Or.inl (by omega))
        refine (place8_row H hk (by omega) (fun u hu q => by have := pf_lt (Q := Q) (m := m) (i := i) (t := t) hu q (Or.inl (by omega)); omega) (fun (v23 : Int32) => f_X8_place_L9 (some ((-1), s)) s c2 n (v23) (nI (j + 1))) fu 0 (Nat.zero_le _) (by unfold fu; omega) (by omega)).trans ?_
        rw [← pf_n]
        exact ih (j + 1) (by omega) (by omega)
  exact key fu 0 (Nat.zero_le _) (by unfold fu; omega)
theorem place8_B (H : plH s c2 Q c m) (hk : k < 2 ^ 31) (hc : c ≤ 60) (hm : m ≤ 8) (hx : s.1 43 6 = nI c) (ht : sumN (rcn Q m) c ≤ k) : f_X8_place_L9 (some ((-1), s)) s c2 fu (nI k) 0 = some ((-1), s) := by
  have key : ∀ n j, j ≤ c → c < n + j → f_X8_place_L9 (some ((-1), s)) s c2 n (nI (k - pf Q m j 0)) (nI j) = some ((-1), s) := by
    intro n
    induction n with
    | zero => intro j h1 h2; omega
    | succ n ih =>
      intro j h1 h2
      rw [f_X8_place_L9, hx]
      by_cases z : j = c
      · subst z
        rw [if_pos (nI_le (Nat.le_refl _) (by omega))]
      · rw [if_neg (fun z => by have := (nI_leI (by omega) (by omega)).mp z; omega), nI_1]
        have hle := pf_le (Q := Q) (m := m) (i := c) (t := 0) (j := j) (u := 0) (Nat.zero_le _) (Or.inl (by omega))
        have hle : pf Q m j 0 ≤ sumN (rcn Q m) c := hle
        refine (place8_row H hk (by omega) (fun u hu q => by have := pf_tot (Q := Q) (m := m) (c := c) (i := j) (by omega) hu q; omega) (fun (v23 : Int32) => f_X8_place_L9 (some ((-1), s)) s c2 n (v23) (nI (j + 1))) fu 0 (Nat.zero_le _) (by unfold fu; omega) (by omega)).trans ?_
        rw [← pf_n]
        exact ih (j + 1) (by omega) (by omega)
  exact key fu 0 (Nat.zero_le _) (by unfold fu; omega)
end PL
section PH
variable {B : Bk} {T : Tx} {s : Sg}
theorem place8_F (hB : Bok B) (hT : Tok T) (hb : bookP (s.1 44) B) (hx : txR s T) : plH s 0 (fun j u => fB B T u j) (t_c T) (b_tc B) := by
  have h8 := hB.1
  have h60 := hT.1
  intro kk n j u y hj
  rw [f_X8_place_L21, show rI s 44 475 0 = rI (α := Int32 × Sg) s 44 475 (nI 0) from rfl, rI_n (by omega) (by decide), hb.1]
  refine ⟨fun hu => ?_, fun hu => ?_⟩
  · rw [if_neg (fun z => by have := (nI_leI (by omega) (by omega)).mp z; omega)]
    simp only [jn_s]
    rw [if_pos trivial, isFound8_s hx hT hb hB (by omega) hu, cP_s, nI_1, li 8, pk_mul, nI_add]
    refine ⟨fun hq => ?_, fun hq => ?_⟩
    · rw [bI_t hq, if_neg (show ¬ (1 : Int32) = 0 by decide), if_neg (show ¬ (1 : Int32) = 0 by decide)]
    · rw [bI_f hq, if_pos rfl, if_pos rfl, nI_m0]
  · subst hu
    rw [if_pos (nI_le (Nat.le_refl _) (by omega))]
theorem place8_C (hB : Bok B) (hT : Tok T) (hb : bookP (s.1 44) B) (hc : ∀ j, j < t_c T → s.1 53 j = ch B T j) : plH s 1 (fun j u => decide (ch B T j = nI u)) (t_c T) (b_tc B) := by
  have h8 := hB.1
  have h60 := hT.1
  intro kk n j u y hj
  rw [f_X8_place_L21, show rI s 44 475 0 = rI (α := Int32 × Sg) s 44 475 (nI 0) from rfl, rI_n (by omega) (by decide), hb.1]
  refine ⟨fun hu => ?_, fun hu => ?_⟩
  · rw [if_neg (fun z => by have := (nI_leI (by omega) (by omega)).mp z; omega)]
    simp only [jn_s]
    rw [if_neg (show ¬ (1 : Int32) = 0 by decide), rI_n (by omega) (by decide), hc j hj, nI_1, li 8, pk_mul, nI_add]
    refine ⟨fun hq => ?_, fun hq => ?_⟩
    · rw [if_pos (of_decide_eq_true hq), if_neg (show ¬ (1 : Int32) = 0 by decide), if_neg (show ¬ (1 : Int32) = 0 by decide)]
    · rw [if_neg (fun g => hq (decide_eq_true g)), if_pos trivial, if_pos trivial, nI_m0]
  · subst hu
    rw [if_pos (nI_le (Nat.le_refl _) (by omega))]
end PH
end
section
/-! the k-th found -/
theorem bc8 : ∀ k, k < 256 → bcI (nI k) = nI (sumN (fun u => if bt (nI k) u = true then 1 else 0) 8) := by decide +kernel
noncomputable def QF (B : Bk) (T : Tx) : Nat → Nat → Bool := fun j u => fB B T u j
noncomputable def QC (B : Bk) (T : Tx) : Nat → Nat → Bool := fun j u => decide (ch B T j = nI u)
section FD
variable {B : Bk} {T : Tx} {s : Sg}
theorem bc_starts (hB : Bok B) (hk : lookP (s.1 32) (s.1 33) B T (t_c T)) {j : Nat} (hj : j < t_c T) : bcI (s.1 33 j) = nI (rcn (QF B T) (b_tc B) j) := by
  have h8 := hB.1
  have hbit : ∀ u, u < 32 → (bt (s.1 33 j) u = true ↔ u < b_tc B ∧ fnd B T u j) := fun u hu => hk.2 j hj u hu
  have e : s.1 33 j &&& 255 = s.1 33 j := by
    apply b_ext
    intro i hi
    rw [b_and, b_255]
    by_cases z : i < 8
    · simp [z]
    · have : bt (s.1 33 j) i = false := ts_nt (fun g => by have := ((hbit i hi).mp g).1; omega)
      rw [this]; rfl
  obtain ⟨k, hk8, ek⟩ := pk_andE (s.1 33 j) (m := 255) 8 (by decide)
  rw [e] at ek
  rw [ek, bc8 k hk8, ← ek]
  congr 1
  unfold rcn
  rw [sumN_ext (a := b_tc B) (b := 8) h8 (fun u h1 h2 => if_neg (fun g => by have := ((hbit u (by omega)).mp g).1; omega))]
  refine sumN_cg (fun u hu => ?_)
  unfold ind QF
  by_cases z : bt (s.1 33 j) u = true
  · rw [if_pos z, if_pos (fB_iff.mpr ((hbit u (by omega)).mp z).2)]
  · rw [if_neg z, if_neg (fun g => z ((hbit u (by omega)).mpr ⟨hu, fB_iff.mp g⟩))]
theorem rcn_le {Q : Nat → Nat → Bool} {j : Nat} : ∀ m, sumN (ind Q j) m ≤ m := by
  intro m
  induction m with
  | zero => exact Nat.le_refl _
  | succ m ih =>
    show sumN (ind Q j) m + ind Q j m ≤ m + 1
    have : ind Q j m ≤ 1 := by unfold ind; split <;> omega
    omega
theorem tot_le {Q : Nat → Nat → Bool} {m : Nat} (hm : m ≤ 8) : ∀ c, sumN (rcn Q m) c ≤ 8 * c := by
  intro c
  induction c with
  | zero => exact Nat.le_refl _
  | succ c ih =>
    show sumN (rcn Q m) c + rcn Q m c ≤ 8 * (c + 1)
    have := rcn_le (Q := Q) (j := c) m
    unfold rcn at this ih ⊢
    omega
theorem foundAt7_A (hB : Bok B) (hT : Tok T) (hx : txtC s T) (hk : lookP (s.1 32) (s.1 33) B T (t_c T)) {k i t : Nat} (hk2 : k < 2 ^ 31) (hi : i < t_c T) (ht : t < b_tc B) (hq : QF B T i t = true) (hp : pf (QF B T) (b_tc B) i t = k) : f_X4_foundAt s (nI k) = some (nI i) := by
  have h60 := hT.1
  have h8 := hB.1
  have key : ∀ n j, j ≤ i → t_c T < n + j → f_X4_foundAt_L4 (some (-1)) s (nI k) n (nI (sumN (rcn (QF B T) (b_tc B)) j)) (nI j) = some (nI i) := by
    intro n
    induction n with
    | zero => intro j h1 h2; omega
    | succ n ih =>
      intro j h1 h2
      have hto := tot_le (Q := QF B T) h8 (j + 1)
      have es : sumN (rcn (QF B T) (b_tc B)) (j + 1) = sumN (rcn (QF B T) (b_tc B)) j + rcn (QF B T) (b_tc B) j := rfl
      rw [f_X4_foundAt_L4, hx.1, if_neg (fun z => by have := (nI_leI (by omega) (by omega)).mp z; omega), rI_n (by omega) (by decide), bitCount_s, cP_s, bc_starts hB hk (by omega), nI_add, ← es, nI_1]
      by_cases z : j = i
      · subst z
        have := pf_le (Q := QF B T) (m := b_tc B) (j := j) (u := t + 1) (i := j + 1) (t := 0) (by omega) (Or.inl (by omega))
        rw [pf_t hq] at this
        have : pf (QF B T) (b_tc B) j t + 1 ≤ sumN (rcn (QF B T) (b_tc B)) (j + 1) := this
        rw [if_neg (fun z => by have := (nI_leI (by omega) (by omega)).mp z; omega)]
      · have := pf_le (Q := QF B T) (m := b_tc B) (j := j + 1) (u := 0) (i := i) (t := t) (Nat.zero_le _) (by omega)
        have : sumN (rcn (QF B T) (b_tc B)) (j + 1) ≤ pf (QF B T) (b_tc B) i t := this
        rw [if_pos (nI_le (by omega) (by omega))]
        exact ih (j + 1) (by omega) (by omega)
  exact key fu 0 (Nat.zero_le _) (by unfold fu; omega)
theorem foundAt7_B (hB : Bok B) (hT : Tok T) (hx : txtC s T) (hk : lookP (s.1 32) (s.1 33) B T (t_c T)) {k : Nat} (hk2 : k < 2 ^ 31) (ht : sumN (rcn (QF B T) (b_tc B)) (t_c T) ≤ k) : f_X4_foundAt s (nI k) = some (-1) := by
  have h60 := hT.1
  have h8 := hB.1
  have key : ∀ n j, j ≤ t_c T → t_c T < n + j → f_X4_foundAt_L4 (some (-1)) s (nI k) n (nI (sumN (rcn (QF B T) (b_tc B)) j)) (nI j) = some (-1) := by
    intro n
    induction n with
    | zero => intro j h1 h2; omega
    | succ n ih =>
      intro j h1 h2
      have hto := tot_le (Q := QF B T) h8 (j + 1)
      have es : sumN (rcn (QF B T) (b_tc B)) (j + 1) = sumN (rcn (QF B T) (b_tc B)) j + rcn (QF B T) (b_tc B) j := rfl
      rw [f_X4_foundAt_L4, hx.1]
      by_cases z : j = t_c T
      · subst z
        rw [if_pos (nI_le (Nat.le_refl _) (by omega))]
      · have := sumN_mono (f := rcn (QF B T) (b_tc B)) (show j + 1 ≤ t_c T by omega)
        rw [if_neg (fun z => by have := (nI_leI (by omega) (by omega)).mp z; omega), rI_n (by omega) (by decide), bitCount_s, cP_s, bc_starts hB hk (by omega), nI_add, ← es, nI_1, if_pos (nI_le (by omega) (by omega))]
        exact ih (j + 1) (by omega) (by omega)
  exact key fu 0 (Nat.zero_le _) (by unfold fu; omega)
theorem foundCount7_s (hB : Bok B) (hT : Tok T) (hx : txtC s T) (hk : lookP (s.1 32) (s.1 33) B T (t_c T)) : f_X4_foundCount s = some (nI (sumN (rcn (QF B T) (b_tc B)) (t_c T))) := by
  have h60 := hT.1
  have h8 := hB.1
  have key : ∀ n j, j ≤ t_c T → t_c T < n + j → f_X4_foundCount_L4 (fun (v7 : Int32) => some v7) s n (nI (sumN (rcn (QF B T) (b_tc B)) j)) (nI j) = some (nI (sumN (rcn (QF B T) (b_tc B)) (t_c T))) := by
    intro n
    induction n with
    | zero => intro j h1 h2; omega
    | succ n ih =>
      intro j h1 h2
      have es : sumN (rcn (QF B T) (b_tc B)) (j + 1) = sumN (rcn (QF B T) (b_tc B)) j + rcn (QF B T) (b_tc B) j := rfl
      rw [f_X4_foundCount_L4, hx.1]
      by_cases z : j = t_c T
      · subst z
        rw [if_pos (nI_le (Nat.le_refl _) (by omega))]
      · rw [if_neg (fun z => by have := (nI_leI (by omega) (by omega)).mp z; omega), rI_n (by omega) (by decide), bitCount_s, cP_s, bc_starts hB hk (by omega), nI_add, ← es, nI_1]
        exact ih (j + 1) (by omega) (by omega)
  exact key fu 0 (Nat.zero_le _) (by unfold fu; omega)
/-- a row without it -/
theorem foundTerm7_row (hB : Bok B) (hT : Tok T) (hl : lexC s B) (hk : lookP (s.1 32) (s.1 33) B T (t_c T)) {k j : Nat} (hk2 : k < 2 ^ 31) (hj : j < t_c T) (hno : ∀ u, u < b_tc B → QF B T j u = true → pf (QF B T) (b_tc B) j u ≠ k) (kk : Int32 → Option Int32) : ∀ n u, u ≤ b_tc B → b_tc B < n + u → f_X4_foundTerm_L18 kk s (nI k) (nI j) n (nI (pf (QF B T) (b_tc B) j u)) (nI u) = kk (nI (pf (QF B T) (b_tc B) j (b_tc B))) := by
  have h60 := hT.1
  have h8 := hB.1
  intro n
  induction n with
  | zero => intro u h1 h2; omega
  | succ n ih =>
    intro u h1 h2
    have hto := tot_le (Q := QF B T) h8 j
    have hro := rcn_le (Q := QF B T) (j := j) u
    rw [f_X4_foundTerm_L18, hl.1]
    by_cases z : u = b_tc B
    · subst z
      rw [if_pos (nI_le (Nat.le_refl _) (by omega))]
    · rw [if_neg (fun z => by have := (nI_leI (by omega) (by omega)).mp z; omega), isFound7_t hk hT hB hj (by omega), cP_s, nI_1, nI_1]
      by_cases q : fB B T u j = true
      · have hne := hno u (by omega) q
        have hb : pf (QF B T) (b_tc B) j u < 2 ^ 31 := by unfold pf; omega
        rw [bI_t q, if_neg (by decide), if_neg (fun g => hne ((nI_eq hb hk2).mp g)), ← pf_t (Q := QF B T) (m := b_tc B) (j := j) (u := u) q]
        exact ih (u + 1) (by omega) (by omega)
      · rw [bI_f q, if_pos rfl, ← pf_f (Q := QF B T) (m := b_tc B) (j := j) (u := u) q]
        exact ih (u + 1) (by omega) (by omega)
theorem foundTerm7_hit (hB : Bok B) (hT : Tok T) (hl : lexC s B) (hk : lookP (s.1 32) (s.1 33) B T (t_c T)) {k j t : Nat} (hk2 : k < 2 ^ 31) (hj : j < t_c T) (ht : t < b_tc B) (hq : QF B T j t = true) (hp : pf (QF B T) (b_tc B) j t = k) (kk : Int32 → Option Int32) : ∀ n u, u ≤ t → b_tc B < n + u → f_X4_foundTerm_L18 kk s (nI k) (nI j) n (nI (pf (QF B T) (b_tc B) j u)) (nI u) = some (nI t) := by
  have h60 := hT.1
  have h8 := hB.1
  intro n
  induction n with
  | zero => intro u h1 h2; omega
  | succ n ih =>
    intro u h1 h2
    rw [f_X4_foundTerm_L18, hl.1, if_neg (fun z => by have := (nI_leI (by omega) (by omega)).mp z; omega), isFound7_t hk hT hB hj (by omega), cP_s, nI_1, nI_1]
    by_cases z : u = t
    · subst z
      rw [bI_t (show fB B T u j = true from hq), if_neg (by decide), if_pos (by rw [hp])]
    · by_cases q : fB B T u j = true
      · have hlt := pf_lt (Q := QF B T) (m := b_tc B) (j := j) (u := u) (i := j) (t := t) (by omega) q (Or.inr ⟨rfl, by omega⟩)
        rw [bI_t q, if_neg (by decide), if_neg (fun g => by have := (nI_eq (by omega) hk2).mp g; omega), ← pf_t (Q := QF B T) (m := b_tc B) (j := j) (u := u) q]
        exact ih (u + 1) (by omega) (by omega)
      · rw [bI_f q, if_pos rfl, ← pf_f (Q := QF B T) (m := b_tc B) (j := j) (u := u) q]
        exact ih (u + 1) (by omega) (by omega)
theorem foundTerm7_A (hB : Bok B) (hT : Tok T) (hl : lexC s B) (hx : txtC s T) (hk : lookP (s.1 32) (s.1 33) B T (t_c T)) {k i t : Nat} (hk2 : k < 2 ^ 31) (hi : i < t_c T) (ht : t < b_tc B) (hq : QF B T i t = true) (hp : pf (QF B T) (b_tc B) i t = k) : f_X4_foundTerm s (nI k) = some (nI t) := by
  have h60 := hT.1
  have h8 := hB.1
  have key : ∀ n j, j ≤ i → t_c T < n + j → f_X4_foundTerm_L4 (some (-1)) s (nI k) n (nI (pf (QF B T) (b_tc B) j 0)) (nI j) = some (nI t) := by
    intro n
    induction n with
    | zero => intro j h1 h2; omega
    | succ n ih =>
      intro j h1 h2
      rw [f_X4_foundTerm_L4, hx.1, if_neg (fun z => by have := (nI_leI (by omega) (by omega)).mp z; omega), nI_1]
      by_cases z : j = i
      · subst z
        exact foundTerm7_hit hB hT hl hk hk2 hi ht hq hp _ fu 0 (Nat.zero_le _) (by unfold fu; omega)
      · refine (foundTerm7_row hB hT hl hk hk2 (by omega) (fun u hu q => by have := pf_lt (Q := QF B T) (m := b_tc B) (i := i) (t := t) hu q (Or.inl (show j < i by omega)); omega) (fun (v6 : Int32) => f_X4_foundTerm_L4 (some (-1)) s (nI k) n (v6) (nI (j + 1))) fu 0 (Nat.zero_le _) (by unfold fu; omega)).trans ?_
        rw [← pf_n]
        exact ih (j + 1) (by omega) (by omega)
  exact key fu 0 (Nat.zero_le _) (by unfold fu; omega)
theorem foundTerm7_B (hB : Bok B) (hT : Tok T) (hl : lexC s B) (hx : txtC s T) (hk : lookP (s.1 32) (s.1 33) B T (t_c T)) {k : Nat} (hk2 : k < 2 ^ 31) (ht : sumN (rcn (QF B T) (b_tc B)) (t_c T) ≤ k) : f_X4_foundTerm s (nI k) = some (-1) := by
  have h60 := hT.1
  have h8 := hB.1
  have key : ∀ n j, j ≤ t_c T → t_c T < n + j → f_X4_foundTerm_L4 (some (-1)) s (nI k) n (nI (pf (QF B T) (b_tc B) j 0)) (nI j) = some (-1) := by
    intro n
    induction n with
    | zero => intro j h1 h2; omega
    | succ n ih =>
      intro j h1 h2
      rw [f_X4_foundTerm_L4, hx.1]
      by_cases z : j = t_c T
      · subst z
        rw [if_pos (nI_le (Nat.le_refl _) (by omega))]
      · rw [if_neg (fun z => by have := (nI_leI (by omega) (by omega)).mp z; omega), nI_1]
        refine (foundTerm7_row hB hT hl hk hk2 (by omega) (fun u hu q => by have := pf_tot (Q := QF B T) (m := b_tc B) (c := t_c T) (i := j) (by omega) hu q; omega) (fun (v6 : Int32) => f_X4_foundTerm_L4 (some (-1)) s (nI k) n (v6) (nI (j + 1))) fu 0 (Nat.zero_le _) (by unfold fu; omega)).trans ?_
        rw [← pf_n]
        exact ih (j + 1) (by omega) (by omega)
  exact key fu 0 (Nat.zero_le _) (by unfold fu; omega)
/-- where what stands over word i begins -/
theorem fr_back (hB : Bok B) : ∀ i, 0 < fr B T i → ∃ k u, k < i ∧ u < b_tc B ∧ fnd B T u k ∧ ch B T k = nI u ∧ fr B T i = k + b_n B u ∧ fr B T (k + 1) = k + b_n B u ∧ cc B T (k + 1) = cc B T k + 1 := by
  intro i
  induction i with
  | zero => intro h; exact absurd h (Nat.lt_irrefl 0)
  | succ i ih =>
    intro h
    rcases ch_or (T := T) hB i with ⟨-, g2, -, -⟩ | ⟨-, u, hu, hf, -, g1, g2, g3⟩
    · rw [g2] at h ⊢
      obtain ⟨k, u, a1, a2⟩ := ih h
      exact ⟨k, u, by omega, a2⟩
    · exact ⟨i, u, by omega, hu, hf, g1, g2, g2, g3⟩
theorem co_or (hB : Bok B) (i : Nat) : (fr B T (i + 1) ≤ i ∧ co B T i = -1) ∨ ∃ k u, k ≤ i ∧ u < b_tc B ∧ fnd B T u k ∧ ch B T k = nI u ∧ i < k + b_n B u ∧ fr B T (k + 1) = k + b_n B u ∧ co B T i = nI (cc B T k) := by
  rcases Nat.lt_or_ge i (fr B T (i + 1)) with q | q
  · obtain ⟨k, u, a1, a2, a3, a4, a5, a6, a7⟩ := fr_back (T := T) hB (i + 1) (by omega)
    exact Or.inr ⟨k, u, by omega, a2, a3, a4, by omega, a6, co_at hB (by omega) a6 a7 (by omega)⟩
  · exact Or.inl ⟨q, by unfold co; rw [if_neg (by omega)]⟩
theorem isChosen7_s (hB : Bok B) (hT : Tok T) (hst : stl s B T) {i t : Nat} (hi : i < t_c T) (ht : t < b_tc B) : f_X4_isChosen s (nI i) (nI t) = some (bI (ch B T i = nI t)) := by
  have h60 := hT.1
  have h8 := hB.1
  obtain ⟨-, -, -, -, g4, g5⟩ := hst
  unfold f_X4_isChosen
  rw [rI_n (by omega) (by decide), g5 i hi]
  rcases co_or (T := T) hB i with ⟨a1, a2⟩ | ⟨k, u, a1, a2, a3, a4, a5, a6, a7⟩
  · rw [a2, if_pos rfl]
    refine congrArg some (bI_f (fun g => ?_)).symm
    rcases ch_or (T := T) hB i with ⟨c1, -⟩ | ⟨-, u, hu, hf, -, c1, c2, c3⟩
    · rw [c1] at g; exact nI_m1 (by omega) g.symm
    · have := (hB.2.2.1 u hu).1
      omega
  · have hcl := cc_le (B := B) (T := T) k
    have hr := g4 k (by omega) (by rw [a4]; exact nI_m1 (by omega))
    rw [a7, if_neg (nI_m1 (by omega)), rI_n (by omega) (by decide), hr.1]
    by_cases z : k = i
    · subst z
      rw [if_pos rfl, rI_n (by omega) (by decide), hr.2]
      by_cases y : ch B T k = nI t
      · rw [if_pos y, bI_t y]
      · rw [if_neg y, bI_f y]
    · rw [if_neg (fun g => z ((nI_eq (by omega) (by omega)).mp g))]
      refine congrArg some (bI_f (fun g => ?_)).symm
      rw [ch_in a6 (by omega) a5] at g
      exact nI_m1 (by omega) g.symm
end FD
end
section
/-! found, chosen -/
theorem dv8 {i t : Nat} (hi : i ≤ 60) (ht : t < 8) : nI (8 * i + t) / 8 = nI i :=
  (pk_div (a := 8 * i + t) (d := 8) (by omega) (by decide) (by decide)).trans (by congr 1; omega)
theorem md8 {i t : Nat} (hi : i ≤ 60) (ht : t < 8) : nI (8 * i + t) - nI (8 * i + t) / 8 * 8 = nI t :=
  (pk_rem (a := 8 * i + t) (d := 8) (by omega) (by decide) (by decide)).trans (by congr 1; omega)
section PC
variable {B : Bk} {T : Tx} {s : Sg}
theorem indC {j u : Nat} (hu : u < 2 ^ 31) (h : ch B T j = nI u) : ∀ t, t < 2 ^ 31 → sumN (ind (QC B T) j) t = if u < t then 1 else 0 := by
  intro t
  induction t with
  | zero => intro _; rfl
  | succ t ih =>
    intro ht
    show sumN (ind (QC B T) j) t + ind (QC B T) j t = _
    rw [ih (by omega)]
    by_cases z : u = t
    · rw [ind_t (show QC B T j t = true from decide_eq_true (by rw [h, z])), if_neg (by omega), if_pos (by omega)]
    · rw [ind_f (show ¬ QC B T j t = true from fun g => z ((nI_eq hu (by omega)).mp (h.symm.trans (of_decide_eq_true g))))]
      by_cases y : u < t
      · rw [if_pos y, if_pos (by omega)]
      · rw [if_neg y, if_neg (by omega)]
theorem indC0 {j : Nat} (h : ch B T j = -1) : ∀ t, t < 2 ^ 31 → sumN (ind (QC B T) j) t = 0 := by
  intro t
  induction t with
  | zero => intro _; rfl
  | succ t ih =>
    intro ht
    show sumN (ind (QC B T) j) t + ind (QC B T) j t = _
    rw [ih (by omega), ind_f (show ¬ QC B T j t = true from fun g => nI_m1 (show t < 2 ^ 31 by omega) ((of_decide_eq_true g).symm.trans h))]
theorem rcnC (hB : Bok B) : ∀ i, sumN (rcn (QC B T) (b_tc B)) i = cc B T i := by
  have h8 := hB.1
  intro i
  induction i with
  | zero => rfl
  | succ i ih =>
    show sumN (rcn (QC B T) (b_tc B)) i + sumN (ind (QC B T) i) (b_tc B) = _
    rw [ih]
    rcases ch_or (T := T) hB i with ⟨g1, -, g3, -⟩ | ⟨-, u, hu, -, -, g1, -, g3⟩
    · rw [indC0 g1 _ (by omega), g3]; rfl
    · rw [indC (by omega) g1 _ (by omega), if_pos hu, g3]
theorem pfC (hB : Bok B) {i t : Nat} (ht : t < b_tc B) (h : ch B T i = nI t) : pf (QC B T) (b_tc B) i t = cc B T i := by
  have h8 := hB.1
  unfold pf
  rw [rcnC hB, indC (by omega) h _ (by omega), if_neg (by omega)]
  rfl
end PC
theorem ps_found (σ : Sg) (a1 a2 : Int32) (h : InvA σ) : ∃ (r : Int32) (σ1 σ2 : Sg), f_X7_found σ a1 a2 = some (r, σ1) ∧ f_X8_found σ1 a1 a2 = some (r, σ2) ∧ InvA σ2 := by
  refine step2 (f7 := fun s => f_X7_found s a1 a2) (f8 := fun s => f_X8_found s a1 a2) h (fun M hm => ?_)
  obtain ⟨S, B, T, im⟩ := M
  have hm0 := hm
  obtain ⟨hS, hB, hT, hI⟩ := hm
  have hB : Bok B := hB
  have hT : Tok T := hT
  have h8 := hB.1
  have h60 := hT.1
  have n10 : ¬ (1 : Int32) = 0 := by decide
  by_cases ha : a1 < 0
  · refine ⟨-1000000002, (S, B, T, im), hm0, fun hC => ⟨σ, ?_, hC, Un43.rf⟩, fun s hR => ⟨s, ?_, hR, Un42.rf⟩⟩
    · unfold f_X7_found
      rw [if_pos ha]
    · unfold f_X8_found
      rw [if_pos ha]
  · by_cases hw : 0 ≤ a2 ∧ a2 ≤ 3
    · have hw' := hw
      obtain ⟨k, hk, rfl⟩ := nI_of ha
      obtain ⟨w, -, wl, rfl⟩ := nat_of (lo := 0) (hi := 3) (by decide) hw (by decide)
      have c7 : ∀ {s s' : Sg} (x4 x6 : Int32), f_X7_settled s = some ((), s') → f_X4_foundAt s' (nI k) = some x4 → f_X4_foundTerm s' (nI k) = some x6 → f_X7_found s (nI k) (nI w) = if x4 = (-1) then (some ((-1), s')) else (if x6 = (-1) then (some ((-1), s')) else (if nI w = 0 then (some (x4, s')) else (if nI w = 1 then (some (x6, s')) else (if nI w = 2 then (cP (f_X1_worthOf s' x6) fun x11 => (some (x11, s'))) else (cP (f_X4_isChosen s' x4 x6) fun x13 => (if x13 = 0 then (some (0, s')) else (some (1, s')))))))) := by
        intro s s' x4 x6 e1 e2 e3
        unfold f_X7_found
        rw [if_neg ha, if_neg (nI_pos (by omega)), if_pos hw'.2, e1, cA_s, e2, cP_s, e3, cP_s]
      have c8 : ∀ {s s' s'' : Sg} (x3 : Int32), f_X8_choose s = some ((), s') → f_X8_place_L9 (some ((-1), s')) s' 0 fu (nI k) 0 = some (x3, s'') → f_X8_found s (nI k) (nI w) = if x3 = (-1) then (some ((-1), s'')) else (if nI w = 0 then (some ((x3 / 8), s'')) else (if nI w = 1 then (some ((x3 - x3 / 8 * 8), s'')) else (if nI w = 2 then (cP (f_X8_worthOf s'' (x3 - x3 / 8 * 8)) fun x10 => (some (x10, s''))) else (rI s'' 53 60 (x3 / 8) fun x6 => (if x6 = (x3 - x3 / 8 * 8) then (some (1, s'')) else (some (0, s''))))))) := by
        intro s s' s'' x3 e1 e2
        unfold f_X8_found f_X8_place
        rw [if_neg ha, in8_s, in_bI, cP_s, bI_t hw', if_neg n10, e1, cA_s, e2, cA_s]
      rcases Classical.em (∃ i t, i < t_c T ∧ t < b_tc B ∧ QF B T i t = true ∧ pf (QF B T) (b_tc B) i t = k) with hex | hex
      · obtain ⟨i, t, hi, ht, hq, hp⟩ := hex
        have g7 : InvC σ (S, B, T, im) → ∃ s', InvC s' (S, B, T, im) ∧ stl s' B T ∧ Un43 σ s' ∧ f_X7_found σ (nI k) (nI w) = if nI w = 0 then (some (nI i, s')) else (if nI w = 1 then (some (nI t, s')) else (if nI w = 2 then (cP (f_X1_worthOf s' (nI t)) fun x11 => (some (x11, s'))) else (cP (f_X4_isChosen s' (nI i) (nI t)) fun x13 => (if x13 = 0 then (some (0, s')) else (some (1, s')))))) := fun hC => by
          obtain ⟨s', e1, e2, e3, e4⟩ := settled7_s hB hT hC
          refine ⟨s', e2, e3, e4, ?_⟩
          rw [c7 _ _ e1 (foundAt7_A hB hT e2.2.2.1 e3.1 hk hi ht hq hp) (foundTerm7_A hB hT e2.2.1 e2.2.2.1 e3.1 hk hi ht hq hp), if_neg (nI_m1 (by omega)), if_neg (nI_m1 (by omega))]
        have g8 : ∀ s, InvR s (S, B, T, im) → ∃ s', InvR s' (S, B, T, im) ∧ Un42 s s' ∧ (∀ j, j < t_c T → s'.1 53 j = ch B T j) ∧ f_X8_found s (nI k) (nI w) = if nI w = 0 then (some (nI i, s')) else (if nI w = 1 then (some (nI t, s')) else (if nI w = 2 then (cP (f_X8_worthOf s' (nI t)) fun x10 => (some (x10, s'))) else (rI s' 53 60 (nI i) fun x6 => (if x6 = nI t then (some (1, s')) else (some (0, s')))))) := fun s hR => by
          obtain ⟨s', e1, e2, e3, e4⟩ := choose8_s hB hT hR.2.1 hR.2.2.1
          have hR' := hR.c8 e2
          have H : plH s' 0 (QF B T) (t_c T) (b_tc B) := place8_F hB hT hR'.2.1 hR'.2.2.1
          refine ⟨s', hR', e2.u42 (by decide), e4, ?_⟩
          rw [c8 _ e1 (place8_A H hk h60 h8 hR'.2.2.1.1 hi ht hq hp), if_neg (nI_m1 (by omega)), md8 (by omega) (by omega), dv8 (by omega) (by omega)]
        rcases (show w = 0 ∨ w = 1 ∨ w = 2 ∨ w = 3 by omega) with rfl | rfl | rfl | rfl
        · refine ⟨nI i, (S, B, T, im), hm0, fun hC => ?_, fun s hR => ?_⟩
          · obtain ⟨s', e1, e2, e3, e4⟩ := g7 hC
            exact ⟨s', by rw [e4, if_pos (show nI 0 = 0 from rfl)], e1, e3⟩
          · obtain ⟨s', e1, e2, e3, e4⟩ := g8 s hR
            exact ⟨s', by rw [e4, if_pos (show nI 0 = 0 from rfl)], e1, e2⟩
        · refine ⟨nI t, (S, B, T, im), hm0, fun hC => ?_, fun s hR => ?_⟩
          · obtain ⟨s', e1, e2, e3, e4⟩ := g7 hC
            exact ⟨s', by rw [e4, if_neg (show ¬ nI 1 = 0 by decide), if_pos (show nI 1 = 1 from rfl)], e1, e3⟩
          · obtain ⟨s', e1, e2, e3, e4⟩ := g8 s hR
            exact ⟨s', by rw [e4, if_neg (show ¬ nI 1 = 0 by decide), if_pos (show nI 1 = 1 from rfl)], e1, e2⟩
        · refine ⟨nI (b_we B t * b_n B t), (S, B, T, im), hm0, fun hC => ?_, fun s hR => ?_⟩
          · obtain ⟨s', e1, e2, e3, e4⟩ := g7 hC
            exact ⟨s', by rw [e4, if_neg (show ¬ nI 2 = 0 by decide), if_neg (show ¬ nI 2 = 1 by decide), if_pos (show nI 2 = 2 from rfl), worthOf7_s e1.2.1 hB ht, cP_s], e1, e3⟩
          · obtain ⟨s', e1, e2, e3, e4⟩ := g8 s hR
            exact ⟨s', by rw [e4, if_neg (show ¬ nI 2 = 0 by decide), if_neg (show ¬ nI 2 = 1 by decide), if_pos (show nI 2 = 2 from rfl), worthOf8_s e1.2.1 hB ht, cP_s], e1, e2⟩
        · refine ⟨bI (ch B T i = nI t), (S, B, T, im), hm0, fun hC => ?_, fun s hR => ?_⟩
          · obtain ⟨s', e1, e2, e3, e4⟩ := g7 hC
            refine ⟨s', ?_, e1, e3⟩
            rw [e4, if_neg (show ¬ nI 3 = 0 by decide), if_neg (show ¬ nI 3 = 1 by decide), if_neg (show ¬ nI 3 = 2 by decide), isChosen7_s hB hT e2 hi ht, cP_s]
            by_cases z : ch B T i = nI t
            · rw [bI_t z, if_neg n10]
            · rw [bI_f z, if_pos rfl]
          · obtain ⟨s', e1, e2, e3, e4⟩ := g8 s hR
            refine ⟨s', ?_, e1, e2⟩
            rw [e4, if_neg (show ¬ nI 3 = 0 by decide), if_neg (show ¬ nI 3 = 1 by decide), if_neg (show ¬ nI 3 = 2 by decide), rI_n (by omega) (by decide), e3 i hi]
            by_cases z : ch B T i = nI t
            · rw [bI_t z, if_pos z]
            · rw [bI_f z, if_neg z]
      · have htot : sumN (rcn (QF B T) (b_tc B)) (t_c T) ≤ k := Nat.le_of_not_lt (fun g => hex (pf_ex g))
        refine ⟨-1, (S, B, T, im), hm0, fun hC => ?_, fun s hR => ?_⟩
        · obtain ⟨s', e1, e2, e3, e4⟩ := settled7_s hB hT hC
          exact ⟨s', by rw [c7 _ _ e1 (foundAt7_B hB hT e2.2.2.1 e3.1 hk htot) (foundTerm7_B hB hT e2.2.1 e2.2.2.1 e3.1 hk htot), if_pos rfl], e2, e4⟩
        · obtain ⟨s', e1, e2, e3, e4⟩ := choose8_s hB hT hR.2.1 hR.2.2.1
          have hR' := hR.c8 e2
          have H : plH s' 0 (QF B T) (t_c T) (b_tc B) := place8_F hB hT hR'.2.1 hR'.2.2.1
          exact ⟨s', by rw [c8 _ e1 (place8_B H hk h60 h8 hR'.2.2.1.1 htot), if_pos rfl], hR', e2.u42 (by decide)⟩
    · refine ⟨-1000000002, (S, B, T, im), hm0, fun hC => ⟨σ, ?_, hC, Un43.rf⟩, fun s hR => ⟨s, ?_, hR, Un42.rf⟩⟩
      · unfold f_X7_found
        rw [if_neg ha]
        by_cases z : a2 < 0
        · rw [if_pos z]
        · rw [if_neg z, if_neg (fun g => hw ⟨i32_nlt.mp z, g⟩)]
      · unfold f_X8_found
        rw [if_neg ha, in8_s, in_bI, cP_s, bI_f hw, if_pos rfl]
theorem ps_chosen (σ : Sg) (a1 a2 : Int32) (h : InvA σ) : ∃ (r : Int32) (σ1 σ2 : Sg), f_X7_chosen σ a1 a2 = some (r, σ1) ∧ f_X8_chosen σ1 a1 a2 = some (r, σ2) ∧ InvA σ2 := by
  refine step2 (f7 := fun s => f_X7_chosen s a1 a2) (f8 := fun s => f_X8_chosen s a1 a2) h (fun M hm => ?_)
  obtain ⟨S, B, T, im⟩ := M
  have hm0 := hm
  obtain ⟨hS, hB, hT, hI⟩ := hm
  have hB : Bok B := hB
  have hT : Tok T := hT
  have h8 := hB.1
  have h60 := hT.1
  have hccl := cc_le (B := B) (T := T) (t_c T)
  have n10 : ¬ (1 : Int32) = 0 := by decide
  by_cases ha : a1 < 0
  · refine ⟨-1000000002, (S, B, T, im), hm0, fun hC => ⟨σ, ?_, hC, Un43.rf⟩, fun s hR => ⟨s, ?_, hR, Un42.rf⟩⟩
    · unfold f_X7_chosen
      rw [if_pos ha]
    · unfold f_X8_chosen
      rw [if_pos ha]
  · by_cases hw : 0 ≤ a2 ∧ a2 ≤ 3
    · have hw' := hw
      obtain ⟨k, hk, rfl⟩ := nI_of ha
      obtain ⟨w, -, wl, rfl⟩ := nat_of (lo := 0) (hi := 3) (by decide) hw (by decide)
      have c8 : ∀ {s s' s'' : Sg} (x3 : Int32), f_X8_choose s = some ((), s') → f_X8_place_L9 (some ((-1), s')) s' 1 fu (nI k) 0 = some (x3, s'') → f_X8_chosen s (nI k) (nI w) = if x3 = (-1) then (some ((-1), s'')) else (if nI w = 0 then (some ((x3 / 8), s'')) else (if nI w = 1 then (some ((x3 - x3 / 8 * 8), s'')) else (if nI w = 2 then (cP (f_X8_worthOf s'' (x3 - x3 / 8 * 8)) fun x11 => (some (x11, s''))) else (cP (f_X8_termAt s'' (x3 - x3 / 8 * 8)) fun x6 => (rI s'' 44 475 (x6 + 3) fun x8 => (some (x8, s''))))))) := by
        intro s s' s'' x3 e1 e2
        unfold f_X8_chosen f_X8_place
        rw [if_neg ha, in8_s, in_bI, cP_s, bI_t hw', if_neg n10, e1, cA_s, e2, cA_s]
      rcases Nat.lt_or_ge k (cc B T (t_c T)) with hlt | hge
      · obtain ⟨i, t, hi, ht, hq, hp⟩ := pf_ex (Q := QC B T) (m := b_tc B) (c := t_c T) (k := k) (by rw [rcnC hB]; exact hlt)
        have hch : ch B T i = nI t := of_decide_eq_true hq
        have hcc : cc B T i = k := by rw [← pfC hB ht hch]; exact hp
        have hne : ch B T i ≠ -1 := by rw [hch]; exact nI_m1 (by omega)
        have g7 : InvC σ (S, B, T, im) → ∃ s', InvC s' (S, B, T, im) ∧ Un43 σ s' ∧ f_X7_chosen σ (nI k) (nI w) = if nI w = 0 then (some (nI i, s')) else (if nI w = 1 then (some (nI t, s')) else (if nI w = 2 then (cP (f_X1_worthOf s' (nI t)) fun x13 => (some (x13, s'))) else (some (b_pr B t, s')))) := fun hC => by
          obtain ⟨s', e1, e2, e3, e4⟩ := settled7_s hB hT hC
          refine ⟨s', e2, e4, ?_⟩
          obtain ⟨-, -, -, q3, q4, -⟩ := e3
          obtain ⟨r1, r2⟩ := q4 i hi hne
          rw [hcc] at r1 r2
          unfold f_X7_chosen
          rw [if_neg ha, if_neg (nI_pos (by omega)), if_pos hw'.2, e1, cA_s, q3, if_pos (nI_lt hlt (by omega)), rI_n (by omega) (by decide), r2, hch, rI_n (by omega) (by decide), r1, rI_n (by omega) (by decide), (e2.2.1.2.2.1 t ht).2.2.2.1]
        have g8 : ∀ s, InvR s (S, B, T, im) → ∃ s', InvR s' (S, B, T, im) ∧ Un42 s s' ∧ f_X8_chosen s (nI k) (nI w) = if nI w = 0 then (some (nI i, s')) else (if nI w = 1 then (some (nI t, s')) else (if nI w = 2 then (cP (f_X8_worthOf s' (nI t)) fun x11 => (some (x11, s'))) else (some (b_pr B t, s')))) := fun s hR => by
          obtain ⟨s', e1, e2, e3, e4⟩ := choose8_s hB hT hR.2.1 hR.2.2.1
          have hR' := hR.c8 e2
          have H : plH s' 1 (QC B T) (t_c T) (b_tc B) := place8_C hB hT hR'.2.1 e4
          refine ⟨s', hR', e2.u42 (by decide), ?_⟩
          rw [c8 _ e1 (place8_A H hk h60 h8 hR'.2.2.1.1 hi ht hq hp), if_neg (nI_m1 (by omega)), md8 (by omega) (by omega), dv8 (by omega) (by omega), termAt8_s, cP_s, nI_p3, rI_n (by omega) (by decide), (hR'.2.1.2.2.1 t ht).2.2.2.1]
        rcases (show w = 0 ∨ w = 1 ∨ w = 2 ∨ w = 3 by omega) with rfl | rfl | rfl | rfl
        · refine ⟨nI i, (S, B, T, im), hm0, fun hC => ?_, fun s hR => ?_⟩
          · obtain ⟨s', e1, e3, e4⟩ := g7 hC
            exact ⟨s', by rw [e4, if_pos (show nI 0 = 0 from rfl)], e1, e3⟩
          · obtain ⟨s', e1, e2, e4⟩ := g8 s hR
            exact ⟨s', by rw [e4, if_pos (show nI 0 = 0 from rfl)], e1, e2⟩
        · refine ⟨nI t, (S, B, T, im), hm0, fun hC => ?_, fun s hR => ?_⟩
          · obtain ⟨s', e1, e3, e4⟩ := g7 hC
            exact ⟨s', by rw [e4, if_neg (show ¬ nI 1 = 0 by decide), if_pos (show nI 1 = 1 from rfl)], e1, e3⟩
          · obtain ⟨s', e1, e2, e4⟩ := g8 s hR
            exact ⟨s', by rw [e4, if_neg (show ¬ nI 1 = 0 by decide), if_pos (show nI 1 = 1 from rfl)], e1, e2⟩
        · refine ⟨nI (b_we B t * b_n B t), (S, B, T, im), hm0, fun hC => ?_, fun s hR => ?_⟩
          · obtain ⟨s', e1, e3, e4⟩ := g7 hC
            exact ⟨s', by rw [e4, if_neg (show ¬ nI 2 = 0 by decide), if_neg (show ¬ nI 2 = 1 by decide), if_pos (show nI 2 = 2 from rfl), worthOf7_s e1.2.1 hB ht, cP_s], e1, e3⟩
          · obtain ⟨s', e1, e2, e4⟩ := g8 s hR
            exact ⟨s', by rw [e4, if_neg (show ¬ nI 2 = 0 by decide), if_neg (show ¬ nI 2 = 1 by decide), if_pos (show nI 2 = 2 from rfl), worthOf8_s e1.2.1 hB ht, cP_s], e1, e2⟩
        · refine ⟨b_pr B t, (S, B, T, im), hm0, fun hC => ?_, fun s hR => ?_⟩
          · obtain ⟨s', e1, e3, e4⟩ := g7 hC
            exact ⟨s', by rw [e4, if_neg (show ¬ nI 3 = 0 by decide), if_neg (show ¬ nI 3 = 1 by decide), if_neg (show ¬ nI 3 = 2 by decide)], e1, e3⟩
          · obtain ⟨s', e1, e2, e4⟩ := g8 s hR
            exact ⟨s', by rw [e4, if_neg (show ¬ nI 3 = 0 by decide), if_neg (show ¬ nI 3 = 1 by decide), if_neg (show ¬ nI 3 = 2 by decide)], e1, e2⟩
      · refine ⟨-1, (S, B, T, im), hm0, fun hC => ?_, fun s hR => ?_⟩
        · obtain ⟨s', e1, e2, e3, e4⟩ := settled7_s hB hT hC
          refine ⟨s', ?_, e2, e4⟩
          obtain ⟨-, -, -, q3, q4, -⟩ := e3
          unfold f_X7_chosen
          rw [if_neg ha, if_neg (nI_pos (by omega)), if_pos hw'.2, e1, cA_s, q3, if_neg (nI_nlt hge hk)]
        · obtain ⟨s', e1, e2, e3, e4⟩ := choose8_s hB hT hR.2.1 hR.2.2.1
          have hR' := hR.c8 e2
          have H : plH s' 1 (QC B T) (t_c T) (b_tc B) := place8_C hB hT hR'.2.1 e4
          exact ⟨s', by rw [c8 _ e1 (place8_B H hk h60 h8 hR'.2.2.1.1 (by rw [rcnC hB]; exact hge)), if_pos rfl], hR', e2.u42 (by decide)⟩
    · refine ⟨-1000000002, (S, B, T, im), hm0, fun hC => ⟨σ, ?_, hC, Un43.rf⟩, fun s hR => ⟨s, ?_, hR, Un42.rf⟩⟩
      · unfold f_X7_chosen
        rw [if_neg ha]
        by_cases z : a2 < 0
        · rw [if_pos z]
        · rw [if_neg z, if_neg (fun g => hw ⟨i32_nlt.mp z, g⟩)]
      · unfold f_X8_chosen
        rw [if_neg ha, in8_s, in_bI, cP_s, bI_f hw, if_pos rfl]
end
section
/-! the mended text: what stands over a word -/
section OV2
variable {B : Bk} {T : Tx} {s : Sg}
theorem ov_0 (hB : Bok B) {i : Nat} (h : fr B T (i + 1) ≤ i) : ov B T i = -1 := by
  have hc : ch B T i = -1 := by
    rcases ch_or (T := T) hB i with ⟨g1, -⟩ | ⟨-, u, hu, -, -, -, g2, -⟩
    · exact g1
    · have := (hB.2.2.1 u hu).1
      omega
  cases i with
  | zero => rw [ov]; exact hc
  | succ i =>
    have h : fr B T (i + 2) ≤ i + 1 := h
    rw [ov, if_neg (fun g => g hc), if_neg (by omega)]
theorem ov_s {k : Nat} (hc : ch B T k ≠ -1) : ov B T k = ch B T k := by
  cases k with
  | zero => rw [ov]
  | succ k => rw [ov, if_pos hc]
theorem ov_1 {k n : Nat} (hc : ch B T k ≠ -1) (hf : fr B T (k + 1) = k + n) : ∀ d, d < n → ov B T (k + d) = ch B T k := by
  intro d
  induction d with
  | zero => intro _; exact ov_s hc
  | succ d ih =>
    intro hd
    have h1 : ch B T (k + d + 1) = -1 := ch_in hf (by omega) (by omega)
    have h2 := fr_in hf (d + 1) (by omega)
    rw [show k + 1 + (d + 1) = k + d + 2 by omega] at h2
    rw [show k + (d + 1) = k + d + 1 by omega, ov, if_neg (fun g => g h1), if_pos (by omega)]
    exact ih (by omega)
theorem ins_f {i : Nat} (h : ov B T i = -1) : ins B T i = -1 := by unfold ins; rw [if_pos h]
theorem ins_t {i u : Nat} (hu : u < 2 ^ 31) (h : ov B T i = nI u) : ins B T i = b_pr B u := by
  unfold ins
  rw [h, if_neg (nI_m1 hu), nI_clamp hu]
/-- what is to be said over a word, and whether it begins there -/
theorem ins_or (hB : Bok B) (i : Nat) : (fr B T (i + 1) ≤ i ∧ co B T i = -1 ∧ ins B T i = -1) ∨ ∃ k u, k ≤ i ∧ u < b_tc B ∧ fnd B T u k ∧ ch B T k = nI u ∧ i < k + b_n B u ∧ co B T i = nI (cc B T k) ∧ ins B T i = b_pr B u ∧ (k = i ↔ ch B T i ≠ -1) := by
  have h8 := hB.1
  rcases co_or (T := T) hB i with ⟨a1, a2⟩ | ⟨k, u, a1, a2, a3, a4, a5, a6, a7⟩
  · exact Or.inl ⟨a1, a2, ins_f (ov_0 hB a1)⟩
  · have hne : ch B T k ≠ -1 := by rw [a4]; exact nI_m1 (by omega)
    have ho := ov_1 hne a6 (i - k) (by omega)
    rw [show k + (i - k) = i by omega, a4] at ho
    refine Or.inr ⟨k, u, a1, a2, a3, a4, a5, a7, ins_t (by omega) ho, ?_⟩
    constructor
    · rintro rfl; exact hne
    · intro g
      by_cases z : k = i
      · exact z
      · exact absurd (ch_in a6 (by omega) a5) g
theorem pr_ok (hB : Bok B) {u : Nat} (hu : u < b_tc B) : b_pr B u = -1 ∨ ∃ v, v < b_tc B ∧ b_pr B u = nI v := (hB.2.2.1 u hu).2.2.2.1
theorem insteadOver7_s (hB : Bok B) (hT : Tok T) (hl : lexC s B) (hst : stl s B T) {i : Nat} (hi : i < t_c T) : f_X4_insteadOver s (nI i) = some (ins B T i) := by
  have h60 := hT.1
  have h8 := hB.1
  obtain ⟨-, -, -, -, g4, g5⟩ := hst
  unfold f_X4_insteadOver
  rw [rI_n (by omega) (by decide), g5 i hi]
  rcases ins_or (T := T) hB i with ⟨-, a1, a2⟩ | ⟨k, u, a1, a2, a3, a4, a5, a6, a7, a8⟩
  · rw [a1, if_pos rfl, a2]
  · have hcl := cc_le (B := B) (T := T) k
    have hr := g4 k (by omega) (by rw [a4]; exact nI_m1 (by omega))
    rw [a6, if_neg (nI_m1 (by omega)), rI_n (by omega) (by decide), hr.2, a4, rI_n (by omega) (by decide), (hl.2.2.1 u a2).2.2.2.1, a7]
theorem endsSentence7_s (hT : Tok T) (hx : txtC s T) {i : Nat} (hi : i < t_c T) : f_X6_endsSentence s (nI i) = some (bI (eS T i)) := by
  have h60 := hT.1
  have e1 := (hx.2.2.2.2 i hi).2.2
  have d1 := (hT.2.1 i hi).2.2
  have d3 := hT.2.2.1
  have last : ∀ (h : i + 1 = t_c T ∨ t_s T (i + 1) ≠ t_s T i), (if (1 : Int32) = 0 then (some 0) else (rI s 29 60 (nI i) fun x2 => (if (s.1 26 4) ≤ x2 then (some (0 : Int32)) else (some 1)))) = some (bI (eS T i)) := by
    intro h
    rw [if_neg (by decide), rI_n (by omega) (by decide), e1, hx.2.1]
    by_cases z : t_se T ≤ t_s T i
    · rw [if_pos (nI_le z (by omega)), bI_f (fun g => by have := g.2; omega)]
    · rw [if_neg (fun g => z ((nI_leI (by omega) (by omega)).mp g)), bI_t ⟨h, by omega⟩]
  unfold f_X6_endsSentence
  rw [jn_s, nI_1, hx.1]
  by_cases z : i + 1 = t_c T
  · rw [if_pos (by rw [z])]
    exact last (Or.inl z)
  · have e2 := (hx.2.2.2.2 (i + 1) (by omega)).2.2
    have d2 := (hT.2.1 (i + 1) (by omega)).2.2
    rw [if_neg (fun g => z ((nI_eq (by omega) (by omega)).mp g)), rI_n (by omega) (by decide), rI_n (by omega) (by decide), e1, e2]
    by_cases y : t_s T (i + 1) = t_s T i
    · rw [if_pos (by rw [y]), if_pos rfl, bI_f (by
        rintro ⟨g | g, -⟩
        · exact z g
        · exact g y)]
    · rw [if_neg (fun g => y ((nI_eq (by omega) (by omega)).mp g))]
      exact last (Or.inr y)
end OV2
/-! signs are added -/
theorem take_snoc : ∀ (w : List Nat) (k x : Nat), w[k]? = some x → w.take (k + 1) = w.take k ++ [x]
  | [], k, x, h => by simp at h
  | y :: w, 0, x, h => by simp at h; simp [h]
  | y :: w, k + 1, x, h => by
    have h1 : w[k]? = some x := by simpa using h
    have := take_snoc w k x h1
    simp only [List.take_succ_cons, this, List.cons_append]
def Sd (s s' : Sg) : Prop := Sm [40, 41] [] s s' ∧ ∀ j, j ≠ 4 → s'.1 40 j = s.1 40 j
theorem Sd.rf {s : Sg} : Sd s s := ⟨Sm.rf, fun _ _ => rfl⟩
theorem Sd.tr {a b c : Sg} (h1 : Sd a b) (h2 : Sd b c) : Sd a c := ⟨h1.1.tr h2.1, fun j hj => (h2.2 j hj).trans (h1.2 j hj)⟩
theorem mndP_add {f g f' g' : Nat → Int32} {m : List Nat} {x : Nat} (h : mndP f g m) (h1 : f' 4 = nI (m.length + 1)) (h2 : ∀ j, g' j = if j = m.length then nI x else g j) : mndP f' g' (m ++ [x]) := by
  refine ⟨by rw [h1, List.length_append]; rfl, fun i y hy => ?_⟩
  rcases get_snoc hy with ⟨a, b⟩ | ⟨a, b⟩
  · rw [h2, if_neg (by omega)]; exact h.2 i y b
  · rw [h2, if_pos a, b]
section AS
variable {s : Sg} {B : Bk} {T : Tx}
theorem addSign7_s {m : List Nat} {x : Nat} (h : mndP (s.1 40) (s.1 41) m) (hm : m.length < 3120) (hx : x < 65536) : ∃ s', f_X3_addSign s (nI x) = some ((), s') ∧ mndP (s'.1 40) (s'.1 41) (m ++ [x]) ∧ Sd s s' := by
  have e : vp_nar .char ((Int32.toUInt32 (nI x) % 65536).toInt32) = nI x := by
    rw [pk_vc, pk_char, pk_tn (by omega), Nat.mod_eq_of_lt hx]
  unfold f_X3_addSign
  rw [h.1, if_neg (fun z => by have := (c_ge 3120 (by omega) (by decide)).mp z; omega), wI_n (by omega) (by decide), e, pI_s]
  refine ⟨_, rfl, mndP_add h ?_ (fun j => ?_), (Sm.rf.i (by decide)).i (by decide), fun j hj => ?_⟩
  · rw [sI_1, if_pos ⟨rfl, rfl⟩, sI_ne _ (by decide), h.1, nI_1]
  · rw [sI_ne _ (by decide), sI_1]
    by_cases z : j = m.length
    · rw [if_pos ⟨rfl, z⟩, if_pos z]
    · rw [if_neg (fun g => z g.2), if_neg z]
  · rw [sI_1, if_neg (fun g => hj g.2), sI_ne _ (by decide)]
theorem lts_len (w : List Nat) : (lts w).length = w.length := by unfold lts; rw [List.length_map]
theorem addWord7_s {m w : List Nat} (h : mndP (s.1 40) (s.1 41) m) (hw : wok 12 w) (hm : m.length + 1 + w.length ≤ 3120) : ∃ s', f_X3_addWord s (eL w) = some ((), s') ∧ mndP (s'.1 40) (s'.1 41) (addW m w) ∧ Sd s s' := by
  have hw12 := hw.2.2
  have key : ∀ a : List Nat, a.length + w.length ≤ 3120 → ∀ n k s, k ≤ w.length → w.length < n + k → mndP (s.1 40) (s.1 41) (a ++ lts (w.take k)) → ∃ s', f_X3_addWord_L21 (fun (s11 : Sg) => some ((), s11)) (eL w) (nI w.length) n s (nI k) = some ((), s') ∧ mndP (s'.1 40) (s'.1 41) (a ++ lts w) ∧ Sd s s' := by
    intro a ha n
    induction n with
    | zero => intro k s h1 h2; omega
    | succ n ih =>
      intro k s h1 h2 h3
      rw [f_X3_addWord_L21]
      rcases Nat.lt_or_ge k w.length with q | q
      · have gk : w[k]? = some w[k] := List.getElem?_eq_getElem q
        have hx := hw.1 _ (List.mem_of_getElem? gk)
        have hla : letA w k = nI (w[k] + 96) := by unfold letA; rw [gk]
        have hlen : (a ++ lts (w.take k)).length = a.length + k := by rw [List.length_append, lts_len, List.length_take, Nat.min_eq_left h1]
        rw [if_neg (fun z => by have := (nI_leI (by omega) (by omega)).mp z; omega), at_s hw.1 hw12 (by omega), cP_s, hla]
        obtain ⟨s1, d1, d2, d3⟩ := addSign7_s (x := w[k] + 96) h3 (by omega) (by omega)
        rw [d1, cA_s, nI_1]
        have e : a ++ lts (w.take k) ++ [w[k] + 96] = a ++ lts (w.take (k + 1)) := by
          rw [take_snoc w k _ gk]
          unfold lts
          rw [List.map_append, List.append_assoc]
          rfl
        rw [e] at d2
        obtain ⟨s2, c1, c2, c3⟩ := ih (k + 1) s1 (by omega) (by omega) d2
        exact ⟨s2, c1, c2, d3.tr c3⟩
      · have : k = w.length := by omega
        subst this
        rw [if_pos (nI_le (Nat.le_refl _) (by omega))]
        refine ⟨s, rfl, ?_, Sd.rf⟩
        rw [List.take_of_length_le (Nat.le_refl _)] at h3
        exact h3
  unfold f_X3_addWord
  simp only [jn_s]
  rw [h.1]
  by_cases z : m = []
  · rw [if_pos (by rw [z]; decide), sizeOf_s hw.1 hw12, cP_s]
    obtain ⟨s2, c1, c2, c3⟩ := key [] (by simp; omega) fu 0 s (Nat.zero_le _) (by unfold fu; omega) (by rw [z] at h; exact h)
    refine ⟨s2, c1, ?_, c3⟩
    unfold addW
    rw [if_pos z]
    exact c2
  · have hpos : 0 < m.length := List.length_pos_iff.mpr z
    rw [if_neg (nI_nle hpos (by omega))]
    obtain ⟨s1, d1, d2, d3⟩ := addSign7_s (x := 32) h (by have := hw.2.1; omega) (by decide)
    have d1 : f_X3_addSign s 32 = some ((), s1) := d1
    rw [d1, cA_s, sizeOf_s hw.1 hw12, cP_s]
    obtain ⟨s2, c1, c2, c3⟩ := key (m ++ [32]) (by rw [List.length_append]; exact hm) fu 0 s1 (Nat.zero_le _) (by unfold fu; omega) (by
      have : m ++ [32] ++ lts (w.take 0) = m ++ [32] := by simp [lts]
      rw [this]; exact d2)
    refine ⟨s2, c1, ?_, d3.tr c3⟩
    unfold addW
    rw [if_neg z]
    exact c2
theorem addW_len (m w : List Nat) : (addW m w).length ≤ m.length + 1 + w.length := by
  unfold addW
  rw [List.length_append, lts_len]
  split
  · simp
  · rw [List.length_append]
    exact Nat.le_refl _
theorem addT_len (m : List Nat) (f : Nat → List Nat) : ∀ k, (addT m f k).length ≤ m.length + b_sum f k := by
  intro k
  induction k with
  | zero => exact Nat.le_refl _
  | succ k ih =>
    have := addW_len (addT m f k) (f k)
    show (addW (addT m f k) (f k)).length ≤ m.length + (b_sum f k + ((f k).length + 1))
    omega
theorem b_sum_mono (f : Nat → List Nat) {a : Nat} : ∀ {b : Nat}, a ≤ b → b_sum f a ≤ b_sum f b
  | 0, h => by
    have : a = 0 := by omega
    rw [this]; exact Nat.le_refl _
  | b + 1, h => by
    by_cases z : a = b + 1
    · rw [z]; exact Nat.le_refl _
    · have := b_sum_mono f (a := a) (b := b) (by omega)
      show b_sum f a ≤ b_sum f b + ((f b).length + 1)
      omega
theorem Sd.lex {a b : Sg} (u : Sd a b) (h : lexC a B) : lexC b B := u.1.lex (by decide) (by decide) h
theorem addWordsOf7_s {m : List Nat} {v : Nat} (hB : Bok B) (hl : lexC s B) (hv : v < b_tc B) (h : mndP (s.1 40) (s.1 41) m) (hm : m.length + 51 ≤ 3120) : ∃ s', f_X3_addWordsOf s (nI v) = some ((), s') ∧ mndP (s'.1 40) (s'.1 41) (addT m (b_w B v) (b_n B v)) ∧ Sd s s' := by
  have h8 := hB.1
  have hv1 := (hB.2.2.1 v hv)
  have hn := hv1.1
  have hsum := hv1.2.2.2.2.2
  have key : ∀ n k s, k ≤ b_n B v → b_n B v < n + k → lexC s B → mndP (s.1 40) (s.1 41) (addT m (b_w B v) k) → ∃ s', f_X3_addWordsOf_L2 (fun (s10 : Sg) => some ((), s10)) (nI v) n s (nI k) = some ((), s') ∧ mndP (s'.1 40) (s'.1 41) (addT m (b_w B v) (b_n B v)) ∧ Sd s s' := by
    intro n
    induction n with
    | zero => intro k s h1 h2; omega
    | succ n ih =>
      intro k s h1 h2 hl h3
      rw [f_X3_addWordsOf_L2, rI_n (by omega) (by decide), (hl.2.2.1 v hv).1]
      rcases Nat.lt_or_ge k (b_n B v) with q | q
      · have hwk := hv1.2.2.2.2.1 k q
        have hl1 := addT_len m (b_w B v) k
        have hl2 := b_sum_mono (b_w B v) (show k + 1 ≤ b_n B v by omega)
        have hl2 : b_sum (b_w B v) k + ((b_w B v k).length + 1) ≤ b_sum (b_w B v) (b_n B v) := hl2
        obtain ⟨s1, d1, d2, d3⟩ := addWord7_s h3 hwk (by omega)
        rw [if_neg (fun z => by have := (nI_leI (by omega) (by omega)).mp z; omega), wordOf7_s hl hB hv q, cP_s, d1, cA_s, nI_1]
        obtain ⟨s2, c1, c2, c3⟩ := ih (k + 1) s1 (by omega) (by omega) (d3.lex hl) d2
        exact ⟨s2, c1, c2, d3.tr c3⟩
      · have : k = b_n B v := by omega
        subst this
        rw [if_pos (nI_le (Nat.le_refl _) (by omega))]
        exact ⟨s, rfl, h3, Sd.rf⟩
  exact key fu 0 s (Nat.zero_le _) (by unfold fu; omega) hl h
/-- what a word brings, without the point -/
noncomputable def mnW (B : Bk) (T : Tx) (i : Nat) : List Nat := if ins B T i = -1 then addW (mnd B T i) (t_w T i) else if ch B T i ≠ -1 then addT (mnd B T i) (b_w B (ins B T i).toNatClampNeg) (kn B (ins B T i)) else mnd B T i
theorem mnd_s (i : Nat) : mnd B T (i + 1) = mnW B T i ++ (@ite _ (eS T i) (eSD T i) [46] []) := by rw [mnd]; rfl
theorem mnW_len (hB : Bok B) (hT : Tok T) {i : Nat} (hi : i < t_c T) : (mnW B T i).length ≤ (mnd B T i).length + 51 := by
  unfold mnW
  have hw := (hT.2.1 i hi).1.2.2
  split
  · have := addW_len (mnd B T i) (t_w T i)
    omega
  · rename_i hne
    split
    · rcases ins_or (T := T) hB i with ⟨-, -, a2⟩ | ⟨k, u, a1, a2, a3, a4, a5, a6, a7, a8⟩
      · exact absurd a2 hne
      · rcases pr_ok hB a2 with g | ⟨v, g1, g2⟩
        · rw [a7] at hne; exact absurd g hne
        · have h8 := hB.1
          rw [a7, g2]
          unfold kn
          rw [nI_clamp (by omega)]
          have := addT_len (mnd B T i) (b_w B v) (b_n B v)
          have := (hB.2.2.1 v g1).2.2.2.2.2
          omega
    · omega
theorem mnd_len (hB : Bok B) (hT : Tok T) : ∀ i, i ≤ t_c T → (mnd B T i).length ≤ 52 * i := by
  intro i
  induction i with
  | zero => intro _; exact Nat.le_refl _
  | succ i ih =>
    intro hi
    have h1 := ih (by omega)
    have h2 := mnW_len hB hT (show i < t_c T by omega)
    rw [mnd_s, List.length_append]
    split <;> simp <;> omega
end AS
end
section
/-! the mended text is written -/
theorem Sm.sl {L K : List Nat} {a b : Sg} {B : Bk} {T : Tx} (u : Sm L K a b) (hL : ∀ x ∈ L, x < 30 ∨ x = 31 ∨ 39 < x) (h : stl a B T) : stl b B T := by
  unfold stl
  have e : ∀ k, 30 ≤ k → k ≤ 39 → k ≠ 31 → b.1 k = a.1 k := fun k h1 h2 h3 => u.1 k (fun g => by have := hL k g; omega)
  rw [e 30 (by omega) (by omega) (by omega), e 32 (by omega) (by omega) (by omega), e 33 (by omega) (by omega) (by omega), e 34 (by omega) (by omega) (by omega), e 35 (by omega) (by omega) (by omega), e 36 (by omega) (by omega) (by omega), e 37 (by omega) (by omega) (by omega), e 38 (by omega) (by omega) (by omega), e 39 (by omega) (by omega) (by omega)]
  exact h
section WR
variable {B : Bk} {T : Tx}
theorem write7_L (hB : Bok B) (hT : Tok T) (kk : Sg → Option (Unit × Sg)) : ∀ n i s, i ≤ t_c T → t_c T < n + i → lexC s B → txtC s T → stl s B T → mndP (s.1 40) (s.1 41) (mnd B T i) → ∃ s', f_X3_write_L15 kk n s (nI i) = kk s' ∧ mndP (s'.1 40) (s'.1 41) (mnd B T (t_c T)) ∧ Sd s s' := by
  have h60 := hT.1
  have h8 := hB.1
  intro n
  induction n with
  | zero => intro i s h1 h2; omega
  | succ n ih =>
    intro i s h1 h2 hl hx hst hm
    rw [f_X3_write_L15, hx.1]
    rcases Nat.lt_or_ge i (t_c T) with q | q
    · have hlen := mnd_len hB hT i h1
      have hlenW := mnW_len hB hT q
      obtain ⟨w1, w2, w3⟩ := hT.2.1 i q
      have w12 := w1.2.2
      rw [if_neg (fun z => by have := (nI_leI (by omega) (by omega)).mp z; omega), insteadOver7_s hB hT hl hst q, cP_s]
      simp only [jn_s]
      have go : ∀ s6, Sd s s6 → mndP (s6.1 40) (s6.1 41) (mnW B T i) → ∃ s', (cP (f_X6_endsSentence s6 (nI i)) fun x7 => (if x7 = 0 then (f_X3_write_L15 kk n (s6) ((nI i + 1))) else (cA (f_X3_addSign s6 46) fun x9 s11 => (f_X3_write_L15 kk n (s11) ((nI i + 1)))))) = kk s' ∧ mndP (s'.1 40) (s'.1 41) (mnd B T (t_c T)) ∧ Sd s s' := by
        intro s6 u hm6
        have hx6 : txtC s6 T := u.1.txt (by decide) (by decide) hx
        rw [endsSentence7_s hT hx6 q, cP_s, nI_1]
        by_cases z : eS T i
        · obtain ⟨s7, d1, d2, d3⟩ := addSign7_s (x := 46) hm6 (by omega) (by decide)
          have d1 : f_X3_addSign s6 46 = some ((), s7) := d1
          rw [bI_t z, if_neg (by decide), d1, cA_s]
          have u7 := u.tr d3
          have e : mnd B T (i + 1) = mnW B T i ++ [46] := by rw [mnd_s, if_pos z]
          obtain ⟨s', c1, c2, c3⟩ := ih (i + 1) s7 (by omega) (by omega) (u7.lex hl) (u7.1.txt (by decide) (by decide) hx) (u7.1.sl (by decide) hst) (by rw [e]; exact d2)
          exact ⟨s', c1, c2, u7.tr c3⟩
        · rw [bI_f z, if_pos rfl]
          have e : mnd B T (i + 1) = mnW B T i := by rw [mnd_s, if_neg z, List.append_nil]
          obtain ⟨s', c1, c2, c3⟩ := ih (i + 1) s6 (by omega) (by omega) (u.lex hl) hx6 (u.1.sl (by decide) hst) (by rw [e]; exact hm6)
          exact ⟨s', c1, c2, u.tr c3⟩
      by_cases z : ins B T i = -1
      · obtain ⟨s1, d1, d2, d3⟩ := addWord7_s hm w1 (by omega)
        rw [if_pos z, rL_n (by omega) (by decide), (hx.2.2.2.2 i q).1, d1, cA_s]
        refine go s1 d3 ?_
        unfold mnW
        rw [if_pos z]
        exact d2
      · rw [if_neg z]
        rcases ins_or (T := T) hB i with ⟨-, -, a2⟩ | ⟨k, u, a1, a2, a3, a4, a5, a6, a7, a8⟩
        · exact absurd a2 z
        · have hcl := cc_le (B := B) (T := T) k
          obtain ⟨-, -, -, -, g4, g5⟩ := hst
          have hr := g4 k (by omega) (by rw [a4]; exact nI_m1 (by omega))
          rw [rI_n (by omega) (by decide), g5 i q, a6, rI_n (by omega) (by decide), hr.1]
          by_cases y : k = i
          · rw [if_pos (by rw [y])]
            rcases pr_ok hB a2 with g | ⟨v, g1, g2⟩
            · rw [a7] at z; exact absurd g z
            · obtain ⟨s1, d1, d2, d3⟩ := addWordsOf7_s hB hl g1 hm (by omega)
              rw [a7, g2, d1, cA_s]
              refine go s1 d3 ?_
              unfold mnW
              rw [if_neg z, if_pos (a8.mp y), a7, g2]
              unfold kn
              rw [nI_clamp (by omega)]
              exact d2
          · rw [if_neg (fun g => y ((nI_eq (by omega) (by omega)).mp g))]
            refine go s Sd.rf ?_
            unfold mnW
            rw [if_neg z, if_neg (fun g => y (a8.mpr g))]
            exact hm
    · have : i = t_c T := by omega
      subst this
      rw [if_pos (nI_le (Nat.le_refl _) (by omega))]
      exact ⟨s, rfl, hm, Sd.rf⟩
theorem write7_s {σ : Sg} {S : List Nat} {im : Nat → Option Bk} (hB : Bok B) (hT : Tok T) (hC : InvC σ (S, B, T, im)) (hst : stl σ B T) : ∃ s', f_X3_write σ = some ((), s') ∧ InvC s' (S, B, T, im) ∧ mndP (s'.1 40) (s'.1 41) (mnd B T (t_c T)) ∧ Un43 σ s' := by
  have h60 := hT.1
  have hC' := hC
  obtain ⟨g1, g2, g3, g4, g5, g6⟩ := hC'
  unfold f_X3_write
  rcases g6 with p | ⟨p1, p2⟩
  · rw [if_pos p, pI_s]
    have u : Sm [40, 41] [] σ (sI σ 40 4 0) := Sm.rf.i (by decide)
    obtain ⟨s1, d1, d2, d3⟩ := write7_L hB hT (fun (s31 : Sg) => pI s31 40 5 1 fun s32 => (some ((), s32))) fu 0 (sI σ 40 4 0) (Nat.zero_le _) (by unfold fu; omega) (u.lex (by decide) (by decide) g2) (u.txt (by decide) (by decide) g3) (u.sl (by decide) hst) ⟨by rw [sI_1, if_pos ⟨rfl, rfl⟩]; rfl, fun i x hx => by rw [mnd] at hx; simp at hx⟩
    have d1 : f_X3_write_L15 (fun (s31 : Sg) => pI s31 40 5 1 fun s32 => (some ((), s32))) fu (sI σ 40 4 0) 0 = pI s1 40 5 1 fun s32 => (some ((), s32)) := d1
    rw [d1, pI_s]
    have v : Sm [40, 41] [] σ (sI s1 40 5 1) := (u.tr d3.1).i (by decide)
    have em : mndP ((sI s1 40 5 1).1 40) ((sI s1 40 5 1).1 41) (mnd B T (t_c T)) := by
      refine ⟨?_, ?_⟩
      · rw [sI_1, if_neg (by decide)]; exact d2.1
      · rw [sI_ne _ (by decide)]; exact d2.2
    exact ⟨_, rfl, ⟨v.slp (by decide) g1, v.lex (by decide) (by decide) g2, v.txt (by decide) (by decide) g3, v.ims (by decide) (by decide) g4, v.scn (by decide) g5, Or.inr ⟨by rw [sI_1, if_pos ⟨rfl, rfl⟩], em⟩⟩, em, v.u43 (by decide)⟩
  · rw [if_neg (by rw [p1]; decide)]
    exact ⟨σ, rfl, hC, p2, Un43.rf⟩
theorem written7_s {σ : Sg} {S : List Nat} {im : Nat → Option Bk} (hB : Bok B) (hT : Tok T) (hC : InvC σ (S, B, T, im)) : ∃ s', f_X7_written σ = some ((), s') ∧ InvC s' (S, B, T, im) ∧ mndP (s'.1 40) (s'.1 41) (mnd B T (t_c T)) ∧ Un43 σ s' := by
  obtain ⟨s1, a1, a2, a3, a4⟩ := settle7_s hB hT hC
  obtain ⟨s2, b1, b2, b3, b4⟩ := write7_s hB hT a2 a3
  exact ⟨s2, by unfold f_X7_written; rw [a1, cA_s, b1, cA_s], b2, b3, a4.tr b4⟩
end WR
end
section
/-! the mended text: the reference -/
def mnR (s : Sg) (m : List Nat) : Prop := ∀ i x, m[i]? = some x → s.1 54 i = nI x
theorem mnR_add {s : Sg} {m : List Nat} {x : Nat} (h : mnR s m) : mnR (sI s 54 m.length (nI x)) (m ++ [x]) := by
  intro i y hy
  rw [sI_1]
  rcases get_snoc hy with ⟨a, b⟩ | ⟨a, b⟩
  · rw [if_neg (by omega)]; exact h i y b
  · rw [if_pos ⟨rfl, a⟩, b]
/-- the letters' step -/
def ltH (s0 : Sg) (c2 c4 c5 c6 c7 : Int32) (w : List Nat) : Prop := ∀ (kk : Sg → Int32 → Option (Int32 × Sg)) (n : Nat) (s : Sg) (x : Int32) (j y : Nat), Sm [54] [] s0 s → w[j]? = some y → f_X8_mends_L154 kk c2 c4 c5 c6 c7 (nI w.length) (n + 1) s x (nI j) = wI s 54 3300 x (nI (y + 96)) fun s20 => (f_X8_mends_L154 kk c2 c4 c5 c6 c7 (nI w.length) n s20 (x + 1) (nI (j + 1)))
theorem mends_lts {s0 : Sg} {c2 c4 c5 c6 c7 : Int32} {w : List Nat} (H : ltH s0 c2 c4 c5 c6 c7 w) (hw : w.length ≤ 12) (kk : Sg → Int32 → Option (Int32 × Sg)) {a : List Nat} (ha : a.length + w.length ≤ 3300) : ∀ n j s, Sm [54] [] s0 s → j ≤ w.length → w.length < n + j → mnR s (a ++ lts (w.take j)) → ∃ s', f_X8_mends_L154 kk c2 c4 c5 c6 c7 (nI w.length) n s (nI (a.length + j)) (nI j) = kk s' (nI (a.length + w.length)) ∧ mnR s' (a ++ lts w) ∧ Sm [54] [] s s' := by
  intro n
  induction n with
  | zero => intro j s _ h1 h2; omega
  | succ n ih =>
    intro j s u h1 h2 hm
    rcases Nat.lt_or_ge j w.length with q | q
    · have gj : w[j]? = some w[j] := List.getElem?_eq_getElem q
      have hlen : (a ++ lts (w.take j)).length = a.length + j := by rw [List.length_append, lts_len, List.length_take, Nat.min_eq_left h1]
      rw [H kk n s _ j _ u gj, wI_n (by omega) (by decide), nI_1]
      have e : a ++ lts (w.take j) ++ [w[j] + 96] = a ++ lts (w.take (j + 1)) := by
        rw [take_snoc w j _ gj]
        unfold lts
        rw [List.map_append, List.append_assoc]
        rfl
      have hm2 := mnR_add (x := w[j] + 96) hm
      rw [e, hlen] at hm2
      obtain ⟨s', c1, c2, c3⟩ := ih (j + 1) (sI s 54 (a.length + j) (nI (w[j] + 96))) (u.i (by decide)) (by omega) (by omega) hm2
      exact ⟨s', c1, c2, (Sm.rf.i (by decide)).tr c3⟩
    · have : j = w.length := by omega
      subst this
      rw [f_X8_mends_L154, if_pos (nI_le (Nat.le_refl _) (by omega))]
      refine ⟨s, rfl, ?_, Sm.rf⟩
      rw [List.take_of_length_le (Nat.le_refl _)] at hm
      exact hm
section MD
variable {B : Bk} {T : Tx}
theorem ltH_T {s : Sg} (hT : Tok T) (hx : txR s T) {i : Nat} (hi : i < t_c T) (c5 c6 c7 : Int32) : ltH s (nI i) (-1) c5 c6 c7 (t_w T i) := by
  intro kk n s' x j y u hy
  have h60 := hT.1
  have hw12 := (hT.2.1 i hi).1.2.2
  have hj : j < (t_w T i).length := (List.getElem?_eq_some_iff.mp hy).1
  have hx' : txR s' T := u.tx (by decide) hx
  rw [f_X8_mends_L154, if_neg (fun z => by have := (nI_leI (by omega) (by omega)).mp z; omega)]
  dsimp only [jn]
  rw [if_pos rfl, i15, nI_p3, nI_add, rI_n (by omega) (by decide), (hx'.2.2.1 i hi).1.2 j y hy, nI_1]
theorem ltH_B {s : Sg} (hB : Bok B) (hb : bookP (s.1 44) B) {v k : Nat} (hv : v < b_tc B) (hk : k < b_n B v) (c2 c5 c6 : Int32) : ltH s c2 (nI v) c5 c6 (nI k) (b_w B v k) := by
  intro kk n s' x j y u hy
  have h8 := hB.1
  have hn := (hB.2.2.1 v hv).1
  have hw12 := ((hB.2.2.1 v hv).2.2.2.2.1 k hk).2.2
  have hj : j < (b_w B v k).length := (List.getElem?_eq_some_iff.mp hy).1
  have hb' : bookP (s'.1 44) B := u.bk (by decide) hb
  rw [f_X8_mends_L154, if_neg (fun z => by have := (nI_leI (by omega) (by omega)).mp z; omega)]
  dsimp only [jn]
  rw [if_neg (nI_m1 (by omega)), wordAt8_s, cP_s, nI_1, nI_add, rI_n (by omega) (by decide), ((hb'.2.2.1 v hv).2.2.2.2 k hk).2 j y hy, nI_1]
theorem addW_n {m w : List Nat} (h : m = []) : addW m w = [] ++ lts w := by unfold addW; rw [if_pos h]
theorem addW_c {m w : List Nat} (h : ¬ m = []) : addW m w = (m ++ [32]) ++ lts w := by unfold addW; rw [if_neg h]
theorem app_lts {a w : List Nat} : (a ++ lts w).length = a.length + w.length := by rw [List.length_append, lts_len]
theorem lts_0 (a w : List Nat) : a ++ lts (w.take 0) = a := by simp [lts]
/-- a word of the text is written -/
theorem mends_T {s : Sg} {m : List Nat} (hT : Tok T) (hx : txR s T) {i : Nat} (hi : i < t_c T) (c5 : Int32) (kk : Sg → Int32 → Option (Int32 × Sg)) (hm : mnR s m) (hl : m.length + 13 ≤ 3300) : ∃ s', f_X8_mends_L97 kk (nI i) (-1) c5 1 fu s (nI m.length) 0 = kk s' (nI (addW m (t_w T i)).length) ∧ mnR s' (addW m (t_w T i)) ∧ Sm [54] [] s s' := by
  have h60 := hT.1
  have hw12 := (hT.2.1 i hi).1.2.2
  have fin : ∀ s' x, f_X8_mends_L97 kk (nI i) (-1) c5 1 4999 s' x 1 = kk s' x := by
    intro s' x
    show f_X8_mends_L97 kk (nI i) (-1) c5 1 (4998 + 1) s' x 1 = _
    rw [f_X8_mends_L97, if_pos (by decide)]
  show ∃ s', f_X8_mends_L97 kk (nI i) (-1) c5 1 (4999 + 1) s (nI m.length) 0 = _ ∧ _
  rw [f_X8_mends_L97, if_neg (by decide)]
  dsimp only [jn]
  by_cases z : m = []
  · rw [if_pos (by rw [z]; decide), if_pos rfl, i15, rI_n (by omega) (by decide), (hx.2.2.1 i hi).1.1]
    obtain ⟨s', c1, c2, c3⟩ := mends_lts (ltH_T hT hx hi c5 1 0) hw12 (fun (s33 : Sg) (v34 : Int32) => f_X8_mends_L97 kk (nI i) (-1) c5 1 4999 s33 v34 (0 + 1)) (a := []) (by simp; omega) fu 0 s Sm.rf (Nat.zero_le _) (by unfold fu; omega) (by rw [lts_0]; intro i x hx; simp at hx)
    refine ⟨s', ?_, by rw [addW_n z]; exact c2, c3⟩
    rw [addW_n z, app_lts, z]
    refine Eq.trans c1 ?_
    exact fin _ _
  · have hpos : 0 < m.length := List.length_pos_iff.mpr z
    have u : Sm [54] [] s (sI s 54 m.length 32) := Sm.rf.i (by decide)
    have hx' : txR (sI s 54 m.length 32) T := u.tx (by decide) hx
    rw [if_neg (nI_nle hpos (by omega)), wI_n (by omega) (by decide), if_pos rfl, i15, rI_n (by omega) (by decide), (hx'.2.2.1 i hi).1.1, nI_1]
    obtain ⟨s', c1, c2, c3⟩ := mends_lts (ltH_T hT hx' hi c5 1 0) hw12 (fun (s33 : Sg) (v34 : Int32) => f_X8_mends_L97 kk (nI i) (-1) c5 1 4999 s33 v34 (0 + 1)) (a := m ++ [32]) (by rw [List.length_append]; simp; omega) fu 0 (sI s 54 m.length 32) Sm.rf (Nat.zero_le _) (by unfold fu; omega) (by rw [lts_0]; exact mnR_add hm)
    refine ⟨s', ?_, by rw [addW_c z]; exact c2, u.tr c3⟩
    rw [addW_c z, app_lts]
    have el : (m ++ [32]).length + 0 = m.length + 1 := by rw [List.length_append]; rfl
    rw [el] at c1
    refine Eq.trans c1 ?_
    exact fin _ _
/-- the words of a term are written -/
theorem mends_B {s : Sg} {m : List Nat} (hB : Bok B) (hb : bookP (s.1 44) B) {v : Nat} (hv : v < b_tc B) (c2 c5 : Int32) (kk : Sg → Int32 → Option (Int32 × Sg)) (hm : mnR s m) (hl : m.length + 51 ≤ 3300) : ∃ s', f_X8_mends_L97 kk c2 (nI v) c5 (nI (b_n B v)) fu s (nI m.length) 0 = kk s' (nI (addT m (b_w B v) (b_n B v)).length) ∧ mnR s' (addT m (b_w B v) (b_n B v)) ∧ Sm [54] [] s s' := by
  have h8 := hB.1
  have hv1 := (hB.2.2.1 v hv)
  have hn := hv1.1
  have hsum := hv1.2.2.2.2.2
  have key : ∀ n k s, k ≤ b_n B v → b_n B v < n + k → bookP (s.1 44) B → mnR s (addT m (b_w B v) k) → ∃ s', f_X8_mends_L97 kk c2 (nI v) c5 (nI (b_n B v)) n s (nI (addT m (b_w B v) k).length) (nI k) = kk s' (nI (addT m (b_w B v) (b_n B v)).length) ∧ mnR s' (addT m (b_w B v) (b_n B v)) ∧ Sm [54] [] s s' := by
    intro n
    induction n with
    | zero => intro k s h1 h2; omega
    | succ n ih =>
      intro k s h1 h2 hb hm
      rw [f_X8_mends_L97]
      rcases Nat.lt_or_ge k (b_n B v) with q | q
      · have hwk := hv1.2.2.2.2.1 k q
        have hw12 := hwk.2.2
        have hl1 := addT_len m (b_w B v) k
        have hl2 := b_sum_mono (b_w B v) (show k + 1 ≤ b_n B v by omega)
        have hl2 : b_sum (b_w B v) k + ((b_w B v k).length + 1) ≤ b_sum (b_w B v) (b_n B v) := hl2
        have hbk := (hb.2.2.1 v hv).2.2.2.2 k q
        rw [if_neg (fun z => by have := (nI_leI (by omega) (by omega)).mp z; omega)]
        dsimp only [jn]
        have es : addT m (b_w B v) (k + 1) = addW (addT m (b_w B v) k) (b_w B v k) := rfl
        by_cases z : addT m (b_w B v) k = []
        · rw [if_pos (by rw [z]; decide), if_neg (nI_m1 (by omega)), wordAt8_s, cP_s, rI_n (by omega) (by decide), hbk.1, nI_1]
          obtain ⟨s1, c1, c2', c3⟩ := mends_lts (ltH_B hB hb hv q c2 c5 (nI (b_n B v))) hw12 (fun (s33 : Sg) (v34 : Int32) => f_X8_mends_L97 kk c2 (nI v) c5 (nI (b_n B v)) n s33 v34 (nI (k + 1))) (a := []) (by simp; omega) fu 0 s Sm.rf (Nat.zero_le _) (by unfold fu; omega) (by rw [lts_0]; intro i x hx; simp at hx)
          obtain ⟨s2, d1, d2, d3⟩ := ih (k + 1) s1 (by omega) (by omega) (c3.bk (by decide) hb) (by rw [es, addW_n z]; exact c2')
          refine ⟨s2, ?_, d2, c3.tr d3⟩
          rw [es, addW_n z, app_lts] at d1
          rw [z]
          exact Eq.trans c1 d1
        · have hpos : 0 < (addT m (b_w B v) k).length := List.length_pos_iff.mpr z
          have u : Sm [54] [] s (sI s 54 (addT m (b_w B v) k).length 32) := Sm.rf.i (by decide)
          have hb' : bookP ((sI s 54 (addT m (b_w B v) k).length 32).1 44) B := u.bk (by decide) hb
          have hbk' := (hb'.2.2.1 v hv).2.2.2.2 k q
          rw [if_neg (nI_nle hpos (by omega)), wI_n (by omega) (by decide), if_neg (nI_m1 (by omega)), wordAt8_s, cP_s, rI_n (by omega) (by decide), hbk'.1, nI_1, nI_1]
          obtain ⟨s1, c1, c2', c3⟩ := mends_lts (ltH_B hB hb' hv q c2 c5 (nI (b_n B v))) hw12 (fun (s33 : Sg) (v34 : Int32) => f_X8_mends_L97 kk c2 (nI v) c5 (nI (b_n B v)) n s33 v34 (nI (k + 1))) (a := addT m (b_w B v) k ++ [32]) (by rw [List.length_append]; simp; omega) fu 0 (sI s 54 (addT m (b_w B v) k).length 32) Sm.rf (Nat.zero_le _) (by unfold fu; omega) (by rw [lts_0]; exact mnR_add hm)
          have v3 := u.tr c3
          obtain ⟨s2, d1, d2, d3⟩ := ih (k + 1) s1 (by omega) (by omega) (v3.bk (by decide) hb) (by rw [es, addW_c z]; exact c2')
          refine ⟨s2, ?_, d2, v3.tr d3⟩
          rw [es, addW_c z, app_lts] at d1
          have el : (addT m (b_w B v) k ++ [32]).length + 0 = (addT m (b_w B v) k).length + 1 := by rw [List.length_append]; rfl
          rw [el] at c1
          exact Eq.trans c1 d1
      · have : k = b_n B v := by omega
        subst this
        rw [if_pos (nI_le (Nat.le_refl _) (by omega))]
        exact ⟨s, rfl, hm, Sm.rf⟩
  exact key fu 0 s (Nat.zero_le _) (by unfold fu; omega) hb hm
end MD
end
section
/-! the mended text: the reference's walk -/
section MW
variable {B : Bk} {T : Tx}
noncomputable def pt (T : Tx) (i : Nat) : List Nat := @ite _ (eS T i) (eSD T i) [46] []
theorem pt_t {i : Nat} (h : eS T i) : pt T i = [46] := by unfold pt; rw [if_pos h]
theorem pt_f {i : Nat} (h : ¬ eS T i) : pt T i = [] := by unfold pt; rw [if_neg h]
theorem mnd_p (i : Nat) : mnd B T (i + 1) = mnW B T i ++ pt T i := mnd_s i
theorem ins_nx {i : Nat} (h : ins B T i = -1) (hc : ch B T (i + 1) = -1) : ins B T (i + 1) = -1 := by
  have e : ov B T (i + 1) = if i + 1 < fr B T (i + 2) then ov B T i else -1 := by rw [ov, if_neg (fun g => g hc)]
  unfold ins at h ⊢
  rw [e]
  by_cases z : i + 1 < fr B T (i + 2)
  · rw [if_pos z]; exact h
  · rw [if_neg z, if_pos rfl]
/-- behind the first word of what is put in its place -/
theorem mnd_j (hB : Bok B) {i t v : Nat} (ht : t < b_tc B) (hf : fnd B T t i) (hc : ch B T i = nI t) (hfr : fr B T (i + 1) = i + b_n B t) (hv : v < b_tc B) (hp : b_pr B t = nI v) : ∀ d, d < b_n B t → mnd B T (i + 1 + d) = addT (mnd B T i) (b_w B v) (b_n B v) ++ pt T (i + d) := by
  have h8 := hB.1
  have hne : ch B T i ≠ -1 := by rw [hc]; exact nI_m1 (by omega)
  have hins : ∀ d, d < b_n B t → ins B T (i + d) = nI v := fun d hd => by
    have ho := ov_1 hne hfr d hd
    rw [hc] at ho
    rw [ins_t (by omega) ho, hp]
  intro d
  induction d with
  | zero =>
    intro hd
    have h0 := hins 0 hd
    rw [Nat.add_zero] at h0
    rw [Nat.add_zero, Nat.add_zero, mnd_p]
    unfold mnW
    rw [h0, if_neg (nI_m1 (by omega)), if_pos hne]
    unfold kn
    rw [nI_clamp (by omega)]
    rfl
  | succ d ih =>
    intro hd
    have h1 := ih (by omega)
    have h2 := hins (d + 1) hd
    have h3 : ch B T (i + 1 + d) = -1 := ch_in hfr (by omega) (by omega)
    have h4 : ¬ eS T (i + d) := by
      rintro ⟨g, -⟩
      have m1 := (hf.2 d (by omega)).1
      have m2 := (hf.2 (d + 1) hd).1
      have m3 := hf.1
      rcases g with g | g
      · omega
      · exact g (by rw [show i + d + 1 = i + (d + 1) by omega, m1, m2])
    rw [pt_f h4, List.append_nil] at h1
    rw [show i + (d + 1) = i + 1 + d by omega] at h2 ⊢
    rw [show i + 1 + (d + 1) = i + 1 + d + 1 by omega, mnd_p]
    unfold mnW
    rw [h2, if_neg (nI_m1 (by omega)), if_neg (fun g => g h3), h1]
/-- the point, and on -/
def mpK (kk : Sg → Int32 → Option (Int32 × Sg)) (n : Nat) (nx : Int32) (s : Sg) (v : Int32) : Option (Int32 × Sg) :=
  rI s 48 915 ((15 * (nx - 1)) + 1) fun x51 => (jn (fun (v55 : Int32) => if v55 = 0 then (f_X8_mends_L8 kk n s v nx) else (if (s.1 43 7) ≤ x51 then (f_X8_mends_L8 kk n s v nx) else (wI s 54 3300 v 46 fun s56 => (f_X8_mends_L8 kk n s56 (v + 1) nx)))) fun k54 => (if nx = (s.1 43 6) then (k54 1) else (rI s 48 915 ((15 * nx) + 1) fun x61 => (if x61 = x51 then (k54 0) else (k54 1)))))
theorem mends_pt {s : Sg} {m : List Nat} (hT : Tok T) (hx : txR s T) {i x : Nat} {X : Int32} (hX : X = nI x) (hx1 : 1 ≤ x) (hix : i + x ≤ t_c T) (kk : Sg → Int32 → Option (Int32 × Sg)) (n : Nat) (hm : mnR s m) (hl : m.length + 1 ≤ 3300) : ∃ s', mpK kk n (nI i + X) s (nI m.length) = f_X8_mends_L8 kk n s' (nI (m ++ pt T (i + x - 1)).length) (nI (i + x)) ∧ mnR s' (m ++ pt T (i + x - 1)) ∧ Sm [54] [] s s' := by
  subst hX
  unfold mpK
  have h60 := hT.1
  have e6 : s.1 43 6 = nI (t_c T) := hx.1
  have e7 : s.1 43 7 = nI (t_se T) := hx.2.1
  have q1 := hx.2.2.1 (i + x - 1) (by omega)
  have d1 := (hT.2.1 (i + x - 1) (by omega)).2.2
  have d3 := hT.2.2.1
  rw [nI_add, nI_s1 (by omega), i15, nI_1, rI_n (by omega) (by decide), q1.2.1, e6, e7]
  dsimp only [jn]
  have no : ¬ eS T (i + x - 1) → ∃ s', f_X8_mends_L8 kk n s (nI m.length) (nI (i + x)) = f_X8_mends_L8 kk n s' (nI (m ++ pt T (i + x - 1)).length) (nI (i + x)) ∧ mnR s' (m ++ pt T (i + x - 1)) ∧ Sm [54] [] s s' := fun h => by
    rw [pt_f h, List.append_nil]
    exact ⟨s, rfl, hm, Sm.rf⟩
  have last : (i + x - 1 + 1 = t_c T ∨ t_s T (i + x - 1 + 1) ≠ t_s T (i + x - 1)) → ∃ s', (if (1 : Int32) = 0 then (f_X8_mends_L8 kk n s (nI m.length) (nI (i + x))) else (if nI (t_se T) ≤ nI (t_s T (i + x - 1)) then (f_X8_mends_L8 kk n s (nI m.length) (nI (i + x))) else (wI s 54 3300 (nI m.length) 46 fun s56 => (f_X8_mends_L8 kk n s56 (nI m.length + 1) (nI (i + x)))))) = f_X8_mends_L8 kk n s' (nI (m ++ pt T (i + x - 1)).length) (nI (i + x)) ∧ mnR s' (m ++ pt T (i + x - 1)) ∧ Sm [54] [] s s' := fun h => by
    rw [if_neg (by decide)]
    by_cases z : t_se T ≤ t_s T (i + x - 1)
    · rw [if_pos (nI_le z (by omega))]
      exact no (fun g => by have := g.2; omega)
    · rw [if_neg (fun g => z ((nI_leI (by omega) (by omega)).mp g)), wI_n (by omega) (by decide), nI_1, pt_t ⟨h, by omega⟩, List.length_append]
      exact ⟨_, rfl, mnR_add hm, Sm.rf.i (by decide)⟩
  by_cases z : i + x = t_c T
  · rw [if_pos (by rw [z])]
    exact last (Or.inl (by omega))
  · have q2 := hx.2.2.1 (i + x) (by omega)
    have d2 := (hT.2.1 (i + x) (by omega)).2.2
    rw [if_neg (fun g => z ((nI_eq (by omega) (by omega)).mp g)), i15, nI_1, rI_n (by omega) (by decide), q2.2.1]
    by_cases y : t_s T (i + x) = t_s T (i + x - 1)
    · rw [if_pos (by rw [y]), if_pos rfl]
      refine no ?_
      rintro ⟨g | g, -⟩
      · omega
      · exact g (by rw [show i + x - 1 + 1 = i + x by omega]; exact y)
    · rw [if_neg (fun g => y ((nI_eq (by omega) (by omega)).mp g))]
      exact last (Or.inr (by rw [show i + x - 1 + 1 = i + x by omega]; exact y))
theorem mends_L8 (hB : Bok B) (hT : Tok T) : ∀ n i s, i ≤ t_c T → t_c T < n + i → bookP (s.1 44) B → txR s T → (∀ j, j < t_c T → s.1 53 j = ch B T j) → (ch B T i = -1 → ins B T i = -1) → mnR s (mnd B T i) → ∃ s', f_X8_mends_L8 (fun (s85 : Sg) (v86 : Int32) => some (v86, s85)) n s (nI (mnd B T i).length) (nI i) = some (nI (mnd B T (t_c T)).length, s') ∧ mnR s' (mnd B T (t_c T)) ∧ Sm [54] [] s s' := by
  have h60 := hT.1
  have h8 := hB.1
  intro n
  induction n with
  | zero => intro i s h1 h2; omega
  | succ n ih =>
    intro i s h1 h2 hb hx hc hi hm
    have e6 : s.1 43 6 = nI (t_c T) := hx.1
    rw [f_X8_mends_L8, e6]
    rcases Nat.lt_or_ge i (t_c T) with q | q
    · have hlen := mnd_len hB hT i h1
      have hlenW := mnW_len hB hT q
      rw [if_neg (fun z => by have := (nI_leI (by omega) (by omega)).mp z; omega), rI_n (by omega) (by decide), hc i q, jn_s]
      have hw12 := (hT.2.1 i q).1.2.2
      -- a word as it is
      have asis : ins B T i = -1 → ∃ s', f_X8_mends_L97 (mpK (fun (s85 : Sg) (v86 : Int32) => some (v86, s85)) n (nI i + 1)) (nI i) (-1) (nI i + 1) 1 fu s (nI (mnd B T i).length) 0 = some (nI (mnd B T (t_c T)).length, s') ∧ mnR s' (mnd B T (t_c T)) ∧ Sm [54] [] s s' := by
        intro hz
        have eW : mnW B T i = addW (mnd B T i) (t_w T i) := by unfold mnW; rw [if_pos hz]
        obtain ⟨s1, c1, c2, c3⟩ := mends_T hT hx q (nI i + 1) (mpK (fun (s85 : Sg) (v86 : Int32) => some (v86, s85)) n (nI i + 1)) hm (by omega)
        rw [eW] at hlenW
        obtain ⟨s2, d1, d2, d3⟩ := mends_pt hT (c3.tx (by decide) hx) (i := i) (x := 1) (X := 1) rfl (by omega) (by omega) (fun (s85 : Sg) (v86 : Int32) => some (v86, s85)) n c2 (by omega)
        have v2 := c3.tr d3
        have e : addW (mnd B T i) (t_w T i) ++ pt T (i + 1 - 1) = mnd B T (i + 1) := by rw [mnd_p, eW]; rfl
        rw [e] at d1 d2
        obtain ⟨s3, b1, b2, b3⟩ := ih (i + 1) s2 (by omega) (by omega) (v2.bk (by decide) hb) (v2.tx (by decide) hx) (by rw [v2.1 53 (by decide)]; exact hc) (ins_nx hz) d2
        exact ⟨s3, c1.trans (d1.trans b1), b2, v2.tr b3⟩
      rcases ch_or (T := T) hB i with ⟨g1, -⟩ | ⟨-, t, ht, hf, -, g1, g2, g3⟩
      · rw [g1, if_pos rfl]
        dsimp only
        rw [jn_s, if_pos rfl]
        dsimp only
        rw [jn_s, if_pos rfl]
        exact asis (hi g1)
      · have hn := (hB.2.2.1 t ht).1
        have hne : ch B T i ≠ -1 := by rw [g1]; exact nI_m1 (by omega)
        have ho := ov_s hne
        rw [g1] at ho
        have hins := ins_t (by omega) ho
        rw [g1, if_neg (nI_m1 (by omega)), termAt8_s, cP_s, nI_p3, rI_n (by omega) (by decide), (hb.2.2.1 t ht).2.2.2.1]
        rcases pr_ok hB ht with hp | ⟨v, hv, hp⟩
        · rw [hp]
          dsimp only
          rw [jn_s, if_pos rfl]
          dsimp only
          rw [jn_s, if_pos rfl]
          exact asis (by rw [hins, hp])
        · have hnv := (hB.2.2.1 v hv).1
          have hif := hf.1
          rw [hp]
          dsimp only
          rw [jn_s, if_neg (nI_m1 (by omega)), cP_s, nI_p0, rI_n (by omega) (by decide), (hb.2.2.1 t ht).1]
          dsimp only
          rw [jn_s, if_neg (nI_m1 (by omega)), termAt8_s, cP_s, nI_p0, rI_n (by omega) (by decide), (hb.2.2.1 v hv).1]
          obtain ⟨s1, c1, c2, c3⟩ := mends_B hB hb hv (nI i) (nI i + nI (b_n B t)) (mpK (fun (s85 : Sg) (v86 : Int32) => some (v86, s85)) n (nI i + nI (b_n B t))) hm (by omega)
          have hl3 := addT_len (mnd B T i) (b_w B v) (b_n B v)
          have hl4 := (hB.2.2.1 v hv).2.2.2.2.2
          obtain ⟨s2, d1, d2, d3⟩ := mends_pt hT (c3.tx (by decide) hx) (i := i) (x := b_n B t) (X := nI (b_n B t)) rfl (by omega) hif (fun (s85 : Sg) (v86 : Int32) => some (v86, s85)) n c2 (by omega)
          have v2 := c3.tr d3
          have hj := mnd_j hB ht hf g1 g2 hv hp (b_n B t - 1) (by omega)
          rw [show i + 1 + (b_n B t - 1) = i + b_n B t by omega, show i + (b_n B t - 1) = i + b_n B t - 1 by omega] at hj
          rw [← hj] at d1 d2
          have hfr := fr_in g2 (b_n B t - 1) (by omega)
          rw [show i + 1 + (b_n B t - 1) = i + b_n B t by omega] at hfr
          obtain ⟨s3, b1, b2, b3⟩ := ih (i + b_n B t) s2 hif (by omega) (v2.bk (by decide) hb) (v2.tx (by decide) hx) (by rw [v2.1 53 (by decide)]; exact hc) (fun hcn => by
            refine ins_f (ov_0 hB ?_)
            rcases ch_or (T := T) hB (i + b_n B t) with ⟨-, k2, -⟩ | ⟨-, u, hu, -, -, k1, -⟩
            · omega
            · rw [hcn] at k1; exact absurd k1.symm (nI_m1 (by omega))) d2
          exact ⟨s3, c1.trans (d1.trans b1), b2, v2.tr b3⟩
    · have : i = t_c T := by omega
      subst this
      rw [if_pos (nI_le (Nat.le_refl _) (by omega))]
      exact ⟨s, rfl, hm, Sm.rf⟩
theorem mends8_s {s : Sg} (hB : Bok B) (hT : Tok T) (hb : bookP (s.1 44) B) (hx : txR s T) : ∃ s', f_X8_mends s = some (nI (mnd B T (t_c T)).length, s') ∧ mnR s' (mnd B T (t_c T)) ∧ Sm [51, 52, 53, 54] [] s s' := by
  have h60 := hT.1
  obtain ⟨s1, a1, a2, a3, a4⟩ := choose8_s hB hT hb hx
  obtain ⟨s2, b1, b2, b3⟩ := mends_L8 hB hT fu 0 s1 (Nat.zero_le _) (by unfold fu; omega) (a2.bk (by decide) hb) (a2.tx (by decide) hx) a4 (fun g => by
    unfold ins
    rw [ov, if_pos g]) (by intro i x h; rw [mnd] at h; simp at h)
  refine ⟨s2, ?_, b2, (a2.up (by decide) (by decide)).tr (b3.up (by decide) (by decide))⟩
  unfold f_X8_mends
  rw [a1, cA_s]
  exact b1
theorem InvR.c9 {a b : Sg} {M : Ms} (h : InvR a M) (u : Sm [51, 52, 53, 54] [] a b) : InvR b M := by
  unfold InvR
  rw [u.1 43 (by decide), u.1 44 (by decide), u.1 45 (by decide), u.1 46 (by decide), u.1 47 (by decide), u.1 48 (by decide)]
  exact h
end MW
end
section
/-! counts -/
/-- the step of the reference's counting -/
def ctH (s : Sg) (c1 : Int32) (g : Nat → Nat → Nat) (c m : Nat) : Prop := ∀ (kk : Int32 → Option (Int32 × Sg)) (n i t y : Nat), i < c → (t < m → f_X8_counts_L19 kk s c1 (nI i) (n + 1) (nI y) (nI t) = f_X8_counts_L19 kk s c1 (nI i) n (nI (y + g i t)) (nI (t + 1))) ∧ (t = m → f_X8_counts_L19 kk s c1 (nI i) (n + 1) (nI y) (nI t) = kk (nI y))
theorem counts8_g {s : Sg} {c1 : Int32} {g : Nat → Nat → Nat} {c m : Nat} (H : ctH s c1 g c m) (hc : c ≤ 60) (hm : m ≤ 8) (hx : s.1 43 6 = nI c) : f_X8_counts_L8 (fun (v38 : Int32) => some (v38, s)) s c1 fu 0 0 = some (nI (sumN (fun i => sumN (g i) m) c), s) := by
  have inner : ∀ (kk : Int32 → Option (Int32 × Sg)) i y, i < c → ∀ n t, t ≤ m → m < n + t → f_X8_counts_L19 kk s c1 (nI i) n (nI (y + sumN (g i) t)) (nI t) = kk (nI (y + sumN (g i) m)) := by
    intro kk i y hi n
    induction n with
    | zero => intro t h1 h2; omega
    | succ n ih =>
      intro t h1 h2
      by_cases z : t = m
      · subst z
        exact (H kk n i t _ hi).2 rfl
      · rw [(H kk n i t _ hi).1 (by omega), Nat.add_assoc]
        exact ih (t + 1) (by omega) (by omega)
  have key : ∀ n i, i ≤ c → c < n + i → f_X8_counts_L8 (fun (v38 : Int32) => some (v38, s)) s c1 n (nI (sumN (fun i => sumN (g i) m) i)) (nI i) = some (nI (sumN (fun i => sumN (g i) m) c), s) := by
    intro n
    induction n with
    | zero => intro i h1 h2; omega
    | succ n ih =>
      intro i h1 h2
      rw [f_X8_counts_L8, hx]
      by_cases z : i = c
      · subst z
        rw [if_pos (nI_le (Nat.le_refl _) (by omega))]
      · rw [if_neg (fun z => by have := (nI_leI (by omega) (by omega)).mp z; omega), nI_1]
        refine (inner (fun (v36 : Int32) => f_X8_counts_L8 (fun (v38 : Int32) => some (v38, s)) s c1 n (v36) (nI (i + 1))) i (sumN (fun i => sumN (g i) m) i) (by omega) fu 0 (Nat.zero_le _) (by unfold fu; omega)).trans ?_
        exact ih (i + 1) (by omega) (by omega)
  exact key fu 0 (Nat.zero_le _) (by unfold fu; omega)
noncomputable def g2 (B : Bk) (T : Tx) (i t : Nat) : Nat := if ch B T i = nI t then b_n B t else 0
noncomputable def g3 (B : Bk) (T : Tx) (i t : Nat) : Nat := if ch B T i = nI t then (if b_pr B t = -1 then 0 else 1) else 0
section CN
variable {B : Bk} {T : Tx} {s : Sg}
theorem ct_0 (hB : Bok B) (hT : Tok T) (hb : bookP (s.1 44) B) (hx : txR s T) : ctH s 0 (ind (QF B T)) (t_c T) (b_tc B) := by
  have h8 := hB.1
  have h60 := hT.1
  intro kk n i t y hi
  rw [f_X8_counts_L19, show rI s 44 475 0 = rI (α := Int32 × Sg) s 44 475 (nI 0) from rfl, rI_n (by omega) (by decide), hb.1]
  refine ⟨fun ht => ?_, fun ht => ?_⟩
  · rw [if_neg (fun z => by have := (nI_leI (by omega) (by omega)).mp z; omega), rI_n (by omega) (by decide)]
    dsimp only [jn]
    have e0 : (if (0 : Int32) = 0 then cP (f_X8_isFound s (nI t) (nI i)) fun x31 => if x31 = 0 then f_X8_counts_L19 kk s 0 (nI i) n (nI y + 0) (nI t + 1) else if (0 : Int32) = 2 then cP (f_X8_termAt s (nI t)) fun x16 => rI s 44 475 (x16 + 0) fun x18 => f_X8_counts_L19 kk s 0 (nI i) n (nI y + x18) (nI t + 1) else f_X8_counts_L19 kk s 0 (nI i) n (nI y + 1) (nI t + 1) else none) = f_X8_counts_L19 kk s 0 (nI i) n (nI (y + ind (QF B T) i t)) (nI (t + 1)) := by
      rw [if_pos rfl, isFound8_s hx hT hb hB (by omega) ht, cP_s]
      by_cases z : fB B T t i = true
      · rw [bI_t z, if_neg (by decide), if_neg (by decide), nI_1, nI_1, ind_t (Q := QF B T) (j := i) (u := t) z]
      · rw [bI_f z, if_pos rfl, nI_p0, nI_1, ind_f (Q := QF B T) (j := i) (u := t) z]
        rfl
    rw [if_pos rfl] at e0
    by_cases w : s.1 53 i = nI t
    · rw [if_pos w, if_pos rfl]; exact e0
    · rw [if_neg w, if_pos rfl]; exact e0
  · subst ht
    rw [if_pos (nI_le (Nat.le_refl _) (by omega))]
theorem ct_1 (hB : Bok B) (hT : Tok T) (hb : bookP (s.1 44) B) (hc : ∀ j, j < t_c T → s.1 53 j = ch B T j) : ctH s 1 (ind (QC B T)) (t_c T) (b_tc B) := by
  have h8 := hB.1
  have h60 := hT.1
  intro kk n i t y hi
  rw [f_X8_counts_L19, show rI s 44 475 0 = rI (α := Int32 × Sg) s 44 475 (nI 0) from rfl, rI_n (by omega) (by decide), hb.1]
  refine ⟨fun ht => ?_, fun ht => ?_⟩
  · rw [if_neg (fun z => by have := (nI_leI (by omega) (by omega)).mp z; omega), rI_n (by omega) (by decide), hc i hi]
    dsimp only [jn]
    by_cases w : ch B T i = nI t
    · rw [if_pos w, if_neg (by decide), if_neg (by decide), if_pos (by decide), if_neg (by decide), if_neg (by decide), nI_1, nI_1, ind_t (Q := QC B T) (j := i) (u := t) (decide_eq_true w)]
    · rw [if_neg w, if_neg (by decide), if_pos rfl, if_pos rfl, nI_p0, nI_1, ind_f (Q := QC B T) (j := i) (u := t) (fun g => w (of_decide_eq_true g))]
      rfl
  · subst ht
    rw [if_pos (nI_le (Nat.le_refl _) (by omega))]
theorem ct_2 (hB : Bok B) (hT : Tok T) (hb : bookP (s.1 44) B) (hc : ∀ j, j < t_c T → s.1 53 j = ch B T j) : ctH s 2 (g2 B T) (t_c T) (b_tc B) := by
  have h8 := hB.1
  have h60 := hT.1
  intro kk n i t y hi
  rw [f_X8_counts_L19, show rI s 44 475 0 = rI (α := Int32 × Sg) s 44 475 (nI 0) from rfl, rI_n (by omega) (by decide), hb.1]
  refine ⟨fun ht => ?_, fun ht => ?_⟩
  · rw [if_neg (fun z => by have := (nI_leI (by omega) (by omega)).mp z; omega), rI_n (by omega) (by decide), hc i hi]
    dsimp only [jn]
    unfold g2
    by_cases w : ch B T i = nI t
    · rw [if_pos w, if_neg (by decide), if_neg (by decide), if_pos (by decide), if_neg (by decide), if_pos rfl, termAt8_s, cP_s, nI_p0, rI_n (by omega) (by decide), (hb.2.2.1 t ht).1, nI_add, nI_1, if_pos w]
    · rw [if_neg w, if_neg (by decide), if_pos rfl, if_pos rfl, nI_p0, nI_1, if_neg w]
      rfl
  · subst ht
    rw [if_pos (nI_le (Nat.le_refl _) (by omega))]
theorem ct_3 (hB : Bok B) (hT : Tok T) (hb : bookP (s.1 44) B) (hc : ∀ j, j < t_c T → s.1 53 j = ch B T j) : ctH s 3 (g3 B T) (t_c T) (b_tc B) := by
  have h8 := hB.1
  have h60 := hT.1
  intro kk n i t y hi
  rw [f_X8_counts_L19, show rI s 44 475 0 = rI (α := Int32 × Sg) s 44 475 (nI 0) from rfl, rI_n (by omega) (by decide), hb.1]
  refine ⟨fun ht => ?_, fun ht => ?_⟩
  · rw [if_neg (fun z => by have := (nI_leI (by omega) (by omega)).mp z; omega), rI_n (by omega) (by decide), hc i hi]
    dsimp only [jn]
    unfold g3
    by_cases w : ch B T i = nI t
    · rw [if_pos w, if_neg (by decide), if_neg (by decide), if_neg (by decide), termAt8_s, cP_s, nI_p3, rI_n (by omega) (by decide), (hb.2.2.1 t ht).2.2.2.1, if_pos w]
      by_cases z : b_pr B t = -1
      · rw [if_pos z, if_pos rfl, nI_p0, nI_1, if_pos z]
        rfl
      · rw [if_neg z, if_neg (by decide), if_neg (by decide), nI_1, nI_1, if_neg z]
    · rw [if_neg w, if_neg (by decide), if_pos rfl, if_pos rfl, nI_p0, nI_1, if_neg w]
      rfl
  · subst ht
    rw [if_pos (nI_le (Nat.le_refl _) (by omega))]
/-- one of them at most -/
theorem sum_one {j u : Nat} {g : Nat → Nat} (hu : u < 2 ^ 31) (h : ch B T j = nI u) : ∀ t, t < 2 ^ 31 → sumN (fun t => if ch B T j = nI t then g t else 0) t = if u < t then g u else 0 := by
  intro t
  induction t with
  | zero => intro _; rfl
  | succ t ih =>
    intro ht
    show sumN (fun t => if ch B T j = nI t then g t else 0) t + (if ch B T j = nI t then g t else 0) = _
    rw [ih (by omega)]
    by_cases z : u = t
    · rw [if_neg (by omega), if_pos (by rw [h, z]), if_pos (by omega), z, Nat.zero_add]
    · rw [if_neg (fun g => z ((nI_eq hu (by omega)).mp (h.symm.trans g)))]
      by_cases y : u < t
      · rw [if_pos y, if_pos (by omega)]; rfl
      · rw [if_neg y, if_neg (by omega)]
theorem sum_no {j : Nat} {g : Nat → Nat} (h : ch B T j = -1) : ∀ t, t < 2 ^ 31 → sumN (fun t => if ch B T j = nI t then g t else 0) t = 0 := by
  intro t
  induction t with
  | zero => intro _; rfl
  | succ t ih =>
    intro ht
    show sumN (fun t => if ch B T j = nI t then g t else 0) t + (if ch B T j = nI t then g t else 0) = _
    rw [ih (by omega), if_neg (fun e => nI_m1 (show t < 2 ^ 31 by omega) (e.symm.trans h))]
theorem sum_all (hB : Bok B) {g : Nat → Nat} : ∀ c, sumN (fun i => sumN (fun t => if ch B T i = nI t then g t else 0) (b_tc B)) c = sumN (fun j => if ch B T j = -1 then 0 else g (ch B T j).toNatClampNeg) c := by
  have h8 := hB.1
  intro c
  refine sumN_cg (fun i _ => ?_)
  rcases ch_or (T := T) hB i with ⟨e, -⟩ | ⟨-, u, hu, -, -, e, -⟩
  · rw [sum_no e _ (by omega), if_pos e]
  · rw [sum_one (by omega) e _ (by omega), if_pos hu, e, if_neg (nI_m1 (by omega)), nI_clamp (by omega)]
theorem ct_k (hB : Bok B) {k : Nat} (hk : k < cc B T (t_c T)) : ∃ i u, i < t_c T ∧ u < b_tc B ∧ ch B T i = nI u ∧ cc B T i = k := by
  obtain ⟨i, t, hi, ht, hq, hp⟩ := pf_ex (Q := QC B T) (m := b_tc B) (c := t_c T) (k := k) (by rw [rcnC hB]; exact hk)
  have hch : ch B T i = nI t := of_decide_eq_true hq
  exact ⟨i, t, hi, ht, hch, by rw [← pfC hB ht hch]; exact hp⟩
theorem wordsChosen7_s (hB : Bok B) (hT : Tok T) (hl : lexC s B) (hst : stl s B T) : f_X4_wordsChosen s = some (nI (sumN (fun i => sumN (g2 B T i) (b_tc B)) (t_c T))) := by
  have h8 := hB.1
  have h60 := hT.1
  have hcl := cc_le (B := B) (T := T) (t_c T)
  obtain ⟨-, -, -, q3, q4, -⟩ := hst
  have key : ∀ n k, k ≤ cc B T (t_c T) → cc B T (t_c T) < n + k → f_X4_wordsChosen_L4 (fun (v8 : Int32) => some v8) s n (nI (sumN (fun k => b_n B (s.1 38 k).toNatClampNeg) k)) (nI k) = some (nI (sumN (fun k => b_n B (s.1 38 k).toNatClampNeg) (cc B T (t_c T)))) := by
    intro n
    induction n with
    | zero => intro k h1 h2; omega
    | succ n ih =>
      intro k h1 h2
      rw [f_X4_wordsChosen_L4, q3]
      by_cases z : k = cc B T (t_c T)
      · rw [if_pos (nI_le (by omega) (by omega)), z]
      · obtain ⟨i, u, hi, hu, hch, hcc⟩ := ct_k hB (show k < cc B T (t_c T) by omega)
        have hr := (q4 i hi (by rw [hch]; exact nI_m1 (by omega))).2
        rw [hcc, hch] at hr
        have e : sumN (fun k => b_n B (s.1 38 k).toNatClampNeg) (k + 1) = sumN (fun k => b_n B (s.1 38 k).toNatClampNeg) k + b_n B u := by
          show _ + b_n B (s.1 38 k).toNatClampNeg = _
          rw [hr, nI_clamp (by omega)]
        rw [if_neg (fun z => by have := (nI_leI (by omega) (by omega)).mp z; omega), rI_n (by omega) (by decide), hr, rI_n (by omega) (by decide), (hl.2.2.1 u hu).1, nI_add, nI_1, ← e]
        exact ih (k + 1) (by omega) (by omega)
  have e := sum_cc (B := B) (T := T) (ct := s.1 38) (g := fun x => b_n B x.toNatClampNeg) (fun i hi hc => (q4 i hi hc).2) (t_c T) (Nat.le_refl _)
  have e2 := sum_all (T := T) hB (g := b_n B) (t_c T)
  have e3 : sumN (fun i => sumN (g2 B T i) (b_tc B)) (t_c T) = sumN (fun k => b_n B (s.1 38 k).toNatClampNeg) (cc B T (t_c T)) := e2.trans e.symm
  rw [e3]
  exact key fu 0 (Nat.zero_le _) (by unfold fu; omega)
theorem insteadCount7_s (hB : Bok B) (hT : Tok T) (hl : lexC s B) (hst : stl s B T) : f_X4_insteadCount s = some (nI (sumN (fun i => sumN (g3 B T i) (b_tc B)) (t_c T))) := by
  have h8 := hB.1
  have h60 := hT.1
  have hcl := cc_le (B := B) (T := T) (t_c T)
  obtain ⟨-, -, -, q3, q4, -⟩ := hst
  have key : ∀ n k, k ≤ cc B T (t_c T) → cc B T (t_c T) < n + k → f_X4_insteadCount_L4 (fun (v10 : Int32) => some v10) s n (nI (sumN (fun k => if b_pr B (s.1 38 k).toNatClampNeg = -1 then 0 else 1) k)) (nI k) = some (nI (sumN (fun k => if b_pr B (s.1 38 k).toNatClampNeg = -1 then 0 else 1) (cc B T (t_c T)))) := by
    intro n
    induction n with
    | zero => intro k h1 h2; omega
    | succ n ih =>
      intro k h1 h2
      rw [f_X4_insteadCount_L4, q3]
      by_cases z : k = cc B T (t_c T)
      · rw [if_pos (nI_le (by omega) (by omega)), z]
      · obtain ⟨i, u, hi, hu, hch, hcc⟩ := ct_k hB (show k < cc B T (t_c T) by omega)
        have hr := (q4 i hi (by rw [hch]; exact nI_m1 (by omega))).2
        rw [hcc, hch] at hr
        have hh := ih (k + 1) (by omega) (by omega)
        have e : sumN (fun k => if b_pr B (s.1 38 k).toNatClampNeg = -1 then 0 else 1) (k + 1) = sumN (fun k => if b_pr B (s.1 38 k).toNatClampNeg = -1 then 0 else 1) k + (if b_pr B u = -1 then 0 else 1) := by
          show _ + (if b_pr B (s.1 38 k).toNatClampNeg = -1 then 0 else 1) = _
          rw [hr, nI_clamp (by omega)]
        rw [if_neg (fun z => by have := (nI_leI (by omega) (by omega)).mp z; omega), rI_n (by omega) (by decide), hr, isForbidden7_s hl hB hu, cP_s]
        dsimp only [jn]
        rw [e] at hh
        by_cases y : b_pr B u = -1
        · rw [if_pos y] at hh
          rw [bI_f (fun g => g y), if_pos rfl, nI_p0, nI_1]
          exact hh
        · rw [if_neg y] at hh
          rw [bI_t y, if_neg (by decide), nI_1, nI_1]
          exact hh
  have e := sum_cc (B := B) (T := T) (ct := s.1 38) (g := fun x => if b_pr B x.toNatClampNeg = -1 then 0 else 1) (fun i hi hc => (q4 i hi hc).2) (t_c T) (Nat.le_refl _)
  have e2 := sum_all (T := T) hB (g := fun t => if b_pr B t = -1 then 0 else 1) (t_c T)
  have e3 : sumN (fun i => sumN (g3 B T i) (b_tc B)) (t_c T) = sumN (fun k => if b_pr B (s.1 38 k).toNatClampNeg = -1 then 0 else 1) (cc B T (t_c T)) := e2.trans e.symm
  rw [e3]
  exact key fu 0 (Nat.zero_le _) (by unfold fu; omega)
end CN
end
section
/-! told, sign -/
theorem counts8_s {s s' : Sg} {c1 : Int32} {g : Nat → Nat → Nat} {B : Bk} {T : Tx} (hB : Bok B) (hT : Tok T) (e1 : f_X8_choose s = some ((), s')) (hx : txR s' T) (H : ctH s' c1 g (t_c T) (b_tc B)) : f_X8_counts s c1 = some (nI (sumN (fun i => sumN (g i) (b_tc B)) (t_c T)), s') := by
  unfold f_X8_counts
  rw [e1, cA_s]
  exact counts8_g H hT.1 hB.1 hx.1
theorem ps_told (σ : Sg) (a1 : Int32) (h : InvA σ) : ∃ (r : Int32) (σ1 σ2 : Sg), f_X7_told σ a1 = some (r, σ1) ∧ f_X8_told σ1 a1 = some (r, σ2) ∧ InvA σ2 := by
  refine step2 (f7 := fun s => f_X7_told s a1) (f8 := fun s => f_X8_told s a1) h (fun M hm => ?_)
  obtain ⟨S, B, T, im⟩ := M
  have hm0 := hm
  obtain ⟨hS, hB, hT, hI⟩ := hm
  have hB : Bok B := hB
  have hT : Tok T := hT
  have h8 := hB.1
  have h60 := hT.1
  by_cases hw : 0 ≤ a1 ∧ a1 ≤ 12
  · obtain ⟨w, -, wl, rfl⟩ := nat_of (lo := 0) (hi := 12) (by decide) hw (by decide)
    rcases (show w = 0 ∨ w = 1 ∨ w = 2 ∨ w = 3 ∨ w = 4 ∨ w = 5 ∨ w = 6 ∨ w = 7 ∨ w = 8 ∨ w = 9 ∨ w = 10 ∨ w = 11 ∨ w = 12 by omega) with rfl | rfl | rfl | rfl | rfl | rfl | rfl | rfl | rfl | rfl | rfl | rfl | rfl
    · refine ⟨nI (b_tc B), (S, B, T, im), hm0, fun hC => ⟨σ, ?_, hC, Un43.rf⟩, fun s hR => ⟨s, ?_, hR, Un42.rf⟩⟩
      · unfold f_X7_told
        rw [if_pos (show nI 0 = 0 from rfl), hC.2.1.1]
      · unfold f_X8_told
        rw [if_pos (show nI 0 = 0 from rfl), show rI s 44 475 0 = rI (α := Int32 × Sg) s 44 475 (nI 0) from rfl, rI_n (by omega) (by decide), hR.2.1.1]
    · refine ⟨nI (b_ec B), (S, B, T, im), hm0, fun hC => ⟨σ, ?_, hC, Un43.rf⟩, fun s hR => ⟨s, ?_, hR, Un42.rf⟩⟩
      · unfold f_X7_told
        rw [if_neg (show ¬ nI 1 = 0 by decide), if_pos (show nI 1 = 1 from rfl), hC.2.1.2.1]
      · unfold f_X8_told
        rw [if_neg (show ¬ nI 1 = 0 by decide), if_pos (show nI 1 = 1 from rfl), show rI s 44 475 1 = rI (α := Int32 × Sg) s 44 475 (nI 1) from rfl, rI_n (by omega) (by decide), hR.2.1.2.1]
    · refine ⟨nI S.length, (S, B, T, im), hm0, fun hC => ⟨σ, ?_, hC, Un43.rf⟩, fun s hR => ⟨s, ?_, hR, Un42.rf⟩⟩
      · have e : σ.1 1 1 = nI S.length := hC.1.1
        unfold f_X7_told
        rw [if_neg (show ¬ nI 2 = 0 by decide), if_neg (show ¬ nI 2 = 1 by decide), if_pos (show nI 2 = 2 from rfl), e]
      · have e : s.1 43 4 = nI S.length := hR.1.1
        unfold f_X8_told
        rw [if_neg (show ¬ nI 2 = 0 by decide), if_neg (show ¬ nI 2 = 1 by decide), if_pos (show nI 2 = 2 from rfl), e]
    · refine ⟨nI (t_c T), (S, B, T, im), hm0, fun hC => ⟨σ, ?_, hC, Un43.rf⟩, fun s hR => ⟨s, ?_, hR, Un42.rf⟩⟩
      · have e : σ.1 26 0 = nI (t_c T) := hC.2.2.1.1
        unfold f_X7_told
        rw [if_neg (show ¬ nI 3 = 0 by decide), if_neg (show ¬ nI 3 = 1 by decide), if_neg (show ¬ nI 3 = 2 by decide), if_pos (show nI 3 = 3 from rfl), e]
      · have e : s.1 43 6 = nI (t_c T) := hR.2.2.1.1
        unfold f_X8_told
        rw [if_neg (show ¬ nI 3 = 0 by decide), if_neg (show ¬ nI 3 = 1 by decide), if_neg (show ¬ nI 3 = 2 by decide), if_pos (show nI 3 = 3 from rfl), e]
    · refine ⟨nI (t_se T), (S, B, T, im), hm0, fun hC => ⟨σ, ?_, hC, Un43.rf⟩, fun s hR => ⟨s, ?_, hR, Un42.rf⟩⟩
      · have e : σ.1 26 4 = nI (t_se T) := hC.2.2.1.2.1
        unfold f_X7_told
        rw [if_neg (show ¬ nI 4 = 0 by decide), if_neg (show ¬ nI 4 = 1 by decide), if_neg (show ¬ nI 4 = 2 by decide), if_neg (show ¬ nI 4 = 3 by decide), if_pos (show nI 4 = 4 from rfl), e]
      · have e : s.1 43 7 = nI (t_se T) := hR.2.2.1.2.1
        unfold f_X8_told
        rw [if_neg (show ¬ nI 4 = 0 by decide), if_neg (show ¬ nI 4 = 1 by decide), if_neg (show ¬ nI 4 = 2 by decide), if_neg (show ¬ nI 4 = 3 by decide), if_pos (show nI 4 = 4 from rfl), e]
    · refine ⟨nI (t_cw T).length, (S, B, T, im), hm0, fun hC => ⟨σ, ?_, hC, Un43.rf⟩, fun s hR => ⟨s, ?_, hR, Un42.rf⟩⟩
      · have e : σ.2 26 5 = eL (t_cw T) := hC.2.2.1.2.2.1
        unfold f_X7_told
        rw [if_neg (show ¬ nI 5 = 0 by decide), if_neg (show ¬ nI 5 = 1 by decide), if_neg (show ¬ nI 5 = 2 by decide), if_neg (show ¬ nI 5 = 3 by decide), if_neg (show ¬ nI 5 = 4 by decide), if_pos (show nI 5 = 5 from rfl), e, sizeOf_s hT.2.2.2.1.1 hT.2.2.2.1.2, cP_s]
      · have e : s.1 43 6 = nI (t_c T) := hR.2.2.1.1
        unfold f_X8_told
        rw [if_neg (show ¬ nI 5 = 0 by decide), if_neg (show ¬ nI 5 = 1 by decide), if_neg (show ¬ nI 5 = 2 by decide), if_neg (show ¬ nI 5 = 3 by decide), if_neg (show ¬ nI 5 = 4 by decide), if_pos (show nI 5 = 5 from rfl), e]
        by_cases z : t_c T = 60
        · rw [if_pos (by rw [z]; decide), hT.2.2.2.2.2.1 z]
          rfl
        · rw [if_neg (fun g => by have := (c_ge 60 (by omega) (by decide)).mp g; omega), i15, rI_n (by omega) (by decide), (hR.2.2.1.2.2.2.1).1]
    · refine ⟨nI (sumN (fun i => sumN (ind (QF B T) i) (b_tc B)) (t_c T)), (S, B, T, im), hm0, fun hC => ?_, fun s hR => ?_⟩
      · obtain ⟨s', e1, e2, e3, e4⟩ := settled7_s hB hT hC
        refine ⟨s', ?_, e2, e4⟩
        have e5 : f_X4_foundCount s' = some (nI (sumN (fun i => sumN (ind (QF B T) i) (b_tc B)) (t_c T))) := foundCount7_s hB hT e2.2.2.1 e3.1
        unfold f_X7_told
        rw [if_neg (show ¬ nI 6 = 0 by decide), if_neg (show ¬ nI 6 = 1 by decide), if_neg (show ¬ nI 6 = 2 by decide), if_neg (show ¬ nI 6 = 3 by decide), if_neg (show ¬ nI 6 = 4 by decide), if_neg (show ¬ nI 6 = 5 by decide), if_pos (show nI 6 = 6 from rfl), e1, cA_s, e5, cP_s]
      · obtain ⟨s', e1, e2, e3, e4⟩ := choose8_s hB hT hR.2.1 hR.2.2.1
        have hR' := hR.c8 e2
        refine ⟨s', ?_, hR', e2.u42 (by decide)⟩
        unfold f_X8_told
        rw [if_neg (show ¬ nI 6 = 0 by decide), if_neg (show ¬ nI 6 = 1 by decide), if_neg (show ¬ nI 6 = 2 by decide), if_neg (show ¬ nI 6 = 3 by decide), if_neg (show ¬ nI 6 = 4 by decide), if_neg (show ¬ nI 6 = 5 by decide), if_pos (show nI 6 = 6 from rfl), counts8_s hB hT e1 hR'.2.2.1 (ct_0 hB hT hR'.2.1 hR'.2.2.1), cA_s]
    · refine ⟨nI (cc B T (t_c T)), (S, B, T, im), hm0, fun hC => ?_, fun s hR => ?_⟩
      · obtain ⟨s', e1, e2, e3, e4⟩ := settled7_s hB hT hC
        refine ⟨s', ?_, e2, e4⟩
        unfold f_X7_told
        rw [if_neg (show ¬ nI 7 = 0 by decide), if_neg (show ¬ nI 7 = 1 by decide), if_neg (show ¬ nI 7 = 2 by decide), if_neg (show ¬ nI 7 = 3 by decide), if_neg (show ¬ nI 7 = 4 by decide), if_neg (show ¬ nI 7 = 5 by decide), if_neg (show ¬ nI 7 = 6 by decide), if_pos (show nI 7 = 7 from rfl), e1, cA_s, e3.2.2.2.1]
      · obtain ⟨s', e1, e2, e3, e4⟩ := choose8_s hB hT hR.2.1 hR.2.2.1
        have hR' := hR.c8 e2
        refine ⟨s', ?_, hR', e2.u42 (by decide)⟩
        have e5 : sumN (fun i => sumN (ind (QC B T) i) (b_tc B)) (t_c T) = cc B T (t_c T) := rcnC hB (t_c T)
        unfold f_X8_told
        rw [if_neg (show ¬ nI 7 = 0 by decide), if_neg (show ¬ nI 7 = 1 by decide), if_neg (show ¬ nI 7 = 2 by decide), if_neg (show ¬ nI 7 = 3 by decide), if_neg (show ¬ nI 7 = 4 by decide), if_neg (show ¬ nI 7 = 5 by decide), if_neg (show ¬ nI 7 = 6 by decide), if_pos (show nI 7 = 7 from rfl), counts8_s hB hT e1 hR'.2.2.1 (ct_1 hB hT hR'.2.1 e4), cA_s, e5]
    · refine ⟨nI (wth B T 0), (S, B, T, im), hm0, fun hC => ?_, fun s hR => ?_⟩
      · obtain ⟨s', e1, e2, e3, e4⟩ := settled7_s hB hT hC
        refine ⟨s', ?_, e2, e4⟩
        unfold f_X7_told
        rw [if_neg (show ¬ nI 8 = 0 by decide), if_neg (show ¬ nI 8 = 1 by decide), if_neg (show ¬ nI 8 = 2 by decide), if_neg (show ¬ nI 8 = 3 by decide), if_neg (show ¬ nI 8 = 4 by decide), if_neg (show ¬ nI 8 = 5 by decide), if_neg (show ¬ nI 8 = 6 by decide), if_neg (show ¬ nI 8 = 7 by decide), if_pos (show nI 8 = 8 from rfl), e1, cA_s, show rI s' 34 61 0 = rI (α := Int32 × Sg) s' 34 61 (nI 0) from rfl, rI_n (by omega) (by decide), (e3.2.1 0 (Nat.zero_le _)).1]
      · obtain ⟨s', e1, e2, e3, e4⟩ := choose8_s hB hT hR.2.1 hR.2.2.1
        have hR' := hR.c8 e2
        refine ⟨s', ?_, hR', e2.u42 (by decide)⟩
        unfold f_X8_told
        rw [if_neg (show ¬ nI 8 = 0 by decide), if_neg (show ¬ nI 8 = 1 by decide), if_neg (show ¬ nI 8 = 2 by decide), if_neg (show ¬ nI 8 = 3 by decide), if_neg (show ¬ nI 8 = 4 by decide), if_neg (show ¬ nI 8 = 5 by decide), if_neg (show ¬ nI 8 = 6 by decide), if_neg (show ¬ nI 8 = 7 by decide), if_pos (show nI 8 = 8 from rfl), e1, cA_s, show rI s' 51 65 0 = rI (α := Int32 × Sg) s' 51 65 (nI 0) from rfl, rI_n (by omega) (by decide), e3]
    · refine ⟨nI (sumN (fun i => sumN (g2 B T i) (b_tc B)) (t_c T)), (S, B, T, im), hm0, fun hC => ?_, fun s hR => ?_⟩
      · obtain ⟨s', e1, e2, e3, e4⟩ := settled7_s hB hT hC
        refine ⟨s', ?_, e2, e4⟩
        unfold f_X7_told
        rw [if_neg (show ¬ nI 9 = 0 by decide), if_neg (show ¬ nI 9 = 1 by decide), if_neg (show ¬ nI 9 = 2 by decide), if_neg (show ¬ nI 9 = 3 by decide), if_neg (show ¬ nI 9 = 4 by decide), if_neg (show ¬ nI 9 = 5 by decide), if_neg (show ¬ nI 9 = 6 by decide), if_neg (show ¬ nI 9 = 7 by decide), if_neg (show ¬ nI 9 = 8 by decide), if_pos (show nI 9 = 9 from rfl), e1, cA_s, wordsChosen7_s hB hT e2.2.1 e3, cP_s]
      · obtain ⟨s', e1, e2, e3, e4⟩ := choose8_s hB hT hR.2.1 hR.2.2.1
        have hR' := hR.c8 e2
        refine ⟨s', ?_, hR', e2.u42 (by decide)⟩
        unfold f_X8_told
        rw [if_neg (show ¬ nI 9 = 0 by decide), if_neg (show ¬ nI 9 = 1 by decide), if_neg (show ¬ nI 9 = 2 by decide), if_neg (show ¬ nI 9 = 3 by decide), if_neg (show ¬ nI 9 = 4 by decide), if_neg (show ¬ nI 9 = 5 by decide), if_neg (show ¬ nI 9 = 6 by decide), if_neg (show ¬ nI 9 = 7 by decide), if_neg (show ¬ nI 9 = 8 by decide), if_pos (show nI 9 = 9 from rfl), counts8_s hB hT e1 hR'.2.2.1 (ct_2 hB hT hR'.2.1 e4), cA_s]
    · refine ⟨nI (sumN (fun i => sumN (g3 B T i) (b_tc B)) (t_c T)), (S, B, T, im), hm0, fun hC => ?_, fun s hR => ?_⟩
      · obtain ⟨s', e1, e2, e3, e4⟩ := settled7_s hB hT hC
        refine ⟨s', ?_, e2, e4⟩
        unfold f_X7_told
        rw [if_neg (show ¬ nI 10 = 0 by decide), if_neg (show ¬ nI 10 = 1 by decide), if_neg (show ¬ nI 10 = 2 by decide), if_neg (show ¬ nI 10 = 3 by decide), if_neg (show ¬ nI 10 = 4 by decide), if_neg (show ¬ nI 10 = 5 by decide), if_neg (show ¬ nI 10 = 6 by decide), if_neg (show ¬ nI 10 = 7 by decide), if_neg (show ¬ nI 10 = 8 by decide), if_neg (show ¬ nI 10 = 9 by decide), if_pos (show nI 10 = 10 from rfl), e1, cA_s, insteadCount7_s hB hT e2.2.1 e3, cP_s]
      · obtain ⟨s', e1, e2, e3, e4⟩ := choose8_s hB hT hR.2.1 hR.2.2.1
        have hR' := hR.c8 e2
        refine ⟨s', ?_, hR', e2.u42 (by decide)⟩
        unfold f_X8_told
        rw [if_neg (show ¬ nI 10 = 0 by decide), if_neg (show ¬ nI 10 = 1 by decide), if_neg (show ¬ nI 10 = 2 by decide), if_neg (show ¬ nI 10 = 3 by decide), if_neg (show ¬ nI 10 = 4 by decide), if_neg (show ¬ nI 10 = 5 by decide), if_neg (show ¬ nI 10 = 6 by decide), if_neg (show ¬ nI 10 = 7 by decide), if_neg (show ¬ nI 10 = 8 by decide), if_neg (show ¬ nI 10 = 9 by decide), if_pos (show nI 10 = 10 from rfl), counts8_s hB hT e1 hR'.2.2.1 (ct_3 hB hT hR'.2.1 e4), cA_s]
    · refine ⟨nI (mnd B T (t_c T)).length, (S, B, T, im), hm0, fun hC => ?_, fun s hR => ?_⟩
      · obtain ⟨s', e1, e2, e3, e4⟩ := written7_s hB hT hC
        refine ⟨s', ?_, e2, e4⟩
        unfold f_X7_told
        rw [if_neg (show ¬ nI 11 = 0 by decide), if_neg (show ¬ nI 11 = 1 by decide), if_neg (show ¬ nI 11 = 2 by decide), if_neg (show ¬ nI 11 = 3 by decide), if_neg (show ¬ nI 11 = 4 by decide), if_neg (show ¬ nI 11 = 5 by decide), if_neg (show ¬ nI 11 = 6 by decide), if_neg (show ¬ nI 11 = 7 by decide), if_neg (show ¬ nI 11 = 8 by decide), if_neg (show ¬ nI 11 = 9 by decide), if_neg (show ¬ nI 11 = 10 by decide), if_pos (show nI 11 = 11 from rfl), e1, cA_s, e3.1]
      · obtain ⟨s', e1, e2, e3⟩ := mends8_s hB hT hR.2.1 hR.2.2.1
        refine ⟨s', ?_, hR.c9 e3, e3.u42 (by decide)⟩
        unfold f_X8_told
        rw [if_neg (show ¬ nI 11 = 0 by decide), if_neg (show ¬ nI 11 = 1 by decide), if_neg (show ¬ nI 11 = 2 by decide), if_neg (show ¬ nI 11 = 3 by decide), if_neg (show ¬ nI 11 = 4 by decide), if_neg (show ¬ nI 11 = 5 by decide), if_neg (show ¬ nI 11 = 6 by decide), if_neg (show ¬ nI 11 = 7 by decide), if_neg (show ¬ nI 11 = 8 by decide), if_neg (show ¬ nI 11 = 9 by decide), if_neg (show ¬ nI 11 = 10 by decide), if_pos (show nI 11 = 11 from rfl), e1, cA_s]
    · refine ⟨fbs B (b_tc B), (S, B, T, im), hm0, fun hC => ⟨σ, ?_, hC, Un43.rf⟩, fun s hR => ⟨s, ?_, hR, Un42.rf⟩⟩
      · unfold f_X7_told
        rw [if_neg (show ¬ nI 12 = 0 by decide), if_neg (show ¬ nI 12 = 1 by decide), if_neg (show ¬ nI 12 = 2 by decide), if_neg (show ¬ nI 12 = 3 by decide), if_neg (show ¬ nI 12 = 4 by decide), if_neg (show ¬ nI 12 = 5 by decide), if_neg (show ¬ nI 12 = 6 by decide), if_neg (show ¬ nI 12 = 7 by decide), if_neg (show ¬ nI 12 = 8 by decide), if_neg (show ¬ nI 12 = 9 by decide), if_neg (show ¬ nI 12 = 10 by decide), if_neg (show ¬ nI 12 = 11 by decide), if_pos (show nI 12 = 12 from rfl), forbiddenSet7_s hC.2.1 hB, cP_s]
      · unfold f_X8_told
        rw [if_neg (show ¬ nI 12 = 0 by decide), if_neg (show ¬ nI 12 = 1 by decide), if_neg (show ¬ nI 12 = 2 by decide), if_neg (show ¬ nI 12 = 3 by decide), if_neg (show ¬ nI 12 = 4 by decide), if_neg (show ¬ nI 12 = 5 by decide), if_neg (show ¬ nI 12 = 6 by decide), if_neg (show ¬ nI 12 = 7 by decide), if_neg (show ¬ nI 12 = 8 by decide), if_neg (show ¬ nI 12 = 9 by decide), if_neg (show ¬ nI 12 = 10 by decide), if_neg (show ¬ nI 12 = 11 by decide), if_pos (show nI 12 = 12 from rfl), forbidden8_s hR.2.1 hB, cP_s]
  · have ne : ∀ c : Int32, (0 ≤ c ∧ c ≤ 12) → ¬ a1 = c := fun c hc e => hw (by rw [e]; exact hc)
    refine ⟨-1000000002, (S, B, T, im), hm0, fun hC => ⟨σ, ?_, hC, Un43.rf⟩, fun s hR => ⟨s, ?_, hR, Un42.rf⟩⟩
    · unfold f_X7_told
      rw [if_neg (ne 0 (by decide)), if_neg (ne 1 (by decide)), if_neg (ne 2 (by decide)), if_neg (ne 3 (by decide)), if_neg (ne 4 (by decide)), if_neg (ne 5 (by decide)), if_neg (ne 6 (by decide)), if_neg (ne 7 (by decide)), if_neg (ne 8 (by decide)), if_neg (ne 9 (by decide)), if_neg (ne 10 (by decide)), if_neg (ne 11 (by decide)), if_neg (ne 12 (by decide))]
    · unfold f_X8_told
      rw [if_neg (ne 0 (by decide)), if_neg (ne 1 (by decide)), if_neg (ne 2 (by decide)), if_neg (ne 3 (by decide)), if_neg (ne 4 (by decide)), if_neg (ne 5 (by decide)), if_neg (ne 6 (by decide)), if_neg (ne 7 (by decide)), if_neg (ne 8 (by decide)), if_neg (ne 9 (by decide)), if_neg (ne 10 (by decide)), if_neg (ne 11 (by decide)), if_neg (ne 12 (by decide))]
theorem ps_sign (σ : Sg) (a1 : Int32) (h : InvA σ) : ∃ (r : Int32) (σ1 σ2 : Sg), f_X7_sign σ a1 = some (r, σ1) ∧ f_X8_sign σ1 a1 = some (r, σ2) ∧ InvA σ2 := by
  refine step2 (f7 := fun s => f_X7_sign s a1) (f8 := fun s => f_X8_sign s a1) h (fun M hm => ?_)
  obtain ⟨S, B, T, im⟩ := M
  have hm0 := hm
  obtain ⟨hS, hB, hT, hI⟩ := hm
  have hB : Bok B := hB
  have hT : Tok T := hT
  have h60 := hT.1
  have hlen := mnd_len hB hT (t_c T) (Nat.le_refl _)
  by_cases ha : a1 < 0
  · refine ⟨-1000000002, (S, B, T, im), hm0, fun hC => ⟨σ, ?_, hC, Un43.rf⟩, fun s hR => ⟨s, ?_, hR, Un42.rf⟩⟩
    · unfold f_X7_sign
      rw [if_neg (i32_nle.mpr ha)]
    · unfold f_X8_sign
      rw [if_neg (i32_nle.mpr ha)]
  · obtain ⟨k, hk, rfl⟩ := nI_of ha
    rcases Nat.lt_or_ge k (mnd B T (t_c T)).length with q | q
    · have gk : (mnd B T (t_c T))[k]? = some ((mnd B T (t_c T))[k]) := List.getElem?_eq_getElem q
      refine ⟨nI ((mnd B T (t_c T))[k]), (S, B, T, im), hm0, fun hC => ?_, fun s hR => ?_⟩
      · obtain ⟨s', e1, e2, e3, e4⟩ := written7_s hB hT hC
        refine ⟨s', ?_, e2, e4⟩
        unfold f_X7_sign
        rw [if_pos (i32_nlt.mp ha), e1, cA_s, e3.1, if_neg (fun z => by have := (nI_leI (by omega) hk).mp z; omega), rI_n (by omega) (by decide), e3.2 k _ gk]
      · obtain ⟨s', e1, e2, e3⟩ := mends8_s hB hT hR.2.1 hR.2.2.1
        refine ⟨s', ?_, hR.c9 e3, e3.u42 (by decide)⟩
        unfold f_X8_sign
        rw [if_pos (i32_nlt.mp ha), e1, cA_s, if_neg (fun z => by have := (nI_leI (by omega) hk).mp z; omega), rI_n (by omega) (by decide), e2 k _ gk]
    · refine ⟨-1, (S, B, T, im), hm0, fun hC => ?_, fun s hR => ?_⟩
      · obtain ⟨s', e1, e2, e3, e4⟩ := written7_s hB hT hC
        refine ⟨s', ?_, e2, e4⟩
        unfold f_X7_sign
        rw [if_pos (i32_nlt.mp ha), e1, cA_s, e3.1, if_pos (nI_le q hk)]
      · obtain ⟨s', e1, e2, e3⟩ := mends8_s hB hT hR.2.1 hR.2.2.1
        refine ⟨s', ?_, hR.c9 e3, e3.u42 (by decide)⟩
        unfold f_X8_sign
        rw [if_pos (i32_nlt.mp ha), e1, cA_s, if_pos (nI_le q hk)]
end
section
/-! the start -/
def B0 : Bk := (0, 0, fun _ => 0, fun _ _ => [], fun _ => 0, fun _ => 0, fun _ => 0, fun _ => [])
def T0 : Tx := (0, fun _ => [], fun _ => 0, fun _ => 0, 0, [], 0)
theorem inv0 : InvA (fun _ _ => 0, fun _ _ => 0) := by
  refine ⟨([], B0, T0, fun _ => none), ⟨⟨by decide, fun x hx => by cases hx⟩, ⟨by decide, by decide, fun t ht => absurd ht (Nat.not_lt_zero t), fun t ht => absurd ht (Nat.not_lt_zero t)⟩, ⟨by decide, fun i hi => absurd hi (Nat.not_lt_zero i), by decide, ⟨fun x hx => (by cases hx), by decide⟩, by decide, fun h => rfl, fun _ => rfl⟩, fun i B h => by cases h⟩, ?_, ?_⟩
  · refine ⟨⟨rfl, fun i x h => by simp at h⟩, ⟨rfl, rfl, fun t ht => absurd ht (Nat.not_lt_zero t), fun t ht => absurd ht (Nat.not_lt_zero t)⟩, ⟨rfl, rfl, rfl, rfl, fun i hi => absurd hi (Nat.not_lt_zero i)⟩, ⟨rfl, rfl⟩, ⟨0, Nat.le_refl _, rfl, ⟨fun i hi => absurd hi (Nat.not_lt_zero i), fun i hi => absurd hi (Nat.not_lt_zero i)⟩, Or.inl rfl⟩, Or.inl rfl⟩
  · exact ⟨⟨rfl, fun i x h => by simp at h⟩, ⟨rfl, rfl, fun t ht => absurd ht (Nat.not_lt_zero t), fun t ht => absurd ht (Nat.not_lt_zero t)⟩, ⟨rfl, rfl, fun i hi => absurd hi (Nat.not_lt_zero i), ⟨rfl, fun j y h => by cases h⟩, rfl⟩, rfl, rfl⟩
end
