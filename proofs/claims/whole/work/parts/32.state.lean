/-! the mathematical state -/
theorem sI_row (σ : Sg) (k j : Nat) (v : Int32) (a : Nat) : (sI σ k j v).1 a = if a = k then (fun b => if b = j then v else σ.1 k b) else σ.1 a := by
  by_cases h : a = k
  · subst h
    rw [if_pos rfl]
    funext b
    simp [sI]
  · rw [if_neg h]
    funext b
    simp [sI, h]
theorem sL_row (σ : Sg) (k j : Nat) (v : Int64) (a : Nat) : (sL σ k j v).2 a = if a = k then (fun b => if b = j then v else σ.2 k b) else σ.2 a := by
  by_cases h : a = k
  · subst h
    rw [if_pos rfl]
    funext b
    simp [sL]
  · rw [if_neg h]
    funext b
    simp [sL, h]
theorem sI_ne (σ : Sg) {k j : Nat} {v : Int32} {a : Nat} (h : a ≠ k) : (sI σ k j v).1 a = σ.1 a := by rw [sI_row, if_neg h]
theorem sL_ne (σ : Sg) {k j : Nat} {v : Int64} {a : Nat} (h : a ≠ k) : (sL σ k j v).2 a = σ.2 a := by rw [sL_row, if_neg h]
/-- terms and endings: how many terms, endings; a term's number of words, its words, weight, bent, preferred; the endings -/
abbrev Bk : Type := Nat × Nat × (Nat → Nat) × (Nat → Nat → List Nat) × (Nat → Nat) × (Nat → Nat) × (Nat → Int32) × (Nat → List Nat)
def b_tc (B : Bk) : Nat := B.1
def b_ec (B : Bk) : Nat := B.2.1
def b_n (B : Bk) : Nat → Nat := B.2.2.1
def b_w (B : Bk) : Nat → Nat → List Nat := B.2.2.2.1
def b_we (B : Bk) : Nat → Nat := B.2.2.2.2.1
def b_be (B : Bk) : Nat → Nat := B.2.2.2.2.2.1
def b_pr (B : Bk) : Nat → Int32 := B.2.2.2.2.2.2.1
def b_en (B : Bk) : Nat → List Nat := B.2.2.2.2.2.2.2
/-- a word -/
def wok (m : Nat) (w : List Nat) : Prop := lok1 w ∧ 1 ≤ w.length ∧ w.length ≤ m
/-- how many signs the first words have, each with one behind it -/
def b_sum (f : Nat → List Nat) : Nat → Nat
  | 0 => 0
  | k + 1 => b_sum f k + ((f k).length + 1)
def Tmok (B : Bk) (t : Nat) : Prop := (1 ≤ b_n B t ∧ b_n B t ≤ 4) ∧ (1 ≤ b_we B t ∧ b_we B t ≤ 9) ∧ b_be B t ≤ 1 ∧ (b_pr B t = -1 ∨ ∃ u, u < b_tc B ∧ b_pr B t = nI u) ∧ (∀ k, k < b_n B t → wok 12 (b_w B t k)) ∧ b_sum (b_w B t) (b_n B t) ≤ 51
def Bok (B : Bk) : Prop := b_tc B ≤ 8 ∧ b_ec B ≤ 5 ∧ (∀ t, t < b_tc B → Tmok B t) ∧ ∀ e, e < b_ec B → wok 4 (b_en B e)
/-- the text: how many words; a word's letters, too long, sentence; sentences that have ended; the word that comes, too long -/
abbrev Tx : Type := Nat × (Nat → List Nat) × (Nat → Nat) × (Nat → Nat) × Nat × List Nat × Nat
def t_c (T : Tx) : Nat := T.1
def t_w (T : Tx) : Nat → List Nat := T.2.1
def t_l (T : Tx) : Nat → Nat := T.2.2.1
def t_s (T : Tx) : Nat → Nat := T.2.2.2.1
def t_se (T : Tx) : Nat := T.2.2.2.2.1
def t_cw (T : Tx) : List Nat := T.2.2.2.2.2.1
def t_cl (T : Tx) : Nat := T.2.2.2.2.2.2
def Tok (T : Tx) : Prop := t_c T ≤ 60 ∧ (∀ i, i < t_c T → wok 12 (t_w T i) ∧ t_l T i ≤ 1 ∧ t_s T i ≤ i) ∧ t_se T ≤ t_c T ∧ (lok1 (t_cw T) ∧ (t_cw T).length ≤ 12) ∧ t_cl T ≤ 1 ∧ (t_c T = 60 → t_cw T = []) ∧ (t_cw T = [] → t_cl T = 0)
/-- the slip: 0 a blank, else a letter -/
def Sok (S : List Nat) : Prop := S.length ≤ 50 ∧ ∀ x ∈ S, x ≤ 26
def sgn (x : Nat) : Int32 := if x = 0 then 32 else nI (x + 96)
/-- the whole: slip, terms, text, images -/
abbrev Ms : Type := List Nat × Bk × Tx × (Nat → Option Bk)
def Mok (M : Ms) : Prop := Sok M.1 ∧ Bok M.2.1 ∧ Tok M.2.2.1 ∧ ∀ i B, M.2.2.2 i = some B → Bok B
/-! what is met, found -/
/-- word i of the text meets word k of term t -/
def mt (B : Bk) (T : Tx) (i t k : Nat) : Prop := t_l T i = 0 ∧ (t_w T i = b_w B t k ∨ (b_be B t = 1 ∧ ∃ e, e < b_ec B ∧ t_w T i = b_w B t k ++ b_en B e))
/-- n words from i on, of one sentence, meet the first ones of term t -/
def met (B : Bk) (T : Tx) (t i n : Nat) : Prop := ∀ k, k < n → t_s T (i + k) = t_s T i ∧ mt B T (i + k) t k
def fnd (B : Bk) (T : Tx) (t i : Nat) : Prop := i + b_n B t ≤ t_c T ∧ met B T t i (b_n B t)
/-! rows of the cells -/
def slipP (n : Int32) (f : Nat → Int32) (S : List Nat) : Prop := n = nI S.length ∧ ∀ i x, S[i]? = some x → f i = sgn x
def lexP (f0 : Nat → Int32) (l1 : Nat → Int64) (f2 f3 f4 f5 : Nat → Int32) (l6 : Nat → Int64) (B : Bk) : Prop :=
  f0 0 = nI (b_tc B) ∧ f0 6 = nI (b_ec B) ∧ (∀ t, t < b_tc B → f2 t = nI (b_n B t) ∧ f3 t = nI (b_we B t) ∧ f4 t = nI (b_be B t) ∧ f5 t = b_pr B t ∧ ∀ k, k < b_n B t → l1 (4 * t + k) = eL (b_w B t k)) ∧ ∀ e, e < b_ec B → l6 e = eL (b_en B e)
def wordP (f : Nat → Int32) (p : Nat) (w : List Nat) : Prop := f p = nI w.length ∧ ∀ i x, w[i]? = some x → f (p + 1 + i) = nI (x + 96)
def bookP (f : Nat → Int32) (B : Bk) : Prop :=
  f 0 = nI (b_tc B) ∧ f 1 = nI (b_ec B) ∧ (∀ t, t < b_tc B → f (2 + 56 * t) = nI (b_n B t) ∧ f (2 + 56 * t + 1) = nI (b_we B t) ∧ f (2 + 56 * t + 2) = nI (b_be B t) ∧ f (2 + 56 * t + 3) = b_pr B t ∧ ∀ k, k < b_n B t → wordP f (2 + 56 * t + 4 + 13 * k) (b_w B t k)) ∧ ∀ e, e < b_ec B → wordP f (450 + 5 * e) (b_en B e)
def textC (f : Nat → Int32) (l : Nat → Int64) (lw : Nat → Int64) (fl fs : Nat → Int32) (T : Tx) : Prop :=
  f 0 = nI (t_c T) ∧ f 4 = nI (t_se T) ∧ l 5 = eL (t_cw T) ∧ f 6 = nI (t_cl T) ∧ ∀ i, i < t_c T → lw i = eL (t_w T i) ∧ fl i = nI (t_l T i) ∧ fs i = nI (t_s T i)
def textP (f : Nat → Int32) (x : Nat → Int32) (T : Tx) : Prop :=
  f 6 = nI (t_c T) ∧ f 7 = nI (t_se T) ∧ (∀ i, i < t_c T → (x (15 * i) = nI (t_w T i).length ∧ ∀ j y, (t_w T i)[j]? = some y → x (15 * i + 3 + j) = nI (y + 96)) ∧ x (15 * i + 1) = nI (t_s T i) ∧ x (15 * i + 2) = nI (t_l T i)) ∧ (x (15 * t_c T) = nI (t_cw T).length ∧ ∀ j y, (t_cw T)[j]? = some y → x (15 * t_c T + 3 + j) = nI (y + 96)) ∧ x (15 * t_c T + 2) = nI (t_cl T)
/-- what the scan knows of the first lk words -/
def lookP (fb fs : Nat → Int32) (B : Bk) (T : Tx) (lk : Nat) : Prop :=
  (∀ i, i < lk → ∀ t k, t < 8 → k < 4 → (bt (fb i) (4 * t + k) = true ↔ t < b_tc B ∧ k < b_n B t ∧ k ≤ i ∧ met B T t (i - k) (k + 1))) ∧
  ∀ i, i < lk → ∀ j, j < 32 → (bt (fs i) j = true ↔ j < b_tc B ∧ i + b_n B j ≤ lk ∧ met B T j i (b_n B j))
/-- both agree on what the other side has -/
def Un43 (σ σ' : Sg) : Prop := ∀ k, 43 ≤ k → σ'.1 k = σ.1 k
def Un42 (σ σ' : Sg) : Prop := σ'.2 = σ.2 ∧ ∀ k, k ≤ 42 → σ'.1 k = σ.1 k
theorem Un43.rf {σ : Sg} : Un43 σ σ := fun _ _ => rfl
theorem Un42.rf {σ : Sg} : Un42 σ σ := ⟨rfl, fun _ _ => rfl⟩
theorem Un43.tr {a b c : Sg} (h1 : Un43 a b) (h2 : Un43 b c) : Un43 a c := fun k h => (h2 k h).trans (h1 k h)
theorem Un42.tr {a b c : Sg} (h1 : Un42 a b) (h2 : Un42 b c) : Un42 a c := ⟨h2.1.trans h1.1, fun k h => (h2.2 k h).trans (h1.2 k h)⟩
theorem Un43.i {a b : Sg} {k j : Nat} {v : Int32} (hk : k < 43) (h : Un43 a b) : Un43 a (sI b k j v) := fun x hx => by
  rw [sI_ne b (by omega)]
  exact h x hx
theorem Un43.l {a b : Sg} {k j : Nat} {v : Int64} (h : Un43 a b) : Un43 a (sL b k j v) := h
theorem Un42.i {a b : Sg} {k j : Nat} {v : Int32} (hk : 42 < k) (h : Un42 a b) : Un42 a (sI b k j v) := ⟨h.1, fun x hx => by
  rw [sI_ne b (by omega)]
  exact h.2 x hx⟩
