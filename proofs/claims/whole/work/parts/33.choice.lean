/-! what is chosen, and the mended text, as mathematics -/
noncomputable def fB (B : Bk) (T : Tx) (t i : Nat) : Bool := @decide (fnd B T t i) (Classical.propDecidable _)
theorem fB_iff {B : Bk} {T : Tx} {t i : Nat} : fB B T t i = true ↔ fnd B T t i := @decide_eq_true_iff _ (Classical.propDecidable _)
theorem fB_f {B : Bk} {T : Tx} {t i : Nat} : fB B T t i = false ↔ ¬ fnd B T t i := by
  rw [← fB_iff]
  cases fB B T t i <;> simp
/-- whether term t, of that worth with that few, is better than what is best so far -/
def bet (B : Bk) (p : Nat × Nat × Int32) (wo fe t : Nat) : Prop := p.1 < wo ∨ (wo = p.1 ∧ (fe < p.2.1 ∨ (fe = p.2.1 ∧ (p.2.2 = -1 ∨ b_n B p.2.2.toNatClampNeg < b_n B t))))
def betD (B : Bk) (p : Nat × Nat × Int32) (wo fe t : Nat) : Decidable (bet B p wo fe t) := by unfold bet; exact inferInstance
/-- the best at word i out of the first terms -/
noncomputable def stp (B : Bk) (T : Tx) (W F : Nat → Nat) (i : Nat) : Nat → Nat × Nat × Int32
  | 0 => (W (i + 1), F (i + 1), -1)
  | t + 1 => @ite _ (fB B T t i = true ∧ bet B (stp B T W F i t) (b_we B t * b_n B t + W (i + b_n B t)) (1 + F (i + b_n B t)) t) (Classical.propDecidable _) (b_we B t * b_n B t + W (i + b_n B t), 1 + F (i + b_n B t), nI t) (stp B T W F i t)
/-- the last d words are weighed -/
noncomputable def dp (B : Bk) (T : Tx) : Nat → (Nat → Nat) × (Nat → Nat) × (Nat → Int32)
  | 0 => (fun _ => 0, fun _ => 0, fun _ => -1)
  | d + 1 => (fun j => if j = t_c T - (d + 1) then (stp B T (dp B T d).1 (dp B T d).2.1 (t_c T - (d + 1)) (b_tc B)).1 else (dp B T d).1 j,
      fun j => if j = t_c T - (d + 1) then (stp B T (dp B T d).1 (dp B T d).2.1 (t_c T - (d + 1)) (b_tc B)).2.1 else (dp B T d).2.1 j,
      fun j => if j = t_c T - (d + 1) then (stp B T (dp B T d).1 (dp B T d).2.1 (t_c T - (d + 1)) (b_tc B)).2.2 else (dp B T d).2.2 j)
noncomputable def wth (B : Bk) (T : Tx) : Nat → Nat := (dp B T (t_c T)).1
noncomputable def few (B : Bk) (T : Tx) : Nat → Nat := (dp B T (t_c T)).2.1
noncomputable def tk (B : Bk) (T : Tx) : Nat → Int32 := (dp B T (t_c T)).2.2
/-- the words of the term that is taken -/
def kn (B : Bk) (x : Int32) : Nat := b_n B x.toNatClampNeg
/-- the first word that is free ahead of word i -/
noncomputable def fr (B : Bk) (T : Tx) : Nat → Nat
  | 0 => 0
  | i + 1 => if fr B T i ≤ i ∧ tk B T i ≠ -1 then i + kn B (tk B T i) else fr B T i
/-- the term that is chosen at word i; -1 -/
noncomputable def ch (B : Bk) (T : Tx) (i : Nat) : Int32 := if fr B T i ≤ i then tk B T i else -1
/-- how many are chosen ahead of word i -/
noncomputable def cc (B : Bk) (T : Tx) : Nat → Nat
  | 0 => 0
  | i + 1 => if ch B T i = -1 then cc B T i else cc B T i + 1
/-- the number of what is chosen over word i; -1 -/
noncomputable def co (B : Bk) (T : Tx) (i : Nat) : Int32 := if i < fr B T (i + 1) then nI (cc B T (i + 1) - 1) else -1
def setP (f30 fw ff ft fca fct fco : Nat → Int32) (B : Bk) (T : Tx) : Prop :=
  (∀ i, i ≤ t_c T → fw i = nI (wth B T i) ∧ ff i = nI (few B T i)) ∧ (∀ i, i < t_c T → ft i = tk B T i) ∧ f30 11 = nI (cc B T (t_c T)) ∧ (∀ i, i < t_c T → ch B T i ≠ -1 → fca (cc B T i) = nI i ∧ fct (cc B T i) = ch B T i) ∧ ∀ i, i < t_c T → fco i = co B T i
/-! the mended text -/
def lts (w : List Nat) : List Nat := w.map (fun x => x + 96)
def addW (a : List Nat) (w : List Nat) : List Nat := (if a = [] then [] else a ++ [32]) ++ lts w
/-- the first k words of a term -/
def addT (a : List Nat) (f : Nat → List Nat) : Nat → List Nat
  | 0 => a
  | k + 1 => addW (addT a f k) (f k)
/-- whether word i is the last of a sentence that has ended -/
def eS (T : Tx) (i : Nat) : Prop := (i + 1 = t_c T ∨ t_s T (i + 1) ≠ t_s T i) ∧ t_s T i < t_se T
def eSD (T : Tx) (i : Nat) : Decidable (eS T i) := by unfold eS; exact inferInstance
/-- the term that is chosen over word i, from its start; -1 -/
noncomputable def ov (B : Bk) (T : Tx) : Nat → Int32
  | 0 => ch B T 0
  | i + 1 => if ch B T (i + 1) ≠ -1 then ch B T (i + 1) else if i + 1 < fr B T (i + 2) then ov B T i else -1
/-- what is to be said instead over word i -/
noncomputable def ins (B : Bk) (T : Tx) (i : Nat) : Int32 := if ov B T i = -1 then -1 else b_pr B (ov B T i).toNatClampNeg
noncomputable def mnd (B : Bk) (T : Tx) : Nat → List Nat
  | 0 => []
  | i + 1 => (if ins B T i = -1 then addW (mnd B T i) (t_w T i) else if ch B T i ≠ -1 then addT (mnd B T i) (b_w B (ins B T i).toNatClampNeg) (kn B (ins B T i)) else mnd B T i) ++ (@ite _ (eS T i) (eSD T i) [46] [])
def mndP (f40 f41 : Nat → Int32) (m : List Nat) : Prop := f40 4 = nI m.length ∧ ∀ i x, m[i]? = some x → f41 i = nI x
/-! the invariant -/
def scanP (f30 fb fs fw ff ft fca fct fco : Nat → Int32) (B : Bk) (T : Tx) : Prop :=
  ∃ lk, lk ≤ t_c T ∧ f30 2 = nI lk ∧ lookP fb fs B T lk ∧ (f30 3 = 0 ∨ (f30 3 = 1 ∧ lk = t_c T ∧ setP f30 fw ff ft fca fct fco B T))
def mendP (f40 f41 : Nat → Int32) (B : Bk) (T : Tx) : Prop := f40 5 = 0 ∨ (f40 5 = 1 ∧ mndP f40 f41 (mnd B T (t_c T)))
/-- an image: kept or not -/
def imgC (f0 : Nat → Int32) (l1 : Nat → Int64) (f2 f3 f4 f5 : Nat → Int32) (l6 : Nat → Int64) (o : Option Bk) : Prop := match o with
  | none => f0 8 = 0
  | some B => f0 8 = 1 ∧ lexP f0 l1 f2 f3 f4 f5 l6 B
def imgP (k : Int32) (f : Nat → Int32) (o : Option Bk) : Prop := match o with
  | none => k = 0
  | some B => k = 1 ∧ bookP f B
/-- the parts of the class's side that terms and endings, the text, the slip, the images stand in; and what the scan and the mended text keep -/
def lexC (σ : Sg) (B : Bk) : Prop := lexP (σ.1 4) (σ.2 5) (σ.1 6) (σ.1 7) (σ.1 8) (σ.1 9) (σ.2 10) B
def txtC (σ : Sg) (T : Tx) : Prop := textC (σ.1 26) (σ.2 26) (σ.2 27) (σ.1 28) (σ.1 29) T
def slpC (σ : Sg) (S : List Nat) : Prop := slipP (σ.1 1 1) (σ.1 2) S
def imsC (σ : Sg) (im : Nat → Option Bk) : Prop := imgC (σ.1 12) (σ.2 13) (σ.1 14) (σ.1 15) (σ.1 16) (σ.1 17) (σ.2 18) (im 0) ∧ imgC (σ.1 19) (σ.2 20) (σ.1 21) (σ.1 22) (σ.1 23) (σ.1 24) (σ.2 25) (im 1)
def scnC (σ : Sg) (B : Bk) (T : Tx) : Prop := scanP (σ.1 30) (σ.1 32) (σ.1 33) (σ.1 34) (σ.1 35) (σ.1 36) (σ.1 37) (σ.1 38) (σ.1 39) B T
def mndC (σ : Sg) (B : Bk) (T : Tx) : Prop := mendP (σ.1 40) (σ.1 41) B T
def InvC (σ : Sg) (M : Ms) : Prop := slpC σ M.1 ∧ lexC σ M.2.1 ∧ txtC σ M.2.2.1 ∧ imsC σ M.2.2.2 ∧ scnC σ M.2.1 M.2.2.1 ∧ mndC σ M.2.1 M.2.2.1
def InvR (σ : Sg) (M : Ms) : Prop := slipP (σ.1 43 4) (σ.1 47) M.1 ∧ bookP (σ.1 44) M.2.1 ∧ textP (σ.1 43) (σ.1 48) M.2.2.1 ∧ imgP (σ.1 46 0) (fun j => σ.1 45 j) (M.2.2.2 0) ∧ imgP (σ.1 46 1) (fun j => σ.1 45 (475 + j)) (M.2.2.2 1)
def InvA (σ : Sg) : Prop := ∃ M, Mok M ∧ InvC σ M ∧ InvR σ M
theorem InvR.cg {σ σ' : Sg} {M : Ms} (h : InvR σ M) (u : Un43 σ σ') : InvR σ' M := by
  unfold InvR
  rw [u 43 (by omega), u 44 (by omega), u 45 (by omega), u 46 (by omega), u 47 (by omega), u 48 (by omega)]
  exact h
theorem InvC.cg {σ σ' : Sg} {M : Ms} (h : InvC σ M) (u : Un42 σ σ') : InvC σ' M := by
  unfold InvC slpC lexC txtC imsC scnC mndC
  rw [u.1, u.2 1 (by omega), u.2 2 (by omega), u.2 4 (by omega), u.2 6 (by omega), u.2 7 (by omega), u.2 8 (by omega), u.2 9 (by omega), u.2 12 (by omega), u.2 14 (by omega), u.2 15 (by omega), u.2 16 (by omega), u.2 17 (by omega), u.2 19 (by omega), u.2 21 (by omega), u.2 22 (by omega), u.2 23 (by omega), u.2 24 (by omega), u.2 26 (by omega), u.2 28 (by omega), u.2 29 (by omega), u.2 30 (by omega), u.2 32 (by omega), u.2 33 (by omega), u.2 34 (by omega), u.2 35 (by omega), u.2 36 (by omega), u.2 37 (by omega), u.2 38 (by omega), u.2 39 (by omega), u.2 40 (by omega), u.2 41 (by omega)]
  exact h
/-- a call: the class's step, then the reference's, over one mathematical step -/
theorem step2 {f7 : Sg → Option (Int32 × Sg)} {f8 : Sg → Option (Int32 × Sg)} {σ : Sg} (h : InvA σ)
    (hs : ∀ M, Mok M → ∃ (r : Int32) (M' : Ms), Mok M' ∧ (InvC σ M → ∃ σ1, f7 σ = some (r, σ1) ∧ InvC σ1 M' ∧ Un43 σ σ1) ∧ (∀ s, InvR s M → ∃ s2, f8 s = some (r, s2) ∧ InvR s2 M' ∧ Un42 s s2)) :
    ∃ (r : Int32) (σ1 σ2 : Sg), f7 σ = some (r, σ1) ∧ f8 σ1 = some (r, σ2) ∧ InvA σ2 := by
  obtain ⟨M, hm, hC, hR⟩ := h
  obtain ⟨r, M', hm', h7, h8⟩ := hs M hm
  obtain ⟨σ1, e1, hC1, u1⟩ := h7 hC
  obtain ⟨σ2, e2, hR2, u2⟩ := h8 σ1 (hR.cg u1)
  exact ⟨r, σ1, σ2, e1, e2, M', hm', hC1.cg u2, hR2⟩
