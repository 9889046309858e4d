/-- 1 where it holds, 0 where not -/
noncomputable def bI (p : Prop) : Int32 := @ite _ p (Classical.propDecidable p) 1 0
theorem bI_t {p : Prop} (h : p) : bI p = 1 := by unfold bI; rw [if_pos h]
theorem bI_f {p : Prop} (h : ¬ p) : bI p = 0 := by unfold bI; rw [if_neg h]
theorem bI_0 {p : Prop} : bI p = 0 ↔ ¬ p := by
  rcases Classical.em p with h | h
  · rw [bI_t h]; exact ⟨fun e => absurd e (by decide), fun n => absurd h n⟩
  · rw [bI_f h]; exact ⟨fun _ => h, fun _ => rfl⟩
theorem bI_01 (p : Prop) : bI p = 0 ∨ bI p = 1 := by
  rcases Classical.em p with h | h
  · right; exact bI_t h
  · left; exact bI_f h
theorem bI_cg {p q : Prop} (h : p ↔ q) : bI p = bI q := by rw [propext h]
theorem in_bI {a lo hi : Int32} : (if lo ≤ a ∧ a ≤ hi then (1 : Int32) else 0) = bI (lo ≤ a ∧ a ≤ hi) := by
  by_cases h : lo ≤ a ∧ a ≤ hi
  · rw [if_pos h, bI_t h]
  · rw [if_neg h, bI_f h]
/-- a number within bounds -/
def rg (a : Int32) (n : Nat) : Prop := ∃ t, t < n ∧ a = nI t
theorem rg_iff {a : Int32} {n : Nat} (hn : n < 2 ^ 31) : rg a n ↔ ¬ a < 0 ∧ ¬ nI n ≤ a := by
  constructor
  · rintro ⟨t, h, rfl⟩
    exact ⟨nI_pos (by omega), fun hc => by have := (nI_leI (by omega) (by omega)).mp hc; omega⟩
  · rintro ⟨h1, h2⟩
    rcases pk_ix a hn with g | g | g
    · exact absurd g h1
    · exact absurd g h2
    · exact g
theorem rng_s {a : Int32} {n : Nat} (hn : n < 2 ^ 31) : (if a < 0 then some (0 : Int32) else if nI n ≤ a then some 0 else some 1) = some (bI (rg a n)) := by
  by_cases h1 : a < 0
  · rw [if_pos h1, bI_f (fun h => ((rg_iff hn).mp h).1 h1)]
  · by_cases h2 : nI n ≤ a
    · rw [if_neg h1, if_pos h2, bI_f (fun h => ((rg_iff hn).mp h).2 h2)]
    · rw [if_neg h1, if_neg h2, bI_t ((rg_iff hn).mpr ⟨h1, h2⟩)]
theorem rng8_s {σ : Sg} {a : Int32} {n : Nat} (hn : n < 2 ^ 30) : f_X8_in σ a 0 (nI n - 1) = some (bI (rg a n)) := by
  rw [in8_s, in_bI]
  congr 1
  apply bI_cg
  rw [rg_iff (by omega), i32_nlt, i32_nle]
  have e : (nI n - 1).toInt = (n : Int) - 1 := pk_sub_toInt (b := 1) hn (by decide)
  rw [Int32.le_iff_toInt_le (y := nI n - 1), Int32.lt_iff_toInt_lt (y := nI n), e, nI_toInt (by omega)]
  constructor
  · rintro ⟨h1, h2⟩; exact ⟨h1, by omega⟩
  · rintro ⟨h1, h2⟩; exact ⟨h1, by omega⟩
/-- nothing changes but these cells -/
def Sm (L K : List Nat) (σ σ' : Sg) : Prop := (∀ a, a ∉ L → σ'.1 a = σ.1 a) ∧ ∀ a, a ∉ K → σ'.2 a = σ.2 a
theorem Sm.rf {L K : List Nat} {σ : Sg} : Sm L K σ σ := ⟨fun _ _ => rfl, fun _ _ => rfl⟩
theorem Sm.tr {L K : List Nat} {a b c : Sg} (h1 : Sm L K a b) (h2 : Sm L K b c) : Sm L K a c := ⟨fun x hx => (h2.1 x hx).trans (h1.1 x hx), fun x hx => (h2.2 x hx).trans (h1.2 x hx)⟩
theorem Sm.i {L K : List Nat} {a b : Sg} {k j : Nat} {v : Int32} (h : Sm L K a b) (hk : k ∈ L) : Sm L K a (sI b k j v) := ⟨fun x hx => by
  rw [sI_ne b (fun e => hx (by rw [e]; exact hk))]
  exact h.1 x hx, h.2⟩
theorem Sm.l {L K : List Nat} {a b : Sg} {k j : Nat} {v : Int64} (h : Sm L K a b) (hk : k ∈ K) : Sm L K a (sL b k j v) := ⟨h.1, fun x hx => by
  rw [sL_ne b (fun e => hx (by rw [e]; exact hk))]
  exact h.2 x hx⟩
theorem Sm.up {L K L' K' : List Nat} {a b : Sg} (h : Sm L K a b) (hL : ∀ x ∈ L, x ∈ L') (hK : ∀ x ∈ K, x ∈ K') : Sm L' K' a b := ⟨fun x hx => h.1 x (fun e => hx (hL x e)), fun x hx => h.2 x (fun e => hx (hK x e))⟩
theorem Sm.u43 {L K : List Nat} {a b : Sg} (h : Sm L K a b) (hL : ∀ x ∈ L, x < 43) : Un43 a b := fun k hk => h.1 k (fun e => by have := hL k e; omega)
theorem Sm.u42 {L : List Nat} {a b : Sg} (h : Sm L [] a b) (hL : ∀ x ∈ L, 42 < x) : Un42 a b := ⟨funext fun k => h.2 k (by simp), fun k hk => h.1 k (fun e => by have := hL k e; omega)⟩
section SmP
variable {L K : List Nat} {σ σ' : Sg}
theorem Sm.slp {S : List Nat} (u : Sm L K σ σ') (hL : 1 ∉ L ∧ 2 ∉ L) (h : slpC σ S) : slpC σ' S := by
  unfold slpC; rw [u.1 1 hL.1, u.1 2 hL.2]; exact h
theorem Sm.lex {B : Bk} (u : Sm L K σ σ') (hL : 4 ∉ L ∧ 6 ∉ L ∧ 7 ∉ L ∧ 8 ∉ L ∧ 9 ∉ L) (hK : 5 ∉ K ∧ 10 ∉ K) (h : lexC σ B) : lexC σ' B := by
  unfold lexC; rw [u.1 4 hL.1, u.1 6 hL.2.1, u.1 7 hL.2.2.1, u.1 8 hL.2.2.2.1, u.1 9 hL.2.2.2.2, u.2 5 hK.1, u.2 10 hK.2]; exact h
theorem Sm.txt {T : Tx} (u : Sm L K σ σ') (hL : 26 ∉ L ∧ 28 ∉ L ∧ 29 ∉ L) (hK : 26 ∉ K ∧ 27 ∉ K) (h : txtC σ T) : txtC σ' T := by
  unfold txtC; rw [u.1 26 hL.1, u.1 28 hL.2.1, u.1 29 hL.2.2, u.2 26 hK.1, u.2 27 hK.2]; exact h
theorem Sm.ims {im : Nat → Option Bk} (u : Sm L K σ σ') (hL : ∀ x ∈ L, x < 12 ∨ 24 < x) (hK : ∀ x ∈ K, x < 13 ∨ 25 < x) (h : imsC σ im) : imsC σ' im := by
  have f : ∀ x, 12 ≤ x → x ≤ 24 → σ'.1 x = σ.1 x := fun x h1 h2 => u.1 x (fun e => by have := hL x e; omega)
  have g : ∀ x, 13 ≤ x → x ≤ 25 → σ'.2 x = σ.2 x := fun x h1 h2 => u.2 x (fun e => by have := hK x e; omega)
  unfold imsC
  rw [f 12 (by omega) (by omega), f 14 (by omega) (by omega), f 15 (by omega) (by omega), f 16 (by omega) (by omega), f 17 (by omega) (by omega), f 19 (by omega) (by omega), f 21 (by omega) (by omega), f 22 (by omega) (by omega), f 23 (by omega) (by omega), f 24 (by omega) (by omega), g 13 (by omega) (by omega), g 18 (by omega) (by omega), g 20 (by omega) (by omega), g 25 (by omega) (by omega)]
  exact h
theorem Sm.scn {B : Bk} {T : Tx} (u : Sm L K σ σ') (hL : ∀ x ∈ L, x < 30 ∨ x = 31 ∨ 39 < x) (h : scnC σ B T) : scnC σ' B T := by
  have f : ∀ x, 30 ≤ x → x ≤ 39 → x ≠ 31 → σ'.1 x = σ.1 x := fun x h1 h2 h3 => u.1 x (fun e => by have := hL x e; omega)
  unfold scnC
  rw [f 30 (by omega) (by omega) (by omega), f 32 (by omega) (by omega) (by omega), f 33 (by omega) (by omega) (by omega), f 34 (by omega) (by omega) (by omega), f 35 (by omega) (by omega) (by omega), f 36 (by omega) (by omega) (by omega), f 37 (by omega) (by omega) (by omega), f 38 (by omega) (by omega) (by omega), f 39 (by omega) (by omega) (by omega)]
  exact h
theorem Sm.mnd {B : Bk} {T : Tx} (u : Sm L K σ σ') (hL : 40 ∉ L ∧ 41 ∉ L) (h : mndC σ B T) : mndC σ' B T := by
  unfold mndC; rw [u.1 40 hL.1, u.1 41 hL.2]; exact h
end SmP
/-- terms have changed: the scan and the mended text know nothing -/
theorem termsChanged_s (σ : Sg) : ∃ s', f_X7_termsChanged σ = some ((), s') ∧ Sm [30, 40] [] σ s' ∧ ∀ B T, scnC s' B T ∧ mndC s' B T := by
  refine ⟨sI (sI (sI σ 30 2 0) 30 3 0) 40 5 0, rfl, (((Sm.rf.i (by decide)).i (by decide)).i (by decide)), fun B T => ⟨⟨0, Nat.zero_le _, ?_, ⟨fun i h => absurd h (Nat.not_lt_zero i), fun i h => absurd h (Nat.not_lt_zero i)⟩, Or.inl ?_⟩, Or.inl ?_⟩⟩
  · simp [sI_1]; rfl
  · simp [sI_1]
  · simp [sI_1]
section LX
variable {σ : Sg} {B : Bk} (hl : lexC σ B) (hB : Bok B)
theorem isTerm7_s (hl : lexC σ B) (hB : Bok B) (a : Int32) : f_X1_isTerm σ a = some (bI (rg a (b_tc B))) := by
  unfold f_X1_isTerm
  rw [hl.1]
  exact rng_s (by have := hB.1; omega)
theorem isEnding7_s (hl : lexC σ B) (hB : Bok B) (a : Int32) : f_X1_isEnding σ a = some (bI (rg a (b_ec B))) := by
  unfold f_X1_isEnding
  rw [hl.2.1]
  exact rng_s (by have := hB.2.1; omega)
theorem isForbidden7_s (hl : lexC σ B) (hB : Bok B) {t : Nat} (ht : t < b_tc B) : f_X1_isForbidden σ (nI t) = some (bI (¬ b_pr B t = -1)) := by
  unfold f_X1_isForbidden
  have := hB.1
  rw [rI_n (by omega) (by decide), (hl.2.2.1 t ht).2.2.2.1]
  by_cases h : b_pr B t = -1
  · rw [if_pos h, bI_f (fun g => g h)]
  · rw [if_neg h, bI_t h]
theorem isPreferred7_s (hl : lexC σ B) (hB : Bok B) (a : Int32) : f_X1_isPreferred σ a = some (bI (∃ t, t < b_tc B ∧ b_pr B t = a)) := by
  have h8 := hB.1
  have key : ∀ n t, t ≤ b_tc B → b_tc B < n + t → (∀ u, u < t → ¬ b_pr B u = a) → f_X1_isPreferred_L2 (some 0) σ a n (nI t) = some (bI (∃ t, t < b_tc B ∧ b_pr B t = a)) := by
    intro n
    induction n with
    | zero => intro t h h'; omega
    | succ n ih =>
      intro t ht hn hu
      rw [f_X1_isPreferred_L2, hl.1]
      rcases Nat.lt_or_ge t (b_tc B) with g | g
      · rw [if_neg (fun hc => by have := (nI_leI (by omega) (by omega)).mp hc; omega), rI_n (by omega) (by decide), (hl.2.2.1 t g).2.2.2.1]
        by_cases h : b_pr B t = a
        · rw [if_pos h, bI_t ⟨t, g, h⟩]
        · rw [if_neg h, nI_1]
          exact ih (t + 1) (by omega) (by omega) (fun u hu2 => by
            rcases Nat.lt_or_ge u t with q | q
            · exact hu u q
            · have : u = t := by omega
              rw [this]; exact h)
      · have : t = b_tc B := by omega
        subst this
        rw [if_pos (nI_le (Nat.le_refl _) (by omega)), bI_f (by rintro ⟨u, h1, h2⟩; exact hu u h1 h2)]
  exact key fu 0 (Nat.zero_le _) (by unfold fu; omega) (fun u h => absurd h (Nat.not_lt_zero u))
/-- the set of the forbidden ones among the first t -/
def fbs (B : Bk) : Nat → Int32
  | 0 => 0
  | t + 1 => if b_pr B t = -1 then fbs B t else fbs B t ||| ((1 : Int32) <<< (nI t &&& 31))
theorem forbiddenSet7_s (hl : lexC σ B) (hB : Bok B) : f_X1_forbiddenSet σ = some (fbs B (b_tc B)) := by
  have h8 := hB.1
  have key : ∀ n t, t ≤ b_tc B → b_tc B < n + t → f_X1_forbiddenSet_L4 (fun (v5 : Int32) => some v5) σ n (fbs B t) (nI t) = some (fbs B (b_tc B)) := by
    intro n
    induction n with
    | zero => intro t h h'; omega
    | succ n ih =>
      intro t ht hn
      rw [f_X1_forbiddenSet_L4, hl.1]
      rcases Nat.lt_or_ge t (b_tc B) with g | g
      · rw [if_neg (fun hc => by have := (nI_leI (by omega) (by omega)).mp hc; omega), isForbidden7_s hl hB g, cP_s]
        have := ih (t + 1) (by omega) (by omega)
        rw [fbs] at this
        by_cases h : b_pr B t = -1
        · rw [if_pos h] at this
          rw [bI_f (fun q => q h), if_pos rfl, nI_1, this]
        · rw [if_neg h] at this
          rw [bI_t h, if_neg (by decide), nI_1, this]
      · have : t = b_tc B := by omega
        subst this
        rw [if_pos (nI_le (Nat.le_refl _) (by omega))]
  exact key fu 0 (Nat.zero_le _) (by unfold fu; omega)
theorem ix4 (t k : Nat) : nI t * 4 + nI k = nI (4 * t + k) := by
  rw [li 4, pk_mul, nI_add, Nat.mul_comm]
theorem wordOf7_s (hl : lexC σ B) (hB : Bok B) {t k : Nat} (ht : t < b_tc B) (hk : k < b_n B t) : f_X1_wordOf σ (nI t) (nI k) = some (eL (b_w B t k)) := by
  unfold f_X1_wordOf
  have h8 := hB.1
  have h4 := (hB.2.2.1 t ht).1
  rw [ix4, rL_n (by omega) (by decide), (hl.2.2.1 t ht).2.2.2.2 k hk]
theorem worthOf7_s (hl : lexC σ B) (hB : Bok B) {t : Nat} (ht : t < b_tc B) : f_X1_worthOf σ (nI t) = some (nI (b_we B t * b_n B t)) := by
  unfold f_X1_worthOf
  have h8 := hB.1
  rw [rI_n (by omega) (by decide), rI_n (by omega) (by decide), (hl.2.2.1 t ht).1, (hl.2.2.1 t ht).2.1, pk_mul]
end LX
