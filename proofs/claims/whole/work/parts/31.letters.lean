/-! words as numbers, five bits a letter -/
def enc : List Nat → Nat
  | [] => 0
  | x :: w => x + 32 * enc w
/-- letters 1 .. 26 -/
def lok1 (w : List Nat) : Prop := ∀ x ∈ w, 1 ≤ x ∧ x ≤ 26
theorem lok1_tail {x : Nat} {w : List Nat} (h : lok1 (x :: w)) : lok1 w := fun y hy => h y (List.mem_cons_of_mem _ hy)
theorem lok1_drop {w : List Nat} (h : lok1 w) (i : Nat) : lok1 (w.drop i) := fun y hy => h y (List.mem_of_mem_drop hy)
theorem lok1_take {w : List Nat} (h : lok1 w) (i : Nat) : lok1 (w.take i) := fun y hy => h y (List.mem_of_mem_take hy)
theorem enc_lt : ∀ {w : List Nat}, lok1 w → enc w < 32 ^ w.length
  | [], _ => by simp [enc]
  | x :: w, h => by
    have h1 := enc_lt (lok1_tail h)
    have h2 := h x List.mem_cons_self
    simp only [enc, List.length_cons, Nat.pow_succ]
    omega
theorem enc_pos : ∀ {w : List Nat}, lok1 w → w ≠ [] → 0 < enc w
  | [], _, h => absurd rfl h
  | x :: w, h, _ => by
    have h2 := h x List.mem_cons_self
    simp only [enc]
    omega
theorem enc_0 {w : List Nat} (h : lok1 w) : enc w = 0 ↔ w = [] := by
  constructor
  · intro e
    by_cases hw : w = []
    · exact hw
    · have := enc_pos h hw
      omega
  · rintro rfl; rfl
theorem enc_div : ∀ {w : List Nat} (i : Nat), lok1 w → enc w / 32 ^ i = enc (w.drop i)
  | w, 0, _ => by simp
  | [], i + 1, _ => by simp [enc]
  | x :: w, i + 1, h => by
    have h2 := h x List.mem_cons_self
    have h3 := enc_div (w := w) i (lok1_tail h)
    simp only [enc, List.drop_succ_cons]
    rw [← h3, Nat.pow_succ, Nat.mul_comm (32 ^ i) 32, ← Nat.div_div_eq_div_mul]
    congr 1
    omega
theorem enc_mod1 {w : List Nat} (h : lok1 w) : enc w % 32 = w.headD 0 := by
  cases w with
  | nil => rfl
  | cons x w =>
    have h2 := h x List.mem_cons_self
    simp only [enc, List.headD]
    omega
theorem enc_app (a b : List Nat) : enc (a ++ b) = enc a + 32 ^ a.length * enc b := by
  induction a with
  | nil => simp [enc]
  | cons x a ih =>
    simp only [List.cons_append, enc, ih, List.length_cons, Nat.pow_succ]
    rw [Nat.mul_add, Nat.add_assoc, Nat.mul_comm (32 ^ a.length) 32, Nat.mul_assoc]
theorem enc_inj : ∀ {a b : List Nat}, lok1 a → lok1 b → enc a = enc b → a = b
  | [], b, _, hb, h => ((enc_0 hb).mp h.symm).symm
  | x :: a, [], ha, _, h => (enc_0 ha).mp h
  | x :: a, y :: b, ha, hb, h => by
    have h1 := ha x List.mem_cons_self
    have h2 := hb y List.mem_cons_self
    simp only [enc] at h
    have h3 : x = y := by omega
    have h4 : enc a = enc b := by omega
    rw [h3, enc_inj (lok1_tail ha) (lok1_tail hb) h4]
theorem enc_take {w : List Nat} (i : Nat) (h : lok1 w) : enc w % 32 ^ i = enc (w.take i) := by
  rcases Nat.lt_or_ge i w.length with hi | hi
  · have h1 := enc_app (w.take i) (w.drop i)
    rw [List.take_append_drop, List.length_take, Nat.min_eq_left (Nat.le_of_lt hi)] at h1
    have h2 := enc_lt (lok1_take h i)
    rw [List.length_take, Nat.min_eq_left (Nat.le_of_lt hi)] at h2
    rw [h1, Nat.add_mul_mod_self_left, Nat.mod_eq_of_lt h2]
  · rw [List.take_of_length_le hi]
    apply Nat.mod_eq_of_lt
    exact Nat.lt_of_lt_of_le (enc_lt h) (Nat.pow_le_pow_right (by decide) hi)
theorem pow32 (i : Nat) : (2 : Nat) ^ (5 * i) = 32 ^ i := by rw [Nat.pow_mul]
theorem enc_60 {w : List Nat} (h : lok1 w) (hl : w.length ≤ 12) : enc w < 2 ^ 60 := by
  have h1 := enc_lt h
  have h2 : (32 : Nat) ^ w.length ≤ 32 ^ 12 := Nat.pow_le_pow_right (by decide) hl
  have h3 : (32 : Nat) ^ 12 = 2 ^ 60 := by decide
  omega
/-- a word as the program has it -/
def eL (w : List Nat) : Int64 := lN (enc w)
theorem eL_nil : eL [] = 0 := rfl
theorem eL_inj {a b : List Nat} (ha : lok1 a) (hb : lok1 b) (la : a.length ≤ 12) (lb : b.length ≤ 12) : eL a = eL b ↔ a = b := by
  unfold eL
  have h1 := enc_60 ha la
  have h2 := enc_60 hb lb
  rw [pk_lEQ (by omega) (by omega)]
  exact ⟨enc_inj ha hb, fun h => by rw [h]⟩
theorem eL_0 {w : List Nat} (h : lok1 w) (hl : w.length ≤ 12) : eL w = 0 ↔ w = [] := by
  rw [← eL_nil, eL_inj h (fun _ h => by cases h) hl (by simp)]
theorem eL_shr {w : List Nat} (h : lok1 w) (hl : w.length ≤ 12) {i : Nat} (hi : i ≤ 12) : (Int64.toUInt64 (eL w) >>> ((Int32.toInt64 (5 * nI i)).toUInt64 &&& Int64.toUInt64 63)).toInt64 = eL (w.drop i) := by
  have h1 := enc_60 h hl
  rw [li 5, pk_mul]
  unfold eL
  rw [wb_shr (by omega) (by omega), pow32, enc_div i h]
theorem sizeOf_L {σ : Sg} {w : List Nat} (h : lok1 w) (hl : w.length ≤ 12) : ∀ (n i : Nat), i ≤ w.length → w.length < n + i → f_X0_sizeOf_L2 (some 12) σ (eL w) n (nI i) = some (nI w.length) := by
  intro n
  induction n with
  | zero => intro i h1 h2; omega
  | succ n ih =>
    intro i h1 h2
    rw [f_X0_sizeOf_L2]
    by_cases h12 : 12 ≤ i
    · have hi : i = 12 := by omega
      have : w.length = 12 := by omega
      subst hi
      rw [if_pos (show (12 : Int32) ≤ nI 12 by decide), this]
      rfl
    · rw [if_neg (show ¬ (12 : Int32) ≤ nI i from fun hc => h12 ((nI_leI (a := 12) (by omega) (by omega)).mp hc)), eL_shr h hl (by omega)]
      by_cases hi : i = w.length
      · subst hi
        rw [if_pos (by rw [lg_cmp_0, List.drop_length]; rfl)]
      · rw [if_neg, nI_1, ih (i + 1) (by omega) (by omega)]
        rw [lg_cmp_0, eL_0 (lok1_drop h i) (by rw [List.length_drop]; omega), List.drop_eq_nil_iff]
        omega
theorem sizeOf_s {σ : Sg} {w : List Nat} (h : lok1 w) (hl : w.length ≤ 12) : f_X0_sizeOf σ (eL w) = some (nI w.length) :=
  sizeOf_L h hl fu 0 (Nat.zero_le _) (by unfold fu; omega)
/-- letter i of a word, as it is answered -/
def letA (w : List Nat) (i : Nat) : Int32 := match w[i]? with
  | some x => nI (x + 96)
  | none => -1
theorem toI32 {n : Nat} (h : n < 2 ^ 64) : Int64.toInt32 (lN n) = nI n := by
  rw [lN_i]
theorem and31 (n : Nat) : nI n &&& 31 = nI (n % 32) := by
  have := pk_and (nI n) (m := 31) 5 (by decide)
  rw [this]
  have h : (nI n).toBitVec.toNat = n % 2 ^ 32 := by
    unfold nI
    simp
  rw [h]
  congr 1
  omega
theorem at_s {σ : Sg} {w : List Nat} (h : lok1 w) (hl : w.length ≤ 12) {i : Nat} (hi : i < 2 ^ 31) : f_X0_at σ (eL w) (nI i) = some (letA w i) := by
  unfold f_X0_at
  rw [if_neg (nI_pos hi)]
  by_cases h12 : i < 12
  · rw [if_pos (show nI i < 12 from (nI_ltI (b := 12) hi (by decide)).mpr h12), eL_shr h hl (by omega)]
    have e : (Int64.toInt32 (eL (w.drop i)) &&& 31) = nI ((w.drop i).headD 0) := by
      unfold eL
      rw [lN_i, and31, enc_mod1 (lok1_drop h i)]
    rw [e]
    unfold letA
    cases hw : w[i]? with
    | none =>
      have hd : w.drop i = [] := by
        rw [List.drop_eq_nil_iff]
        exact List.getElem?_eq_none_iff.mp hw
      rw [hd]
      rfl
    | some x =>
      obtain ⟨hlt, hx⟩ := List.getElem?_eq_some_iff.mp hw
      have hd : w.drop i = x :: w.drop (i + 1) := by rw [List.drop_eq_getElem_cons hlt, hx]
      have hx1 := h x (by rw [← hx]; exact List.getElem_mem hlt)
      rw [show (w.drop i).headD 0 = x by rw [hd]; rfl]
      rw [if_neg (nI_ne0 (show 0 < x by omega) (by omega)), li 96, nI_add]
  · rw [if_neg (show ¬ nI i < 12 from fun hc => h12 ((nI_ltI (b := 12) hi (by decide)).mp hc))]
    unfold letA
    rw [List.getElem?_eq_none_iff.mpr (by omega)]
theorem with_s {σ : Sg} {w : List Nat} (h : lok1 w) (hl : w.length < 12) {x : Nat} (hx : 1 ≤ x ∧ x ≤ 26) : f_X0_with σ (eL w) (nI w.length) (nI (x + 96)) = some (eL (w ++ [x])) := by
  unfold f_X0_with
  rw [if_neg (nI_pos (by omega)), if_pos (show nI w.length < 12 from (nI_ltI (b := 12) (by omega) (by decide)).mpr hl)]
  have e1 : nI (x + 96) - 96 = nI x := by
    have := pk_sub (a := x + 96) (b := 96) (by omega)
    rw [li 96, this]
    congr 1
  have h60 := enc_60 h (by omega)
  have hlt := enc_lt h
  rw [e1, nI_l (by omega), li 5, pk_mul, wb_shl x (by omega), pow32]
  unfold eL
  have hb : enc w + x * 32 ^ w.length < 2 ^ 64 := by
    have h2 : (32 : Nat) ^ w.length ≤ 32 ^ 11 := Nat.pow_le_pow_right (by decide) (by omega)
    have h3 : x * 32 ^ w.length ≤ 26 * 32 ^ 11 := Nat.mul_le_mul hx.2 h2
    have h4 : 26 * (32 : Nat) ^ 11 < 2 ^ 60 := by decide
    omega
  rw [g_or' (k := 5 * w.length) (pow32 w.length) hlt hb, enc_app]
  simp only [enc]
  rw [Nat.mul_comm]
  congr 2
theorem lN_sub1 {n : Nat} (h : 1 ≤ n) : lN n - 1 = lN (n - 1) := lN_sub h
/-- the word without its last letters, if these are the ending -/
theorem without_s {σ : Sg} {w e : List Nat} (h : lok1 w) (he : lok1 e) (hl : w.length ≤ 12) (hle : e.length ≤ 12) (hne : e ≠ []) : f_X0_without σ (eL w) (eL e) (nI w.length - nI e.length) = some (if w.drop (w.length - e.length) = e ∧ e.length < w.length then eL (w.take (w.length - e.length)) else 0) := by
  have he0 : 0 < e.length := List.length_pos_iff.mpr hne
  unfold f_X0_without
  by_cases hlt : e.length < w.length
  · have e1 : nI w.length - nI e.length = nI (w.length - e.length) := pk_sub (by omega)
    rw [e1, if_neg (show ¬ nI (w.length - e.length) ≤ 0 from fun hc => by have := (nI_leI (b := 0) (by omega) (by decide)).mp hc; omega), if_neg (show ¬ (12 : Int32) ≤ nI (w.length - e.length) from fun hc => by have := (nI_leI (a := 12) (by decide) (by omega)).mp hc; omega), eL_shr h hl (by omega)]
    have hdl : (w.drop (w.length - e.length)).length ≤ 12 := by rw [List.length_drop]; omega
    by_cases hd : w.drop (w.length - e.length) = e
    · rw [if_pos (by rw [lg_cmp_0, hd]), if_pos ⟨hd, hlt⟩]
      congr 1
      rw [li 5, pk_mul]
      have e2 : (1 : Int64) <<< ((nI (5 * (w.length - e.length))).toInt64 &&& 63) = lN (2 ^ (5 * (w.length - e.length))) := by
        have := wb_shl 1 (k := 5 * (w.length - e.length)) (by omega)
        rw [Nat.one_mul] at this
        exact this
      rw [e2, lN_sub1 (Nat.one_le_two_pow)]
      unfold eL
      have h60 := enc_60 h hl
      rw [wb_mask (by omega) (by omega), pow32, enc_take _ h]
    · rw [if_neg (by rw [lg_cmp_0, eL_inj (lok1_drop h _) he hdl hle]; exact hd), if_neg (fun hc => hd hc.1)]
  · rw [if_pos, if_neg (fun hc => hlt hc.2)]
    rw [Int32.le_iff_toInt_le, pk_sub_toInt (by omega) (by omega)]
    have : (0 : Int32).toInt = 0 := by decide
    omega
theorem isLetter7_s {σ : Sg} (a : Int32) : f_X0_isLetter σ a = some (if 97 ≤ a ∧ a ≤ 122 then 1 else 0) := by
  unfold f_X0_isLetter
  by_cases h1 : a < 97
  · rw [if_pos h1, if_neg]
    intro h
    rw [Int32.le_iff_toInt_le] at h
    rw [Int32.lt_iff_toInt_lt] at h1
    omega
  · rw [if_neg h1]
    have h1' : 97 ≤ a := by rw [Int32.le_iff_toInt_le]; rw [Int32.lt_iff_toInt_lt] at h1; omega
    by_cases h2 : 122 < a
    · rw [if_pos h2, if_neg]
      intro h
      have := h.2
      rw [Int32.le_iff_toInt_le] at this
      rw [Int32.lt_iff_toInt_lt] at h2
      omega
    · rw [if_neg h2, if_pos]
      refine ⟨h1', ?_⟩
      rw [Int32.le_iff_toInt_le]; rw [Int32.lt_iff_toInt_lt] at h2; omega
/-- a letter is its number from 1 on -/
theorem letter_of {a : Int32} (h : 97 ≤ a ∧ a ≤ 122) : ∃ x : Nat, 1 ≤ x ∧ x ≤ 26 ∧ a = nI (x + 96) := by
  obtain ⟨h1, h2⟩ := h
  rw [Int32.le_iff_toInt_le] at h1 h2
  have e1 : (97 : Int32).toInt = 97 := by decide
  have e2 : (122 : Int32).toInt = 122 := by decide
  rw [e1] at h1
  rw [e2] at h2
  have h0 : ¬ a < 0 := by
    rw [Int32.lt_iff_toInt_lt]
    have : (0 : Int32).toInt = 0 := by decide
    omega
  obtain ⟨j, hj, rfl⟩ := nI_of h0
  rw [nI_toInt hj] at h1 h2
  exact ⟨j - 96, by omega, by omega, by congr 1; omega⟩
