/-! the text grows -/
def addL (T : Tx) (x : Nat) : Tx := if (t_cw T).length < 12 then (t_c T, t_w T, t_l T, t_s T, t_se T, t_cw T ++ [x], t_cl T) else (t_c T, t_w T, t_l T, t_s T, t_se T, t_cw T, 1)
def endW (T : Tx) : Tx := if t_cw T = [] then T else (t_c T + 1, fun i => if i = t_c T then t_cw T else t_w T i, fun i => if i = t_c T then t_cl T else t_l T i, fun i => if i = t_c T then t_se T else t_s T i, t_se T, [], 0)
def endS (T : Tx) : Tx := if 0 < t_c T ∧ t_s T (t_c T - 1) = t_se T then (t_c T, t_w T, t_l T, t_s T, t_se T + 1, t_cw T, t_cl T) else T
/-- what was there stays -/
def exX (T T' : Tx) : Prop := t_c T ≤ t_c T' ∧ ∀ i, i < t_c T → t_w T' i = t_w T i ∧ t_l T' i = t_l T i ∧ t_s T' i = t_s T i
theorem exX.rf {T : Tx} : exX T T := ⟨Nat.le_refl _, fun _ _ => ⟨rfl, rfl, rfl⟩⟩
theorem exX.tr {a b c : Tx} (h1 : exX a b) (h2 : exX b c) : exX a c := ⟨Nat.le_trans h1.1 h2.1, fun i hi => by
  obtain ⟨p1, p2, p3⟩ := h1.2 i hi
  obtain ⟨q1, q2, q3⟩ := h2.2 i (Nat.lt_of_lt_of_le hi h1.1)
  exact ⟨q1.trans p1, q2.trans p2, q3.trans p3⟩⟩
theorem addL_ex {T : Tx} {x : Nat} : exX T (addL T x) := by
  unfold addL; split <;> exact ⟨Nat.le_refl _, fun _ _ => ⟨rfl, rfl, rfl⟩⟩
theorem endW_ex {T : Tx} : exX T (endW T) := by
  unfold endW; split
  · exact exX.rf
  · refine ⟨Nat.le_succ _, fun i hi => ?_⟩
    exact ⟨if_neg (by omega), if_neg (by omega), if_neg (by omega)⟩
theorem endS_ex {T : Tx} : exX T (endS T) := by
  unfold endS; split
  · exact ⟨Nat.le_refl _, fun _ _ => ⟨rfl, rfl, rfl⟩⟩
  · exact exX.rf
theorem addL_ok {T : Tx} {x : Nat} (h : Tok T) (hx : 1 ≤ x ∧ x ≤ 26) (hc : t_c T < 60) : Tok (addL T x) := by
  obtain ⟨h1, h2, h3, h4, h5, h6, h7⟩ := h
  unfold addL
  split
  · rename_i hl
    refine ⟨h1, h2, h3, ⟨fun y hy => ?_, by show (t_cw T ++ [x]).length ≤ 12; simp; omega⟩, h5, fun z => absurd z (by show t_c T ≠ 60; omega), fun z => ?_⟩
    · rcases List.mem_append.mp hy with g | g
      · exact h4.1 y g
      · rw [List.mem_singleton.mp g]; exact hx
    · exact absurd (show t_cw T ++ [x] = [] from z) (by simp)
  · rename_i hl
    refine ⟨h1, h2, h3, h4, Nat.le_refl _, fun z => absurd z (by show t_c T ≠ 60; omega), fun z => ?_⟩
    have z : t_cw T = [] := z
    rw [z] at hl
    simp at hl
theorem endW_ok {T : Tx} (h : Tok T) : Tok (endW T) := by
  obtain ⟨h1, h2, h3, h4, h5, h6, h7⟩ := h
  unfold endW
  split
  · exact ⟨h1, h2, h3, h4, h5, h6, h7⟩
  · rename_i hn
    have hc : t_c T < 60 := by
      rcases Nat.lt_or_ge (t_c T) 60 with q | q
      · exact q
      · exact absurd (h6 (by omega)) hn
    refine ⟨hc, fun i hi => ?_, Nat.le_succ_of_le h3, ⟨fun _ h => (by cases h), Nat.zero_le _⟩, Nat.zero_le _, fun _ => rfl, fun _ => rfl⟩
    have hi : i < t_c T + 1 := hi
    show wok 12 (if i = t_c T then t_cw T else t_w T i) ∧ (if i = t_c T then t_cl T else t_l T i) ≤ 1 ∧ (if i = t_c T then t_se T else t_s T i) ≤ i
    by_cases q : i = t_c T
    · rw [if_pos q, if_pos q, if_pos q]
      exact ⟨⟨h4.1, List.length_pos_iff.mpr hn, h4.2⟩, h5, by omega⟩
    · rw [if_neg q, if_neg q, if_neg q]
      exact h2 i (by omega)
theorem endS_ok {T : Tx} (h : Tok T) : Tok (endS T) := by
  obtain ⟨h1, h2, h3, h4, h5, h6, h7⟩ := h
  unfold endS
  split
  · rename_i q
    refine ⟨h1, h2, ?_, h4, h5, h6, h7⟩
    have := (h2 (t_c T - 1) (by omega)).2.2
    show t_se T + 1 ≤ t_c T
    omega
  · exact ⟨h1, h2, h3, h4, h5, h6, h7⟩
theorem nar_b {v : Nat} (h : v ≤ 1) : vp_nar .boolean (nI v) = nI v := by
  rcases (show v = 0 ∨ v = 1 by omega) with rfl | rfl <;> rfl
section TX
variable {σ : Sg} {T : Tx}
theorem addLetter7_s (h : txtC σ T) (hT : Tok T) {x : Nat} (hx : 1 ≤ x ∧ x ≤ 26) : ∃ s', f_X6_addLetter σ (nI (x + 96)) = some ((), s') ∧ txtC s' (addL T x) ∧ Sm [26] [26] σ s' := by
  obtain ⟨g1, g2, g3, g4, g5⟩ := h
  have hw := hT.2.2.2.1
  unfold f_X6_addLetter addL
  rw [g3, sizeOf_s hw.1 hw.2, cP_s]
  by_cases hl : (t_cw T).length < 12
  · rw [if_neg (fun hc => by have := (c_ge 12 (by omega) (by decide)).mp hc; omega), with_s hw.1 hl hx, cP_s, pL_s, if_pos hl]
    refine ⟨_, rfl, ⟨g1, g2, ?_, g4, ?_⟩, Sm.rf.l (by decide)⟩
    · rw [sL_2, if_pos ⟨rfl, rfl⟩]; rfl
    · intro i hi
      rw [sL_ne σ (by decide)]
      exact g5 i hi
  · rw [if_pos ((c_ge 12 (by omega) (by decide)).mpr (by omega)), pI_s, if_neg hl]
    refine ⟨_, rfl, ⟨?_, ?_, g3, ?_, ?_⟩, Sm.rf.i (by decide)⟩
    · rw [sI_1, if_neg (by decide)]; exact g1
    · rw [sI_1, if_neg (by decide)]; exact g2
    · rw [sI_1, if_pos ⟨rfl, rfl⟩]; rfl
    · intro i hi
      rw [sI_ne σ (by decide), sI_ne σ (by decide)]
      exact g5 i hi
theorem endWord7_s (h : txtC σ T) (hT : Tok T) : ∃ s', f_X6_endWord σ = some ((), s') ∧ txtC s' (endW T) ∧ Sm [26, 28, 29] [26, 27] σ s' := by
  have h0 := h
  obtain ⟨g1, g2, g3, g4, g5⟩ := h
  have hw := hT.2.2.2.1
  unfold f_X6_endWord endW
  rw [g3]
  have hiff : lg_cmp (eL (t_cw T)) 0 = 0 ↔ t_cw T = [] := by rw [lg_cmp_0, eL_0 hw.1 hw.2]
  by_cases hn : t_cw T = []
  · rw [if_pos (hiff.mpr hn), if_pos hn]
    exact ⟨σ, rfl, h0, Sm.rf⟩
  · have hc : t_c T < 60 := by
      rcases Nat.lt_or_ge (t_c T) 60 with q | q
      · exact q
      · exact absurd (hT.2.2.2.2.2.1 (by have := hT.1; omega)) hn
    rw [if_neg (fun z => hn (hiff.mp z)), if_neg hn, g1, if_pos ((c_lt 60 (by omega) (by decide)).mpr hc), wL_n hc (by decide), sL_1, g1, wI_n hc (by decide), g4, nar_b hT.2.2.2.2.1]
    have e1 : (sI (sL σ 27 (t_c T) (eL (t_cw T))) 28 (t_c T) (nI (t_cl T))).1 26 = σ.1 26 := by rw [sI_ne _ (by decide), sL_1]
    rw [e1, g1, wI_n hc (by decide), g2, pI_s, pL_s, pI_s]
    refine ⟨_, rfl, ?_, ((((((Sm.rf.l (by decide)).i (by decide)).i (by decide)).i (by decide)).l (by decide)).i (by decide))⟩
    refine ⟨?_, ?_, ?_, ?_, fun i hi => ?_⟩
    · simp [sI_1, sL_1, g1, nI_1]; rfl
    · simp [sI_1, sL_1, g2]; rfl
    · rw [sI_2, sL_2, if_pos ⟨rfl, rfl⟩]; rfl
    · rw [sI_1, if_pos ⟨rfl, rfl⟩]; rfl
    · have hi : i < t_c T + 1 := hi
      show _ = eL (if i = t_c T then t_cw T else t_w T i) ∧ _ = nI (if i = t_c T then t_cl T else t_l T i) ∧ _ = nI (if i = t_c T then t_se T else t_s T i)
      by_cases q : i = t_c T
      · rw [if_pos q, if_pos q, if_pos q]
        subst q
        refine ⟨?_, ?_, ?_⟩
        · simp [sI_2, sL_row]
        · simp [sI_1, sL_1]
        · simp [sI_1, sL_1]
      · rw [if_neg q, if_neg q, if_neg q]
        obtain ⟨d1, d2, d3⟩ := g5 i (by omega)
        refine ⟨?_, ?_, ?_⟩
        · simp [sI_2, sL_row, q, d1]
        · simp [sI_1, sL_1, q, d2]
        · simp [sI_1, sL_1, q, d3]
theorem endSentence7_s (h : txtC σ T) (hT : Tok T) : ∃ s', f_X6_endSentence σ = some ((), s') ∧ txtC s' (endS T) ∧ Sm [26] [] σ s' := by
  have h0 := h
  obtain ⟨g1, g2, g3, g4, g5⟩ := h
  have h60 := hT.1
  have hse := hT.2.2.1
  unfold f_X6_endSentence endS
  rw [g1, g2]
  by_cases hc : 0 < t_c T
  · have hs := (hT.2.1 (t_c T - 1) (by omega)).2.2
    rw [if_neg (fun z => by have := (c_le 0 (by omega) (by decide)).mp z; omega), nI_s1 hc, rI_n (by omega) (by decide), (g5 (t_c T - 1) (by omega)).2.2]
    by_cases q : t_s T (t_c T - 1) = t_se T
    · rw [if_pos (by rw [q]), if_pos ⟨hc, q⟩, pI_s, nI_1]
      refine ⟨_, rfl, ⟨?_, ?_, g3, ?_, fun i hi => ?_⟩, Sm.rf.i (by decide)⟩
      · rw [sI_1, if_neg (by decide)]; exact g1
      · rw [sI_1, if_pos ⟨rfl, rfl⟩]; rfl
      · rw [sI_1, if_neg (by decide)]; exact g4
      · rw [sI_ne σ (by decide), sI_ne σ (by decide)]; exact g5 i hi
    · rw [if_neg (fun z => q ((nI_eq (by omega) (by omega)).mp z)), if_neg (fun z => q z.2)]
      exact ⟨σ, rfl, h0, Sm.rf⟩
  · rw [if_pos (by rw [show t_c T = 0 by omega]; decide), if_neg (fun z => hc z.1)]
    exact ⟨σ, rfl, h0, Sm.rf⟩
end TX
/-- a sign comes -/
def tak (T : Tx) (a : Int32) : Tx := if 97 ≤ a ∧ a ≤ 122 then addL T (a.toNatClampNeg - 96) else if a = 46 then endS (endW T) else endW T
theorem tak_l {T : Tx} {x : Nat} (hx : 1 ≤ x ∧ x ≤ 26) : tak T (nI (x + 96)) = addL T x := by
  unfold tak
  rw [if_pos ⟨(c_ge 97 (by omega) (by decide)).mpr (by omega), (c_le 122 (by omega) (by decide)).mpr (by omega)⟩, nI_clamp (by omega), Nat.add_sub_cancel]
theorem tak_ex {T : Tx} {a : Int32} : exX T (tak T a) := by
  unfold tak
  split
  · exact addL_ex
  · split
    · exact endW_ex.tr endS_ex
    · exact endW_ex
theorem tak_ok {T : Tx} {a : Int32} (h : Tok T) (hc : (97 ≤ a ∧ a ≤ 122) → t_c T < 60) : Tok (tak T a) := by
  by_cases hl : 97 ≤ a ∧ a ≤ 122
  · obtain ⟨x, h1, h2, rfl⟩ := letter_of hl
    rw [tak_l ⟨h1, h2⟩]
    exact addL_ok h ⟨h1, h2⟩ (hc hl)
  · unfold tak
    rw [if_neg hl]
    split
    · exact endS_ok (endW_ok h)
    · exact endW_ok h
theorem take7_s {σ : Sg} {T : Tx} {a : Int32} (h : txtC σ T) (hT : Tok T) : ∃ s', f_X6_take σ a = some ((), s') ∧ txtC s' (tak T a) ∧ Sm [26, 28, 29] [26, 27] σ s' := by
  unfold f_X6_take
  rw [isLetter7_s, cP_s]
  by_cases hl : 97 ≤ a ∧ a ≤ 122
  · obtain ⟨x, h1, h2, rfl⟩ := letter_of hl
    obtain ⟨s', e1, e2, e3⟩ := addLetter7_s h hT ⟨h1, h2⟩
    rw [if_pos hl, if_neg (by decide), e1, cA_s, tak_l ⟨h1, h2⟩]
    exact ⟨s', rfl, e2, e3.up (by decide) (by decide)⟩
  · obtain ⟨s', e1, e2, e3⟩ := endWord7_s h hT
    unfold tak
    rw [if_neg hl, if_pos rfl, e1, cA_s, if_neg hl]
    by_cases h46 : a = 46
    · obtain ⟨s2, d1, d2, d3⟩ := endSentence7_s e2 (endW_ok hT)
      rw [if_pos h46, if_pos h46, d1, cA_s]
      exact ⟨s2, rfl, d2, e3.tr (d3.up (by decide) (by decide))⟩
    · rw [if_neg h46, if_neg h46]
      exact ⟨s', rfl, e2, e3⟩
/-- what the scan knows stays right while the text grows -/
theorem met_ex {B : Bk} {T T' : Tx} (h : exX T T') {t i n : Nat} (hi : i + n ≤ t_c T) : met B T' t i n ↔ met B T t i n := by
  have e : ∀ k, k < n → t_w T' (i + k) = t_w T (i + k) ∧ t_l T' (i + k) = t_l T (i + k) ∧ t_s T' (i + k) = t_s T (i + k) := fun k hk => h.2 (i + k) (by omega)
  constructor
  · intro hm k hk
    have := hm k hk
    have e0 := e 0 (by omega)
    rw [Nat.add_zero] at e0
    rw [(e k hk).2.2, e0.2.2] at this
    refine ⟨this.1, ?_⟩
    have h2 := this.2
    unfold mt at h2 ⊢
    rw [(e k hk).1, (e k hk).2.1] at h2
    exact h2
  · intro hm k hk
    have := hm k hk
    have e0 := e 0 (by omega)
    rw [Nat.add_zero] at e0
    rw [(e k hk).2.2, e0.2.2]
    refine ⟨this.1, ?_⟩
    have h2 := this.2
    unfold mt at h2 ⊢
    rw [(e k hk).1, (e k hk).2.1]
    exact h2
theorem lookP_ex {fb fs : Nat → Int32} {B : Bk} {T T' : Tx} {lk : Nat} (h : lookP fb fs B T lk) (hx : exX T T') (hl : lk ≤ t_c T) : lookP fb fs B T' lk := by
  refine ⟨fun i hi t k ht hk => ?_, fun i hi j hj => ?_⟩
  · rw [h.1 i hi t k ht hk]
    constructor
    · rintro ⟨a, b, c, d⟩; exact ⟨a, b, c, (met_ex hx (by omega)).mpr d⟩
    · rintro ⟨a, b, c, d⟩; exact ⟨a, b, c, (met_ex hx (by omega)).mp d⟩
  · rw [h.2 i hi j hj]
    constructor
    · rintro ⟨a, b, c⟩; exact ⟨a, b, (met_ex hx (by omega)).mpr c⟩
    · rintro ⟨a, b, c⟩; exact ⟨a, b, (met_ex hx (by omega)).mp c⟩
/-- the class's side behind a growth of the text -/
theorem InvC.text {σ s : Sg} {S : List Nat} {B : Bk} {T T' : Tx} {im : Nat → Option Bk} (hC : InvC σ (S, B, T, im)) (u : Sm [26, 28, 29] [26, 27, 42] σ s) (ht : txtC s T') (hx : exX T T') : ∃ s', f_X7_textChanged s = some ((), s') ∧ InvC s' (S, B, T', im) ∧ Un43 σ s' ∧ s'.1 26 = s.1 26 := by
  obtain ⟨g1, g2, g3, g4, g5, g6⟩ := hC
  obtain ⟨lk, p1, p2, p3, p4⟩ := g5
  have p1 : lk ≤ t_c T := p1
  refine ⟨sI (sI s 30 3 0) 40 5 0, rfl, ?_, ?_, by rw [sI_ne _ (by decide), sI_ne _ (by decide)]⟩
  · have e : Sm [30, 40] [] s (sI (sI s 30 3 0) 40 5 0) := (Sm.rf.i (by decide)).i (by decide)
    refine ⟨e.slp (by decide) (u.slp (by decide) g1), e.lex (by decide) (by decide) (u.lex (by decide) (by decide) g2), e.txt (by decide) (by decide) ht, e.ims (by decide) (by decide) (u.ims (by decide) (by decide) g4), ⟨lk, Nat.le_trans p1 hx.1, ?_, ?_, Or.inl ?_⟩, Or.inl ?_⟩
    · simp [sI_1]; rw [u.1 30 (by decide)]; exact p2
    · rw [sI_ne _ (by decide), sI_ne _ (by decide), sI_ne _ (by decide), sI_ne _ (by decide), u.1 32 (by decide), u.1 33 (by decide)]
      exact lookP_ex p3 hx p1
    · simp [sI_1]
    · simp [sI_1]
  · exact ((u.u43 (by decide)).i (by decide)).i (by decide)
