/-! the reference's text -/
def txR (s : Sg) (T : Tx) : Prop := textP (s.1 43) (s.1 48) T
def Sr (s s' : Sg) : Prop := Sm [43, 48] [] s s' ∧ ∀ j, j ≠ 6 → j ≠ 7 → s'.1 43 j = s.1 43 j
theorem Sr.rf {s : Sg} : Sr s s := ⟨Sm.rf, fun _ _ _ => rfl⟩
theorem Sr.tr {a b c : Sg} (h1 : Sr a b) (h2 : Sr b c) : Sr a c := ⟨h1.1.tr h2.1, fun j h h' => (h2.2 j h h').trans (h1.2 j h h')⟩
theorem Sr.x {a b : Sg} {j : Nat} {v : Int32} (h : Sr a b) : Sr a (sI b 48 j v) := ⟨h.1.i (by decide), fun i h1 h2 => by rw [sI_ne b (by decide)]; exact h.2 i h1 h2⟩
theorem Sr.f {a b : Sg} {j : Nat} {v : Int32} (h : Sr a b) (hj : j = 6 ∨ j = 7) : Sr a (sI b 43 j v) := ⟨h.1.i (by decide), fun i h1 h2 => by rw [sI_1, if_neg (by omega)]; exact h.2 i h1 h2⟩
theorem Sr.s48 {a b : Sg} (h : Sm [48] [] a b) : Sr a b := ⟨h.up (by decide) (by decide), fun j _ _ => by rw [h.1 43 (by decide)]⟩
theorem InvR.text {σ s : Sg} {S : List Nat} {B : Bk} {T T' : Tx} {im : Nat → Option Bk} (hR : InvR σ (S, B, T, im)) (u : Sr σ s) (ht : txR s T') : InvR s (S, B, T', im) := by
  obtain ⟨h1, h2, h3, h4, h5⟩ := hR
  refine ⟨?_, ?_, ht, ?_, ?_⟩
  · show slipP (s.1 43 4) (s.1 47) S
    rw [u.2 4 (by decide) (by decide), u.1.1 47 (by decide)]; exact h1
  · show bookP (s.1 44) B
    rw [u.1.1 44 (by decide)]; exact h2
  · show imgP (s.1 46 0) (fun j => s.1 45 j) (im 0)
    rw [u.1.1 46 (by decide), u.1.1 45 (by decide)]; exact h4
  · show imgP (s.1 46 1) (fun j => s.1 45 (475 + j)) (im 1)
    rw [u.1.1 46 (by decide), u.1.1 45 (by decide)]; exact h5
def rowP (x : Nat → Int32) (T : Tx) : Prop := ∀ i, i < t_c T → (x (15 * i) = nI (t_w T i).length ∧ ∀ j y, (t_w T i)[j]? = some y → x (15 * i + 3 + j) = nI (y + 96)) ∧ x (15 * i + 1) = nI (t_s T i) ∧ x (15 * i + 2) = nI (t_l T i)
theorem rowP.cg {x x' : Nat → Int32} {T : Tx} (h : rowP x T) (hT : Tok T) (e : ∀ p, p < 15 * t_c T → x' p = x p) : rowP x' T := by
  intro i hi
  obtain ⟨⟨a, b⟩, c, d⟩ := h i hi
  have h12 := (hT.2.1 i hi).1.2.2
  refine ⟨⟨by rw [e _ (by omega)]; exact a, fun j y hy => ?_⟩, by rw [e _ (by omega)]; exact c, by rw [e _ (by omega)]; exact d⟩
  have := (List.getElem?_eq_some_iff.mp hy).1
  rw [e _ (by omega)]
  exact b j y hy
theorem i15 (c : Nat) : 15 * nI c = nI (15 * c) := by rw [li 15, pk_mul]
theorem get_snoc {l : List Nat} {x j y : Nat} (h : (l ++ [x])[j]? = some y) : (j < l.length ∧ l[j]? = some y) ∨ (j = l.length ∧ y = x) := by
  rw [List.getElem?_append] at h
  split at h
  · rename_i hl; exact Or.inl ⟨hl, h⟩
  · rename_i hl
    have : j = l.length := by
      rcases Nat.lt_or_ge (j - l.length) 1 with g | g
      · omega
      · rw [List.getElem?_eq_none_iff.mpr (by simpa using g)] at h
        cases h
    subst this
    simp at h
    exact Or.inr ⟨rfl, h.symm⟩
section CM
variable {s : Sg} {T : Tx}
theorem comes8_l (h : txR s T) (hT : Tok T) (hc : t_c T < 60) {x : Nat} (hx : 1 ≤ x ∧ x ≤ 26) : ∃ s', f_X8_comes s (nI (x + 96)) = some ((), s') ∧ txR s' (addL T x) ∧ Sr s s' := by
  obtain ⟨g1, g2, g3, ⟨g4, g5⟩, g6⟩ := h
  have g3 : rowP (s.1 48) T := g3
  have h12 := hT.2.2.2.1.2
  have hl : (97 : Int32) ≤ nI (x + 96) ∧ nI (x + 96) ≤ 122 := ⟨(c_ge 97 (by omega) (by decide)).mpr (by omega), (c_le 122 (by omega) (by decide)).mpr (by omega)⟩
  unfold f_X8_comes addL
  rw [isLetter8_s, if_pos hl, cP_s, if_neg (by decide), g1, i15, rI_n (by omega) (by decide), g4]
  by_cases q : (t_cw T).length < 12
  · rw [if_neg (fun z => by have := (c_eq 12 (by omega) (by decide)).mp z; omega), rI_n (by omega) (by decide), g4, nI_p3, nI_add, wI_n (by omega) (by decide), rI_n (by omega) (by decide), sI_1, if_neg (by omega), g4, nI_1, wI_n (by omega) (by decide), if_pos q]
    refine ⟨_, rfl, ?_, (Sr.rf.x).x⟩
    refine ⟨?_, ?_, ?_, ⟨?_, fun j y hy => ?_⟩, ?_⟩
    · rw [sI_ne _ (by decide), sI_ne _ (by decide)]; exact g1
    · rw [sI_ne _ (by decide), sI_ne _ (by decide)]; exact g2
    · exact g3.cg hT (fun p hp => by rw [sI_1, if_neg (by omega), sI_1, if_neg (by omega)])
    · show _ = nI (t_cw T ++ [x]).length
      rw [List.length_append]
      show (sI _ 48 (15 * t_c T) _).1 48 (15 * t_c T) = _
      rw [sI_1, if_pos ⟨rfl, rfl⟩]; rfl
    · have hy : (t_cw T ++ [x])[j]? = some y := hy
      show (sI _ 48 (15 * t_c T) _).1 48 (15 * t_c T + 3 + j) = _
      rw [sI_1, if_neg (by omega), sI_1]
      rcases get_snoc hy with ⟨z1, z2⟩ | ⟨z1, z2⟩
      · rw [if_neg (by omega)]; exact g5 j y z2
      · rw [if_pos ⟨rfl, by omega⟩, z2]
    · show (sI _ 48 (15 * t_c T) _).1 48 (15 * t_c T + 2) = _
      rw [sI_1, if_neg (by omega), sI_1, if_neg (by omega)]; exact g6
  · rw [if_pos ((c_eq 12 (by omega) (by decide)).mpr (by omega)), nI_p2, wI_n (by omega) (by decide), if_neg q]
    refine ⟨_, rfl, ?_, Sr.rf.x⟩
    refine ⟨?_, ?_, ?_, ⟨?_, fun j y hy => ?_⟩, ?_⟩
    · rw [sI_ne _ (by decide)]; exact g1
    · rw [sI_ne _ (by decide)]; exact g2
    · exact g3.cg hT (fun p hp => by rw [sI_1, if_neg (by omega)])
    · show (sI _ 48 _ _).1 48 (15 * t_c T) = _
      rw [sI_1, if_neg (by omega)]; exact g4
    · show (sI _ 48 _ _).1 48 (15 * t_c T + 3 + j) = _
      rw [sI_1, if_neg (by omega)]; exact g5 j y hy
    · show (sI _ 48 _ _).1 48 (15 * t_c T + 2) = _
      rw [sI_1, if_pos ⟨rfl, rfl⟩]; rfl
theorem clears8_s (s : Sg) {c : Nat} (hc : c ≤ 60) : ∃ s', f_X8_clears s (nI c) = some ((), s') ∧ Sm [48] [] s s' ∧ (∀ j, 15 * c ≤ j → j < 15 * c + 15 → s'.1 48 j = 0) ∧ ∀ j, j < 15 * c → s'.1 48 j = s.1 48 j := by
  have key : ∀ n i s2, i ≤ 15 → 15 < n + i → Sm [48] [] s s2 → (∀ j, 15 * c ≤ j → j < 15 * c + i → s2.1 48 j = 0) → (∀ j, j < 15 * c → s2.1 48 j = s.1 48 j) → ∃ s', f_X8_clears_L2 (fun (s5 : Sg) => some ((), s5)) (nI c) n s2 (nI i) = some ((), s') ∧ Sm [48] [] s s' ∧ (∀ j, 15 * c ≤ j → j < 15 * c + 15 → s'.1 48 j = 0) ∧ ∀ j, j < 15 * c → s'.1 48 j = s.1 48 j := by
    intro n
    induction n with
    | zero => intro i s2 h1 h2; omega
    | succ n ih =>
      intro i s2 h1 h2 a1 a2 a3
      rw [f_X8_clears_L2]
      rcases Nat.lt_or_ge i 15 with q | q
      · rw [if_neg (fun hc => by have := (c_ge 15 (by omega) (by decide)).mp hc; omega), i15, nI_add, wI_n (by omega) (by decide), nI_1]
        refine ih (i + 1) _ (by omega) (by omega) (a1.i (by decide)) (fun j h1 h2 => ?_) (fun j h => by rw [sI_1, if_neg (by omega)]; exact a3 j h)
        rw [sI_1]
        by_cases z : j = 15 * c + i
        · rw [if_pos ⟨rfl, z⟩]
        · rw [if_neg (fun hc => z hc.2)]; exact a2 j h1 (by omega)
      · have : i = 15 := by omega
        subst this
        rw [if_pos (by decide)]
        exact ⟨s2, rfl, a1, a2, a3⟩
  exact key fu 0 s (by omega) (by unfold fu; omega) Sm.rf (fun j h1 h2 => by omega) (fun _ _ => rfl)
theorem ends8_s (h : txR s T) (hT : Tok T) : ∃ s', f_X8_ends s = some ((), s') ∧ txR s' (endW T) ∧ Sr s s' := by
  have h0 := h
  obtain ⟨g1, g2, g3, ⟨g4, g5⟩, g6⟩ := h
  have g3 : rowP (s.1 48) T := g3
  have h60 := hT.1
  have h12 := hT.2.2.2.1.2
  unfold f_X8_ends endW
  rw [g1]
  by_cases hn : t_cw T = []
  · rw [if_pos hn]
    refine ⟨s, ?_, h0, Sr.rf⟩
    by_cases q : 60 ≤ t_c T
    · rw [if_pos ((c_ge 60 (by omega) (by decide)).mpr q)]
    · rw [if_neg (fun z => q ((c_ge 60 (by omega) (by decide)).mp z)), i15, rI_n (by omega) (by decide), g4, hn, if_pos (by decide)]
  · have hc : t_c T < 60 := by
      rcases Nat.lt_or_ge (t_c T) 60 with q | q
      · exact q
      · exact absurd (hT.2.2.2.2.2.1 (by omega)) hn
    have hp := List.length_pos_iff.mpr hn
    rw [if_neg hn, if_neg (fun z => by have := (c_ge 60 (by omega) (by decide)).mp z; omega), i15, rI_n (by omega) (by decide), g4, if_neg (fun z => by have := (c_le 0 (by omega) (by decide)).mp z; omega), nI_1, wI_n (by omega) (by decide), g2, pI_s, sI_ne s (by decide), g1, nI_1]
    obtain ⟨s', e1, e2, e3, e4⟩ := clears8_s (sI (sI s 48 (15 * t_c T + 1) (nI (t_se T))) 43 6 (nI (t_c T + 1))) (c := t_c T + 1) (by omega)
    rw [sI_1, if_pos ⟨rfl, rfl⟩, e1, cA_s]
    refine ⟨s', rfl, ?_, ((Sr.rf.x).f (Or.inl rfl)).tr (Sr.s48 e2)⟩
    have e43 : s'.1 43 = (sI (sI s 48 (15 * t_c T + 1) (nI (t_se T))) 43 6 (nI (t_c T + 1))).1 43 := e2.1 43 (by decide)
    refine ⟨?_, ?_, fun i hi => ?_, ⟨?_, fun j y hy => by cases hy⟩, ?_⟩
    · rw [e43, sI_1, if_pos ⟨rfl, rfl⟩]; rfl
    · rw [e43, sI_1, if_neg (by omega), sI_1, if_neg (by omega)]; exact g2
    · have hi : i < t_c T + 1 := hi
      have ex : ∀ p, p < 15 * t_c T + 15 → s'.1 48 p = if p = 15 * t_c T + 1 then nI (t_se T) else s.1 48 p := fun p hp => by
        rw [e4 p (by omega), sI_ne _ (by decide), sI_1]
        by_cases z : p = 15 * t_c T + 1
        · rw [if_pos ⟨rfl, z⟩, if_pos z]
        · rw [if_neg (fun hc => z hc.2), if_neg z]
      show (s'.1 48 (15 * i) = nI (if i = t_c T then t_cw T else t_w T i).length ∧ ∀ j y, (if i = t_c T then t_cw T else t_w T i)[j]? = some y → s'.1 48 (15 * i + 3 + j) = nI (y + 96)) ∧ s'.1 48 (15 * i + 1) = nI (if i = t_c T then t_se T else t_s T i) ∧ s'.1 48 (15 * i + 2) = nI (if i = t_c T then t_cl T else t_l T i)
      by_cases q : i = t_c T
      · rw [if_pos q, if_pos q, if_pos q]
        subst q
        refine ⟨⟨by rw [ex _ (by omega), if_neg (by omega)]; exact g4, fun j y hy => ?_⟩, by rw [ex _ (by omega), if_pos rfl], by rw [ex _ (by omega), if_neg (by omega)]; exact g6⟩
        have := (List.getElem?_eq_some_iff.mp hy).1
        rw [ex _ (by omega), if_neg (by omega)]
        exact g5 j y hy
      · rw [if_neg q, if_neg q, if_neg q]
        exact g3.cg hT (fun p hp => by rw [ex p (by omega), if_neg (by omega)]) i (by omega)
    · exact e3 _ (Nat.le_refl _) (by show 15 * (t_c T + 1) < _; omega)
    · exact e3 _ (by show _ ≤ 15 * (t_c T + 1) + 2; omega) (by show 15 * (t_c T + 1) + 2 < _; omega)
theorem comes8_n (h : txR s T) (hT : Tok T) {a : Int32} (ha : ¬ (97 ≤ a ∧ a ≤ 122)) : ∃ s', f_X8_comes s a = some ((), s') ∧ txR s' (tak T a) ∧ Sr s s' := by
  obtain ⟨s1, e1, e2, e3⟩ := ends8_s h hT
  have hT1 := endW_ok hT
  unfold f_X8_comes tak
  rw [isLetter8_s, if_neg ha, cP_s, if_pos rfl, e1, cA_s, if_neg ha]
  simp only [jn_s, pI_s]
  have e20 := e2
  obtain ⟨g1, g2, g3, g4, g6⟩ := e2
  have h60 := hT1.1
  have hse := hT1.2.2.1
  have z0 : sI s1 43 7 (s1.1 43 7 + 0) = sI s1 43 7 (nI (t_se (endW T))) := by rw [g2, nI_p0]
  have k0 : txR (sI s1 43 7 (s1.1 43 7 + 0)) (endW T) := by
    rw [z0]
    refine ⟨?_, ?_, ?_, ?_, ?_⟩
    · rw [sI_1, if_neg (by omega)]; exact g1
    · rw [sI_1, if_pos ⟨rfl, rfl⟩]
    · rw [sI_ne _ (by decide)]; exact g3
    · rw [sI_ne _ (by decide)]; exact g4
    · rw [sI_ne _ (by decide)]; exact g6
  by_cases q : a = 46
  · rw [if_pos q, if_pos q]
    unfold f_X8_hasWord endS
    rw [g1]
    by_cases hc : 0 < t_c (endW T)
    · have hs := (hT1.2.1 (t_c (endW T) - 1) (by omega)).2.2
      rw [if_neg (fun z => by have := (c_le 0 (by omega) (by decide)).mp z; omega), nI_s1 hc, i15, nI_1, rI_n (by omega) (by decide), (g3 (t_c (endW T) - 1) (by omega)).2.1, g2]
      by_cases z : t_s (endW T) (t_c (endW T) - 1) = t_se (endW T)
      · rw [if_pos (by rw [z]), cP_s, if_neg (by decide), if_pos ⟨hc, z⟩, nI_1]
        refine ⟨_, rfl, ?_, e3.tr (Sr.rf.f (Or.inr rfl))⟩
        refine ⟨?_, ?_, ?_, ?_, ?_⟩
        · rw [sI_1, if_neg (by omega)]; exact g1
        · rw [sI_1, if_pos ⟨rfl, rfl⟩]; rfl
        · rw [sI_ne _ (by decide)]; exact g3
        · rw [sI_ne _ (by decide)]; exact g4
        · rw [sI_ne _ (by decide)]; exact g6
      · rw [if_neg (fun y => z ((nI_eq (by omega) (by omega)).mp y)), cP_s, if_pos rfl, if_neg (fun y => z y.2), ← g2]
        exact ⟨_, rfl, k0, e3.tr (Sr.rf.f (Or.inr rfl))⟩
    · rw [if_pos (by rw [show t_c (endW T) = 0 by omega]; decide), cP_s, if_pos rfl, if_neg (fun y => hc y.1)]
      exact ⟨_, rfl, k0, e3.tr (Sr.rf.f (Or.inr rfl))⟩
  · rw [if_neg q, if_neg q]
    exact ⟨_, rfl, k0, e3.tr (Sr.rf.f (Or.inr rfl))⟩
theorem comes8_s (h : txR s T) (hT : Tok T) {a : Int32} (ha : (97 ≤ a ∧ a ≤ 122) → t_c T < 60) : ∃ s', f_X8_comes s a = some ((), s') ∧ txR s' (tak T a) ∧ Sr s s' := by
  by_cases hl : 97 ≤ a ∧ a ≤ 122
  · obtain ⟨x, h1, h2, rfl⟩ := letter_of hl
    rw [tak_l ⟨h1, h2⟩]
    exact comes8_l h hT (ha hl) ⟨h1, h2⟩
  · exact comes8_n h hT hl
end CM
theorem Sr.u {a b : Sg} (h : Sr a b) : Un42 a b := h.1.u42 (by decide)
theorem ps_read (σ : Sg) (a1 : Int32) (h : InvA σ) : ∃ (r : Int32) (σ1 σ2 : Sg), f_X7_read σ a1 = some (r, σ1) ∧ f_X8_read σ1 a1 = some (r, σ2) ∧ InvA σ2 := by
  refine step2 (f7 := fun s => f_X7_read s a1) (f8 := fun s => f_X8_read s a1) h (fun M hm => ?_)
  obtain ⟨S, B, T, im⟩ := M
  have hm0 := hm
  obtain ⟨hS, hB, hT, hI⟩ := hm
  have hT : Tok T := hT
  have h60 := hT.1
  have n10 : ¬ (1 : Int32) = 0 := by decide
  by_cases hr : 0 ≤ a1 ∧ a1 ≤ 255
  · have r1 : ¬ a1 < 0 := i32_nlt.mpr hr.1
    by_cases hf : (97 ≤ a1 ∧ a1 ≤ 122) ∧ t_c T = 60
    · refine ⟨-1000000004, (S, B, T, im), hm0, fun hC => ⟨σ, ?_, hC, Un43.rf⟩, fun s hR => ⟨s, ?_, hR, Un42.rf⟩⟩
      · have g1 : σ.1 26 0 = nI (t_c T) := hC.2.2.1.1
        unfold f_X7_read f_X6_hasRoom
        rw [if_neg r1, if_pos hr.2, isLetter7_s, cP_s, if_pos hf.1]
        simp only [jn_s]
        rw [if_neg n10, g1, hf.2, if_pos (by decide), cP_s, if_pos rfl]
      · have g1 : s.1 43 6 = nI (t_c T) := hR.2.2.1.1
        unfold f_X8_read
        rw [in8_s, if_pos hr, cP_s, if_neg n10, isLetter8_s, cP_s, if_pos hf.1]
        simp only [jn_s]
        rw [if_neg n10, g1, hf.2, if_pos (show nI 60 = (60 : Int32) from rfl)]
    · have hc : (97 ≤ a1 ∧ a1 ≤ 122) → t_c T < 60 := fun z => by
        rcases Nat.lt_or_ge (t_c T) 60 with q | q
        · exact q
        · exact absurd ⟨z, by omega⟩ hf
      refine ⟨nI (t_c (tak T a1)), (S, B, tak T a1, im), ⟨hS, hB, tak_ok hT hc, hI⟩, fun hC => ?_, fun s hR => ?_⟩
      · have g1 : σ.1 26 0 = nI (t_c T) := hC.2.2.1.1
        obtain ⟨s1, e1, e2, e3⟩ := take7_s (a := a1) hC.2.2.1 hT
        obtain ⟨s2, d1, d2, d3, d4⟩ := hC.text (e3.up (by decide) (by decide)) e2 tak_ex
        refine ⟨s2, ?_, d2, d3⟩
        unfold f_X7_read f_X6_hasRoom
        rw [if_neg r1, if_pos hr.2, isLetter7_s, cP_s]
        simp only [jn_s]
        rw [e1, cA_s, d1, cA_s, d4, e2.1]
        by_cases hl : 97 ≤ a1 ∧ a1 ≤ 122
        · have := hc hl
          rw [if_pos hl, if_neg n10, g1, if_neg (fun z => by have := (c_ge 60 (by omega) (by decide)).mp z; omega), cP_s, if_neg n10]
        · rw [if_neg hl, if_pos rfl]
      · have g1 : s.1 43 6 = nI (t_c T) := hR.2.2.1.1
        obtain ⟨s1, e1, e2, e3⟩ := comes8_s (a := a1) hR.2.2.1 hT hc
        refine ⟨s1, ?_, hR.text e3 e2, e3.u⟩
        unfold f_X8_read
        rw [in8_s, if_pos hr, cP_s, if_neg n10, isLetter8_s, cP_s]
        simp only [jn_s]
        rw [e1, cA_s, e2.1]
        by_cases hl : 97 ≤ a1 ∧ a1 ≤ 122
        · have := hc hl
          rw [if_pos hl, if_neg n10, g1, if_neg (fun z => by have := (c_eq 60 (by omega) (by decide)).mp z; omega)]
        · rw [if_neg hl, if_pos rfl]
  · refine ⟨-1000000002, (S, B, T, im), hm0, fun hC => ⟨σ, ?_, hC, Un43.rf⟩, fun s hR => ⟨s, ?_, hR, Un42.rf⟩⟩
    · unfold f_X7_read
      by_cases q : a1 < 0
      · rw [if_pos q]
      · rw [if_neg q, if_neg (fun z => hr ⟨i32_nlt.mp q, z⟩)]
    · unfold f_X8_read
      rw [in8_s, if_neg hr, cP_s, if_pos rfl]
theorem ps_wipe (σ : Sg) (h : InvA σ) : ∃ (r : Int32) (σ1 σ2 : Sg), f_X7_wipe σ = some (r, σ1) ∧ f_X8_wipe σ1 = some (r, σ2) ∧ InvA σ2 := by
  refine step2 (f7 := fun s => f_X7_wipe s) (f8 := fun s => f_X8_wipe s) h (fun M hm => ?_)
  obtain ⟨S, B, T, im⟩ := M
  obtain ⟨hS, hB, hT, hI⟩ := hm
  refine ⟨nI (t_c T), (S, B, (0, t_w T, t_l T, t_s T, 0, [], 0), im), ⟨hS, hB, ⟨Nat.zero_le _, fun i hi => absurd hi (Nat.not_lt_zero i), Nat.le_refl _, ⟨fun _ h => (by cases h), Nat.zero_le _⟩, Nat.zero_le _, fun _ => rfl, fun _ => rfl⟩, hI⟩, fun hC => ?_, fun s hR => ?_⟩
  · obtain ⟨g1, g2, g3, g4, g5, g6⟩ := hC
    refine ⟨sI (sI (sI (sI (sI (sL (sI (sI σ 26 0 0) 26 4 0) 26 5 0) 26 6 0) 30 2 0) 30 3 0) 30 3 0) 40 5 0, ?_, ?_, ?_⟩
    · unfold f_X7_wipe f_X6_clear f_X4_forget f_X7_textChanged f_X4_unsettle f_X3_forget
      have e : σ.1 26 0 = nI (t_c T) := g3.1
      simp only [pI_s, pL_s, cA_s, e]
    · have u : Sm [26, 30, 40] [26] σ (sI (sI (sI (sI (sI (sL (sI (sI σ 26 0 0) 26 4 0) 26 5 0) 26 6 0) 30 2 0) 30 3 0) 30 3 0) 40 5 0) :=
        (((((((Sm.rf.i (by decide)).i (by decide)).l (by decide)).i (by decide)).i (by decide)).i (by decide)).i (by decide)).i (by decide)
      refine ⟨u.slp (by decide) g1, u.lex (by decide) (by decide) g2, ⟨?_, ?_, ?_, ?_, fun i hi => absurd hi (Nat.not_lt_zero i)⟩, u.ims (by decide) (by decide) g4, ⟨0, Nat.le_refl _, ?_, ⟨fun i hi => absurd hi (Nat.not_lt_zero i), fun i hi => absurd hi (Nat.not_lt_zero i)⟩, Or.inl ?_⟩, Or.inl ?_⟩
      · simp [sI_1, sL_1]; rfl
      · simp [sI_1, sL_1]; rfl
      · simp [sI_2, sL_2]; rfl
      · simp [sI_1, sL_1]; rfl
      · simp [sI_1, sL_1]; rfl
      · simp [sI_1, sL_1]
      · simp [sI_1, sL_1]
    · exact Un43.i (by omega) (Un43.i (by omega) (Un43.i (by omega) (Un43.i (by omega) (Un43.i (by omega) (Un43.l (Un43.i (by omega) (Un43.i (by omega) Un43.rf)))))))
  · have g1 : s.1 43 6 = nI (t_c T) := hR.2.2.1.1
    obtain ⟨s1, e1, e2, e3, -⟩ := clears8_s (sI (sI s 43 6 0) 43 7 0) (c := 0) (by omega)
    have u : Sr s s1 := ((Sr.rf.f (Or.inl rfl)).f (Or.inr rfl)).tr (Sr.s48 e2)
    refine ⟨s1, ?_, hR.text u ?_, u.u⟩
    · unfold f_X8_wipe
      rw [pI_s, pI_s, show (0 : Int32) = nI 0 from rfl] at *
      rw [e1, cA_s, g1]
    · have e43 := e2.1 43 (by decide)
      refine ⟨?_, ?_, fun i hi => absurd hi (Nat.not_lt_zero i), ⟨?_, fun j y hy => (by cases hy)⟩, ?_⟩
      · rw [e43]; simp [sI_1]; rfl
      · rw [e43]; simp [sI_1]; rfl
      · exact e3 _ (by show _ ≤ 15 * 0; omega) (by show 15 * 0 < _; omega)
      · exact e3 _ (by show _ ≤ 15 * 0 + 2; omega) (by show 15 * 0 + 2 < _; omega)
