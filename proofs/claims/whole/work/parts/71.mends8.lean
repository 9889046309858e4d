/-! the mended text: the reference -/
def mnR (s : Sg) (m : List Nat) : Prop := ∀ i x, m[i]? = some x → s.1 54 i = nI x
theorem mnR_add {s : Sg} {m : List Nat} {x : Nat} (h : mnR s m) : mnR (sI s 54 m.length (nI x)) (m ++ [x]) := by
  intro i y hy
  rw [sI_1]
  rcases get_snoc hy with ⟨a, b⟩ | ⟨a, b⟩
  · rw [if_neg (by omega)]; exact h i y b
  · rw [if_pos ⟨rfl, a⟩, b]
/-- the letters' step -/
def ltH (s0 : Sg) (c2 c4 c5 c6 c7 : Int32) (w : List Nat) : Prop := ∀ (kk : Sg → Int32 → Option (Int32 × Sg)) (n : Nat) (s : Sg) (x : Int32) (j y : Nat), Sm [54] [] s0 s → w[j]? = some y → f_X8_mends_L154 kk c2 c4 c5 c6 c7 (nI w.length) (n + 1) s x (nI j) = wI s 54 3300 x (nI (y + 96)) fun s20 => (f_X8_mends_L154 kk c2 c4 c5 c6 c7 (nI w.length) n s20 (x + 1) (nI (j + 1)))
theorem mends_lts {s0 : Sg} {c2 c4 c5 c6 c7 : Int32} {w : List Nat} (H : ltH s0 c2 c4 c5 c6 c7 w) (hw : w.length ≤ 12) (kk : Sg → Int32 → Option (Int32 × Sg)) {a : List Nat} (ha : a.length + w.length ≤ 3300) : ∀ n j s, Sm [54] [] s0 s → j ≤ w.length → w.length < n + j → mnR s (a ++ lts (w.take j)) → ∃ s', f_X8_mends_L154 kk c2 c4 c5 c6 c7 (nI w.length) n s (nI (a.length + j)) (nI j) = kk s' (nI (a.length + w.length)) ∧ mnR s' (a ++ lts w) ∧ Sm [54] [] s s' := by
  intro n
  induction n with
  | zero => intro j s _ h1 h2; omega
  | succ n ih =>
    intro j s u h1 h2 hm
    rcases Nat.lt_or_ge j w.length with q | q
    · have gj : w[j]? = some w[j] := List.getElem?_eq_getElem q
      have hlen : (a ++ lts (w.take j)).length = a.length + j := by rw [List.length_append, lts_len, List.length_take, Nat.min_eq_left h1]
      rw [H kk n s _ j _ u gj, wI_n (by omega) (by decide), nI_1]
      have e : a ++ lts (w.take j) ++ [w[j] + 96] = a ++ lts (w.take (j + 1)) := by
        rw [take_snoc w j _ gj]
        unfold lts
        rw [List.map_append, List.append_assoc]
        rfl
      have hm2 := mnR_add (x := w[j] + 96) hm
      rw [e, hlen] at hm2
      obtain ⟨s', c1, c2, c3⟩ := ih (j + 1) (sI s 54 (a.length + j) (nI (w[j] + 96))) (u.i (by decide)) (by omega) (by omega) hm2
      exact ⟨s', c1, c2, (Sm.rf.i (by decide)).tr c3⟩
    · have : j = w.length := by omega
      subst this
      rw [f_X8_mends_L154, if_pos (nI_le (Nat.le_refl _) (by omega))]
      refine ⟨s, rfl, ?_, Sm.rf⟩
      rw [List.take_of_length_le (Nat.le_refl _)] at hm
      exact hm
section MD
variable {B : Bk} {T : Tx}
theorem ltH_T {s : Sg} (hT : Tok T) (hx : txR s T) {i : Nat} (hi : i < t_c T) (c5 c6 c7 : Int32) : ltH s (nI i) (-1) c5 c6 c7 (t_w T i) := by
  intro kk n s' x j y u hy
  have h60 := hT.1
  have hw12 := (hT.2.1 i hi).1.2.2
  have hj : j < (t_w T i).length := (List.getElem?_eq_some_iff.mp hy).1
  have hx' : txR s' T := u.tx (by decide) hx
  rw [f_X8_mends_L154, if_neg (fun z => by have := (nI_leI (by omega) (by omega)).mp z; omega)]
  dsimp only [jn]
  rw [if_pos rfl, i15, nI_p3, nI_add, rI_n (by omega) (by decide), (hx'.2.2.1 i hi).1.2 j y hy, nI_1]
theorem ltH_B {s : Sg} (hB : Bok B) (hb : bookP (s.1 44) B) {v k : Nat} (hv : v < b_tc B) (hk : k < b_n B v) (c2 c5 c6 : Int32) : ltH s c2 (nI v) c5 c6 (nI k) (b_w B v k) := by
  intro kk n s' x j y u hy
  have h8 := hB.1
  have hn := (hB.2.2.1 v hv).1
  have hw12 := ((hB.2.2.1 v hv).2.2.2.2.1 k hk).2.2
  have hj : j < (b_w B v k).length := (List.getElem?_eq_some_iff.mp hy).1
  have hb' : bookP (s'.1 44) B := u.bk (by decide) hb
  rw [f_X8_mends_L154, if_neg (fun z => by have := (nI_leI (by omega) (by omega)).mp z; omega)]
  dsimp only [jn]
  rw [if_neg (nI_m1 (by omega)), wordAt8_s, cP_s, nI_1, nI_add, rI_n (by omega) (by decide), ((hb'.2.2.1 v hv).2.2.2.2 k hk).2 j y hy, nI_1]
theorem addW_n {m w : List Nat} (h : m = []) : addW m w = [] ++ lts w := by unfold addW; rw [if_pos h]
theorem addW_c {m w : List Nat} (h : ¬ m = []) : addW m w = (m ++ [32]) ++ lts w := by unfold addW; rw [if_neg h]
theorem app_lts {a w : List Nat} : (a ++ lts w).length = a.length + w.length := by rw [List.length_append, lts_len]
theorem lts_0 (a w : List Nat) : a ++ lts (w.take 0) = a := by simp [lts]
/-- a word of the text is written -/
theorem mends_T {s : Sg} {m : List Nat} (hT : Tok T) (hx : txR s T) {i : Nat} (hi : i < t_c T) (c5 : Int32) (kk : Sg → Int32 → Option (Int32 × Sg)) (hm : mnR s m) (hl : m.length + 13 ≤ 3300) : ∃ s', f_X8_mends_L97 kk (nI i) (-1) c5 1 fu s (nI m.length) 0 = kk s' (nI (addW m (t_w T i)).length) ∧ mnR s' (addW m (t_w T i)) ∧ Sm [54] [] s s' := by
  have h60 := hT.1
  have hw12 := (hT.2.1 i hi).1.2.2
  have fin : ∀ s' x, f_X8_mends_L97 kk (nI i) (-1) c5 1 4999 s' x 1 = kk s' x := by
    intro s' x
    show f_X8_mends_L97 kk (nI i) (-1) c5 1 (4998 + 1) s' x 1 = _
    rw [f_X8_mends_L97, if_pos (by decide)]
  show ∃ s', f_X8_mends_L97 kk (nI i) (-1) c5 1 (4999 + 1) s (nI m.length) 0 = _ ∧ _
  rw [f_X8_mends_L97, if_neg (by decide)]
  dsimp only [jn]
  by_cases z : m = []
  · rw [if_pos (by rw [z]; decide), if_pos rfl, i15, rI_n (by omega) (by decide), (hx.2.2.1 i hi).1.1]
    obtain ⟨s', c1, c2, c3⟩ := mends_lts (ltH_T hT hx hi c5 1 0) hw12 (fun (s33 : Sg) (v34 : Int32) => f_X8_mends_L97 kk (nI i) (-1) c5 1 4999 s33 v34 (0 + 1)) (a := []) (by simp; omega) fu 0 s Sm.rf (Nat.zero_le _) (by unfold fu; omega) (by rw [lts_0]; intro i x hx; simp at hx)
    refine ⟨s', ?_, by rw [addW_n z]; exact c2, c3⟩
    rw [addW_n z, app_lts, z]
    refine Eq.trans c1 ?_
    exact fin _ _
  · have hpos : 0 < m.length := List.length_pos_iff.mpr z
    have u : Sm [54] [] s (sI s 54 m.length 32) := Sm.rf.i (by decide)
    have hx' : txR (sI s 54 m.length 32) T := u.tx (by decide) hx
    rw [if_neg (nI_nle hpos (by omega)), wI_n (by omega) (by decide), if_pos rfl, i15, rI_n (by omega) (by decide), (hx'.2.2.1 i hi).1.1, nI_1]
    obtain ⟨s', c1, c2, c3⟩ := mends_lts (ltH_T hT hx' hi c5 1 0) hw12 (fun (s33 : Sg) (v34 : Int32) => f_X8_mends_L97 kk (nI i) (-1) c5 1 4999 s33 v34 (0 + 1)) (a := m ++ [32]) (by rw [List.length_append]; simp; omega) fu 0 (sI s 54 m.length 32) Sm.rf (Nat.zero_le _) (by unfold fu; omega) (by rw [lts_0]; exact mnR_add hm)
    refine ⟨s', ?_, by rw [addW_c z]; exact c2, u.tr c3⟩
    rw [addW_c z, app_lts]
    have el : (m ++ [32]).length + 0 = m.length + 1 := by rw [List.length_append]; rfl
    rw [el] at c1
    refine Eq.trans c1 ?_
    exact fin _ _
/-- the words of a term are written -/
theorem mends_B {s : Sg} {m : List Nat} (hB : Bok B) (hb : bookP (s.1 44) B) {v : Nat} (hv : v < b_tc B) (c2 c5 : Int32) (kk : Sg → Int32 → Option (Int32 × Sg)) (hm : mnR s m) (hl : m.length + 51 ≤ 3300) : ∃ s', f_X8_mends_L97 kk c2 (nI v) c5 (nI (b_n B v)) fu s (nI m.length) 0 = kk s' (nI (addT m (b_w B v) (b_n B v)).length) ∧ mnR s' (addT m (b_w B v) (b_n B v)) ∧ Sm [54] [] s s' := by
  have h8 := hB.1
  have hv1 := (hB.2.2.1 v hv)
  have hn := hv1.1
  have hsum := hv1.2.2.2.2.2
  have key : ∀ n k s, k ≤ b_n B v → b_n B v < n + k → bookP (s.1 44) B → mnR s (addT m (b_w B v) k) → ∃ s', f_X8_mends_L97 kk c2 (nI v) c5 (nI (b_n B v)) n s (nI (addT m (b_w B v) k).length) (nI k) = kk s' (nI (addT m (b_w B v) (b_n B v)).length) ∧ mnR s' (addT m (b_w B v) (b_n B v)) ∧ Sm [54] [] s s' := by
    intro n
    induction n with
    | zero => intro k s h1 h2; omega
    | succ n ih =>
      intro k s h1 h2 hb hm
      rw [f_X8_mends_L97]
      rcases Nat.lt_or_ge k (b_n B v) with q | q
      · have hwk := hv1.2.2.2.2.1 k q
        have hw12 := hwk.2.2
        have hl1 := addT_len m (b_w B v) k
        have hl2 := b_sum_mono (b_w B v) (show k + 1 ≤ b_n B v by omega)
        have hl2 : b_sum (b_w B v) k + ((b_w B v k).length + 1) ≤ b_sum (b_w B v) (b_n B v) := hl2
        have hbk := (hb.2.2.1 v hv).2.2.2.2 k q
        rw [if_neg (fun z => by have := (nI_leI (by omega) (by omega)).mp z; omega)]
        dsimp only [jn]
        have es : addT m (b_w B v) (k + 1) = addW (addT m (b_w B v) k) (b_w B v k) := rfl
        by_cases z : addT m (b_w B v) k = []
        · rw [if_pos (by rw [z]; decide), if_neg (nI_m1 (by omega)), wordAt8_s, cP_s, rI_n (by omega) (by decide), hbk.1, nI_1]
          obtain ⟨s1, c1, c2', c3⟩ := mends_lts (ltH_B hB hb hv q c2 c5 (nI (b_n B v))) hw12 (fun (s33 : Sg) (v34 : Int32) => f_X8_mends_L97 kk c2 (nI v) c5 (nI (b_n B v)) n s33 v34 (nI (k + 1))) (a := []) (by simp; omega) fu 0 s Sm.rf (Nat.zero_le _) (by unfold fu; omega) (by rw [lts_0]; intro i x hx; simp at hx)
          obtain ⟨s2, d1, d2, d3⟩ := ih (k + 1) s1 (by omega) (by omega) (c3.bk (by decide) hb) (by rw [es, addW_n z]; exact c2')
          refine ⟨s2, ?_, d2, c3.tr d3⟩
          rw [es, addW_n z, app_lts] at d1
          rw [z]
          exact Eq.trans c1 d1
        · have hpos : 0 < (addT m (b_w B v) k).length := List.length_pos_iff.mpr z
          have u : Sm [54] [] s (sI s 54 (addT m (b_w B v) k).length 32) := Sm.rf.i (by decide)
          have hb' : bookP ((sI s 54 (addT m (b_w B v) k).length 32).1 44) B := u.bk (by decide) hb
          have hbk' := (hb'.2.2.1 v hv).2.2.2.2 k q
          rw [if_neg (nI_nle hpos (by omega)), wI_n (by omega) (by decide), if_neg (nI_m1 (by omega)), wordAt8_s, cP_s, rI_n (by omega) (by decide), hbk'.1, nI_1, nI_1]
          obtain ⟨s1, c1, c2', c3⟩ := mends_lts (ltH_B hB hb' hv q c2 c5 (nI (b_n B v))) hw12 (fun (s33 : Sg) (v34 : Int32) => f_X8_mends_L97 kk c2 (nI v) c5 (nI (b_n B v)) n s33 v34 (nI (k + 1))) (a := addT m (b_w B v) k ++ [32]) (by rw [List.length_append]; simp; omega) fu 0 (sI s 54 (addT m (b_w B v) k).length 32) Sm.rf (Nat.zero_le _) (by unfold fu; omega) (by rw [lts_0]; exact mnR_add hm)
          have v3 := u.tr c3
          obtain ⟨s2, d1, d2, d3⟩ := ih (k + 1) s1 (by omega) (by omega) (v3.bk (by decide) hb) (by rw [es, addW_c z]; exact c2')
          refine ⟨s2, ?_, d2, v3.tr d3⟩
          rw [es, addW_c z, app_lts] at d1
          have el : (addT m (b_w B v) k ++ [32]).length + 0 = (addT m (b_w B v) k).length + 1 := by rw [List.length_append]; rfl
          rw [el] at c1
          exact Eq.trans c1 d1
      · have : k = b_n B v := by omega
        subst this
        rw [if_pos (nI_le (Nat.le_refl _) (by omega))]
        exact ⟨s, rfl, hm, Sm.rf⟩
  exact key fu 0 s (Nat.zero_le _) (by unfold fu; omega) hb hm
end MD
