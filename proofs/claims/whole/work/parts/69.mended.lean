/-! the mended text: what stands over a word -/
section OV2
variable {B : Bk} {T : Tx} {s : Sg}
theorem ov_0 (hB : Bok B) {i : Nat} (h : fr B T (i + 1) ≤ i) : ov B T i = -1 := by
  have hc : ch B T i = -1 := by
    rcases ch_or (T := T) hB i with ⟨g1, -⟩ | ⟨-, u, hu, -, -, -, g2, -⟩
    · exact g1
    · have := (hB.2.2.1 u hu).1
      omega
  cases i with
  | zero => rw [ov]; exact hc
  | succ i =>
    have h : fr B T (i + 2) ≤ i + 1 := h
    rw [ov, if_neg (fun g => g hc), if_neg (by omega)]
theorem ov_s {k : Nat} (hc : ch B T k ≠ -1) : ov B T k = ch B T k := by
  cases k with
  | zero => rw [ov]
  | succ k => rw [ov, if_pos hc]
theorem ov_1 {k n : Nat} (hc : ch B T k ≠ -1) (hf : fr B T (k + 1) = k + n) : ∀ d, d < n → ov B T (k + d) = ch B T k := by
  intro d
  induction d with
  | zero => intro _; exact ov_s hc
  | succ d ih =>
    intro hd
    have h1 : ch B T (k + d + 1) = -1 := ch_in hf (by omega) (by omega)
    have h2 := fr_in hf (d + 1) (by omega)
    rw [show k + 1 + (d + 1) = k + d + 2 by omega] at h2
    rw [show k + (d + 1) = k + d + 1 by omega, ov, if_neg (fun g => g h1), if_pos (by omega)]
    exact ih (by omega)
theorem ins_f {i : Nat} (h : ov B T i = -1) : ins B T i = -1 := by unfold ins; rw [if_pos h]
theorem ins_t {i u : Nat} (hu : u < 2 ^ 31) (h : ov B T i = nI u) : ins B T i = b_pr B u := by
  unfold ins
  rw [h, if_neg (nI_m1 hu), nI_clamp hu]
/-- what is to be said over a word, and whether it begins there -/
theorem ins_or (hB : Bok B) (i : Nat) : (fr B T (i + 1) ≤ i ∧ co B T i = -1 ∧ ins B T i = -1) ∨ ∃ k u, k ≤ i ∧ u < b_tc B ∧ fnd B T u k ∧ ch B T k = nI u ∧ i < k + b_n B u ∧ co B T i = nI (cc B T k) ∧ ins B T i = b_pr B u ∧ (k = i ↔ ch B T i ≠ -1) := by
  have h8 := hB.1
  rcases co_or (T := T) hB i with ⟨a1, a2⟩ | ⟨k, u, a1, a2, a3, a4, a5, a6, a7⟩
  · exact Or.inl ⟨a1, a2, ins_f (ov_0 hB a1)⟩
  · have hne : ch B T k ≠ -1 := by rw [a4]; exact nI_m1 (by omega)
    have ho := ov_1 hne a6 (i - k) (by omega)
    rw [show k + (i - k) = i by omega, a4] at ho
    refine Or.inr ⟨k, u, a1, a2, a3, a4, a5, a7, ins_t (by omega) ho, ?_⟩
    constructor
    · rintro rfl; exact hne
    · intro g
      by_cases z : k = i
      · exact z
      · exact absurd (ch_in a6 (by omega) a5) g
theorem pr_ok (hB : Bok B) {u : Nat} (hu : u < b_tc B) : b_pr B u = -1 ∨ ∃ v, v < b_tc B ∧ b_pr B u = nI v := (hB.2.2.1 u hu).2.2.2.1
theorem insteadOver7_s (hB : Bok B) (hT : Tok T) (hl : lexC s B) (hst : stl s B T) {i : Nat} (hi : i < t_c T) : f_X4_insteadOver s (nI i) = some (ins B T i) := by
  have h60 := hT.1
  have h8 := hB.1
  obtain ⟨-, -, -, -, g4, g5⟩ := hst
  unfold f_X4_insteadOver
  rw [rI_n (by omega) (by decide), g5 i hi]
  rcases ins_or (T := T) hB i with ⟨-, a1, a2⟩ | ⟨k, u, a1, a2, a3, a4, a5, a6, a7, a8⟩
  · rw [a1, if_pos rfl, a2]
  · have hcl := cc_le (B := B) (T := T) k
    have hr := g4 k (by omega) (by rw [a4]; exact nI_m1 (by omega))
    rw [a6, if_neg (nI_m1 (by omega)), rI_n (by omega) (by decide), hr.2, a4, rI_n (by omega) (by decide), (hl.2.2.1 u a2).2.2.2.1, a7]
theorem endsSentence7_s (hT : Tok T) (hx : txtC s T) {i : Nat} (hi : i < t_c T) : f_X6_endsSentence s (nI i) = some (bI (eS T i)) := by
  have h60 := hT.1
  have e1 := (hx.2.2.2.2 i hi).2.2
  have d1 := (hT.2.1 i hi).2.2
  have d3 := hT.2.2.1
  have last : ∀ (h : i + 1 = t_c T ∨ t_s T (i + 1) ≠ t_s T i), (if (1 : Int32) = 0 then (some 0) else (rI s 29 60 (nI i) fun x2 => (if (s.1 26 4) ≤ x2 then (some (0 : Int32)) else (some 1)))) = some (bI (eS T i)) := by
    intro h
    rw [if_neg (by decide), rI_n (by omega) (by decide), e1, hx.2.1]
    by_cases z : t_se T ≤ t_s T i
    · rw [if_pos (nI_le z (by omega)), bI_f (fun g => by have := g.2; omega)]
    · rw [if_neg (fun g => z ((nI_leI (by omega) (by omega)).mp g)), bI_t ⟨h, by omega⟩]
  unfold f_X6_endsSentence
  rw [jn_s, nI_1, hx.1]
  by_cases z : i + 1 = t_c T
  · rw [if_pos (by rw [z])]
    exact last (Or.inl z)
  · have e2 := (hx.2.2.2.2 (i + 1) (by omega)).2.2
    have d2 := (hT.2.1 (i + 1) (by omega)).2.2
    rw [if_neg (fun g => z ((nI_eq (by omega) (by omega)).mp g)), rI_n (by omega) (by decide), rI_n (by omega) (by decide), e1, e2]
    by_cases y : t_s T (i + 1) = t_s T i
    · rw [if_pos (by rw [y]), if_pos rfl, bI_f (by
        rintro ⟨g | g, -⟩
        · exact z g
        · exact g y)]
    · rw [if_neg (fun g => y ((nI_eq (by omega) (by omega)).mp g))]
      exact last (Or.inr y)
end OV2
/-! signs are added -/
theorem take_snoc : ∀ (w : List Nat) (k x : Nat), w[k]? = some x → w.take (k + 1) = w.take k ++ [x]
  | [], k, x, h => by simp at h
  | y :: w, 0, x, h => by simp at h; simp [h]
  | y :: w, k + 1, x, h => by
    have h1 : w[k]? = some x := by simpa using h
    have := take_snoc w k x h1
    simp only [List.take_succ_cons, this, List.cons_append]
def Sd (s s' : Sg) : Prop := Sm [40, 41] [] s s' ∧ ∀ j, j ≠ 4 → s'.1 40 j = s.1 40 j
theorem Sd.rf {s : Sg} : Sd s s := ⟨Sm.rf, fun _ _ => rfl⟩
theorem Sd.tr {a b c : Sg} (h1 : Sd a b) (h2 : Sd b c) : Sd a c := ⟨h1.1.tr h2.1, fun j hj => (h2.2 j hj).trans (h1.2 j hj)⟩
theorem mndP_add {f g f' g' : Nat → Int32} {m : List Nat} {x : Nat} (h : mndP f g m) (h1 : f' 4 = nI (m.length + 1)) (h2 : ∀ j, g' j = if j = m.length then nI x else g j) : mndP f' g' (m ++ [x]) := by
  refine ⟨by rw [h1, List.length_append]; rfl, fun i y hy => ?_⟩
  rcases get_snoc hy with ⟨a, b⟩ | ⟨a, b⟩
  · rw [h2, if_neg (by omega)]; exact h.2 i y b
  · rw [h2, if_pos a, b]
section AS
variable {s : Sg} {B : Bk} {T : Tx}
theorem addSign7_s {m : List Nat} {x : Nat} (h : mndP (s.1 40) (s.1 41) m) (hm : m.length < 3120) (hx : x < 65536) : ∃ s', f_X3_addSign s (nI x) = some ((), s') ∧ mndP (s'.1 40) (s'.1 41) (m ++ [x]) ∧ Sd s s' := by
  have e : vp_nar .char ((Int32.toUInt32 (nI x) % 65536).toInt32) = nI x := by
    rw [pk_vc, pk_char, pk_tn (by omega), Nat.mod_eq_of_lt hx]
  unfold f_X3_addSign
  rw [h.1, if_neg (fun z => by have := (c_ge 3120 (by omega) (by decide)).mp z; omega), wI_n (by omega) (by decide), e, pI_s]
  refine ⟨_, rfl, mndP_add h ?_ (fun j => ?_), (Sm.rf.i (by decide)).i (by decide), fun j hj => ?_⟩
  · rw [sI_1, if_pos ⟨rfl, rfl⟩, sI_ne _ (by decide), h.1, nI_1]
  · rw [sI_ne _ (by decide), sI_1]
    by_cases z : j = m.length
    · rw [if_pos ⟨rfl, z⟩, if_pos z]
    · rw [if_neg (fun g => z g.2), if_neg z]
  · rw [sI_1, if_neg (fun g => hj g.2), sI_ne _ (by decide)]
theorem lts_len (w : List Nat) : (lts w).length = w.length := by unfold lts; rw [List.length_map]
theorem addWord7_s {m w : List Nat} (h : mndP (s.1 40) (s.1 41) m) (hw : wok 12 w) (hm : m.length + 1 + w.length ≤ 3120) : ∃ s', f_X3_addWord s (eL w) = some ((), s') ∧ mndP (s'.1 40) (s'.1 41) (addW m w) ∧ Sd s s' := by
  have hw12 := hw.2.2
  have key : ∀ a : List Nat, a.length + w.length ≤ 3120 → ∀ n k s, k ≤ w.length → w.length < n + k → mndP (s.1 40) (s.1 41) (a ++ lts (w.take k)) → ∃ s', f_X3_addWord_L21 (fun (s11 : Sg) => some ((), s11)) (eL w) (nI w.length) n s (nI k) = some ((), s') ∧ mndP (s'.1 40) (s'.1 41) (a ++ lts w) ∧ Sd s s' := by
    intro a ha n
    induction n with
    | zero => intro k s h1 h2; omega
    | succ n ih =>
      intro k s h1 h2 h3
      rw [f_X3_addWord_L21]
      rcases Nat.lt_or_ge k w.length with q | q
      · have gk : w[k]? = some w[k] := List.getElem?_eq_getElem q
        have hx := hw.1 _ (List.mem_of_getElem? gk)
        have hla : letA w k = nI (w[k] + 96) := by unfold letA; rw [gk]
        have hlen : (a ++ lts (w.take k)).length = a.length + k := by rw [List.length_append, lts_len, List.length_take, Nat.min_eq_left h1]
        rw [if_neg (fun z => by have := (nI_leI (by omega) (by omega)).mp z; omega), at_s hw.1 hw12 (by omega), cP_s, hla]
        obtain ⟨s1, d1, d2, d3⟩ := addSign7_s (x := w[k] + 96) h3 (by omega) (by omega)
        rw [d1, cA_s, nI_1]
        have e : a ++ lts (w.take k) ++ [w[k] + 96] = a ++ lts (w.take (k + 1)) := by
          rw [take_snoc w k _ gk]
          unfold lts
          rw [List.map_append, List.append_assoc]
          rfl
        rw [e] at d2
        obtain ⟨s2, c1, c2, c3⟩ := ih (k + 1) s1 (by omega) (by omega) d2
        exact ⟨s2, c1, c2, d3.tr c3⟩
      · have : k = w.length := by omega
        subst this
        rw [if_pos (nI_le (Nat.le_refl _) (by omega))]
        refine ⟨s, rfl, ?_, Sd.rf⟩
        rw [List.take_of_length_le (Nat.le_refl _)] at h3
        exact h3
  unfold f_X3_addWord
  simp only [jn_s]
  rw [h.1]
  by_cases z : m = []
  · rw [if_pos (by rw [z]; decide), sizeOf_s hw.1 hw12, cP_s]
    obtain ⟨s2, c1, c2, c3⟩ := key [] (by simp; omega) fu 0 s (Nat.zero_le _) (by unfold fu; omega) (by rw [z] at h; exact h)
    refine ⟨s2, c1, ?_, c3⟩
    unfold addW
    rw [if_pos z]
    exact c2
  · have hpos : 0 < m.length := List.length_pos_iff.mpr z
    rw [if_neg (nI_nle hpos (by omega))]
    obtain ⟨s1, d1, d2, d3⟩ := addSign7_s (x := 32) h (by have := hw.2.1; omega) (by decide)
    have d1 : f_X3_addSign s 32 = some ((), s1) := d1
    rw [d1, cA_s, sizeOf_s hw.1 hw12, cP_s]
    obtain ⟨s2, c1, c2, c3⟩ := key (m ++ [32]) (by rw [List.length_append]; exact hm) fu 0 s1 (Nat.zero_le _) (by unfold fu; omega) (by
      have : m ++ [32] ++ lts (w.take 0) = m ++ [32] := by simp [lts]
      rw [this]; exact d2)
    refine ⟨s2, c1, ?_, d3.tr c3⟩
    unfold addW
    rw [if_neg z]
    exact c2
theorem addW_len (m w : List Nat) : (addW m w).length ≤ m.length + 1 + w.length := by
  unfold addW
  rw [List.length_append, lts_len]
  split
  · simp
  · rw [List.length_append]
    exact Nat.le_refl _
theorem addT_len (m : List Nat) (f : Nat → List Nat) : ∀ k, (addT m f k).length ≤ m.length + b_sum f k := by
  intro k
  induction k with
  | zero => exact Nat.le_refl _
  | succ k ih =>
    have := addW_len (addT m f k) (f k)
    show (addW (addT m f k) (f k)).length ≤ m.length + (b_sum f k + ((f k).length + 1))
    omega
theorem b_sum_mono (f : Nat → List Nat) {a : Nat} : ∀ {b : Nat}, a ≤ b → b_sum f a ≤ b_sum f b
  | 0, h => by
    have : a = 0 := by omega
    rw [this]; exact Nat.le_refl _
  | b + 1, h => by
    by_cases z : a = b + 1
    · rw [z]; exact Nat.le_refl _
    · have := b_sum_mono f (a := a) (b := b) (by omega)
      show b_sum f a ≤ b_sum f b + ((f b).length + 1)
      omega
theorem Sd.lex {a b : Sg} (u : Sd a b) (h : lexC a B) : lexC b B := u.1.lex (by decide) (by decide) h
theorem addWordsOf7_s {m : List Nat} {v : Nat} (hB : Bok B) (hl : lexC s B) (hv : v < b_tc B) (h : mndP (s.1 40) (s.1 41) m) (hm : m.length + 51 ≤ 3120) : ∃ s', f_X3_addWordsOf s (nI v) = some ((), s') ∧ mndP (s'.1 40) (s'.1 41) (addT m (b_w B v) (b_n B v)) ∧ Sd s s' := by
  have h8 := hB.1
  have hv1 := (hB.2.2.1 v hv)
  have hn := hv1.1
  have hsum := hv1.2.2.2.2.2
  have key : ∀ n k s, k ≤ b_n B v → b_n B v < n + k → lexC s B → mndP (s.1 40) (s.1 41) (addT m (b_w B v) k) → ∃ s', f_X3_addWordsOf_L2 (fun (s10 : Sg) => some ((), s10)) (nI v) n s (nI k) = some ((), s') ∧ mndP (s'.1 40) (s'.1 41) (addT m (b_w B v) (b_n B v)) ∧ Sd s s' := by
    intro n
    induction n with
    | zero => intro k s h1 h2; omega
    | succ n ih =>
      intro k s h1 h2 hl h3
      rw [f_X3_addWordsOf_L2, rI_n (by omega) (by decide), (hl.2.2.1 v hv).1]
      rcases Nat.lt_or_ge k (b_n B v) with q | q
      · have hwk := hv1.2.2.2.2.1 k q
        have hl1 := addT_len m (b_w B v) k
        have hl2 := b_sum_mono (b_w B v) (show k + 1 ≤ b_n B v by omega)
        have hl2 : b_sum (b_w B v) k + ((b_w B v k).length + 1) ≤ b_sum (b_w B v) (b_n B v) := hl2
        obtain ⟨s1, d1, d2, d3⟩ := addWord7_s h3 hwk (by omega)
        rw [if_neg (fun z => by have := (nI_leI (by omega) (by omega)).mp z; omega), wordOf7_s hl hB hv q, cP_s, d1, cA_s, nI_1]
        obtain ⟨s2, c1, c2, c3⟩ := ih (k + 1) s1 (by omega) (by omega) (d3.lex hl) d2
        exact ⟨s2, c1, c2, d3.tr c3⟩
      · have : k = b_n B v := by omega
        subst this
        rw [if_pos (nI_le (Nat.le_refl _) (by omega))]
        exact ⟨s, rfl, h3, Sd.rf⟩
  exact key fu 0 s (Nat.zero_le _) (by unfold fu; omega) hl h
/-- what a word brings, without the point -/
noncomputable def mnW (B : Bk) (T : Tx) (i : Nat) : List Nat := if ins B T i = -1 then addW (mnd B T i) (t_w T i) else if ch B T i ≠ -1 then addT (mnd B T i) (b_w B (ins B T i).toNatClampNeg) (kn B (ins B T i)) else mnd B T i
theorem mnd_s (i : Nat) : mnd B T (i + 1) = mnW B T i ++ (@ite _ (eS T i) (eSD T i) [46] []) := by rw [mnd]; rfl
theorem mnW_len (hB : Bok B) (hT : Tok T) {i : Nat} (hi : i < t_c T) : (mnW B T i).length ≤ (mnd B T i).length + 51 := by
  unfold mnW
  have hw := (hT.2.1 i hi).1.2.2
  split
  · have := addW_len (mnd B T i) (t_w T i)
    omega
  · rename_i hne
    split
    · rcases ins_or (T := T) hB i with ⟨-, -, a2⟩ | ⟨k, u, a1, a2, a3, a4, a5, a6, a7, a8⟩
      · exact absurd a2 hne
      · rcases pr_ok hB a2 with g | ⟨v, g1, g2⟩
        · rw [a7] at hne; exact absurd g hne
        · have h8 := hB.1
          rw [a7, g2]
          unfold kn
          rw [nI_clamp (by omega)]
          have := addT_len (mnd B T i) (b_w B v) (b_n B v)
          have := (hB.2.2.1 v g1).2.2.2.2.2
          omega
    · omega
theorem mnd_len (hB : Bok B) (hT : Tok T) : ∀ i, i ≤ t_c T → (mnd B T i).length ≤ 52 * i := by
  intro i
  induction i with
  | zero => intro _; exact Nat.le_refl _
  | succ i ih =>
    intro hi
    have h1 := ih (by omega)
    have h2 := mnW_len hB hT (show i < t_c T by omega)
    rw [mnd_s, List.length_append]
    split <;> simp <;> omega
end AS
