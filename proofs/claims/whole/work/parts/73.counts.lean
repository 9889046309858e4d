/-! counts -/
/-- the step of the reference's counting -/
def ctH (s : Sg) (c1 : Int32) (g : Nat → Nat → Nat) (c m : Nat) : Prop := ∀ (kk : Int32 → Option (Int32 × Sg)) (n i t y : Nat), i < c → (t < m → f_X8_counts_L19 kk s c1 (nI i) (n + 1) (nI y) (nI t) = f_X8_counts_L19 kk s c1 (nI i) n (nI (y + g i t)) (nI (t + 1))) ∧ (t = m → f_X8_counts_L19 kk s c1 (nI i) (n + 1) (nI y) (nI t) = kk (nI y))
theorem counts8_g {s : Sg} {c1 : Int32} {g : Nat → Nat → Nat} {c m : Nat} (H : ctH s c1 g c m) (hc : c ≤ 60) (hm : m ≤ 8) (hx : s.1 43 6 = nI c) : f_X8_counts_L8 (fun (v38 : Int32) => some (v38, s)) s c1 fu 0 0 = some (nI (sumN (fun i => sumN (g i) m) c), s) := by
  have inner : ∀ (kk : Int32 → Option (Int32 × Sg)) i y, i < c → ∀ n t, t ≤ m → m < n + t → f_X8_counts_L19 kk s c1 (nI i) n (nI (y + sumN (g i) t)) (nI t) = kk (nI (y + sumN (g i) m)) := by
    intro kk i y hi n
    induction n with
    | zero => intro t h1 h2; omega
    | succ n ih =>
      intro t h1 h2
      by_cases z : t = m
      · subst z
        exact (H kk n i t _ hi).2 rfl
      · rw [(H kk n i t _ hi).1 (by omega), Nat.add_assoc]
        exact ih (t + 1) (by omega) (by omega)
  have key : ∀ n i, i ≤ c → c < n + i → f_X8_counts_L8 (fun (v38 : Int32) => some (v38, s)) s c1 n (nI (sumN (fun i => sumN (g i) m) i)) (nI i) = some (nI (sumN (fun i => sumN (g i) m) c), s) := by
    intro n
    induction n with
    | zero => intro i h1 h2; omega
    | succ n ih =>
      intro i h1 h2
      rw [f_X8_counts_L8, hx]
      by_cases z : i = c
      · subst z
        rw [if_pos (nI_le (Nat.le_refl _) (by omega))]
      · rw [if_neg (fun z => by have := (nI_leI (by omega) (by omega)).mp z; omega), nI_1]
        refine (inner (fun (v36 : Int32) => f_X8_counts_L8 (fun (v38 : Int32) => some (v38, s)) s c1 n (v36) (nI (i + 1))) i (sumN (fun i => sumN (g i) m) i) (by omega) fu 0 (Nat.zero_le _) (by unfold fu; omega)).trans ?_
        exact ih (i + 1) (by omega) (by omega)
  exact key fu 0 (Nat.zero_le _) (by unfold fu; omega)
noncomputable def g2 (B : Bk) (T : Tx) (i t : Nat) : Nat := if ch B T i = nI t then b_n B t else 0
noncomputable def g3 (B : Bk) (T : Tx) (i t : Nat) : Nat := if ch B T i = nI t then (if b_pr B t = -1 then 0 else 1) else 0
section CN
variable {B : Bk} {T : Tx} {s : Sg}
theorem ct_0 (hB : Bok B) (hT : Tok T) (hb : bookP (s.1 44) B) (hx : txR s T) : ctH s 0 (ind (QF B T)) (t_c T) (b_tc B) := by
  have h8 := hB.1
  have h60 := hT.1
  intro kk n i t y hi
  rw [f_X8_counts_L19, show rI s 44 475 0 = rI (α := Int32 × Sg) s 44 475 (nI 0) from rfl, rI_n (by omega) (by decide), hb.1]
  refine ⟨fun ht => ?_, fun ht => ?_⟩
  · rw [if_neg (fun z => by have := (nI_leI (by omega) (by omega)).mp z; omega), rI_n (by omega) (by decide)]
    dsimp only [jn]
    have e0 : (if (0 : Int32) = 0 then cP (f_X8_isFound s (nI t) (nI i)) fun x31 => if x31 = 0 then f_X8_counts_L19 kk s 0 (nI i) n (nI y + 0) (nI t + 1) else if (0 : Int32) = 2 then cP (f_X8_termAt s (nI t)) fun x16 => rI s 44 475 (x16 + 0) fun x18 => f_X8_counts_L19 kk s 0 (nI i) n (nI y + x18) (nI t + 1) else f_X8_counts_L19 kk s 0 (nI i) n (nI y + 1) (nI t + 1) else none) = f_X8_counts_L19 kk s 0 (nI i) n (nI (y + ind (QF B T) i t)) (nI (t + 1)) := by
      rw [if_pos rfl, isFound8_s hx hT hb hB (by omega) ht, cP_s]
      by_cases z : fB B T t i = true
      · rw [bI_t z, if_neg (by decide), if_neg (by decide), nI_1, nI_1, ind_t (Q := QF B T) (j := i) (u := t) z]
      · rw [bI_f z, if_pos rfl, nI_p0, nI_1, ind_f (Q := QF B T) (j := i) (u := t) z]
        rfl
    rw [if_pos rfl] at e0
    by_cases w : s.1 53 i = nI t
    · rw [if_pos w, if_pos rfl]; exact e0
    · rw [if_neg w, if_pos rfl]; exact e0
  · subst ht
    rw [if_pos (nI_le (Nat.le_refl _) (by omega))]
theorem ct_1 (hB : Bok B) (hT : Tok T) (hb : bookP (s.1 44) B) (hc : ∀ j, j < t_c T → s.1 53 j = ch B T j) : ctH s 1 (ind (QC B T)) (t_c T) (b_tc B) := by
  have h8 := hB.1
  have h60 := hT.1
  intro kk n i t y hi
  rw [f_X8_counts_L19, show rI s 44 475 0 = rI (α := Int32 × Sg) s 44 475 (nI 0) from rfl, rI_n (by omega) (by decide), hb.1]
  refine ⟨fun ht => ?_, fun ht => ?_⟩
  · rw [if_neg (fun z => by have := (nI_leI (by omega) (by omega)).mp z; omega), rI_n (by omega) (by decide), hc i hi]
    dsimp only [jn]
    by_cases w : ch B T i = nI t
    · rw [if_pos w, if_neg (by decide), if_neg (by decide), if_pos (by decide), if_neg (by decide), if_neg (by decide), nI_1, nI_1, ind_t (Q := QC B T) (j := i) (u := t) (decide_eq_true w)]
    · rw [if_neg w, if_neg (by decide), if_pos rfl, if_pos rfl, nI_p0, nI_1, ind_f (Q := QC B T) (j := i) (u := t) (fun g => w (of_decide_eq_true g))]
      rfl
  · subst ht
    rw [if_pos (nI_le (Nat.le_refl _) (by omega))]
theorem ct_2 (hB : Bok B) (hT : Tok T) (hb : bookP (s.1 44) B) (hc : ∀ j, j < t_c T → s.1 53 j = ch B T j) : ctH s 2 (g2 B T) (t_c T) (b_tc B) := by
  have h8 := hB.1
  have h60 := hT.1
  intro kk n i t y hi
  rw [f_X8_counts_L19, show rI s 44 475 0 = rI (α := Int32 × Sg) s 44 475 (nI 0) from rfl, rI_n (by omega) (by decide), hb.1]
  refine ⟨fun ht => ?_, fun ht => ?_⟩
  · rw [if_neg (fun z => by have := (nI_leI (by omega) (by omega)).mp z; omega), rI_n (by omega) (by decide), hc i hi]
    dsimp only [jn]
    unfold g2
    by_cases w : ch B T i = nI t
    · rw [if_pos w, if_neg (by decide), if_neg (by decide), if_pos (by decide), if_neg (by decide), if_pos rfl, termAt8_s, cP_s, nI_p0, rI_n (by omega) (by decide), (hb.2.2.1 t ht).1, nI_add, nI_1, if_pos w]
    · rw [if_neg w, if_neg (by decide), if_pos rfl, if_pos rfl, nI_p0, nI_1, if_neg w]
      rfl
  · subst ht
    rw [if_pos (nI_le (Nat.le_refl _) (by omega))]
theorem ct_3 (hB : Bok B) (hT : Tok T) (hb : bookP (s.1 44) B) (hc : ∀ j, j < t_c T → s.1 53 j = ch B T j) : ctH s 3 (g3 B T) (t_c T) (b_tc B) := by
  have h8 := hB.1
  have h60 := hT.1
  intro kk n i t y hi
  rw [f_X8_counts_L19, show rI s 44 475 0 = rI (α := Int32 × Sg) s 44 475 (nI 0) from rfl, rI_n (by omega) (by decide), hb.1]
  refine ⟨fun ht => ?_, fun ht => ?_⟩
  · rw [if_neg (fun z => by have := (nI_leI (by omega) (by omega)).mp z; omega), rI_n (by omega) (by decide), hc i hi]
    dsimp only [jn]
    unfold g3
    by_cases w : ch B T i = nI t
    · rw [if_pos w, if_neg (by decide), if_neg (by decide), if_neg (by decide), termAt8_s, cP_s, nI_p3, rI_n (by omega) (by decide), (hb.2.2.1 t ht).2.2.2.1, if_pos w]
      by_cases z : b_pr B t = -1
      · rw [if_pos z, if_pos rfl, nI_p0, nI_1, if_pos z]
        rfl
      · rw [if_neg z, if_neg (by decide), if_neg (by decide), nI_1, nI_1, if_neg z]
    · rw [if_neg w, if_neg (by decide), if_pos rfl, if_pos rfl, nI_p0, nI_1, if_neg w]
      rfl
  · subst ht
    rw [if_pos (nI_le (Nat.le_refl _) (by omega))]
/-- one of them at most -/
theorem sum_one {j u : Nat} {g : Nat → Nat} (hu : u < 2 ^ 31) (h : ch B T j = nI u) : ∀ t, t < 2 ^ 31 → sumN (fun t => if ch B T j = nI t then g t else 0) t = if u < t then g u else 0 := by
  intro t
  induction t with
  | zero => intro _; rfl
  | succ t ih =>
    intro ht
    show sumN (fun t => if ch B T j = nI t then g t else 0) t + (if ch B T j = nI t then g t else 0) = _
    rw [ih (by omega)]
    by_cases z : u = t
    · rw [if_neg (by omega), if_pos (by rw [h, z]), if_pos (by omega), z, Nat.zero_add]
    · rw [if_neg (fun g => z ((nI_eq hu (by omega)).mp (h.symm.trans g)))]
      by_cases y : u < t
      · rw [if_pos y, if_pos (by omega)]; rfl
      · rw [if_neg y, if_neg (by omega)]
theorem sum_no {j : Nat} {g : Nat → Nat} (h : ch B T j = -1) : ∀ t, t < 2 ^ 31 → sumN (fun t => if ch B T j = nI t then g t else 0) t = 0 := by
  intro t
  induction t with
  | zero => intro _; rfl
  | succ t ih =>
    intro ht
    show sumN (fun t => if ch B T j = nI t then g t else 0) t + (if ch B T j = nI t then g t else 0) = _
    rw [ih (by omega), if_neg (fun e => nI_m1 (show t < 2 ^ 31 by omega) (e.symm.trans h))]
theorem sum_all (hB : Bok B) {g : Nat → Nat} : ∀ c, sumN (fun i => sumN (fun t => if ch B T i = nI t then g t else 0) (b_tc B)) c = sumN (fun j => if ch B T j = -1 then 0 else g (ch B T j).toNatClampNeg) c := by
  have h8 := hB.1
  intro c
  refine sumN_cg (fun i _ => ?_)
  rcases ch_or (T := T) hB i with ⟨e, -⟩ | ⟨-, u, hu, -, -, e, -⟩
  · rw [sum_no e _ (by omega), if_pos e]
  · rw [sum_one (by omega) e _ (by omega), if_pos hu, e, if_neg (nI_m1 (by omega)), nI_clamp (by omega)]
theorem ct_k (hB : Bok B) {k : Nat} (hk : k < cc B T (t_c T)) : ∃ i u, i < t_c T ∧ u < b_tc B ∧ ch B T i = nI u ∧ cc B T i = k := by
  obtain ⟨i, t, hi, ht, hq, hp⟩ := pf_ex (Q := QC B T) (m := b_tc B) (c := t_c T) (k := k) (by rw [rcnC hB]; exact hk)
  have hch : ch B T i = nI t := of_decide_eq_true hq
  exact ⟨i, t, hi, ht, hch, by rw [← pfC hB ht hch]; exact hp⟩
theorem wordsChosen7_s (hB : Bok B) (hT : Tok T) (hl : lexC s B) (hst : stl s B T) : f_X4_wordsChosen s = some (nI (sumN (fun i => sumN (g2 B T i) (b_tc B)) (t_c T))) := by
  have h8 := hB.1
  have h60 := hT.1
  have hcl := cc_le (B := B) (T := T) (t_c T)
  obtain ⟨-, -, -, q3, q4, -⟩ := hst
  have key : ∀ n k, k ≤ cc B T (t_c T) → cc B T (t_c T) < n + k → f_X4_wordsChosen_L4 (fun (v8 : Int32) => some v8) s n (nI (sumN (fun k => b_n B (s.1 38 k).toNatClampNeg) k)) (nI k) = some (nI (sumN (fun k => b_n B (s.1 38 k).toNatClampNeg) (cc B T (t_c T)))) := by
    intro n
    induction n with
    | zero => intro k h1 h2; omega
    | succ n ih =>
      intro k h1 h2
      rw [f_X4_wordsChosen_L4, q3]
      by_cases z : k = cc B T (t_c T)
      · rw [if_pos (nI_le (by omega) (by omega)), z]
      · obtain ⟨i, u, hi, hu, hch, hcc⟩ := ct_k hB (show k < cc B T (t_c T) by omega)
        have hr := (q4 i hi (by rw [hch]; exact nI_m1 (by omega))).2
        rw [hcc, hch] at hr
        have e : sumN (fun k => b_n B (s.1 38 k).toNatClampNeg) (k + 1) = sumN (fun k => b_n B (s.1 38 k).toNatClampNeg) k + b_n B u := by
          show _ + b_n B (s.1 38 k).toNatClampNeg = _
          rw [hr, nI_clamp (by omega)]
        rw [if_neg (fun z => by have := (nI_leI (by omega) (by omega)).mp z; omega), rI_n (by omega) (by decide), hr, rI_n (by omega) (by decide), (hl.2.2.1 u hu).1, nI_add, nI_1, ← e]
        exact ih (k + 1) (by omega) (by omega)
  have e := sum_cc (B := B) (T := T) (ct := s.1 38) (g := fun x => b_n B x.toNatClampNeg) (fun i hi hc => (q4 i hi hc).2) (t_c T) (Nat.le_refl _)
  have e2 := sum_all (T := T) hB (g := b_n B) (t_c T)
  have e3 : sumN (fun i => sumN (g2 B T i) (b_tc B)) (t_c T) = sumN (fun k => b_n B (s.1 38 k).toNatClampNeg) (cc B T (t_c T)) := e2.trans e.symm
  rw [e3]
  exact key fu 0 (Nat.zero_le _) (by unfold fu; omega)
theorem insteadCount7_s (hB : Bok B) (hT : Tok T) (hl : lexC s B) (hst : stl s B T) : f_X4_insteadCount s = some (nI (sumN (fun i => sumN (g3 B T i) (b_tc B)) (t_c T))) := by
  have h8 := hB.1
  have h60 := hT.1
  have hcl := cc_le (B := B) (T := T) (t_c T)
  obtain ⟨-, -, -, q3, q4, -⟩ := hst
  have key : ∀ n k, k ≤ cc B T (t_c T) → cc B T (t_c T) < n + k → f_X4_insteadCount_L4 (fun (v10 : Int32) => some v10) s n (nI (sumN (fun k => if b_pr B (s.1 38 k).toNatClampNeg = -1 then 0 else 1) k)) (nI k) = some (nI (sumN (fun k => if b_pr B (s.1 38 k).toNatClampNeg = -1 then 0 else 1) (cc B T (t_c T)))) := by
    intro n
    induction n with
    | zero => intro k h1 h2; omega
    | succ n ih =>
      intro k h1 h2
      rw [f_X4_insteadCount_L4, q3]
      by_cases z : k = cc B T (t_c T)
      · rw [if_pos (nI_le (by omega) (by omega)), z]
      · obtain ⟨i, u, hi, hu, hch, hcc⟩ := ct_k hB (show k < cc B T (t_c T) by omega)
        have hr := (q4 i hi (by rw [hch]; exact nI_m1 (by omega))).2
        rw [hcc, hch] at hr
        have hh := ih (k + 1) (by omega) (by omega)
        have e : sumN (fun k => if b_pr B (s.1 38 k).toNatClampNeg = -1 then 0 else 1) (k + 1) = sumN (fun k => if b_pr B (s.1 38 k).toNatClampNeg = -1 then 0 else 1) k + (if b_pr B u = -1 then 0 else 1) := by
          show _ + (if b_pr B (s.1 38 k).toNatClampNeg = -1 then 0 else 1) = _
          rw [hr, nI_clamp (by omega)]
        rw [if_neg (fun z => by have := (nI_leI (by omega) (by omega)).mp z; omega), rI_n (by omega) (by decide), hr, isForbidden7_s hl hB hu, cP_s]
        dsimp only [jn]
        rw [e] at hh
        by_cases y : b_pr B u = -1
        · rw [if_pos y] at hh
          rw [bI_f (fun g => g y), if_pos rfl, nI_p0, nI_1]
          exact hh
        · rw [if_neg y] at hh
          rw [bI_t y, if_neg (by decide), nI_1, nI_1]
          exact hh
  have e := sum_cc (B := B) (T := T) (ct := s.1 38) (g := fun x => if b_pr B x.toNatClampNeg = -1 then 0 else 1) (fun i hi hc => (q4 i hi hc).2) (t_c T) (Nat.le_refl _)
  have e2 := sum_all (T := T) hB (g := fun t => if b_pr B t = -1 then 0 else 1) (t_c T)
  have e3 : sumN (fun i => sumN (g3 B T i) (b_tc B)) (t_c T) = sumN (fun k => if b_pr B (s.1 38 k).toNatClampNeg = -1 then 0 else 1) (cc B T (t_c T)) := e2.trans e.symm
  rw [e3]
  exact key fu 0 (Nat.zero_le _) (by unfold fu; omega)
end CN
