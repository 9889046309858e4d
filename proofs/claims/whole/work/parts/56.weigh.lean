/-! weighing: the best at each word, from the last back -/
theorem n1_add (a : Nat) : 1 + nI a = nI (1 + a) := nI_add 1 a
theorem add_m1 (x : Int32) : x + (-1) = x - 1 := (Int32.sub_eq_add_neg x 1).symm
section WG
variable {B : Bk} {T : Tx}
theorem we_le (hB : Bok B) {t : Nat} (ht : t < b_tc B) : b_we B t * b_n B t ≤ 36 := by
  have h := hB.2.2.1 t ht
  have := Nat.mul_le_mul h.2.1.2 h.1.2
  omega
theorem isFound7_s {s : Sg} (hk : lookP (s.1 32) (s.1 33) B T (t_c T)) (hT : Tok T) {i t : Nat} (hi : i < t_c T) (ht : t < 32) : f_X4_isFound s (nI i) (nI t) = some (bI (t < b_tc B ∧ fnd B T t i)) := by
  have h60 := hT.1
  unfold f_X4_isFound
  rw [rI_n (by omega) (by decide)]
  have hiff : bt (s.1 33 i) t = true ↔ t < b_tc B ∧ fnd B T t i := hk.2 i hi t ht
  by_cases z : bt (s.1 33 i) t = true
  · rw [if_neg (fun y => by rw [bt_test ht] at y; rw [y] at z; cases z), bI_t (hiff.mp z)]
  · rw [if_pos ((bt_test ht).mpr (ts_nt z)), bI_f (fun y => z (hiff.mpr y))]
theorem isFound7_t {s : Sg} (hk : lookP (s.1 32) (s.1 33) B T (t_c T)) (hT : Tok T) (hB : Bok B) {i t : Nat} (hi : i < t_c T) (ht : t < b_tc B) : f_X4_isFound s (nI i) (nI t) = some (bI (fB B T t i = true)) := by
  have h8 := hB.1
  rw [isFound7_s hk hT hi (by omega)]
  exact congrArg some (bI_cg ⟨fun h => fB_iff.mpr h.2, fun h => ⟨ht, fB_iff.mp h⟩⟩)
theorem isBetter7_s {s : Sg} (hl : lexC s B) (hB : Bok B) {i t wo fe p1 p2 : Nat} {p3 : Int32} (hi : i < 60) (ht : t < b_tc B) (h1 : s.1 34 i = nI p1) (h2 : s.1 35 i = nI p2) (h3 : s.1 36 i = p3) (hp : p3 = -1 ∨ ∃ u, u < b_tc B ∧ p3 = nI u) (b1 : p1 < 2 ^ 31) (b2 : p2 < 2 ^ 31) (b3 : wo < 2 ^ 31) (b4 : fe < 2 ^ 31) : f_X4_isBetter s (nI i) (nI t) (nI wo) (nI fe) = some (bI (bet B (p1, p2, p3) wo fe t)) := by
  have h8 := hB.1
  unfold f_X4_isBetter bet
  rw [rI_n (by omega) (by decide), h1]
  by_cases z : wo = p1
  · rw [if_pos (by rw [z]), rI_n (by omega) (by decide), h2]
    by_cases y : fe = p2
    · rw [if_pos (by rw [y]), rI_n hi (by decide), h3]
      rcases hp with rfl | ⟨u, hu, rfl⟩
      · rw [if_pos rfl]
        exact congrArg some (bI_t (Or.inr ⟨z, Or.inr ⟨y, Or.inl rfl⟩⟩)).symm
      · have hnt := (hB.2.2.1 t ht).1
        have hnu := (hB.2.2.1 u hu).1
        rw [if_neg (nI_m1 (by omega)), rI_n (by omega) (by decide), rI_n hi (by decide), h3, rI_n (by omega) (by decide), (hl.2.2.1 t ht).1, (hl.2.2.1 u hu).1]
        by_cases w : b_n B t ≤ b_n B u
        · rw [if_pos (nI_le w (by omega))]
          refine congrArg some (bI_f ?_).symm
          rintro (g | ⟨-, g | ⟨-, g | g⟩⟩)
          · have g : p1 < wo := g
            omega
          · have g : fe < p2 := g
            omega
          · exact nI_m1 (by omega) g
          · have g : b_n B (nI u).toNatClampNeg < b_n B t := g
            rw [nI_clamp (by omega)] at g
            omega
        · rw [if_neg (fun g => w ((nI_leI (by omega) (by omega)).mp g))]
          refine congrArg some (bI_t (Or.inr ⟨z, Or.inr ⟨y, Or.inr ?_⟩⟩)).symm
          show b_n B (nI u).toNatClampNeg < b_n B t
          rw [nI_clamp (by omega)]
          omega
    · rw [if_neg (fun g => y ((nI_eq b4 b2).mp g)), rI_n (by omega) (by decide), h2]
      by_cases w : p2 ≤ fe
      · rw [if_pos (nI_le w b4)]
        refine congrArg some (bI_f ?_).symm
        rintro (g | ⟨-, g | ⟨g, -⟩⟩)
        · have g : p1 < wo := g
          omega
        · have g : fe < p2 := g
          omega
        · exact y g
      · rw [if_neg (fun g => w ((nI_leI b2 b4).mp g))]
        refine congrArg some (bI_t (Or.inr ⟨z, Or.inl ?_⟩)).symm
        show fe < p2
        omega
  · rw [if_neg (fun g => z ((nI_eq b3 b1).mp g)), rI_n (by omega) (by decide), h1]
    by_cases w : wo ≤ p1
    · rw [if_pos (nI_le w b1)]
      refine congrArg some (bI_f ?_).symm
      rintro (g | ⟨g, -⟩)
      · have g : p1 < wo := g
        omega
      · exact z g
    · rw [if_neg (fun g => w ((nI_leI b3 b1).mp g))]
      refine congrArg some (bI_t (Or.inl ?_)).symm
      show p1 < wo
      omega
theorem stp_ok (hB : Bok B) {W F : Nat → Nat} {i M N : Nat} (hW : ∀ j, W j ≤ M) (hF : ∀ j, F j ≤ N) : ∀ t, t ≤ b_tc B → (stp B T W F i t).1 ≤ 36 + M ∧ (stp B T W F i t).2.1 ≤ 1 + N ∧ ((stp B T W F i t).2.2 = -1 ∨ ∃ u, u < t ∧ fnd B T u i ∧ (stp B T W F i t).2.2 = nI u) := by
  intro t
  induction t with
  | zero =>
    intro _
    have h1 := hW (i + 1)
    have h2 := hF (i + 1)
    refine ⟨?_, ?_, Or.inl rfl⟩
    · show W (i + 1) ≤ 36 + M
      omega
    · show F (i + 1) ≤ 1 + N
      omega
  | succ t ih =>
    intro ht
    obtain ⟨h1, h2, h3⟩ := ih (by omega)
    rw [stp]
    by_cases z : fB B T t i = true ∧ bet B (stp B T W F i t) (b_we B t * b_n B t + W (i + b_n B t)) (1 + F (i + b_n B t)) t
    · rw [if_pos z]
      have h4 := we_le hB (show t < b_tc B by omega)
      have h5 := hW (i + b_n B t)
      have h6 := hF (i + b_n B t)
      refine ⟨?_, ?_, Or.inr ⟨t, by omega, fB_iff.mp z.1, rfl⟩⟩
      · show b_we B t * b_n B t + W (i + b_n B t) ≤ 36 + M
        omega
      · show 1 + F (i + b_n B t) ≤ 1 + N
        omega
    · rw [if_neg z]
      refine ⟨h1, h2, ?_⟩
      rcases h3 with h3 | ⟨u, g1, g2⟩
      · exact Or.inl h3
      · exact Or.inr ⟨u, by omega, g2⟩
theorem dp_ok (hB : Bok B) : ∀ d j, (dp B T d).1 j ≤ 36 * d ∧ (dp B T d).2.1 j ≤ d ∧ ((dp B T d).2.2 j = -1 ∨ ∃ u, u < b_tc B ∧ fnd B T u j ∧ (dp B T d).2.2 j = nI u) := by
  intro d
  induction d with
  | zero => intro j; exact ⟨Nat.zero_le _, Nat.zero_le _, Or.inl rfl⟩
  | succ d ih =>
    intro j
    obtain ⟨h1, h2, h3⟩ := ih j
    have hs := stp_ok (T := T) hB (i := t_c T - (d + 1)) (fun j => (ih j).1) (fun j => (ih j).2.1) (b_tc B) (Nat.le_refl _)
    rw [dp]
    by_cases z : j = t_c T - (d + 1)
    · obtain ⟨s1, s2, s3⟩ := hs
      refine ⟨?_, ?_, ?_⟩
      · show (if j = t_c T - (d + 1) then _ else _) ≤ _
        rw [if_pos z]; omega
      · show (if j = t_c T - (d + 1) then _ else _) ≤ _
        rw [if_pos z]; omega
      · show (if j = t_c T - (d + 1) then _ else _) = _ ∨ ∃ u, u < b_tc B ∧ fnd B T u j ∧ (if j = t_c T - (d + 1) then _ else _) = _
        rw [if_pos z, z]
        exact s3
    · refine ⟨?_, ?_, ?_⟩
      · show (if j = t_c T - (d + 1) then _ else _) ≤ _
        rw [if_neg z]; omega
      · show (if j = t_c T - (d + 1) then _ else _) ≤ _
        rw [if_neg z]; omega
      · show (if j = t_c T - (d + 1) then _ else _) = _ ∨ ∃ u, u < b_tc B ∧ fnd B T u j ∧ (if j = t_c T - (d + 1) then _ else _) = _
        rw [if_neg z]
        exact h3
theorem tk_ok (hB : Bok B) (j : Nat) : tk B T j = -1 ∨ ∃ u, u < b_tc B ∧ fnd B T u j ∧ tk B T j = nI u := (dp_ok hB (t_c T) j).2.2
theorem wth_le (hB : Bok B) (hT : Tok T) (j : Nat) : wth B T j ≤ 2160 := by
  have h := (dp_ok (T := T) hB (t_c T) j).1
  have h60 := hT.1
  show (dp B T (t_c T)).1 j ≤ 2160
  omega
/-- only row i of the three -/
def Sx (i : Nat) (s s' : Sg) : Prop := Sm [34, 35, 36] [] s s' ∧ ∀ j, j ≠ i → s'.1 34 j = s.1 34 j ∧ s'.1 35 j = s.1 35 j ∧ s'.1 36 j = s.1 36 j
theorem Sx.rf {i : Nat} {s : Sg} : Sx i s s := ⟨Sm.rf, fun _ _ => ⟨rfl, rfl, rfl⟩⟩
theorem Sx.tr {i : Nat} {a b c : Sg} (h1 : Sx i a b) (h2 : Sx i b c) : Sx i a c := ⟨h1.1.tr h2.1, fun j hj => ⟨((h2.2 j hj).1).trans (h1.2 j hj).1, ((h2.2 j hj).2.1).trans (h1.2 j hj).2.1, ((h2.2 j hj).2.2).trans (h1.2 j hj).2.2⟩⟩
theorem Sx.i {i k : Nat} {a b : Sg} {v : Int32} (h : Sx i a b) (hk : k = 34 ∨ k = 35 ∨ k = 36) : Sx i a (sI b k i v) := ⟨h.1.i (by rcases hk with rfl | rfl | rfl <;> decide), fun j hj => by
  rw [sI_1, sI_1, sI_1, if_neg (fun z => hj z.2), if_neg (fun z => hj z.2), if_neg (fun z => hj z.2)]
  exact h.2 j hj⟩
theorem weighFrom7_L (hB : Bok B) (hT : Tok T) {i : Nat} (hi : i < t_c T) {W F : Nat → Nat} (hW : ∀ j, W j ≤ 2160) (hF : ∀ j, F j ≤ 60) : ∀ n t s, t ≤ b_tc B → b_tc B < n + t → lexC s B → s.1 26 0 = nI (t_c T) → lookP (s.1 32) (s.1 33) B T (t_c T) → (∀ j, i < j → j ≤ t_c T → s.1 34 j = nI (W j) ∧ s.1 35 j = nI (F j)) → s.1 34 i = nI (stp B T W F i t).1 → s.1 35 i = nI (stp B T W F i t).2.1 → s.1 36 i = (stp B T W F i t).2.2 → ∃ s', f_X4_weighFrom_L37 (fun (s44 : Sg) => some ((), s44)) (nI i) n s (nI t) = some ((), s') ∧ Sx i s s' ∧ s'.1 34 i = nI (stp B T W F i (b_tc B)).1 ∧ s'.1 35 i = nI (stp B T W F i (b_tc B)).2.1 ∧ s'.1 36 i = (stp B T W F i (b_tc B)).2.2 := by
  have h8 := hB.1
  have h60 := hT.1
  intro n
  induction n with
  | zero => intro t s h1 h2; omega
  | succ n ih =>
    intro t s h1 h2 hl h26 hk hr r1 r2 r3
    rw [f_X4_weighFrom_L37, hl.1]
    rcases Nat.lt_or_ge t (b_tc B) with q | q
    · have hn := (hB.2.2.1 t q).1
      rw [if_neg (fun z => by have := (nI_leI (by omega) (by omega)).mp z; omega), rI_n (by omega) (by decide), (hl.2.2.1 t q).1, isFound7_t hk hT hB hi q, cP_s]
      have skip : stp B T W F i (t + 1) = stp B T W F i t → ∃ s', f_X4_weighFrom_L37 (fun (s44 : Sg) => some ((), s44)) (nI i) n s (nI (t + 1)) = some ((), s') ∧ Sx i s s' ∧ s'.1 34 i = nI (stp B T W F i (b_tc B)).1 ∧ s'.1 35 i = nI (stp B T W F i (b_tc B)).2.1 ∧ s'.1 36 i = (stp B T W F i (b_tc B)).2.2 := fun e =>
        ih (t + 1) s (by omega) (by omega) hl h26 hk hr (by rw [e]; exact r1) (by rw [e]; exact r2) (by rw [e]; exact r3)
      by_cases z : fB B T t i = true
      · have hz := (fB_iff.mp z).1
        have hw := we_le hB q
        have hw1 := hW (i + b_n B t)
        have hf1 := hF (i + b_n B t)
        obtain ⟨o1, o2, o3⟩ := stp_ok (T := T) hB (i := i) hW hF t (by omega)
        rw [bI_t z, if_neg (by decide), h26, nI_add, if_neg (nI_nlt hz (by omega)), worthOf7_s hl hB q, cP_s, rI_n (by omega) (by decide), rI_n (by omega) (by decide), (hr _ (by omega) hz).1, (hr _ (by omega) hz).2, nI_add, n1_add, isBetter7_s hl hB (by omega) q r1 r2 r3 (by rcases o3 with g | ⟨u, g1, -, g2⟩; exact Or.inl g; exact Or.inr ⟨u, by omega, g2⟩) (by omega) (by omega) (by omega) (by omega), cP_s, nI_1]
        by_cases w : bet B (stp B T W F i t) (b_we B t * b_n B t + W (i + b_n B t)) (1 + F (i + b_n B t)) t
        · have e : stp B T W F i (t + 1) = (b_we B t * b_n B t + W (i + b_n B t), 1 + F (i + b_n B t), nI t) := by rw [stp, if_pos ⟨z, w⟩]
          rw [bI_t w, if_neg (by decide), wI_n (by omega) (by decide), wI_n (by omega) (by decide), wI_n (by omega) (by decide)]
          have u : Sx i s (sI (sI (sI s 36 i (nI t)) 34 i (nI (b_we B t * b_n B t + W (i + b_n B t)))) 35 i (nI (1 + F (i + b_n B t)))) := ((Sx.rf.i (by decide)).i (by decide)).i (by decide)
          obtain ⟨s', d1, d2, d3⟩ := ih (t + 1) _ (by omega) (by omega) (u.1.lex (by decide) (by decide) hl) (by rw [u.1.1 26 (by decide)]; exact h26) (by rw [u.1.1 32 (by decide), u.1.1 33 (by decide)]; exact hk) (fun j h3 h4 => by rw [(u.2 j (by omega)).1, (u.2 j (by omega)).2.1]; exact hr j h3 h4) (by rw [e, sI_ne _ (by decide), sI_1, if_pos ⟨rfl, rfl⟩]) (by rw [e, sI_1, if_pos ⟨rfl, rfl⟩]) (by rw [e, sI_ne _ (by decide), sI_ne _ (by decide), sI_1, if_pos ⟨rfl, rfl⟩])
          exact ⟨s', d1, u.tr d2, d3⟩
        · rw [bI_f w, if_pos rfl]
          exact skip (by rw [stp, if_neg (fun g => w g.2)])
      · rw [bI_f z, if_pos rfl, nI_1]
        exact skip (by rw [stp, if_neg (fun g => z g.1)])
    · have : t = b_tc B := by omega
      subst this
      rw [if_pos (nI_le (Nat.le_refl _) (by omega))]
      exact ⟨s, rfl, Sx.rf, r1, r2, r3⟩
theorem weigh7_s {s : Sg} (hB : Bok B) (hT : Tok T) (hl : lexC s B) (h26 : s.1 26 0 = nI (t_c T)) (hk : lookP (s.1 32) (s.1 33) B T (t_c T)) : ∃ s', f_X4_weigh s = some ((), s') ∧ Sm [34, 35, 36] [] s s' ∧ (∀ i, i ≤ t_c T → s'.1 34 i = nI (wth B T i) ∧ s'.1 35 i = nI (few B T i)) ∧ ∀ i, i < t_c T → s'.1 36 i = tk B T i := by
  have h8 := hB.1
  have h60 := hT.1
  have key : ∀ n m s, m ≤ t_c T → m < n → lexC s B → s.1 26 0 = nI (t_c T) → lookP (s.1 32) (s.1 33) B T (t_c T) → (∀ j, m ≤ j → j ≤ t_c T → s.1 34 j = nI ((dp B T (t_c T - m)).1 j) ∧ s.1 35 j = nI ((dp B T (t_c T - m)).2.1 j)) → (∀ j, m ≤ j → j < t_c T → s.1 36 j = (dp B T (t_c T - m)).2.2 j) → ∃ s', f_X4_weigh_L36 (fun (s11 : Sg) => some ((), s11)) n s (nI m - 1) = some ((), s') ∧ Sm [34, 35, 36] [] s s' ∧ (∀ i, i ≤ t_c T → s'.1 34 i = nI (wth B T i) ∧ s'.1 35 i = nI (few B T i)) ∧ ∀ i, i < t_c T → s'.1 36 i = tk B T i := by
    intro n
    induction n with
    | zero => intro m s h1 h2; omega
    | succ n ih =>
      intro m s h1 h2 hl h26 hk hr ht
      rw [f_X4_weigh_L36]
      by_cases z : m = 0
      · subst z
        rw [if_pos (show nI 0 - 1 < 0 by decide)]
        exact ⟨s, rfl, Sm.rf, fun i hi => hr i (Nat.zero_le _) hi, fun i hi => ht i (Nat.zero_le _) hi⟩
      · have hd := dp_ok (T := T) hB (t_c T - m)
        have e0 : t_c T - (m - 1) = (t_c T - m) + 1 := by omega
        have e1 : t_c T - ((t_c T - m) + 1) = m - 1 := by omega
        rw [nI_s1 (by omega), if_neg (nI_pos (by omega))]
        unfold f_X4_weighFrom
        rw [wI_n (by omega) (by decide), nI_1, show m - 1 + 1 = m by omega, rI_n (by omega) (by decide), wI_n (by omega) (by decide), rI_n (by omega) (by decide), wI_n (by omega) (by decide), sI_ne s (by decide), (hr m (Nat.le_refl _) h1).1, sI_ne _ (by decide), sI_ne s (by decide), (hr m (Nat.le_refl _) h1).2]
        have u : Sx (m - 1) s (sI (sI (sI s 36 (m - 1) (-1)) 34 (m - 1) (nI ((dp B T (t_c T - m)).1 m))) 35 (m - 1) (nI ((dp B T (t_c T - m)).2.1 m))) := ((Sx.rf.i (by decide)).i (by decide)).i (by decide)
        have e2 : m - 1 + 1 = m := by omega
        obtain ⟨s', d1, d2, d3, d4, d5⟩ := weighFrom7_L hB hT (i := m - 1) (by omega) (W := (dp B T (t_c T - m)).1) (F := (dp B T (t_c T - m)).2.1) (fun j => by have := (hd j).1; omega) (fun j => by have := (hd j).2.1; omega) fu 0 _ (Nat.zero_le _) (by unfold fu; omega) (u.1.lex (by decide) (by decide) hl) (by rw [u.1.1 26 (by decide)]; exact h26) (by rw [u.1.1 32 (by decide), u.1.1 33 (by decide)]; exact hk) (fun j h3 h4 => by rw [(u.2 j (by omega)).1, (u.2 j (by omega)).2.1]; exact hr j (by omega) h4) (by rw [sI_ne _ (by decide), sI_1, if_pos ⟨rfl, rfl⟩, stp, e2]) (by rw [sI_1, if_pos ⟨rfl, rfl⟩, stp, e2]) (by rw [sI_ne _ (by decide), sI_ne _ (by decide), sI_1, if_pos ⟨rfl, rfl⟩, stp])
        have d1 : f_X4_weighFrom_L37 (fun (s44 : Sg) => some ((), s44)) (nI (m - 1)) fu (sI (sI (sI s 36 (m - 1) (-1)) 34 (m - 1) (nI ((dp B T (t_c T - m)).1 m))) 35 (m - 1) (nI ((dp B T (t_c T - m)).2.1 m))) 0 = some ((), s') := d1
        rw [d1, cA_s, add_m1]
        have v := u.tr d2
        have q1 : ∀ j, (dp B T (t_c T - (m - 1))).1 j = if j = m - 1 then (stp B T (dp B T (t_c T - m)).1 (dp B T (t_c T - m)).2.1 (m - 1) (b_tc B)).1 else (dp B T (t_c T - m)).1 j := fun j => by rw [e0, dp, e1]
        have q2 : ∀ j, (dp B T (t_c T - (m - 1))).2.1 j = if j = m - 1 then (stp B T (dp B T (t_c T - m)).1 (dp B T (t_c T - m)).2.1 (m - 1) (b_tc B)).2.1 else (dp B T (t_c T - m)).2.1 j := fun j => by rw [e0, dp, e1]
        have q3 : ∀ j, (dp B T (t_c T - (m - 1))).2.2 j = if j = m - 1 then (stp B T (dp B T (t_c T - m)).1 (dp B T (t_c T - m)).2.1 (m - 1) (b_tc B)).2.2 else (dp B T (t_c T - m)).2.2 j := fun j => by rw [e0, dp, e1]
        obtain ⟨s2, c1, c2, c3⟩ := ih (m - 1) s' (by omega) (by omega) (v.1.lex (by decide) (by decide) hl) (by rw [v.1.1 26 (by decide)]; exact h26) (by rw [v.1.1 32 (by decide), v.1.1 33 (by decide)]; exact hk) (fun j h3 h4 => by
          rw [q1, q2]
          by_cases y : j = m - 1
          · rw [if_pos y, if_pos y, y]; exact ⟨d3, d4⟩
          · rw [if_neg y, if_neg y, (v.2 j y).1, (v.2 j y).2.1]; exact hr j (by omega) h4) (fun j h3 h4 => by
          rw [q3]
          by_cases y : j = m - 1
          · rw [if_pos y, y]; exact d5
          · rw [if_neg y, (v.2 j y).2.2]; exact ht j (by omega) h4)
        exact ⟨s2, c1, v.1.tr c2, c3⟩
  unfold f_X4_weigh
  rw [h26, wI_n (by omega) (by decide), sI_ne s (by decide), h26, wI_n (by omega) (by decide), sI_ne _ (by decide), sI_ne s (by decide), h26]
  have u : Sm [34, 35, 36] [] s (sI (sI s 34 (t_c T) 0) 35 (t_c T) 0) := (Sm.rf.i (by decide)).i (by decide)
  obtain ⟨s', c1, c2, c3⟩ := key fu (t_c T) (sI (sI s 34 (t_c T) 0) 35 (t_c T) 0) (Nat.le_refl _) (by unfold fu; omega) (u.lex (by decide) (by decide) hl) (by rw [u.1 26 (by decide)]; exact h26) (by rw [u.1 32 (by decide), u.1 33 (by decide)]; exact hk) (fun j h3 h4 => by
    have : j = t_c T := by omega
    subst this
    rw [Nat.sub_self, sI_ne _ (by decide), sI_1, if_pos ⟨rfl, rfl⟩, sI_1, if_pos ⟨rfl, rfl⟩]
    exact ⟨rfl, rfl⟩) (fun j h3 h4 => by omega)
  exact ⟨s', c1, u.tr c2, c3⟩
end WG
