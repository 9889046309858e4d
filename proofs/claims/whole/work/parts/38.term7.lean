/-- there is such a term -/
def hasT (B : Bk) (m : Nat) (g : Nat → List Nat) : Prop := ∃ t, t < b_tc B ∧ b_n B t = m ∧ ∀ k, k < m → b_w B t k = g k
section LY
variable {σ : Sg} {B : Bk}
theorem hasWords7_s (hl : lexC σ B) (hB : Bok B) {t m : Nat} {g : Nat → List Nat} (ht : t < b_tc B) (hm : b_n B t = m) (hg : ∀ k, k < m → wok 12 (g k)) (h3 : ∀ k, k < m → σ.2 3 k = eL (g k)) : f_X1_hasWords σ (nI t) = some (bI (∀ k, k < m → b_w B t k = g k)) := by
  have h8 := hB.1
  have hT := hB.2.2.1 t ht
  subst hm
  have h4 := hT.1
  have key : ∀ n k, k ≤ b_n B t → b_n B t < n + k → (∀ u, u < k → b_w B t u = g u) → f_X1_hasWords_L2 (some 1) σ (nI t) n (nI k) = some (bI (∀ k, k < b_n B t → b_w B t k = g k)) := by
    intro n
    induction n with
    | zero => intro k h h'; omega
    | succ n ih =>
      intro k hk hn hu
      rw [f_X1_hasWords_L2, rI_n (by omega) (by decide), (hl.2.2.1 t ht).1]
      rcases Nat.lt_or_ge k (b_n B t) with q | q
      · rw [if_neg (fun hc => by have := (nI_leI (by omega) (by omega)).mp hc; omega), if_neg (fun hc => by have := (c_ge 4 (by omega) (by decide)).mp hc; omega), wordOf7_s hl hB ht q, cP_s, rL_n (by omega) (by decide), h3 k q]
        have w1 := hT.2.2.2.2.1 k q
        have w2 := hg k q
        have hiff : lg_cmp (eL (b_w B t k)) (eL (g k)) = 0 ↔ b_w B t k = g k := by rw [lg_cmp_0, eL_inj w1.1 w2.1 w1.2.2 w2.2.2]
        by_cases h : b_w B t k = g k
        · rw [if_pos (hiff.mpr h), nI_1]
          exact ih (k + 1) (by omega) (by omega) (fun u hu2 => by
            rcases Nat.lt_or_ge u k with z | z
            · exact hu u z
            · have : u = k := by omega
              rw [this]; exact h)
        · rw [if_neg (fun hc => h (hiff.mp hc)), bI_f (fun hc => h (hc k q))]
      · have : k = b_n B t := by omega
        rw [if_pos (nI_le (by omega) (by omega)), bI_t (fun u hu2 => hu u (by omega))]
  exact key fu 0 (Nat.zero_le _) (by unfold fu; omega) (fun u h => absurd h (Nat.not_lt_zero u))
theorem hasTerm7_s (hl : lexC σ B) (hB : Bok B) {m : Nat} {g : Nat → List Nat} (hm4 : m ≤ 4) (hg : ∀ k, k < m → wok 12 (g k)) (h3 : ∀ k, k < m → σ.2 3 k = eL (g k)) : f_X1_hasTerm σ (nI m) = some (bI (hasT B m g)) := by
  have h8 := hB.1
  have key : ∀ n t, t ≤ b_tc B → b_tc B < n + t → (∀ u, u < t → ¬ (b_n B u = m ∧ ∀ k, k < m → b_w B u k = g k)) → f_X1_hasTerm_L2 (some 0) σ (nI m) n (nI t) = some (bI (hasT B m g)) := by
    intro n
    induction n with
    | zero => intro t h h'; omega
    | succ n ih =>
      intro t ht hn hu
      rw [f_X1_hasTerm_L2, hl.1]
      rcases Nat.lt_or_ge t (b_tc B) with q | q
      · have hT := hB.2.2.1 t q
        have hnext : ¬ (b_n B t = m ∧ ∀ k, k < m → b_w B t k = g k) → f_X1_hasTerm_L2 (some 0) σ (nI m) n (nI t + 1) = some (bI (hasT B m g)) := fun h => by
          rw [nI_1]
          exact ih (t + 1) (by omega) (by omega) (fun u hu2 => by
            rcases Nat.lt_or_ge u t with z | z
            · exact hu u z
            · have : u = t := by omega
              rw [this]; exact h)
        rw [if_neg (fun hc => by have := (nI_leI (by omega) (by omega)).mp hc; omega), rI_n (by omega) (by decide), (hl.2.2.1 t q).1]
        have hT4 := hT.1
        by_cases hm : b_n B t = m
        · rw [if_pos (by rw [hm]), hasWords7_s hl hB q hm hg h3, cP_s]
          by_cases hw : ∀ k, k < m → b_w B t k = g k
          · rw [bI_t hw, if_neg (by decide), bI_t ⟨t, q, hm, hw⟩]
          · rw [bI_f hw, if_pos rfl]
            exact hnext (fun hc => hw hc.2)
        · rw [if_neg (fun hc => hm ((nI_eq (by omega) (by omega)).mp hc))]
          exact hnext (fun hc => hm hc.1)
      · have : t = b_tc B := by omega
        subst this
        rw [if_pos (nI_le (Nat.le_refl _) (by omega)), bI_f (by rintro ⟨u, h1, h2⟩; exact hu u h1 h2)]
  exact key fu 0 (Nat.zero_le _) (by unfold fu; omega) (fun u h => absurd h (Nat.not_lt_zero u))
/-- a term more -/
def addB (B : Bk) (m : Nat) (g : Nat → List Nat) (we be : Nat) : Bk :=
  (b_tc B + 1, b_ec B, fun t => if t = b_tc B then m else b_n B t, fun t => if t = b_tc B then g else b_w B t, fun t => if t = b_tc B then we else b_we B t, fun t => if t = b_tc B then be else b_be B t, fun t => if t = b_tc B then -1 else b_pr B t, b_en B)
theorem addB_ok (hB : Bok B) {m we be : Nat} {g : Nat → List Nat} (ht : b_tc B < 8) (hm : 1 ≤ m ∧ m ≤ 4) (hwe : 1 ≤ we ∧ we ≤ 9) (hbe : be ≤ 1) (hg : ∀ k, k < m → wok 12 (g k)) (hs : b_sum g m ≤ 51) : Bok (addB B m g we be) := by
  refine ⟨by show b_tc B + 1 ≤ 8; omega, hB.2.1, fun t htt => ?_, hB.2.2.2⟩
  have htt : t < b_tc B + 1 := htt
  by_cases h : t = b_tc B
  · subst h
    unfold Tmok b_n b_we b_be b_pr b_w addB
    simp only [if_true]
    exact ⟨hm, hwe, hbe, Or.inl trivial, hg, hs⟩
  · obtain ⟨c1, c2, c3, c4, c5, c6⟩ := hB.2.2.1 t (by omega)
    have en : b_n (addB B m g we be) t = b_n B t := if_neg h
    have ewe : b_we (addB B m g we be) t = b_we B t := if_neg h
    have ebe : b_be (addB B m g we be) t = b_be B t := if_neg h
    have epr : b_pr (addB B m g we be) t = b_pr B t := if_neg h
    have ew : b_w (addB B m g we be) t = b_w B t := if_neg h
    unfold Tmok
    rw [en, ewe, ebe, epr, ew]
    refine ⟨c1, c2, c3, ?_, c5, c6⟩
    rcases c4 with c4 | ⟨u, hu, c4⟩
    · exact Or.inl c4
    · exact Or.inr ⟨u, Nat.lt_succ_of_lt hu, c4⟩
theorem addTerm7_s (hl : lexC σ B) (hB : Bok B) {m we be : Nat} {g : Nat → List Nat} (ht : b_tc B < 8) (hm4 : m ≤ 4) (h3 : ∀ k, k < m → σ.2 3 k = eL (g k)) : ∃ s', f_X1_addTerm_4_3 σ (nI m) (nI we) (nI be) = some (nI (b_tc B), s') ∧ lexC s' (addB B m g we be) ∧ Sm [4, 6, 7, 8, 9] [5] σ s' := by
  have hT := hB.2.2.1
  -- the words
  have key : ∀ (kk : Sg → Option (Int32 × Sg)) (n k : Nat) (s : Sg), k ≤ m → m < n + k → s.1 = σ.1 → (∀ a, a ≠ 5 → s.2 a = σ.2 a) → (∀ j, j < 4 * b_tc B → s.2 5 j = σ.2 5 j) → (∀ u, u < k → s.2 5 (4 * b_tc B + u) = eL (g u)) → ∃ s', s'.1 = σ.1 ∧ (∀ a, a ≠ 5 → s'.2 a = σ.2 a) ∧ (∀ j, j < 4 * b_tc B → s'.2 5 j = σ.2 5 j) ∧ (∀ u, u < m → s'.2 5 (4 * b_tc B + u) = eL (g u)) ∧ f_X1_addTerm_4_3_L20 kk (nI m) (nI we) (nI be) (nI (b_tc B)) n s (nI k) = kk s' := by
    intro kk n
    induction n with
    | zero => intro k s h h'; omega
    | succ n ih =>
      intro k s hk hn e1 e2 e3 e4
      rw [f_X1_addTerm_4_3_L20]
      rcases Nat.lt_or_ge k m with q | q
      · obtain ⟨s', b1, b2, b3, b4, b5⟩ := ih (k + 1) (sL s 5 (4 * b_tc B + k) (eL (g k))) (by omega) (by omega) e1 (fun a ha => by rw [sL_ne s ha]; exact e2 a ha) (fun j hj => by rw [sL_2, if_neg (fun hc => by omega)]; exact e3 j hj) (fun u hu => by
          rw [sL_2]
          by_cases h : u = k
          · rw [if_pos ⟨rfl, by rw [h]⟩, h]
          · rw [if_neg (fun hc => h (by omega))]
            exact e4 u (by omega))
        refine ⟨s', b1, b2, b3, b4, ?_⟩
        rw [if_neg (fun hc => by have := (nI_leI (by omega) (by omega)).mp hc; omega), if_neg (fun hc => by have := (c_ge 4 (by omega) (by decide)).mp hc; omega), rL_n (by omega) (by decide), ix4, wL_n (by omega) (by decide), e2 3 (by decide), h3 k q, nI_1, b5]
      · have : k = m := by omega
        subst this
        exact ⟨s, e1, e2, e3, e4, by rw [if_pos (nI_le (Nat.le_refl _) (by omega))]⟩
  unfold f_X1_addTerm_4_3
  rw [hl.1, if_pos ((c_lt 8 (by omega) (by decide)).mpr ht)]
  obtain ⟨s1, b1, b2, b3, b4, b5⟩ := key (fun (s9 : Sg) => wI s9 6 8 (nI (b_tc B)) (nI m) fun s10 => (wI s10 7 8 (nI (b_tc B)) (nI we) fun s13 => (wI s13 8 8 (nI (b_tc B)) (nI be) fun s16 => (wI s16 9 8 (nI (b_tc B)) (-1) fun s19 => (pI s19 4 0 ((s19.1 4 0) + 1) fun s22 => (some (nI (b_tc B), s22))))))) fu 0 σ (Nat.zero_le _) (by unfold fu; omega) rfl (fun _ _ => rfl) (fun _ _ => rfl) (fun u h => absurd h (Nat.not_lt_zero u))
  have e00 : s1.1 4 0 = nI (b_tc B) := by rw [b1]; exact hl.1
  refine ⟨sI (sI (sI (sI (sI s1 6 (b_tc B) (nI m)) 7 (b_tc B) (nI we)) 8 (b_tc B) (nI be)) 9 (b_tc B) (-1)) 4 0 (nI (b_tc B + 1)), ?_, ?_, ?_⟩
  · rw [show (0 : Int32) = nI 0 from rfl, b5]
    rw [wI_n ht (by decide), wI_n ht (by decide), wI_n ht (by decide), wI_n ht (by decide), pI_s]
    simp [sI_1, e00, nI_1]
  · unfold lexC lexP
    simp only [sI_1, sI_2]
    refine ⟨by simp; rfl, by simp [b1]; exact hl.2.1, fun t htt => ?_, fun e he => by rw [b2 10 (by decide)]; exact hl.2.2.2 e he⟩
    have htt : t < b_tc B + 1 := htt
    by_cases h : t = b_tc B
    · subst h
      simp only [b_n, b_we, b_be, b_pr, b_w, addB]
      simp
      exact fun k hk => b4 k hk
    · obtain ⟨c1, c2, c3, c4, c5⟩ := hl.2.2.1 t (by omega)
      have en : b_n (addB B m g we be) t = b_n B t := if_neg h
      have ewe : b_we (addB B m g we be) t = b_we B t := if_neg h
      have ebe : b_be (addB B m g we be) t = b_be B t := if_neg h
      have epr : b_pr (addB B m g we be) t = b_pr B t := if_neg h
      have ew : b_w (addB B m g we be) t = b_w B t := if_neg h
      rw [en, ewe, ebe, epr, ew]
      have hn4 := (hT t (by omega)).1.2
      refine ⟨by simp [h, b1, c1], by simp [h, b1, c2], by simp [h, b1, c3], by simp [h, b1, c4], fun k hk => ?_⟩
      rw [b3 (4 * t + k) (by omega)]
      exact c5 k hk
  · have h0 : Sm [4, 6, 7, 8, 9] [5] σ s1 := ⟨fun a _ => by rw [b1], fun a ha => b2 a (fun e => ha (by rw [e]; decide))⟩
    exact ((((h0.i (by decide)).i (by decide)).i (by decide)).i (by decide)).i (by decide)
end LY
