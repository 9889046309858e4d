theorem wordP.cg {f f' : Nat → Int32} {p : Nat} {w : List Nat} (h : wordP f p w) (e : ∀ j, p ≤ j → j < p + 1 + w.length → f' j = f j) : wordP f' p w :=
  ⟨by rw [e p (Nat.le_refl _) (by omega)]; exact h.1, fun i x hx => by
    have := (List.getElem?_eq_some_iff.mp hx).1
    rw [e _ (by omega) (by omega)]
    exact h.2 i x hx⟩
theorem isWeight7_s {σ : Sg} (a : Int32) : f_X7_isWeight σ a = some (bI (1 ≤ a ∧ a ≤ 9)) := by
  have := in8_s (σ := σ) a 1 9
  rw [in_bI] at this
  exact this
theorem isBent7_s {σ : Sg} (a : Int32) : f_X7_isBent σ a = some (bI (0 ≤ a ∧ a ≤ 1)) := by
  unfold f_X7_isBent
  by_cases h0 : a = 0
  · rw [if_pos h0, bI_t (by rw [h0]; decide)]
  · by_cases h1 : a = 1
    · rw [if_neg h0, if_pos h1, bI_t (by rw [h1]; decide)]
    · rw [if_neg h0, if_neg h1, bI_f]
      rintro ⟨h2, h3⟩
      obtain ⟨j, hj, rfl⟩ := nI_of (i32_nlt.mpr h2)
      have := (c_le 1 hj (by decide)).mp h3
      rcases (show j = 0 ∨ j = 1 by omega) with rfl | rfl
      · exact h0 rfl
      · exact h1 rfl
theorem nat_of {a : Int32} {lo hi : Nat} (hhi : hi < 2 ^ 31) (h : nI lo ≤ a ∧ a ≤ nI hi) (hlo : lo < 2 ^ 31) : ∃ j, lo ≤ j ∧ j ≤ hi ∧ a = nI j := by
  have h0 : ¬ a < 0 := by
    rw [i32_nlt, Int32.le_iff_toInt_le]
    have := h.1
    rw [Int32.le_iff_toInt_le, nI_toInt hlo] at this
    have e : (0 : Int32).toInt = 0 := by decide
    omega
  obtain ⟨j, hj, rfl⟩ := nI_of h0
  exact ⟨j, (nI_leI hlo hj).mp h.1, (nI_leI hj hhi).mp h.2, rfl⟩
theorem InvC.slip0 {σ s : Sg} {M : Ms} (hC : InvC σ M) (u : Sm [1] [3] σ s) (h0 : s.1 1 1 = 0) : InvC s ([], M.2) := by
  obtain ⟨h1, h2, h3, h4, h5, h6⟩ := hC
  exact ⟨⟨h0, fun i x h => by simp at h⟩, u.lex (by decide) (by decide) h2, u.txt (by decide) (by decide) h3, u.ims (by decide) (by decide) h4, u.scn (by decide) h5, u.mnd (by decide) h6⟩
theorem InvR.slip0 {σ s : Sg} {M : Ms} (hR : InvR σ M) (u : ∀ a, a ≠ 43 → a ≠ 49 → a ≠ 50 → s.1 a = σ.1 a) (h0 : s.1 43 4 = 0) (h1 : ∀ j, j ≠ 4 → s.1 43 j = σ.1 43 j) : InvR s ([], M.2) := by
  obtain ⟨g1, g2, g3, g4, g5⟩ := hR
  refine ⟨⟨h0, fun i x h => by simp at h⟩, by rw [u 44 (by decide) (by decide) (by decide)]; exact g2, ?_, ?_, ?_⟩
  · unfold textP
    rw [u 48 (by decide) (by decide) (by decide), h1 6 (by decide), h1 7 (by decide)]
    exact g3
  · rw [u 45 (by decide) (by decide) (by decide), u 46 (by decide) (by decide) (by decide)]; exact g4
  · rw [u 45 (by decide) (by decide) (by decide), u 46 (by decide) (by decide) (by decide)]; exact g5
theorem bookP_add {f f' : Nat → Int32} {B : Bk} {m we be : Nat} {g : Nat → List Nat} (h : bookP f B) (hB : Bok B) (ht : b_tc B < 8) (e0 : f' 0 = nI (b_tc B + 1)) (e1 : ∀ j, 1 ≤ j → j < 2 + 56 * b_tc B → f' j = f j) (e2 : ∀ j, 450 ≤ j → f' j = f j) (e3 : f' (2 + 56 * b_tc B) = nI m) (e4 : f' (2 + 56 * b_tc B + 1) = nI we) (e5 : f' (2 + 56 * b_tc B + 2) = nI be) (e6 : f' (2 + 56 * b_tc B + 3) = -1) (e7 : ∀ k, k < m → wordP f' (2 + 56 * b_tc B + 4 + 13 * k) (g k)) : bookP f' (addB B m g we be) := by
  refine ⟨e0, by rw [e1 1 (by omega) (by omega)]; exact h.2.1, fun t htt => ?_, fun e he => ?_⟩
  · have htt : t < b_tc B + 1 := htt
    by_cases q : t = b_tc B
    · subst q
      simp only [b_n, b_we, b_be, b_pr, b_w, addB]
      simp only [if_true]
      exact ⟨e3, e4, e5, e6, e7⟩
    · obtain ⟨c1, c2, c3, c4, c5⟩ := h.2.2.1 t (by omega)
      obtain ⟨d1, d2, d3, d4, d5, d6⟩ := hB.2.2.1 t (by omega)
      have en : b_n (addB B m g we be) t = b_n B t := if_neg q
      have ewe : b_we (addB B m g we be) t = b_we B t := if_neg q
      have ebe : b_be (addB B m g we be) t = b_be B t := if_neg q
      have epr : b_pr (addB B m g we be) t = b_pr B t := if_neg q
      have ew : b_w (addB B m g we be) t = b_w B t := if_neg q
      rw [en, ewe, ebe, epr, ew]
      refine ⟨by rw [e1 _ (by omega) (by omega)]; exact c1, by rw [e1 _ (by omega) (by omega)]; exact c2, by rw [e1 _ (by omega) (by omega)]; exact c3, by rw [e1 _ (by omega) (by omega)]; exact c4, fun k hk => (c5 k hk).cg (fun j h1 h2 => ?_)⟩
      have := (d5 k hk).2.2
      exact e1 j (by omega) (by omega)
  · exact (h.2.2.2 e he).cg (fun j h1 h2 => e2 j (by omega))
theorem term8_add {σ : Sg} {B : Bk} {S : List Nat} {m we be : Nat} {g : Nat → List Nat} {E : Nat → Nat → Prop} (hb : bookP (σ.1 44) B) (hB : Bok B) (ht : b_tc B < 8) (hm : 1 ≤ m ∧ m ≤ 4) (hS : S.length ≤ 50) (hsl : ∀ i x, S[i]? = some x → σ.1 47 i = sgn x) (ha : ∀ k, k < m → wAt (σ.1 49) (σ.1 50) S k (g k) E) (hg : ∀ k, k < m → wok 12 (g k)) :
    ∃ s', (rI σ 44 475 0 fun x26 => (cP (f_X8_termAt σ x26) fun x29 => (wI σ 44 475 (x29 + 0) (nI m) fun s31 => (cP (f_X8_termAt s31 x26) fun x34 => (wI s31 44 475 (x34 + 1) (nI we) fun s36 => (cP (f_X8_termAt s36 x26) fun x39 => (wI s36 44 475 (x39 + 2) (nI be) fun s41 => (cP (f_X8_termAt s41 x26) fun x44 => (wI s41 44 475 (x44 + 3) (-1) fun s46 => (f_X8_term_L172 (fun (s55 : Sg) => rI s55 44 475 0 fun x56 => (wI s55 44 475 0 (x56 + 1) fun s59 => (some (x26, s59)))) (nI m) x26 fu s46 0)))))))))) = some (nI (b_tc B), s') ∧ Sm [44] [] σ s' ∧ bookP (s'.1 44) (addB B m g we be) := by
  have z0 : (0 : Int32) = nI 0 := rfl
  rw [z0, rI_n (by omega) (by decide), hb.1]
  simp only [termAt8_s, cP_s]
  rw [← z0, nI_p0, wI_n (by omega) (by decide), nI_1, wI_n (by omega) (by decide), nI_p2, wI_n (by omega) (by decide), nI_p3, wI_n (by omega) (by decide)]
  have key : ∀ (kk : Sg → Option (Int32 × Sg)) n k s, k ≤ m → m < n + k → Sm [44] [] σ s → (∀ j, j < 2 + 56 * b_tc B → s.1 44 j = σ.1 44 j) → (∀ j, 450 ≤ j → s.1 44 j = σ.1 44 j) → s.1 44 (2 + 56 * b_tc B) = nI m → s.1 44 (2 + 56 * b_tc B + 1) = nI we → s.1 44 (2 + 56 * b_tc B + 2) = nI be → s.1 44 (2 + 56 * b_tc B + 3) = -1 → (∀ u, u < k → wordP (s.1 44) (2 + 56 * b_tc B + 4 + 13 * u) (g u)) →
      ∃ s', f_X8_term_L172 kk (nI m) (nI (b_tc B)) n s (nI k) = kk s' ∧ Sm [44] [] σ s' ∧ (∀ j, j < 2 + 56 * b_tc B → s'.1 44 j = σ.1 44 j) ∧ (∀ j, 450 ≤ j → s'.1 44 j = σ.1 44 j) ∧ s'.1 44 (2 + 56 * b_tc B) = nI m ∧ s'.1 44 (2 + 56 * b_tc B + 1) = nI we ∧ s'.1 44 (2 + 56 * b_tc B + 2) = nI be ∧ s'.1 44 (2 + 56 * b_tc B + 3) = -1 ∧ ∀ u, u < m → wordP (s'.1 44) (2 + 56 * b_tc B + 4 + 13 * u) (g u) := by
    intro kk n
    induction n with
    | zero => intro k s h h'; omega
    | succ n ih =>
      intro k s hk hn hs a1 a2 a3 a4 a5 a6 a7
      rw [f_X8_term_L172]
      rcases Nat.lt_or_ge k m with q | q
      · have hgk := hg k q
        have hl12 := hgk.2.2
        obtain ⟨s2, w1, w2, w3, w4⟩ := writes8_s (σ := s) (p := 2 + 56 * b_tc B + 4 + 13 * k) hS (by rw [hs.1 47 (by decide)]; exact hsl) (show k < 25 by omega) (by rw [hs.1 49 (by decide), hs.1 50 (by decide)]; exact ha k q) (by omega) hgk.1
        obtain ⟨s3, b0, b1, b2, b3, b4, b5, b6, b7, b8⟩ := ih (k + 1) s2 (by omega) (by omega) (hs.tr w2) (fun j hj => by rw [w4 j (by omega)]; exact a1 j hj) (fun j hj => by rw [w4 j (by omega)]; exact a2 j hj) (by rw [w4 _ (by omega)]; exact a3) (by rw [w4 _ (by omega)]; exact a4) (by rw [w4 _ (by omega)]; exact a5) (by rw [w4 _ (by omega)]; exact a6) (fun u hu => by
          by_cases h : u = k
          · rw [h]; exact w3
          · have hgu := (hg u (by omega)).2.2
            exact (a7 u (by omega)).cg (fun j h1 h2 => w4 j (by omega)))
        refine ⟨s3, ?_, b1, b2, b3, b4, b5, b6, b7, b8⟩
        rw [if_neg (fun hc => by have := (nI_leI (by omega) (by omega)).mp hc; omega), wordAt8_s, cP_s, w1, cA_s, nI_1, b0]
      · have : k = m := by omega
        subst this
        exact ⟨s, by rw [if_pos (nI_le (Nat.le_refl _) (by omega))], hs, a1, a2, a3, a4, a5, a6, a7⟩
  obtain ⟨s', b0, b1, b2, b3, b4, b5, b6, b7, b8⟩ := key (fun (s55 : Sg) => rI s55 44 475 0 fun x56 => (wI s55 44 475 0 (x56 + 1) fun s59 => (some (nI (b_tc B), s59)))) fu 0 (sI (sI (sI (sI σ 44 (2 + 56 * b_tc B) (nI m)) 44 (2 + 56 * b_tc B + 1) (nI we)) 44 (2 + 56 * b_tc B + 2) (nI be)) 44 (2 + 56 * b_tc B + 3) (-1)) (Nat.zero_le _) (by unfold fu; omega) ((((Sm.rf.i (by decide)).i (by decide)).i (by decide)).i (by decide))
    (fun j hj => by simp only [sI_1]; rw [if_neg (by omega), if_neg (by omega), if_neg (by omega), if_neg (by omega)]) (fun j hj => by simp only [sI_1]; rw [if_neg (by omega), if_neg (by omega), if_neg (by omega), if_neg (by omega)])
    (by simp only [sI_1]; rw [if_neg (by omega), if_neg (by omega), if_neg (by omega), if_pos (by simp)]) (by simp only [sI_1]; rw [if_neg (by omega), if_neg (by omega), if_pos (by simp)]) (by simp only [sI_1]; rw [if_neg (by omega), if_pos (by simp)]) (by simp only [sI_1]; rw [if_pos (by simp)]) (fun u h => absurd h (Nat.not_lt_zero u))
  refine ⟨sI s' 44 0 (nI (b_tc B + 1)), ?_, b1.i (by decide), ?_⟩
  · refine b0.trans ?_
    show (rI s' 44 475 0 fun x56 => (wI s' 44 475 0 (x56 + 1) fun s59 => (some (nI (b_tc B), s59)))) = _
    rw [show (0 : Int32) = nI 0 from rfl, rI_n (by omega) (by decide), wI_n (by omega) (by decide), b2 0 (by omega), hb.1, nI_1]
  · refine bookP_add (f := σ.1 44) hb hB ht (by rw [sI_1, if_pos ⟨rfl, rfl⟩]) (fun j h1 h2 => by rw [sI_1, if_neg (by omega)]; exact b2 j h2) (fun j h1 => by rw [sI_1, if_neg (by omega)]; exact b3 j h1) (by rw [sI_1, if_neg (by omega)]; exact b4) (by rw [sI_1, if_neg (by omega)]; exact b5) (by rw [sI_1, if_neg (by omega)]; exact b6) (by rw [sI_1, if_neg (by omega)]; exact b7) (fun k hk => (b8 k hk).cg (fun j h1 h2 => by rw [sI_1, if_neg (by omega)]))
theorem term8_well {σ : Sg} {S : List Nat} {m : Nat} {g : Nat → List Nat} {E : Nat → Nat → Prop} (hS : S.length ≤ 50) (hm : m ≤ 25) (ha : ∀ k, k < m → wAt (σ.1 49) (σ.1 50) S k (g k) E) (kk : Int32 → Option (Int32 × Sg)) (c1 c2 : Int32) : f_X8_term_L43 kk σ c1 c2 (nI m) fu (bI (1 ≤ m ∧ m ≤ 4)) 0 = kk (bI ((1 ≤ m ∧ m ≤ 4) ∧ ∀ k, k < m → (g k).length ≤ 12)) := by
  have key : ∀ n k, k ≤ m → m < n + k → f_X8_term_L43 kk σ c1 c2 (nI m) n (bI ((1 ≤ m ∧ m ≤ 4) ∧ ∀ u, u < k → (g u).length ≤ 12)) (nI k) = kk (bI ((1 ≤ m ∧ m ≤ 4) ∧ ∀ k, k < m → (g k).length ≤ 12)) := by
    intro n
    induction n with
    | zero => intro k h h'; omega
    | succ n ih =>
      intro k hk hn
      rw [f_X8_term_L43]
      rcases Nat.lt_or_ge k m with q | q
      · have hnx := ih (k + 1) (by omega) (by omega)
        rw [← nI_1] at hnx
        rw [if_neg (fun hc => by have := (nI_leI (by omega) (by omega)).mp hc; omega), jn_s]
        rcases Classical.em ((1 ≤ m ∧ m ≤ 4) ∧ ∀ u, u < k → (g u).length ≤ 12) with h | h
        · obtain ⟨c1, p, c2, c3, c4⟩ := ha k q
          rw [bI_t h, if_neg (by decide), rI_n (by omega) (by decide), c1]
          by_cases h12 : 12 < (g k).length
          · rw [if_pos ((c_gt 12 (by omega) (by decide)).mpr h12)]
            rw [bI_f (fun hc => by have := hc.2 k (by omega); omega)] at hnx
            exact hnx
          · rw [if_neg (fun hc => h12 ((c_gt 12 (by omega) (by decide)).mp hc))]
            rw [bI_t ⟨h.1, fun u hu => by
              rcases Nat.lt_or_ge u k with y | y
              · exact h.2 u y
              · have : u = k := by omega
                rw [this]; omega⟩] at hnx
            exact hnx
        · rw [bI_f h, if_pos rfl]
          rw [bI_f (fun hc => h ⟨hc.1, fun u hu => hc.2 u (by omega)⟩)] at hnx
          exact hnx
      · have : k = m := by omega
        subst this
        rw [if_pos (nI_le (Nat.le_refl _) (by omega))]
  have h0 := key fu 0 (Nat.zero_le _) (by unfold fu; omega)
  rw [← h0]
  congr 1
  exact bI_cg ⟨fun h => ⟨h, fun u hu => absurd hu (Nat.not_lt_zero u)⟩, fun h => h.1⟩
