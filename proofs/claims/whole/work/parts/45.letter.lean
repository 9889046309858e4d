theorem letter8_at {σ : Sg} {p : Nat} {w : List Nat} (h : wordP (σ.1 44) p w) (hl : w.length ≤ 12) (hp : p + 1 + w.length ≤ 475) {i : Nat} (hi : i < 2 ^ 31) : (rI σ 44 475 (nI p) fun x5 => (if x5 ≤ nI i then (some (-1)) else (rI σ 44 475 ((nI p + 1) + nI i) fun x8 => (some x8)))) = some (letA w i) := by
  rw [rI_n (by omega) (by decide), h.1]
  unfold letA
  rcases Nat.lt_or_ge i w.length with q | q
  · rw [if_neg (fun hc => by have := (nI_leI (by omega) hi).mp hc; omega), nI_1, nI_add, rI_n (by omega) (by decide)]
    have := List.getElem?_eq_getElem q
    rw [this, h.2 i _ this]
  · rw [if_pos (nI_le q hi), List.getElem?_eq_none_iff.mpr q]
theorem ps_letter (σ : Sg) (a1 a2 a3 : Int32) (h : InvA σ) : ∃ r : Int32, f_X7_letter σ a1 a2 a3 = some r ∧ f_X8_letter σ a1 a2 a3 = some r := by
  obtain ⟨⟨S, B, T, im⟩, ⟨hS, hB, hT, hI⟩, hC, hR⟩ := h
  have hB : Bok B := hB
  have h8 := hB.1
  have h5 := hB.2.1
  have hl : lexC σ B := hC.2.1
  have hb : bookP (σ.1 44) B := hR.2.1
  have n10 : ¬ (1 : Int32) = 0 := by decide
  have hx : ∀ a : Int32, ¬ a = -1 → (a < -1 ↔ a < 0) := fun a hk => by
    have e0 : (0 : Int32).toInt = 0 := by decide
    have e1 : (-1 : Int32).toInt = -1 := by decide
    rw [Int32.lt_iff_toInt_lt, Int32.lt_iff_toInt_lt, e0, e1]
    have : a.toInt ≠ -1 := fun z => hk (Int32.toInt_inj.mp (by rw [z, e1]))
    omega
  by_cases hk : a2 = -1
  · rcases Classical.em (rg a1 (b_ec B)) with hr | hr
    · have hr0 := hr
      obtain ⟨e, he, rfl⟩ := hr
      have hE := hB.2.2.2 e he
      by_cases h3 : a3 < 0
      · refine ⟨-1000000002, ?_, ?_⟩
        · unfold f_X7_letter
          simp only [jn_s]
          rw [if_pos hk, isEnding7_s hl hB, cP_s, bI_t hr0, if_neg n10, if_neg (fun z => (i32_nlt.mpr z) h3)]
        · unfold f_X8_letter
          simp only [jn_s]
          rw [if_pos hk, isEnding8_s hb hB, cP_s, bI_t hr0, if_neg n10, if_pos h3]
      · obtain ⟨i, hi, rfl⟩ := nI_of h3
        refine ⟨letA (b_en B e) i, ?_, ?_⟩
        · unfold f_X7_letter
          simp only [jn_s]
          rw [if_pos hk, isEnding7_s hl hB, cP_s, bI_t hr0, if_neg n10, if_pos (i32_nlt.mp h3), if_pos hk, rL_n (by omega) (by decide), hl.2.2.2 e he, at_s hE.1 (by have := hE.2.2; omega) hi, cP_s]
        · unfold f_X8_letter
          simp only [jn_s]
          rw [if_pos hk, isEnding8_s hb hB, cP_s, bI_t hr0, if_neg n10, if_neg h3, if_neg (by rw [hk]; decide), if_pos hk, if_pos hk, endingAt8_s, cP_s, letter8_at (hb.2.2.2 e he) (by have := hE.2.2; omega) (by have := hE.2.2; omega) hi]
    · refine ⟨-1000000001, ?_, ?_⟩
      · unfold f_X7_letter
        simp only [jn_s]
        rw [if_pos hk, isEnding7_s hl hB, cP_s, bI_f hr, if_pos rfl]
      · unfold f_X8_letter
        simp only [jn_s]
        rw [if_pos hk, isEnding8_s hb hB, cP_s, bI_f hr, if_pos rfl]
  · rcases Classical.em (rg a1 (b_tc B)) with hr | hr
    · have hr0 := hr
      obtain ⟨t, ht, rfl⟩ := hr
      have hT1 := hB.2.2.1 t ht
      have n4 := hT1.1
      by_cases h3 : a3 < 0
      · refine ⟨-1000000002, ?_, ?_⟩
        · unfold f_X7_letter
          simp only [jn_s]
          rw [if_neg hk, isTerm7_s hl hB, cP_s, bI_t hr0, if_neg n10, if_neg (fun z => (i32_nlt.mpr z) h3)]
        · unfold f_X8_letter
          simp only [jn_s]
          rw [if_neg hk, isTerm8_s hb hB, cP_s, bI_t hr0, if_neg n10, if_pos h3]
      · obtain ⟨i, hi, rfl⟩ := nI_of h3
        by_cases h2 : a2 < 0
        · refine ⟨-1000000002, ?_, ?_⟩
          · unfold f_X7_letter
            simp only [jn_s]
            rw [if_neg hk, isTerm7_s hl hB, cP_s, bI_t hr0, if_neg n10, if_pos (i32_nlt.mp h3), if_neg hk, if_pos h2]
          · unfold f_X8_letter
            simp only [jn_s]
            rw [if_neg hk, isTerm8_s hb hB, cP_s, bI_t hr0, if_neg n10, if_neg h3, if_pos ((hx a2 hk).mpr h2)]
        · have h2' : ¬ a2 < -1 := fun z => h2 ((hx a2 hk).mp z)
          obtain ⟨k, hk2, rfl⟩ := nI_of h2
          by_cases hkn : k < b_n B t
          · have hw := hT1.2.2.2.2.1 k hkn
            have hlt : nI k < nI (b_n B t) := (nI_ltI hk2 (by omega)).mpr hkn
            refine ⟨letA (b_w B t k) i, ?_, ?_⟩
            · unfold f_X7_letter
              simp only [jn_s]
              rw [if_neg hk, isTerm7_s hl hB, cP_s, bI_t hr0, if_neg n10, if_pos (i32_nlt.mp h3), if_neg hk, if_neg h2, rI_n (by omega) (by decide), (hl.2.2.1 t ht).1, if_pos hlt, wordOf7_s hl hB ht hkn, cP_s, at_s hw.1 hw.2.2 hi, cP_s]
            · unfold f_X8_letter
              simp only [jn_s]
              rw [if_neg hk, isTerm8_s hb hB, cP_s, bI_t hr0, if_neg n10, if_neg h3, if_neg h2', if_neg hk, termAt8_s, cP_s, nI_p0, rI_n (by omega) (by decide), (hb.2.2.1 t ht).1, if_pos hlt, if_neg hk, wordAt8_s, cP_s, letter8_at ((hb.2.2.1 t ht).2.2.2.2 k hkn) hw.2.2 (by have := hw.2.2; omega) hi]
          · have hlt : ¬ nI k < nI (b_n B t) := fun z => hkn ((nI_ltI hk2 (by omega)).mp z)
            refine ⟨-1000000002, ?_, ?_⟩
            · unfold f_X7_letter
              simp only [jn_s]
              rw [if_neg hk, isTerm7_s hl hB, cP_s, bI_t hr0, if_neg n10, if_pos (i32_nlt.mp h3), if_neg hk, if_neg h2, rI_n (by omega) (by decide), (hl.2.2.1 t ht).1, if_neg hlt]
            · unfold f_X8_letter
              simp only [jn_s]
              rw [if_neg hk, isTerm8_s hb hB, cP_s, bI_t hr0, if_neg n10, if_neg h3, if_neg h2', if_neg hk, termAt8_s, cP_s, nI_p0, rI_n (by omega) (by decide), (hb.2.2.1 t ht).1, if_neg hlt]
    · refine ⟨-1000000001, ?_, ?_⟩
      · unfold f_X7_letter
        simp only [jn_s]
        rw [if_neg hk, isTerm7_s hl hB, cP_s, bI_f hr, if_pos rfl]
      · unfold f_X8_letter
        simp only [jn_s]
        rw [if_neg hk, isTerm8_s hb hB, cP_s, bI_f hr, if_pos rfl]
/-- an ending goes -/
def rmE (B : Bk) (e : Nat) : Bk := (b_tc B, b_ec B - 1, b_n B, b_w B, b_we B, b_be B, b_pr B, fun x => if x < e then b_en B x else b_en B (x + 1))
theorem rmE_ok {B : Bk} {e : Nat} (hB : Bok B) : Bok (rmE B e) := by
  refine ⟨hB.1, by show b_ec B - 1 ≤ 5; have := hB.2.1; omega, hB.2.2.1, fun x hx => ?_⟩
  have hx : x < b_ec B - 1 := hx
  show wok 4 (if x < e then b_en B x else b_en B (x + 1))
  split
  · exact hB.2.2.2 x (by omega)
  · exact hB.2.2.2 (x + 1) (by omega)
theorem removeEnding7_s {σ : Sg} {B : Bk} {e : Nat} (hl : lexC σ B) (hB : Bok B) (he : e < b_ec B) : ∃ s', f_X1_removeEnding σ (nI e) = some ((), s') ∧ lexC s' (rmE B e) ∧ Sm [4] [10] σ s' := by
  have h5 := hB.2.1
  have key : ∀ (kk : Sg → Option (Unit × Sg)) n i s, e ≤ i → i < b_ec B → b_ec B < n + i → s.1 = σ.1 → (∀ a, a ≠ 10 → s.2 a = σ.2 a) → (∀ x, x < e → s.2 10 x = σ.2 10 x) → (∀ x, e ≤ x → x < i → s.2 10 x = σ.2 10 (x + 1)) → (∀ x, i ≤ x → s.2 10 x = σ.2 10 x) → ∃ s', f_X1_removeEnding_L2 kk n s (nI i) = kk s' ∧ s'.1 = σ.1 ∧ (∀ a, a ≠ 10 → s'.2 a = σ.2 a) ∧ (∀ x, x < e → s'.2 10 x = σ.2 10 x) ∧ (∀ x, e ≤ x → x + 1 < b_ec B → s'.2 10 x = σ.2 10 (x + 1)) := by
    intro kk n
    induction n with
    | zero => intro i s h h2 h'; omega
    | succ n ih =>
      intro i s h1 h2 h3 a1 a2 a3 a4 a5
      rw [f_X1_removeEnding_L2, a1, hl.2.1, nI_1]
      rcases Nat.lt_or_ge (i + 1) (b_ec B) with q | q
      · rw [if_neg (fun hc => by have := (nI_leI (by omega) (by omega)).mp hc; omega), rL_n (by omega) (by decide), wL_n (by omega) (by decide)]
        refine ih (i + 1) _ (by omega) q (by omega) a1 (fun a ha => by rw [sL_ne s ha]; exact a2 a ha) (fun x hx => by rw [sL_2, if_neg (fun hc => by omega)]; exact a3 x hx) (fun x hx1 hx2 => ?_) (fun x hx => by rw [sL_2, if_neg (fun hc => by omega)]; exact a5 x (by omega))
        rw [sL_2]
        by_cases z : x = i
        · rw [if_pos ⟨rfl, z⟩, z]; exact a5 (i + 1) (by omega)
        · rw [if_neg (fun hc => z hc.2)]; exact a4 x hx1 (by omega)
      · rw [if_pos (nI_le q (by omega))]
        exact ⟨s, rfl, a1, a2, a3, fun x hx1 hx2 => a4 x hx1 (by omega)⟩
  obtain ⟨s', b0, b1, b2, b3, b4⟩ := key (fun (s8 : Sg) => pI s8 4 6 ((s8.1 4 6) - 1) fun s9 => (some ((), s9))) fu e σ (Nat.le_refl _) he (by unfold fu; omega) rfl (fun _ _ => rfl) (fun _ _ => rfl) (fun x h1 h2 => by omega) (fun _ _ => rfl)
  refine ⟨sI s' 4 6 (nI (b_ec B - 1)), ?_, ?_, ?_⟩
  · unfold f_X1_removeEnding
    rw [b0, pI_s, b1, hl.2.1, nI_s1 (by omega)]
  · obtain ⟨c1, c2, c3, c4⟩ := hl
    refine ⟨by rw [sI_1, if_neg (by decide), b1]; exact c1, by rw [sI_1, if_pos ⟨rfl, rfl⟩]; rfl, fun t ht => ?_, fun x hx => ?_⟩
    · have := c3 t ht
      rw [sI_ne s' (by decide), sI_ne s' (by decide), sI_ne s' (by decide), sI_ne s' (by decide), b1, sI_2, b2 5 (by decide)]
      exact this
    · have hx : x < b_ec B - 1 := hx
      show s'.2 10 x = eL (if x < e then b_en B x else b_en B (x + 1))
      by_cases q : x < e
      · rw [if_pos q, b3 x q]; exact c4 x (by omega)
      · rw [if_neg q, b4 x (by omega) (by omega)]; exact c4 (x + 1) (by omega)
  · have h0 : Sm [4] [10] σ s' := ⟨fun a _ => by rw [b1], fun a ha => b2 a (fun z => ha (by rw [z]; decide))⟩
    exact h0.i (by decide)
theorem ps_dropEnding (σ : Sg) (a1 : Int32) (h : InvA σ) : ∃ (r : Int32) (σ1 σ2 : Sg), f_X7_dropEnding σ a1 = some (r, σ1) ∧ f_X8_dropEnding σ1 a1 = some (r, σ2) ∧ InvA σ2 := by
  refine step2 (f7 := fun s => f_X7_dropEnding s a1) (f8 := fun s => f_X8_dropEnding s a1) h (fun M hm => ?_)
  obtain ⟨S, B, T, im⟩ := M
  have hm0 := hm
  obtain ⟨hS, hB, hT, hI⟩ := hm
  have hB : Bok B := hB
  have h5 := hB.2.1
  have h8 := hB.1
  have n10 : ¬ (1 : Int32) = 0 := by decide
  rcases Classical.em (rg a1 (b_ec B)) with hr | hr
  · have hr0 := hr
    obtain ⟨e, he, rfl⟩ := hr
    refine ⟨nI (b_ec B - 1), (S, rmE B e, T, im), ⟨hS, rmE_ok hB, hT, hI⟩, fun hC => ?_, fun s hR => ?_⟩
    · obtain ⟨s7, d1, d2, d3⟩ := removeEnding7_s hC.2.1 hB he
      obtain ⟨s', e1, e2, e3, e4, e5⟩ := hC.terms (L := [4]) (d3.up (fun x h => h) (by decide)) (by decide) d2
      refine ⟨s', ?_, e2, e3⟩
      unfold f_X7_dropEnding
      rw [isEnding7_s hC.2.1 hB, cP_s, bI_t hr0, if_neg n10, d1, cA_s, e1, cA_s, e5.2.1]
      rfl
    · have key : ∀ (kk : Sg → Option (Int32 × Sg)) n j s2, 450 + 5 * e ≤ j → j ≤ 470 → 470 < n + j → Sm [44] [] s s2 → (∀ x, x < 450 + 5 * e → s2.1 44 x = s.1 44 x) → (∀ x, 450 + 5 * e ≤ x → x < j → s2.1 44 x = s.1 44 (x + 5)) → (∀ x, j ≤ x → s2.1 44 x = s.1 44 x) → ∃ s3, f_X8_dropEnding_L16 kk n s2 (nI j) = kk s3 ∧ Sm [44] [] s s3 ∧ (∀ x, x < 450 + 5 * e → s3.1 44 x = s.1 44 x) ∧ (∀ x, 450 + 5 * e ≤ x → x < 470 → s3.1 44 x = s.1 44 (x + 5)) := by
        intro kk n
        induction n with
        | zero => intro j s2 h1 h2 h3; omega
        | succ n ih =>
          intro j s2 h1 h2 h3 a1 a2 a3 a4
          rw [f_X8_dropEnding_L16, li 5, nI_add]
          rcases Nat.lt_or_ge (j + 5) 475 with q | q
          · rw [if_neg (fun hc => by have := (c_ge 475 (by omega) (by decide)).mp hc; omega), rI_n q (by decide), wI_n (by omega) (by decide), nI_1]
            refine ih (j + 1) _ (by omega) (by omega) (by omega) (a1.i (by decide)) (fun x hx => by rw [sI_1, if_neg (by omega)]; exact a2 x hx) (fun x hx1 hx2 => ?_) (fun x hx => by rw [sI_1, if_neg (by omega)]; exact a4 x (by omega))
            rw [sI_1]
            by_cases z : x = j
            · rw [if_pos ⟨rfl, z⟩, z]; exact a4 (j + 5) (by omega)
            · rw [if_neg (fun hc => z hc.2)]; exact a3 x hx1 (by omega)
          · have : j = 470 := by omega
            subst this
            rw [if_pos (by decide)]
            exact ⟨s2, rfl, a1, a2, a3⟩
      obtain ⟨s3, b0, b1, b2, b3⟩ := key (fun (s12 : Sg) => rI s12 44 475 1 fun x13 => (wI s12 44 475 1 (x13 - 1) fun s16 => (rI s16 44 475 1 fun x19 => (some (x19, s16))))) fu (450 + 5 * e) s (Nat.le_refl _) (by omega) (by unfold fu; omega) Sm.rf (fun _ _ => rfl) (fun x h1 h2 => by omega) (fun _ _ => rfl)
      have e31 : s3.1 44 1 = nI (b_ec B) := by rw [b2 1 (by omega)]; exact hR.2.1.2.1
      refine ⟨sI s3 44 1 (nI (b_ec B - 1)), ?_, hR.book (b1.i (by decide)) ?_, (b1.i (by decide)).u42 (by decide)⟩
      · unfold f_X8_dropEnding
        rw [isEnding8_s hR.2.1 hB, cP_s, bI_t hr0, if_neg n10, endingAt8_s, cP_s, b0, show (1 : Int32) = nI 1 from rfl, rI_n (by omega) (by decide), wI_n (by omega) (by decide), rI_n (by omega) (by decide), e31, sI_1, if_pos ⟨rfl, rfl⟩]
        rw [show nI 1 = (1 : Int32) from rfl, nI_s1 (by omega)]
      · have hbk : bookP (s.1 44) B := hR.2.1
        obtain ⟨c1, c2, c3, c4⟩ := hbk
        have f1 : ∀ x, x < 450 + 5 * e → x ≠ 1 → (sI s3 44 1 (nI (b_ec B - 1))).1 44 x = s.1 44 x := fun x h1 h2 => by rw [sI_1, if_neg (fun hc => h2 hc.2)]; exact b2 x h1
        have f2 : ∀ x, 450 + 5 * e ≤ x → x < 470 → (sI s3 44 1 (nI (b_ec B - 1))).1 44 x = s.1 44 (x + 5) := fun x h1 h2 => by rw [sI_1, if_neg (by omega)]; exact b3 x h1 h2
        refine ⟨by rw [f1 0 (by omega) (by omega)]; exact c1, by rw [sI_1, if_pos ⟨rfl, rfl⟩]; rfl, fun t ht => ?_, fun x hx => ?_⟩
        · have ht : t < b_tc B := ht
          obtain ⟨d1, d2, d3, d4, d5⟩ := c3 t ht
          refine ⟨by rw [f1 _ (by omega) (by omega)]; exact d1, by rw [f1 _ (by omega) (by omega)]; exact d2, by rw [f1 _ (by omega) (by omega)]; exact d3, by rw [f1 _ (by omega) (by omega)]; exact d4, fun k hk => (d5 k hk).cg (fun j h1 h2 => ?_)⟩
          have hk : k < b_n B t := hk
          have hn := (hB.2.2.1 t ht).1
          have h12 : (b_w B t k).length ≤ 12 := ((hB.2.2.1 t ht).2.2.2.2.1 k hk).2.2
          have h2 : j < 2 + 56 * t + 4 + 13 * k + 1 + (b_w B t k).length := h2
          exact f1 j (by omega) (by omega)
        · have hx : x < b_ec B - 1 := hx
          show wordP _ (450 + 5 * x) (if x < e then b_en B x else b_en B (x + 1))
          by_cases q : x < e
          · rw [if_pos q]
            have h4 := (hB.2.2.2 x (by omega)).2.2
            exact (c4 x (by omega)).cg (fun j h1 h2 => f1 j (by omega) (by omega))
          · rw [if_neg q]
            have h4 := (hB.2.2.2 (x + 1) (by omega)).2.2
            have hw := c4 (x + 1) (by omega)
            refine ⟨?_, fun i y hy => ?_⟩
            · rw [f2 _ (by omega) (by omega), show 450 + 5 * x + 5 = 450 + 5 * (x + 1) by omega]; exact hw.1
            · have := (List.getElem?_eq_some_iff.mp hy).1
              rw [f2 _ (by omega) (by omega), show 450 + 5 * x + 1 + i + 5 = 450 + 5 * (x + 1) + 1 + i by omega]; exact hw.2 i y hy
  · refine ⟨-1000000001, (S, B, T, im), hm0, fun hC => ⟨σ, ?_, hC, Un43.rf⟩, fun s hR => ⟨s, ?_, hR, Un42.rf⟩⟩
    · unfold f_X7_dropEnding
      rw [isEnding7_s hC.2.1 hB, cP_s, bI_f hr, if_pos rfl]
    · unfold f_X8_dropEnding
      rw [isEnding8_s hR.2.1 hB, cP_s, bI_f hr, if_pos rfl]
