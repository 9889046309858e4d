def hasE (B : Bk) (w : List Nat) : Prop := ∃ e, e < b_ec B ∧ b_en B e = w
def addE (B : Bk) (w : List Nat) : Bk := (b_tc B, b_ec B + 1, b_n B, b_w B, b_we B, b_be B, b_pr B, fun e => if e = b_ec B then w else b_en B e)
theorem addE_ok {B : Bk} {w : List Nat} (hB : Bok B) (hw : wok 4 w) (h5 : b_ec B < 5) : Bok (addE B w) := by
  refine ⟨hB.1, h5, hB.2.2.1, fun e he => ?_⟩
  have he : e < b_ec B + 1 := he
  show wok 4 (if e = b_ec B then w else b_en B e)
  split
  · exact hw
  · exact hB.2.2.2 e (by omega)
theorem hasEnding7_s {σ : Sg} {B : Bk} {w : List Nat} (hl : lexC σ B) (hB : Bok B) (hw : lok1 w) (hw12 : w.length ≤ 12) : f_X1_hasEnding σ (eL w) = some (bI (hasE B w)) := by
  have h5 := hB.2.1
  have key : ∀ n e, e ≤ b_ec B → b_ec B < n + e → (∀ u, u < e → ¬ b_en B u = w) → f_X1_hasEnding_L2 (some 0) σ (eL w) n (nI e) = some (bI (hasE B w)) := by
    intro n
    induction n with
    | zero => intro e h h'; omega
    | succ n ih =>
      intro e he hn hu
      rw [f_X1_hasEnding_L2, hl.2.1]
      rcases Nat.lt_or_ge e (b_ec B) with q | q
      · have hE := hB.2.2.2 e q
        have hiff : lg_cmp (eL (b_en B e)) (eL w) = 0 ↔ b_en B e = w := by rw [lg_cmp_0, eL_inj hE.1 hw (by have := hE.2.2; omega) hw12]
        rw [if_neg (fun hc => by have := (nI_leI (by omega) (by omega)).mp hc; omega), rL_n (by omega) (by decide), hl.2.2.2 e q]
        by_cases h : b_en B e = w
        · rw [if_pos (hiff.mpr h), bI_t ⟨e, q, h⟩]
        · rw [if_neg (fun hc => h (hiff.mp hc)), nI_1]
          exact ih (e + 1) (by omega) (by omega) (fun u hu2 => by
            rcases Nat.lt_or_ge u e with z | z
            · exact hu u z
            · have : u = e := by omega
              rw [this]; exact h)
      · have : e = b_ec B := by omega
        subst this
        rw [if_pos (nI_le (Nat.le_refl _) (by omega)), bI_f (by rintro ⟨u, h1, h2⟩; exact hu u h1 h2)]
  exact key fu 0 (Nat.zero_le _) (by unfold fu; omega) (fun u h => absurd h (Nat.not_lt_zero u))
theorem addEnding7_s {σ : Sg} {B : Bk} {w : List Nat} (hl : lexC σ B) (h5 : b_ec B < 5) : ∃ s', f_X1_addEnding σ (eL w) = some (nI (b_ec B), s') ∧ lexC s' (addE B w) ∧ Sm [4] [10] σ s' := by
  refine ⟨sI (sL σ 10 (b_ec B) (eL w)) 4 6 (nI (b_ec B + 1)), ?_, ?_, (Sm.rf.l (by decide)).i (by decide)⟩
  · unfold f_X1_addEnding
    rw [hl.2.1, if_pos ((c_lt 5 (by omega) (by decide)).mpr h5), wL_n h5 (by decide), pI_s]
    simp [sI_1, sL_1, hl.2.1, nI_1, nI_pred]
  · obtain ⟨c1, c2, c3, c4⟩ := hl
    refine ⟨by simp [sI_1, sL_1]; exact c1, by simp [sI_1]; rfl, fun t ht => ?_, fun e he => ?_⟩
    · have := c3 t ht
      simp [sI_row, sI_2, sL_1, sL_row]
      exact this
    · have he : e < b_ec B + 1 := he
      show (sI (sL σ 10 (b_ec B) (eL w)) 4 6 (nI (b_ec B + 1))).2 10 e = eL (if e = b_ec B then w else b_en B e)
      rw [sI_2, sL_2]
      by_cases h : e = b_ec B
      · rw [if_pos ⟨rfl, h⟩, if_pos h]
      · rw [if_neg (fun hc => h hc.2), if_neg h]
        exact c4 e (by omega)
theorem ending8_well {σ : Sg} {B : Bk} {S w : List Nat} {E : Nat → Nat → Prop} (hb : bookP (σ.1 44) B) (hB : Bok B) (hS : S.length ≤ 50) (hsl : ∀ i x, S[i]? = some x → σ.1 47 i = sgn x) (c : Prop) (ha : c → wAt (σ.1 49) (σ.1 50) S 0 w E ∧ lok1 w) (kk : Int32 → Option (Int32 × Sg)) : f_X8_ending_L33 kk σ fu (bI c) 0 = kk (bI (c ∧ ¬ hasE B w)) := by
  have h5 := hB.2.1
  have key : ∀ n e, e ≤ b_ec B → b_ec B < n + e → f_X8_ending_L33 kk σ n (bI (c ∧ ∀ u, u < e → ¬ b_en B u = w)) (nI e) = kk (bI (c ∧ ¬ hasE B w)) := by
    intro n
    induction n with
    | zero => intro e h h'; omega
    | succ n ih =>
      intro e he hn
      rw [f_X8_ending_L33, show (1 : Int32) = nI 1 from rfl, rI_n (by omega) (by decide), hb.2.1, show nI 1 = (1 : Int32) from rfl]
      rcases Nat.lt_or_ge e (b_ec B) with q | q
      · have hE := hB.2.2.2 e q
        have hnx := ih (e + 1) (by omega) (by omega)
        rw [← nI_1] at hnx
        rw [if_neg (fun hc => by have := (nI_leI (by omega) (by omega)).mp hc; omega)]
        rcases Classical.em (c ∧ ∀ u, u < e → ¬ b_en B u = w) with h | h
        · obtain ⟨a1, a2⟩ := ha h.1
          have hs := isSame8_s (p := 450 + 5 * e) hS hsl (show 0 < 25 by omega) a1 (hb.2.2.2 e q) (by have := hE.2.2; omega) a2 hE.1
          rw [show nI 0 = (0 : Int32) from rfl] at hs
          rw [bI_t h, if_neg (by decide), endingAt8_s, cP_s, hs, cP_s]
          rcases Classical.em (w = b_en B e) with h2 | h2
          · rw [bI_t h2, if_neg (by decide)]
            rw [bI_f (fun hc => hc.2 e (by omega) h2.symm)] at hnx
            exact hnx
          · rw [bI_f h2, if_pos rfl]
            rw [bI_t ⟨h.1, fun u hu => by
              rcases Nat.lt_or_ge u e with y | y
              · exact h.2 u y
              · have : u = e := by omega
                rw [this]; exact fun z => h2 z.symm⟩] at hnx
            exact hnx
        · rw [bI_f h, if_pos rfl, bI_f]
          rintro ⟨h1, h2⟩
          exact h ⟨h1, fun u hu hz => h2 ⟨u, by omega, hz⟩⟩
      · have : e = b_ec B := by omega
        subst this
        rw [if_pos (nI_le (Nat.le_refl _) (by omega))]
        congr 1
        apply bI_cg
        constructor
        · rintro ⟨h1, h2⟩; exact ⟨h1, by rintro ⟨u, h3, h4⟩; exact h2 u h3 h4⟩
        · rintro ⟨h1, h2⟩; exact ⟨h1, fun u h3 h4 => h2 ⟨u, h3, h4⟩⟩
  have h0 := key fu 0 (Nat.zero_le _) (by unfold fu; omega)
  rw [← h0]
  congr 1
  exact bI_cg ⟨fun h => ⟨h, fun u hu => absurd hu (Nat.not_lt_zero u)⟩, fun h => h.1⟩
theorem bookP_addE {f f' : Nat → Int32} {B : Bk} {w : List Nat} (h : bookP f B) (hB : Bok B) (e0 : f' 1 = nI (b_ec B + 1)) (e1 : ∀ j, j < 450 + 5 * b_ec B → j ≠ 1 → f' j = f j) (e2 : wordP f' (450 + 5 * b_ec B) w) : bookP f' (addE B w) := by
  have h8 := hB.1
  refine ⟨by rw [e1 0 (by omega) (by omega)]; exact h.1, e0, fun t ht => ?_, fun e he => ?_⟩
  · have ht : t < b_tc B := ht
    obtain ⟨c1, c2, c3, c4, c5⟩ := h.2.2.1 t ht
    obtain ⟨d1, d2, d3, d4, d5, d6⟩ := hB.2.2.1 t ht
    refine ⟨by rw [e1 _ (by omega) (by omega)]; exact c1, by rw [e1 _ (by omega) (by omega)]; exact c2, by rw [e1 _ (by omega) (by omega)]; exact c3, by rw [e1 _ (by omega) (by omega)]; exact c4, fun k hk => (c5 k hk).cg (fun j h1 h2 => ?_)⟩
    have hk : k < b_n B t := hk
    have h12 : (b_w B t k).length ≤ 12 := (d5 k hk).2.2
    have h2 : j < 2 + 56 * t + 4 + 13 * k + 1 + (b_w B t k).length := h2
    exact e1 j (by omega) (by omega)
  · have he : e < b_ec B + 1 := he
    show wordP f' (450 + 5 * e) (if e = b_ec B then w else b_en B e)
    by_cases q : e = b_ec B
    · rw [if_pos q, q]; exact e2
    · rw [if_neg q]
      have h4 := (hB.2.2.2 e (by omega)).2.2
      exact (h.2.2.2 e (by omega)).cg (fun j h1 h2 => e1 j (by omega) (by omega))
theorem ps_ending (σ : Sg) (h : InvA σ) : ∃ (r : Int32) (σ1 σ2 : Sg), f_X7_ending σ = some (r, σ1) ∧ f_X8_ending σ1 = some (r, σ2) ∧ InvA σ2 := by
  refine step2 (f7 := fun s => f_X7_ending s) (f8 := fun s => f_X8_ending s) h (fun M hm => ?_)
  obtain ⟨S, B, T, im⟩ := M
  obtain ⟨hS, hB, hT, hI⟩ := hm
  have hS : Sok S := hS
  have hB : Bok B := hB
  have hT : Tok T := hT
  have hI : ∀ i B, im i = some B → Bok B := hI
  have hS50 := hS.1
  obtain ⟨m1, m2, m3⟩ := sp_m hS (Nat.le_refl S.length)
  obtain ⟨o1, o2, o3⟩ := sp_ok hS.2 S.length (Nat.le_refl _)
  generalize em : spm S S.length = m at *
  generalize eg : spg S S.length = g at *
  have hok0 : Mok ([], B, T, im) := ⟨⟨by simp, fun x hx => by simp at hx⟩, hB, hT, hI⟩
  have c7 : ∀ s, InvC s (S, B, T, im) → ∃ s7, f_X5_takeWords s = some (if fitI S S.length = 0 then 0 else nI m, s7) ∧ InvC s7 ([], B, T, im) ∧ Sm [1] [3] s s7 ∧ (fit S S.length → ∀ j, j < m → s7.2 3 j = eL (g j)) := by
    intro s hC
    obtain ⟨s7, t1, t2, t3, t4⟩ := takeWords_s hS hC.1
    rw [em] at t1
    rw [em, eg] at t4
    have u : Sm [1] [3] s s7 := ⟨fun a ha => by rw [t2]; exact sI_ne s (fun e => ha (by rw [e]; decide)), fun a ha => t3 a (fun e => ha (by rw [e]; decide))⟩
    exact ⟨s7, t1, hC.slip0 u (by rw [t2]; simp [sI_1]), u, t4⟩
  have c8 : ∀ s, InvR s (S, B, T, im) → ∃ s8, (∀ F : Int32 → Sg → Option (Int32 × Sg), cA (f_X8_parts s) (fun x5 s7 => pI s7 43 4 0 fun s8 => F x5 s8) = F (nI m) s8) ∧ InvR s8 ([], B, T, im) ∧ Un42 s s8 ∧ (∀ i x, S[i]? = some x → s8.1 47 i = sgn x) ∧ ∀ k, k < m → wAt (s8.1 49) (s8.1 50) S k (g k) (fun _ _ => True) := by
    intro s hR
    obtain ⟨s7, t1, t2, t3, t4⟩ := parts_s hS hR.1
    rw [em] at t1
    rw [em, eg] at t4
    refine ⟨sI s7 43 4 0, fun F => by rw [t1, cA_s, pI_s], ?_, ⟨t2, fun k hk => by rw [sI_ne s7 (by omega)]; exact t3 k (by omega) (by omega)⟩, fun i x hx => by rw [sI_ne s7 (by decide), t3 47 (by decide) (by decide)]; exact hR.1.2 i x hx, fun k hk => by rw [sI_ne s7 (by decide), sI_ne s7 (by decide)]; exact t4 k hk⟩
    exact InvR.slip0 hR (fun a h1 h2 h3 => by rw [sI_ne s7 h1]; exact t3 a h2 h3) (by simp [sI_1]) (fun j hj => by rw [sI_1, if_neg (fun hc => hj hc.2), t3 43 (by decide) (by decide)])
  have n10 : ¬ (1 : Int32) = 0 := by decide
  -- the reference, up to whether it is well
  have w8 : ∀ s8, InvR s8 ([], B, T, im) → (∀ i x, S[i]? = some x → s8.1 47 i = sgn x) → (∀ k, k < m → wAt (s8.1 49) (s8.1 50) S k (g k) (fun _ _ => True)) → ∀ kk : Int32 → Option (Int32 × Sg), (if nI m = 1 then (rI s8 50 25 0 fun x41 => (if 4 < x41 then f_X8_ending_L33 kk s8 fu 0 0 else f_X8_ending_L33 kk s8 fu 1 0)) else f_X8_ending_L33 kk s8 fu 0 0) = kk (bI ((m = 1 ∧ (g 0).length ≤ 4) ∧ ¬ hasE B (g 0))) := by
    intro s8 t2 t4 t5 kk
    have hw := ending8_well t2.2.1 hB hS50 t4 (m = 1 ∧ (g 0).length ≤ 4) (fun hc => ⟨t5 0 (by omega), (o2 0 (by omega)).1⟩) kk
    by_cases hm1 : m = 1
    · rw [if_pos (by rw [hm1]; rfl), show (0 : Int32) = nI 0 from rfl, rI_n (by omega) (by decide), (t5 0 (by omega)).1, show nI 0 = (0 : Int32) from rfl]
      have := m3 0 (by omega)
      by_cases h4 : 4 < (g 0).length
      · rw [if_pos ((c_gt 4 (by omega) (by decide)).mpr h4)]
        rw [bI_f (fun hc => by have := hc.2; omega)] at hw
        exact hw
      · rw [if_neg (fun hc => h4 ((c_gt 4 (by omega) (by decide)).mp hc))]
        rw [bI_t ⟨hm1, by omega⟩] at hw
        exact hw
    · rw [if_neg (fun hc => hm1 ((c_eq 1 (by omega) (by decide)).mp hc))]
      rw [bI_f (fun hc => hm1 hc.1)] at hw
      exact hw
  by_cases hf : (m = 1 ∧ (g 0).length ≤ 4) ∧ ¬ hasE B (g 0)
  · obtain ⟨⟨hm1, hl4⟩, hh⟩ := hf
    have hg0 := o2 0 (by omega)
    have hfit : fit S S.length := ⟨by rw [em]; omega, fun k hk => by
      rw [em] at hk
      rw [eg]
      have : k = 0 := by omega
      rw [this]; omega⟩
    have x5 : (if fitI S S.length = 0 then (0 : Int32) else nI m) = 1 := by rw [fitI_t hfit, if_neg n10, hm1]; rfl
    have z0 : (0 : Int32) = nI 0 := rfl
    by_cases h5 : b_ec B < 5
    · refine ⟨nI (b_ec B), ([], addE B (g 0), T, im), ⟨hok0.1, addE_ok hB ⟨hg0.1, hg0.2, hl4⟩ h5, hT, hI⟩, fun hC => ?_, fun s hR => ?_⟩
      · obtain ⟨s7, t1, t2, t3, t4⟩ := c7 σ hC
        obtain ⟨s12, d1, d2, d3⟩ := addEnding7_s (w := g 0) t2.2.1 h5
        obtain ⟨s15, e1, e2, e3⟩ := termsChanged_s s12
        have nt : ¬ nI (b_ec B) = -1 := nI_m1 (by omega)
        refine ⟨s15, ?_, ?_, ((t3.u43 (by decide)).tr (d3.u43 (by decide))).tr (e2.u43 (by decide))⟩
        · unfold f_X7_ending
          rw [t1, cA_s, x5, z0, rL_n (by omega) (by decide), t4 hfit 0 (by omega), if_pos rfl, sizeOf_s hg0.1 (by omega), cP_s, if_neg (fun hc => by have := (c_gt 4 (by omega) (by decide)).mp hc; omega), hasEnding7_s t2.2.1 hB hg0.1 (by omega), cP_s, bI_f hh, if_pos z0, d1, cA_s, if_neg nt, e1, cA_s]
        · obtain ⟨g1, g2, g3, g4, g5, g6⟩ := t2
          exact ⟨e2.slp (by decide) (d3.slp (by decide) g1), e2.lex (by decide) (by decide) d2, e2.txt (by decide) (by decide) (d3.txt (by decide) (by decide) g3), e2.ims (by decide) (by decide) (d3.ims (by decide) (by decide) g4), (e3 _ _).1, (e3 _ _).2⟩
      · obtain ⟨s8, t1, t2, t3, t4, t5⟩ := c8 s hR
        obtain ⟨s9, w1, w2, w3, w4⟩ := writes8_s (p := 450 + 5 * b_ec B) hS50 t4 (show 0 < 25 by omega) (t5 0 (by omega)) (by omega) hg0.1
        have r1 : ∀ (F : Int32 → Option (Int32 × Sg)), rI s8 44 475 1 F = F (nI (b_ec B)) := fun F => by
          rw [show (1 : Int32) = nI 1 from rfl, rI_n (by omega) (by decide), t2.2.1.2.1]
        have e91 : s9.1 44 1 = nI (b_ec B) := by rw [w4 1 (by omega)]; exact t2.2.1.2.1
        refine ⟨sI s9 44 1 (nI (b_ec B + 1)), ?_, ?_, (t3.tr (w2.u42 (by decide))).i (by omega)⟩
        · unfold f_X8_ending
          rw [t1]
          simp only [jn_s]
          rw [w8 s8 t2 t4 t5, bI_t ⟨⟨hm1, hl4⟩, hh⟩, if_neg n10, r1, if_neg (fun hc => by have := (c_eq 5 (by omega) (by decide)).mp hc; omega), r1, endingAt8_s, cP_s, z0, w1, cA_s, show (1 : Int32) = nI 1 from rfl, rI_n (by omega) (by decide), wI_n (by omega) (by decide), rI_n (by omega) (by decide), e91, sI_1, if_pos ⟨rfl, rfl⟩]
          rw [show nI 1 = (1 : Int32) from rfl, nI_1, nI_pred]
        · obtain ⟨g1, g2, g3, g4, g5⟩ := t2
          refine ⟨?_, ?_, ?_, ?_, ?_⟩
          · rw [sI_ne s9 (by decide), sI_ne s9 (by decide), w2.1 43 (by decide), w2.1 47 (by decide)]; exact g1
          · refine bookP_addE g2 hB (by rw [sI_1, if_pos ⟨rfl, rfl⟩]) (fun j h1 h2 => by rw [sI_1, if_neg (fun hc => h2 hc.2)]; exact w4 j (by omega)) (w3.cg (fun j h1 h2 => by rw [sI_1, if_neg (by omega)]))
          · rw [sI_ne s9 (by decide), sI_ne s9 (by decide), w2.1 43 (by decide), w2.1 48 (by decide)]; exact g3
          · rw [sI_ne s9 (by decide), sI_ne s9 (by decide), w2.1 45 (by decide), w2.1 46 (by decide)]; exact g4
          · rw [sI_ne s9 (by decide), sI_ne s9 (by decide), w2.1 45 (by decide), w2.1 46 (by decide)]; exact g5
    · have e5 : b_ec B = 5 := by have := hB.2.1; omega
      refine ⟨-1000000004, ([], B, T, im), hok0, fun hC => ?_, fun s hR => ?_⟩
      · obtain ⟨s7, t1, t2, t3, t4⟩ := c7 σ hC
        refine ⟨s7, ?_, t2, t3.u43 (by decide)⟩
        have ea : f_X1_addEnding s7 (eL (g 0)) = some (-1, s7) := by
          unfold f_X1_addEnding
          rw [t2.2.1.2.1]
          show (if nI (b_ec B) < 5 then _ else _) = _
          rw [e5, if_neg (by decide)]
        unfold f_X7_ending
        rw [t1, cA_s, x5, z0, rL_n (by omega) (by decide), t4 hfit 0 (by omega), if_pos rfl, sizeOf_s hg0.1 (by omega), cP_s, if_neg (fun hc => by have := (c_gt 4 (by omega) (by decide)).mp hc; omega), hasEnding7_s t2.2.1 hB hg0.1 (by omega), cP_s, bI_f hh, if_pos z0, ea, cA_s, if_pos rfl]
      · obtain ⟨s8, t1, t2, t3, t4, t5⟩ := c8 s hR
        refine ⟨s8, ?_, t2, t3⟩
        have r1 : ∀ (F : Int32 → Option (Int32 × Sg)), rI s8 44 475 1 F = F 5 := fun F => by
          rw [show (1 : Int32) = nI 1 from rfl, rI_n (by omega) (by decide), t2.2.1.2.1]
          show F (nI (b_ec B)) = _
          rw [e5]; rfl
        unfold f_X8_ending
        rw [t1]
        simp only [jn_s]
        rw [w8 s8 t2 t4 t5, bI_t ⟨⟨hm1, hl4⟩, hh⟩, if_neg n10, r1, if_pos rfl]
  · refine ⟨-1000000003, ([], B, T, im), hok0, fun hC => ?_, fun s hR => ?_⟩
    · obtain ⟨s7, t1, t2, t3, t4⟩ := c7 σ hC
      refine ⟨s7, ?_, t2, t3.u43 (by decide)⟩
      unfold f_X7_ending
      rw [t1, cA_s, show (0 : Int32) = nI 0 from rfl, rL_n (by omega) (by decide), show nI 0 = (0 : Int32) from rfl]
      rcases Classical.em (fit S S.length) with q | q
      · rw [fitI_t q, if_neg n10]
        by_cases hm1 : m = 1
        · have hg0 := o2 0 (by omega)
          have h12 : (g 0).length ≤ 12 := by have := q.2 0 (by rw [em]; omega); rw [eg] at this; exact this
          rw [if_pos (by rw [hm1]; rfl), t4 q 0 (by omega), sizeOf_s hg0.1 h12, cP_s]
          by_cases h4 : 4 < (g 0).length
          · rw [if_pos ((c_gt 4 (by omega) (by decide)).mpr h4)]
          · rw [if_neg (fun hc => h4 ((c_gt 4 (by omega) (by decide)).mp hc)), hasEnding7_s t2.2.1 hB hg0.1 h12, cP_s]
            rcases Classical.em (hasE B (g 0)) with h3 | h3
            · rw [bI_t h3, if_neg n10]
            · exact absurd ⟨⟨hm1, by omega⟩, h3⟩ hf
        · rw [if_neg (fun hc => hm1 ((c_eq 1 (by omega) (by decide)).mp hc))]
      · rw [fitI_f q, if_pos rfl, if_neg (by decide)]
    · obtain ⟨s8, t1, t2, t3, t4, t5⟩ := c8 s hR
      refine ⟨s8, ?_, t2, t3⟩
      unfold f_X8_ending
      rw [t1]
      simp only [jn_s]
      rw [w8 s8 t2 t4 t5, bI_f hf, if_pos rfl]
