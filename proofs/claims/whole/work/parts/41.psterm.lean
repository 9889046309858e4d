theorem ps_term (σ : Sg) (a1 a2 : Int32) (h : InvA σ) : ∃ (r : Int32) (σ1 σ2 : Sg), f_X7_term σ a1 a2 = some (r, σ1) ∧ f_X8_term σ1 a1 a2 = some (r, σ2) ∧ InvA σ2 := by
  refine step2 (f7 := fun s => f_X7_term s a1 a2) (f8 := fun s => f_X8_term s a1 a2) h (fun M hm => ?_)
  obtain ⟨S, B, T, im⟩ := M
  obtain ⟨hS, hB, hT, hI⟩ := hm
  have hS : Sok S := hS
  have hB : Bok B := hB
  have hT : Tok T := hT
  have hI : ∀ i B, im i = some B → Bok B := hI
  by_cases hv : (1 ≤ a1 ∧ a1 ≤ 9) ∧ (0 ≤ a2 ∧ a2 ≤ 1)
  · obtain ⟨we, hwe1, hwe2, rfl⟩ := nat_of (lo := 1) (hi := 9) (by decide) hv.1 (by decide)
    obtain ⟨be, hbe1, hbe2, rfl⟩ := nat_of (lo := 0) (hi := 1) (by decide) hv.2 (by decide)
    have hS50 := hS.1
    obtain ⟨m1, m2, m3⟩ := sp_m hS (Nat.le_refl S.length)
    obtain ⟨o1, o2, o3⟩ := sp_ok hS.2 S.length (Nat.le_refl _)
    generalize em : spm S S.length = m at *
    generalize eg : spg S S.length = g at *
    have hok0 : Mok ([], B, T, im) := ⟨⟨by simp, fun x hx => by simp at hx⟩, hB, hT, hI⟩
    -- the class's first steps
    have c7 : ∀ s, InvC s (S, B, T, im) → ∃ s7, f_X5_takeWords s = some (if fitI S S.length = 0 then 0 else nI m, s7) ∧ InvC s7 ([], B, T, im) ∧ Sm [1] [3] s s7 ∧ (fit S S.length → ∀ j, j < m → s7.2 3 j = eL (g j)) := by
      intro s hC
      obtain ⟨s7, t1, t2, t3, t4⟩ := takeWords_s hS hC.1
      rw [em] at t1
      rw [em, eg] at t4
      have u : Sm [1] [3] s s7 := ⟨fun a ha => by rw [t2]; exact sI_ne s (fun e => ha (by rw [e]; decide)), fun a ha => t3 a (fun e => ha (by rw [e]; decide))⟩
      exact ⟨s7, t1, hC.slip0 u (by rw [t2]; simp [sI_1]), u, t4⟩
    -- the reference's first steps
    have c8 : ∀ s, InvR s (S, B, T, im) → ∃ s8, (∀ F : Int32 → Sg → Option (Int32 × Sg), cA (f_X8_parts s) (fun x5 s7 => pI s7 43 4 0 fun s8 => F x5 s8) = F (nI m) s8) ∧ InvR s8 ([], B, T, im) ∧ Un42 s s8 ∧ (∀ i x, S[i]? = some x → s8.1 47 i = sgn x) ∧ ∀ k, k < m → wAt (s8.1 49) (s8.1 50) S k (g k) (fun _ _ => True) := by
      intro s hR
      obtain ⟨s7, t1, t2, t3, t4⟩ := parts_s hS hR.1
      rw [em] at t1
      rw [em, eg] at t4
      refine ⟨sI s7 43 4 0, fun F => by rw [t1, cA_s, pI_s], ?_, ⟨t2, fun k hk => by rw [sI_ne s7 (by omega)]; exact t3 k (by omega) (by omega)⟩, fun i x hx => by rw [sI_ne s7 (by decide), t3 47 (by decide) (by decide)]; exact hR.1.2 i x hx, fun k hk => by rw [sI_ne s7 (by decide), sI_ne s7 (by decide)]; exact t4 k hk⟩
      exact InvR.slip0 hR (fun a h1 h2 h3 => by rw [sI_ne s7 h1]; exact t3 a h2 h3) (by simp [sI_1]) (fun j hj => by rw [sI_1, if_neg (fun hc => hj hc.2), t3 43 (by decide) (by decide)])
    have hin4 : ∀ s : Sg, f_X8_in s (nI m) 1 4 = some (bI (1 ≤ m ∧ m ≤ 4)) := by
      intro s
      rw [in8_s, in_bI]
      congr 1
      apply bI_cg
      rw [c_ge 1 (by omega) (by decide), c_le 4 (by omega) (by decide)]
    have hw7 : f_X7_isWeight σ (nI we) = some 1 := by rw [isWeight7_s, bI_t hv.1]
    have hb7 : f_X7_isBent σ (nI be) = some 1 := by rw [isBent7_s, bI_t hv.2]
    have hw8 : ∀ s, f_X8_in s (nI we) 1 9 = some 1 := fun s => by rw [in8_s, in_bI, bI_t hv.1]
    have hb8 : ∀ s, f_X8_in s (nI be) 0 1 = some 1 := fun s => by rw [in8_s, in_bI, bI_t hv.2]
    have n10 : ¬ (1 : Int32) = 0 := by decide
    by_cases hf : (1 ≤ m ∧ m ≤ 4) ∧ ∀ k, k < m → (g k).length ≤ 12
    · have hfit : fit S S.length := ⟨by rw [em]; exact hf.1.2, fun k hk => by rw [em] at hk; rw [eg]; exact hf.2 k hk⟩
      have hg : ∀ k, k < m → wok 12 (g k) := fun k hk => ⟨(o2 k hk).1, (o2 k hk).2, hf.2 k hk⟩
      have hsum : b_sum g m ≤ 51 := by
        have : (if spo S S.length = true then 1 else 0) ≤ 1 := by split <;> omega
        omega
      have x5 : (if fitI S S.length = 0 then (0 : Int32) else nI m) = nI m := by rw [fitI_t hfit, if_neg n10]
      have nm0 : ¬ nI m = 0 := nI_ne0 (by omega) (by omega)
      by_cases hh : hasT B m g
      · refine ⟨-1000000003, ([], B, T, im), hok0, fun hC => ?_, fun s hR => ?_⟩
        · obtain ⟨s7, t1, t2, t3, t4⟩ := c7 σ hC
          refine ⟨s7, ?_, t2, t3.u43 (by decide)⟩
          unfold f_X7_term
          rw [hw7, cP_s, if_neg n10, hb7, cP_s, if_neg n10, t1, cA_s, x5, if_neg nm0, hasTerm7_s t2.2.1 hB hf.1.2 hg (t4 hfit), cP_s, bI_t hh, if_neg n10]
        · obtain ⟨s8, t1, t2, t3, t4, t5⟩ := c8 s hR
          refine ⟨s8, ?_, t2, t3⟩
          unfold f_X8_term
          rw [hw8, cP_s, if_neg n10, hb8, cP_s, if_neg n10, t1, hin4, cP_s, term8_well hS50 m2 t5, bI_t hf, if_neg n10, isTermThere8_s t2.2.1 hB hS50 t4 hf.1.2 t5 (fun k hk => (hg k hk).1), cP_s, bI_t hh, if_neg n10]
      · by_cases ht : b_tc B < 8
        · refine ⟨nI (b_tc B), ([], addB B m g we be, T, im), ⟨hok0.1, addB_ok hB ht hf.1 ⟨hwe1, hwe2⟩ hbe2 hg hsum, hT, hI⟩, fun hC => ?_, fun s hR => ?_⟩
          · obtain ⟨s7, t1, t2, t3, t4⟩ := c7 σ hC
            obtain ⟨s12, d1, d2, d3⟩ := addTerm7_s (we := we) (be := be) t2.2.1 hB ht hf.1.2 (t4 hfit)
            obtain ⟨s15, e1, e2, e3⟩ := termsChanged_s s12
            have nt : ¬ nI (b_tc B) = -1 := nI_m1 (by omega)
            refine ⟨s15, ?_, ?_, ((t3.u43 (by decide)).tr (d3.u43 (by decide))).tr (e2.u43 (by decide))⟩
            · unfold f_X7_term
              rw [hw7, cP_s, if_neg n10, hb7, cP_s, if_neg n10, t1, cA_s, x5, if_neg nm0, hasTerm7_s t2.2.1 hB hf.1.2 hg (t4 hfit), cP_s, bI_f hh, if_pos rfl, d1, cA_s, if_neg nt, e1, cA_s]
            · obtain ⟨g1, g2, g3, g4, g5, g6⟩ := t2
              exact ⟨e2.slp (by decide) (d3.slp (by decide) g1), e2.lex (by decide) (by decide) d2, e2.txt (by decide) (by decide) (d3.txt (by decide) (by decide) g3), e2.ims (by decide) (by decide) (d3.ims (by decide) (by decide) g4), (e3 _ _).1, (e3 _ _).2⟩
          · obtain ⟨s8, t1, t2, t3, t4, t5⟩ := c8 s hR
            obtain ⟨s9, d1, d2, d3⟩ := term8_add (we := we) (be := be) t2.2.1 hB ht hf.1 hS50 t4 t5 hg
            refine ⟨s9, ?_, ?_, t3.tr (d2.u42 (by decide))⟩
            · unfold f_X8_term
              rw [hw8, cP_s, if_neg n10, hb8, cP_s, if_neg n10, t1, hin4, cP_s, term8_well hS50 m2 t5, bI_t hf, if_neg n10, isTermThere8_s t2.2.1 hB hS50 t4 hf.1.2 t5 (fun k hk => (hg k hk).1), cP_s, bI_f hh, if_pos rfl]
              have z0 : (0 : Int32) = nI 0 := rfl
              have hne8 : ¬ nI (b_tc B) = 8 := fun hc => by have := (c_eq 8 (by omega) (by decide)).mp hc; omega
              have r0 : ∀ (F : Int32 → Option (Int32 × Sg)), rI s8 44 475 0 F = F (nI (b_tc B)) := fun F => by
                rw [z0, rI_n (by omega) (by decide), t2.2.1.1]
              rw [r0, if_neg hne8]
              exact d1
            · obtain ⟨g1, g2, g3, g4, g5⟩ := t2
              refine ⟨?_, d3, ?_, ?_, ?_⟩
              · rw [d2.1 43 (by decide), d2.1 47 (by decide)]; exact g1
              · rw [d2.1 43 (by decide), d2.1 48 (by decide)]; exact g3
              · rw [d2.1 45 (by decide), d2.1 46 (by decide)]; exact g4
              · rw [d2.1 45 (by decide), d2.1 46 (by decide)]; exact g5
        · have h8 : b_tc B = 8 := by have := hB.1; omega
          refine ⟨-1000000004, ([], B, T, im), hok0, fun hC => ?_, fun s hR => ?_⟩
          · obtain ⟨s7, t1, t2, t3, t4⟩ := c7 σ hC
            refine ⟨s7, ?_, t2, t3.u43 (by decide)⟩
            have ea : f_X1_addTerm_4_3 s7 (nI m) (nI we) (nI be) = some (-1, s7) := by
              unfold f_X1_addTerm_4_3
              rw [t2.2.1.1]
              show (if nI (b_tc B) < 8 then _ else _) = _
              rw [h8, if_neg (by decide)]
            unfold f_X7_term
            rw [hw7, cP_s, if_neg n10, hb7, cP_s, if_neg n10, t1, cA_s, x5, if_neg nm0, hasTerm7_s t2.2.1 hB hf.1.2 hg (t4 hfit), cP_s, bI_f hh, if_pos rfl, ea, cA_s, if_pos rfl]
          · obtain ⟨s8, t1, t2, t3, t4, t5⟩ := c8 s hR
            refine ⟨s8, ?_, t2, t3⟩
            have r0 : ∀ (F : Int32 → Option (Int32 × Sg)), rI s8 44 475 0 F = F 8 := fun F => by
              rw [show (0 : Int32) = nI 0 from rfl, rI_n (by omega) (by decide), t2.2.1.1]
              show F (nI (b_tc B)) = _
              rw [h8]; rfl
            unfold f_X8_term
            rw [hw8, cP_s, if_neg n10, hb8, cP_s, if_neg n10, t1, hin4, cP_s, term8_well hS50 m2 t5, bI_t hf, if_neg n10, isTermThere8_s t2.2.1 hB hS50 t4 hf.1.2 t5 (fun k hk => (hg k hk).1), cP_s, bI_f hh, if_pos rfl, r0, if_pos rfl]
    · refine ⟨-1000000003, ([], B, T, im), hok0, fun hC => ?_, fun s hR => ?_⟩
      · obtain ⟨s7, t1, t2, t3, t4⟩ := c7 σ hC
        refine ⟨s7, ?_, t2, t3.u43 (by decide)⟩
        have x5 : (if fitI S S.length = 0 then (0 : Int32) else nI m) = 0 := by
          rcases Classical.em (fit S S.length) with q | q
          · rw [fitI_t q, if_neg n10]
            have : m = 0 := by
              rcases Nat.eq_zero_or_pos m with z | z
              · exact z
              · refine absurd ⟨⟨z, ?_⟩, fun k hk => ?_⟩ hf
                · have := q.1; rw [em] at this; exact this
                · have := q.2 k (by rw [em]; exact hk); rw [eg] at this; exact this
            rw [this]; rfl
          · rw [fitI_f q, if_pos rfl]
        unfold f_X7_term
        rw [hw7, cP_s, if_neg n10, hb7, cP_s, if_neg n10, t1, cA_s, x5, if_pos rfl]
      · obtain ⟨s8, t1, t2, t3, t4, t5⟩ := c8 s hR
        refine ⟨s8, ?_, t2, t3⟩
        unfold f_X8_term
        rw [hw8, cP_s, if_neg n10, hb8, cP_s, if_neg n10, t1, hin4, cP_s, term8_well hS50 m2 t5, bI_f hf, if_pos rfl]
  · refine ⟨-1000000002, (S, B, T, im), ⟨hS, hB, hT, hI⟩, fun hC => ⟨σ, ?_, hC, Un43.rf⟩, fun s hR => ⟨s, ?_, hR, Un42.rf⟩⟩
    · unfold f_X7_term
      rw [isWeight7_s, cP_s]
      rcases Classical.em (1 ≤ a1 ∧ a1 ≤ 9) with q | q
      · rw [bI_t q, if_neg (by decide), isBent7_s, cP_s, bI_f (fun z => hv ⟨q, z⟩), if_pos rfl]
      · rw [bI_f q, if_pos rfl]
    · unfold f_X8_term
      rw [in8_s, in_bI, cP_s]
      rcases Classical.em (1 ≤ a1 ∧ a1 ≤ 9) with q | q
      · rw [bI_t q, if_neg (by decide), in8_s, in_bI, cP_s, bI_f (fun z => hv ⟨q, z⟩), if_pos rfl]
      · rw [bI_f q, if_pos rfl]
