/-! found, chosen -/
theorem dv8 {i t : Nat} (hi : i ≤ 60) (ht : t < 8) : nI (8 * i + t) / 8 = nI i :=
  (pk_div (a := 8 * i + t) (d := 8) (by omega) (by decide) (by decide)).trans (by congr 1; omega)
theorem md8 {i t : Nat} (hi : i ≤ 60) (ht : t < 8) : nI (8 * i + t) - nI (8 * i + t) / 8 * 8 = nI t :=
  (pk_rem (a := 8 * i + t) (d := 8) (by omega) (by decide) (by decide)).trans (by congr 1; omega)
section PC
variable {B : Bk} {T : Tx} {s : Sg}
theorem indC {j u : Nat} (hu : u < 2 ^ 31) (h : ch B T j = nI u) : ∀ t, t < 2 ^ 31 → sumN (ind (QC B T) j) t = if u < t then 1 else 0 := by
  intro t
  induction t with
  | zero => intro _; rfl
  | succ t ih =>
    intro ht
    show sumN (ind (QC B T) j) t + ind (QC B T) j t = _
    rw [ih (by omega)]
    by_cases z : u = t
    · rw [ind_t (show QC B T j t = true from decide_eq_true (by rw [h, z])), if_neg (by omega), if_pos (by omega)]
    · rw [ind_f (show ¬ QC B T j t = true from fun g => z ((nI_eq hu (by omega)).mp (h.symm.trans (of_decide_eq_true g))))]
      by_cases y : u < t
      · rw [if_pos y, if_pos (by omega)]
      · rw [if_neg y, if_neg (by omega)]
theorem indC0 {j : Nat} (h : ch B T j = -1) : ∀ t, t < 2 ^ 31 → sumN (ind (QC B T) j) t = 0 := by
  intro t
  induction t with
  | zero => intro _; rfl
  | succ t ih =>
    intro ht
    show sumN (ind (QC B T) j) t + ind (QC B T) j t = _
    rw [ih (by omega), ind_f (show ¬ QC B T j t = true from fun g => nI_m1 (show t < 2 ^ 31 by omega) ((of_decide_eq_true g).symm.trans h))]
theorem rcnC (hB : Bok B) : ∀ i, sumN (rcn (QC B T) (b_tc B)) i = cc B T i := by
  have h8 := hB.1
  intro i
  induction i with
  | zero => rfl
  | succ i ih =>
    show sumN (rcn (QC B T) (b_tc B)) i + sumN (ind (QC B T) i) (b_tc B) = _
    rw [ih]
    rcases ch_or (T := T) hB i with ⟨g1, -, g3, -⟩ | ⟨-, u, hu, -, -, g1, -, g3⟩
    · rw [indC0 g1 _ (by omega), g3]; rfl
    · rw [indC (by omega) g1 _ (by omega), if_pos hu, g3]
theorem pfC (hB : Bok B) {i t : Nat} (ht : t < b_tc B) (h : ch B T i = nI t) : pf (QC B T) (b_tc B) i t = cc B T i := by
  have h8 := hB.1
  unfold pf
  rw [rcnC hB, indC (by omega) h _ (by omega), if_neg (by omega)]
  rfl
end PC
theorem ps_found (σ : Sg) (a1 a2 : Int32) (h : InvA σ) : ∃ (r : Int32) (σ1 σ2 : Sg), f_X7_found σ a1 a2 = some (r, σ1) ∧ f_X8_found σ1 a1 a2 = some (r, σ2) ∧ InvA σ2 := by
  refine step2 (f7 := fun s => f_X7_found s a1 a2) (f8 := fun s => f_X8_found s a1 a2) h (fun M hm => ?_)
  obtain ⟨S, B, T, im⟩ := M
  have hm0 := hm
  obtain ⟨hS, hB, hT, hI⟩ := hm
  have hB : Bok B := hB
  have hT : Tok T := hT
  have h8 := hB.1
  have h60 := hT.1
  have n10 : ¬ (1 : Int32) = 0 := by decide
  by_cases ha : a1 < 0
  · refine ⟨-1000000002, (S, B, T, im), hm0, fun hC => ⟨σ, ?_, hC, Un43.rf⟩, fun s hR => ⟨s, ?_, hR, Un42.rf⟩⟩
    · unfold f_X7_found
      rw [if_pos ha]
    · unfold f_X8_found
      rw [if_pos ha]
  · by_cases hw : 0 ≤ a2 ∧ a2 ≤ 3
    · have hw' := hw
      obtain ⟨k, hk, rfl⟩ := nI_of ha
      obtain ⟨w, -, wl, rfl⟩ := nat_of (lo := 0) (hi := 3) (by decide) hw (by decide)
      have c7 : ∀ {s s' : Sg} (x4 x6 : Int32), f_X7_settled s = some ((), s') → f_X4_foundAt s' (nI k) = some x4 → f_X4_foundTerm s' (nI k) = some x6 → f_X7_found s (nI k) (nI w) = if x4 = (-1) then (some ((-1), s')) else (if x6 = (-1) then (some ((-1), s')) else (if nI w = 0 then (some (x4, s')) else (if nI w = 1 then (some (x6, s')) else (if nI w = 2 then (cP (f_X1_worthOf s' x6) fun x11 => (some (x11, s'))) else (cP (f_X4_isChosen s' x4 x6) fun x13 => (if x13 = 0 then (some (0, s')) else (some (1, s')))))))) := by
        intro s s' x4 x6 e1 e2 e3
        unfold f_X7_found
        rw [if_neg ha, if_neg (nI_pos (by omega)), if_pos hw'.2, e1, cA_s, e2, cP_s, e3, cP_s]
      have c8 : ∀ {s s' s'' : Sg} (x3 : Int32), f_X8_choose s = some ((), s') → f_X8_place_L9 (some ((-1), s')) s' 0 fu (nI k) 0 = some (x3, s'') → f_X8_found s (nI k) (nI w) = if x3 = (-1) then (some ((-1), s'')) else (if nI w = 0 then (some ((x3 / 8), s'')) else (if nI w = 1 then (some ((x3 - x3 / 8 * 8), s'')) else (if nI w = 2 then (cP (f_X8_worthOf s'' (x3 - x3 / 8 * 8)) fun x10 => (some (x10, s''))) else (rI s'' 53 60 (x3 / 8) fun x6 => (if x6 = (x3 - x3 / 8 * 8) then (some (1, s'')) else (some (0, s''))))))) := by
        intro s s' s'' x3 e1 e2
        unfold f_X8_found f_X8_place
        rw [if_neg ha, in8_s, in_bI, cP_s, bI_t hw', if_neg n10, e1, cA_s, e2, cA_s]
      rcases Classical.em (∃ i t, i < t_c T ∧ t < b_tc B ∧ QF B T i t = true ∧ pf (QF B T) (b_tc B) i t = k) with hex | hex
      · obtain ⟨i, t, hi, ht, hq, hp⟩ := hex
        have g7 : InvC σ (S, B, T, im) → ∃ s', InvC s' (S, B, T, im) ∧ stl s' B T ∧ Un43 σ s' ∧ f_X7_found σ (nI k) (nI w) = if nI w = 0 then (some (nI i, s')) else (if nI w = 1 then (some (nI t, s')) else (if nI w = 2 then (cP (f_X1_worthOf s' (nI t)) fun x11 => (some (x11, s'))) else (cP (f_X4_isChosen s' (nI i) (nI t)) fun x13 => (if x13 = 0 then (some (0, s')) else (some (1, s')))))) := fun hC => by
          obtain ⟨s', e1, e2, e3, e4⟩ := settled7_s hB hT hC
          refine ⟨s', e2, e3, e4, ?_⟩
          rw [c7 _ _ e1 (foundAt7_A hB hT e2.2.2.1 e3.1 hk hi ht hq hp) (foundTerm7_A hB hT e2.2.1 e2.2.2.1 e3.1 hk hi ht hq hp), if_neg (nI_m1 (by omega)), if_neg (nI_m1 (by omega))]
        have g8 : ∀ s, InvR s (S, B, T, im) → ∃ s', InvR s' (S, B, T, im) ∧ Un42 s s' ∧ (∀ j, j < t_c T → s'.1 53 j = ch B T j) ∧ f_X8_found s (nI k) (nI w) = if nI w = 0 then (some (nI i, s')) else (if nI w = 1 then (some (nI t, s')) else (if nI w = 2 then (cP (f_X8_worthOf s' (nI t)) fun x10 => (some (x10, s'))) else (rI s' 53 60 (nI i) fun x6 => (if x6 = nI t then (some (1, s')) else (some (0, s')))))) := fun s hR => by
          obtain ⟨s', e1, e2, e3, e4⟩ := choose8_s hB hT hR.2.1 hR.2.2.1
          have hR' := hR.c8 e2
          have H : plH s' 0 (QF B T) (t_c T) (b_tc B) := place8_F hB hT hR'.2.1 hR'.2.2.1
          refine ⟨s', hR', e2.u42 (by decide), e4, ?_⟩
          rw [c8 _ e1 (place8_A H hk h60 h8 hR'.2.2.1.1 hi ht hq hp), if_neg (nI_m1 (by omega)), md8 (by omega) (by omega), dv8 (by omega) (by omega)]
        rcases (show w = 0 ∨ w = 1 ∨ w = 2 ∨ w = 3 by omega) with rfl | rfl | rfl | rfl
        · refine ⟨nI i, (S, B, T, im), hm0, fun hC => ?_, fun s hR => ?_⟩
          · obtain ⟨s', e1, e2, e3, e4⟩ := g7 hC
            exact ⟨s', by rw [e4, if_pos (show nI 0 = 0 from rfl)], e1, e3⟩
          · obtain ⟨s', e1, e2, e3, e4⟩ := g8 s hR
            exact ⟨s', by rw [e4, if_pos (show nI 0 = 0 from rfl)], e1, e2⟩
        · refine ⟨nI t, (S, B, T, im), hm0, fun hC => ?_, fun s hR => ?_⟩
          · obtain ⟨s', e1, e2, e3, e4⟩ := g7 hC
            exact ⟨s', by rw [e4, if_neg (show ¬ nI 1 = 0 by decide), if_pos (show nI 1 = 1 from rfl)], e1, e3⟩
          · obtain ⟨s', e1, e2, e3, e4⟩ := g8 s hR
            exact ⟨s', by rw [e4, if_neg (show ¬ nI 1 = 0 by decide), if_pos (show nI 1 = 1 from rfl)], e1, e2⟩
        · refine ⟨nI (b_we B t * b_n B t), (S, B, T, im), hm0, fun hC => ?_, fun s hR => ?_⟩
          · obtain ⟨s', e1, e2, e3, e4⟩ := g7 hC
            exact ⟨s', by rw [e4, if_neg (show ¬ nI 2 = 0 by decide), if_neg (show ¬ nI 2 = 1 by decide), if_pos (show nI 2 = 2 from rfl), worthOf7_s e1.2.1 hB ht, cP_s], e1, e3⟩
          · obtain ⟨s', e1, e2, e3, e4⟩ := g8 s hR
            exact ⟨s', by rw [e4, if_neg (show ¬ nI 2 = 0 by decide), if_neg (show ¬ nI 2 = 1 by decide), if_pos (show nI 2 = 2 from rfl), worthOf8_s e1.2.1 hB ht, cP_s], e1, e2⟩
        · refine ⟨bI (ch B T i = nI t), (S, B, T, im), hm0, fun hC => ?_, fun s hR => ?_⟩
          · obtain ⟨s', e1, e2, e3, e4⟩ := g7 hC
            refine ⟨s', ?_, e1, e3⟩
            rw [e4, if_neg (show ¬ nI 3 = 0 by decide), if_neg (show ¬ nI 3 = 1 by decide), if_neg (show ¬ nI 3 = 2 by decide), isChosen7_s hB hT e2 hi ht, cP_s]
            by_cases z : ch B T i = nI t
            · rw [bI_t z, if_neg n10]
            · rw [bI_f z, if_pos rfl]
          · obtain ⟨s', e1, e2, e3, e4⟩ := g8 s hR
            refine ⟨s', ?_, e1, e2⟩
            rw [e4, if_neg (show ¬ nI 3 = 0 by decide), if_neg (show ¬ nI 3 = 1 by decide), if_neg (show ¬ nI 3 = 2 by decide), rI_n (by omega) (by decide), e3 i hi]
            by_cases z : ch B T i = nI t
            · rw [bI_t z, if_pos z]
            · rw [bI_f z, if_neg z]
      · have htot : sumN (rcn (QF B T) (b_tc B)) (t_c T) ≤ k := Nat.le_of_not_lt (fun g => hex (pf_ex g))
        refine ⟨-1, (S, B, T, im), hm0, fun hC => ?_, fun s hR => ?_⟩
        · obtain ⟨s', e1, e2, e3, e4⟩ := settled7_s hB hT hC
          exact ⟨s', by rw [c7 _ _ e1 (foundAt7_B hB hT e2.2.2.1 e3.1 hk htot) (foundTerm7_B hB hT e2.2.1 e2.2.2.1 e3.1 hk htot), if_pos rfl], e2, e4⟩
        · obtain ⟨s', e1, e2, e3, e4⟩ := choose8_s hB hT hR.2.1 hR.2.2.1
          have hR' := hR.c8 e2
          have H : plH s' 0 (QF B T) (t_c T) (b_tc B) := place8_F hB hT hR'.2.1 hR'.2.2.1
          exact ⟨s', by rw [c8 _ e1 (place8_B H hk h60 h8 hR'.2.2.1.1 htot), if_pos rfl], hR', e2.u42 (by decide)⟩
    · refine ⟨-1000000002, (S, B, T, im), hm0, fun hC => ⟨σ, ?_, hC, Un43.rf⟩, fun s hR => ⟨s, ?_, hR, Un42.rf⟩⟩
      · unfold f_X7_found
        rw [if_neg ha]
        by_cases z : a2 < 0
        · rw [if_pos z]
        · rw [if_neg z, if_neg (fun g => hw ⟨i32_nlt.mp z, g⟩)]
      · unfold f_X8_found
        rw [if_neg ha, in8_s, in_bI, cP_s, bI_f hw, if_pos rfl]
theorem ps_chosen (σ : Sg) (a1 a2 : Int32) (h : InvA σ) : ∃ (r : Int32) (σ1 σ2 : Sg), f_X7_chosen σ a1 a2 = some (r, σ1) ∧ f_X8_chosen σ1 a1 a2 = some (r, σ2) ∧ InvA σ2 := by
  refine step2 (f7 := fun s => f_X7_chosen s a1 a2) (f8 := fun s => f_X8_chosen s a1 a2) h (fun M hm => ?_)
  obtain ⟨S, B, T, im⟩ := M
  have hm0 := hm
  obtain ⟨hS, hB, hT, hI⟩ := hm
  have hB : Bok B := hB
  have hT : Tok T := hT
  have h8 := hB.1
  have h60 := hT.1
  have hccl := cc_le (B := B) (T := T) (t_c T)
  have n10 : ¬ (1 : Int32) = 0 := by decide
  by_cases ha : a1 < 0
  · refine ⟨-1000000002, (S, B, T, im), hm0, fun hC => ⟨σ, ?_, hC, Un43.rf⟩, fun s hR => ⟨s, ?_, hR, Un42.rf⟩⟩
    · unfold f_X7_chosen
      rw [if_pos ha]
    · unfold f_X8_chosen
      rw [if_pos ha]
  · by_cases hw : 0 ≤ a2 ∧ a2 ≤ 3
    · have hw' := hw
      obtain ⟨k, hk, rfl⟩ := nI_of ha
      obtain ⟨w, -, wl, rfl⟩ := nat_of (lo := 0) (hi := 3) (by decide) hw (by decide)
      have c8 : ∀ {s s' s'' : Sg} (x3 : Int32), f_X8_choose s = some ((), s') → f_X8_place_L9 (some ((-1), s')) s' 1 fu (nI k) 0 = some (x3, s'') → f_X8_chosen s (nI k) (nI w) = if x3 = (-1) then (some ((-1), s'')) else (if nI w = 0 then (some ((x3 / 8), s'')) else (if nI w = 1 then (some ((x3 - x3 / 8 * 8), s'')) else (if nI w = 2 then (cP (f_X8_worthOf s'' (x3 - x3 / 8 * 8)) fun x11 => (some (x11, s''))) else (cP (f_X8_termAt s'' (x3 - x3 / 8 * 8)) fun x6 => (rI s'' 44 475 (x6 + 3) fun x8 => (some (x8, s''))))))) := by
        intro s s' s'' x3 e1 e2
        unfold f_X8_chosen f_X8_place
        rw [if_neg ha, in8_s, in_bI, cP_s, bI_t hw', if_neg n10, e1, cA_s, e2, cA_s]
      rcases Nat.lt_or_ge k (cc B T (t_c T)) with hlt | hge
      · obtain ⟨i, t, hi, ht, hq, hp⟩ := pf_ex (Q := QC B T) (m := b_tc B) (c := t_c T) (k := k) (by rw [rcnC hB]; exact hlt)
        have hch : ch B T i = nI t := of_decide_eq_true hq
        have hcc : cc B T i = k := by rw [← pfC hB ht hch]; exact hp
        have hne : ch B T i ≠ -1 := by rw [hch]; exact nI_m1 (by omega)
        have g7 : InvC σ (S, B, T, im) → ∃ s', InvC s' (S, B, T, im) ∧ Un43 σ s' ∧ f_X7_chosen σ (nI k) (nI w) = if nI w = 0 then (some (nI i, s')) else (if nI w = 1 then (some (nI t, s')) else (if nI w = 2 then (cP (f_X1_worthOf s' (nI t)) fun x13 => (some (x13, s'))) else (some (b_pr B t, s')))) := fun hC => by
          obtain ⟨s', e1, e2, e3, e4⟩ := settled7_s hB hT hC
          refine ⟨s', e2, e4, ?_⟩
          obtain ⟨-, -, -, q3, q4, -⟩ := e3
          obtain ⟨r1, r2⟩ := q4 i hi hne
          rw [hcc] at r1 r2
          unfold f_X7_chosen
          rw [if_neg ha, if_neg (nI_pos (by omega)), if_pos hw'.2, e1, cA_s, q3, if_pos (nI_lt hlt (by omega)), rI_n (by omega) (by decide), r2, hch, rI_n (by omega) (by decide), r1, rI_n (by omega) (by decide), (e2.2.1.2.2.1 t ht).2.2.2.1]
        have g8 : ∀ s, InvR s (S, B, T, im) → ∃ s', InvR s' (S, B, T, im) ∧ Un42 s s' ∧ f_X8_chosen s (nI k) (nI w) = if nI w = 0 then (some (nI i, s')) else (if nI w = 1 then (some (nI t, s')) else (if nI w = 2 then (cP (f_X8_worthOf s' (nI t)) fun x11 => (some (x11, s'))) else (some (b_pr B t, s')))) := fun s hR => by
          obtain ⟨s', e1, e2, e3, e4⟩ := choose8_s hB hT hR.2.1 hR.2.2.1
          have hR' := hR.c8 e2
          have H : plH s' 1 (QC B T) (t_c T) (b_tc B) := place8_C hB hT hR'.2.1 e4
          refine ⟨s', hR', e2.u42 (by decide), ?_⟩
          rw [c8 _ e1 (place8_A H hk h60 h8 hR'.2.2.1.1 hi ht hq hp), if_neg (nI_m1 (by omega)), md8 (by omega) (by omega), dv8 (by omega) (by omega), termAt8_s, cP_s, nI_p3, rI_n (by omega) (by decide), (hR'.2.1.2.2.1 t ht).2.2.2.1]
        rcases (show w = 0 ∨ w = 1 ∨ w = 2 ∨ w = 3 by omega) with rfl | rfl | rfl | rfl
        · refine ⟨nI i, (S, B, T, im), hm0, fun hC => ?_, fun s hR => ?_⟩
          · obtain ⟨s', e1, e3, e4⟩ := g7 hC
            exact ⟨s', by rw [e4, if_pos (show nI 0 = 0 from rfl)], e1, e3⟩
          · obtain ⟨s', e1, e2, e4⟩ := g8 s hR
            exact ⟨s', by rw [e4, if_pos (show nI 0 = 0 from rfl)], e1, e2⟩
        · refine ⟨nI t, (S, B, T, im), hm0, fun hC => ?_, fun s hR => ?_⟩
          · obtain ⟨s', e1, e3, e4⟩ := g7 hC
            exact ⟨s', by rw [e4, if_neg (show ¬ nI 1 = 0 by decide), if_pos (show nI 1 = 1 from rfl)], e1, e3⟩
          · obtain ⟨s', e1, e2, e4⟩ := g8 s hR
            exact ⟨s', by rw [e4, if_neg (show ¬ nI 1 = 0 by decide), if_pos (show nI 1 = 1 from rfl)], e1, e2⟩
        · refine ⟨nI (b_we B t * b_n B t), (S, B, T, im), hm0, fun hC => ?_, fun s hR => ?_⟩
          · obtain ⟨s', e1, e3, e4⟩ := g7 hC
            exact ⟨s', by rw [e4, if_neg (show ¬ nI 2 = 0 by decide), if_neg (show ¬ nI 2 = 1 by decide), if_pos (show nI 2 = 2 from rfl), worthOf7_s e1.2.1 hB ht, cP_s], e1, e3⟩
          · obtain ⟨s', e1, e2, e4⟩ := g8 s hR
            exact ⟨s', by rw [e4, if_neg (show ¬ nI 2 = 0 by decide), if_neg (show ¬ nI 2 = 1 by decide), if_pos (show nI 2 = 2 from rfl), worthOf8_s e1.2.1 hB ht, cP_s], e1, e2⟩
        · refine ⟨b_pr B t, (S, B, T, im), hm0, fun hC => ?_, fun s hR => ?_⟩
          · obtain ⟨s', e1, e3, e4⟩ := g7 hC
            exact ⟨s', by rw [e4, if_neg (show ¬ nI 3 = 0 by decide), if_neg (show ¬ nI 3 = 1 by decide), if_neg (show ¬ nI 3 = 2 by decide)], e1, e3⟩
          · obtain ⟨s', e1, e2, e4⟩ := g8 s hR
            exact ⟨s', by rw [e4, if_neg (show ¬ nI 3 = 0 by decide), if_neg (show ¬ nI 3 = 1 by decide), if_neg (show ¬ nI 3 = 2 by decide)], e1, e2⟩
      · refine ⟨-1, (S, B, T, im), hm0, fun hC => ?_, fun s hR => ?_⟩
        · obtain ⟨s', e1, e2, e3, e4⟩ := settled7_s hB hT hC
          refine ⟨s', ?_, e2, e4⟩
          obtain ⟨-, -, -, q3, q4, -⟩ := e3
          unfold f_X7_chosen
          rw [if_neg ha, if_neg (nI_pos (by omega)), if_pos hw'.2, e1, cA_s, q3, if_neg (nI_nlt hge hk)]
        · obtain ⟨s', e1, e2, e3, e4⟩ := choose8_s hB hT hR.2.1 hR.2.2.1
          have hR' := hR.c8 e2
          have H : plH s' 1 (QC B T) (t_c T) (b_tc B) := place8_C hB hT hR'.2.1 e4
          exact ⟨s', by rw [c8 _ e1 (place8_B H hk h60 h8 hR'.2.2.1.1 (by rw [rcnC hB]; exact hge)), if_pos rfl], hR', e2.u42 (by decide)⟩
    · refine ⟨-1000000002, (S, B, T, im), hm0, fun hC => ⟨σ, ?_, hC, Un43.rf⟩, fun s hR => ⟨s, ?_, hR, Un42.rf⟩⟩
      · unfold f_X7_chosen
        rw [if_neg ha]
        by_cases z : a2 < 0
        · rw [if_pos z]
        · rw [if_neg z, if_neg (fun g => hw ⟨i32_nlt.mp z, g⟩)]
      · unfold f_X8_chosen
        rw [if_neg ha, in8_s, in_bI, cP_s, bI_f hw, if_pos rfl]
