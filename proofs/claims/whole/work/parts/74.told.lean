/-! told, sign -/
theorem counts8_s {s s' : Sg} {c1 : Int32} {g : Nat → Nat → Nat} {B : Bk} {T : Tx} (hB : Bok B) (hT : Tok T) (e1 : f_X8_choose s = some ((), s')) (hx : txR s' T) (H : ctH s' c1 g (t_c T) (b_tc B)) : f_X8_counts s c1 = some (nI (sumN (fun i => sumN (g i) (b_tc B)) (t_c T)), s') := by
  unfold f_X8_counts
  rw [e1, cA_s]
  exact counts8_g H hT.1 hB.1 hx.1
theorem ps_told (σ : Sg) (a1 : Int32) (h : InvA σ) : ∃ (r : Int32) (σ1 σ2 : Sg), f_X7_told σ a1 = some (r, σ1) ∧ f_X8_told σ1 a1 = some (r, σ2) ∧ InvA σ2 := by
  refine step2 (f7 := fun s => f_X7_told s a1) (f8 := fun s => f_X8_told s a1) h (fun M hm => ?_)
  obtain ⟨S, B, T, im⟩ := M
  have hm0 := hm
  obtain ⟨hS, hB, hT, hI⟩ := hm
  have hB : Bok B := hB
  have hT : Tok T := hT
  have h8 := hB.1
  have h60 := hT.1
  by_cases hw : 0 ≤ a1 ∧ a1 ≤ 12
  · obtain ⟨w, -, wl, rfl⟩ := nat_of (lo := 0) (hi := 12) (by decide) hw (by decide)
    rcases (show w = 0 ∨ w = 1 ∨ w = 2 ∨ w = 3 ∨ w = 4 ∨ w = 5 ∨ w = 6 ∨ w = 7 ∨ w = 8 ∨ w = 9 ∨ w = 10 ∨ w = 11 ∨ w = 12 by omega) with rfl | rfl | rfl | rfl | rfl | rfl | rfl | rfl | rfl | rfl | rfl | rfl | rfl
    · refine ⟨nI (b_tc B), (S, B, T, im), hm0, fun hC => ⟨σ, ?_, hC, Un43.rf⟩, fun s hR => ⟨s, ?_, hR, Un42.rf⟩⟩
      · unfold f_X7_told
        rw [if_pos (show nI 0 = 0 from rfl), hC.2.1.1]
      · unfold f_X8_told
        rw [if_pos (show nI 0 = 0 from rfl), show rI s 44 475 0 = rI (α := Int32 × Sg) s 44 475 (nI 0) from rfl, rI_n (by omega) (by decide), hR.2.1.1]
    · refine ⟨nI (b_ec B), (S, B, T, im), hm0, fun hC => ⟨σ, ?_, hC, Un43.rf⟩, fun s hR => ⟨s, ?_, hR, Un42.rf⟩⟩
      · unfold f_X7_told
        rw [if_neg (show ¬ nI 1 = 0 by decide), if_pos (show nI 1 = 1 from rfl), hC.2.1.2.1]
      · unfold f_X8_told
        rw [if_neg (show ¬ nI 1 = 0 by decide), if_pos (show nI 1 = 1 from rfl), show rI s 44 475 1 = rI (α := Int32 × Sg) s 44 475 (nI 1) from rfl, rI_n (by omega) (by decide), hR.2.1.2.1]
    · refine ⟨nI S.length, (S, B, T, im), hm0, fun hC => ⟨σ, ?_, hC, Un43.rf⟩, fun s hR => ⟨s, ?_, hR, Un42.rf⟩⟩
      · have e : σ.1 1 1 = nI S.length := hC.1.1
        unfold f_X7_told
        rw [if_neg (show ¬ nI 2 = 0 by decide), if_neg (show ¬ nI 2 = 1 by decide), if_pos (show nI 2 = 2 from rfl), e]
      · have e : s.1 43 4 = nI S.length := hR.1.1
        unfold f_X8_told
        rw [if_neg (show ¬ nI 2 = 0 by decide), if_neg (show ¬ nI 2 = 1 by decide), if_pos (show nI 2 = 2 from rfl), e]
    · refine ⟨nI (t_c T), (S, B, T, im), hm0, fun hC => ⟨σ, ?_, hC, Un43.rf⟩, fun s hR => ⟨s, ?_, hR, Un42.rf⟩⟩
      · have e : σ.1 26 0 = nI (t_c T) := hC.2.2.1.1
        unfold f_X7_told
        rw [if_neg (show ¬ nI 3 = 0 by decide), if_neg (show ¬ nI 3 = 1 by decide), if_neg (show ¬ nI 3 = 2 by decide), if_pos (show nI 3 = 3 from rfl), e]
      · have e : s.1 43 6 = nI (t_c T) := hR.2.2.1.1
        unfold f_X8_told
        rw [if_neg (show ¬ nI 3 = 0 by decide), if_neg (show ¬ nI 3 = 1 by decide), if_neg (show ¬ nI 3 = 2 by decide), if_pos (show nI 3 = 3 from rfl), e]
    · refine ⟨nI (t_se T), (S, B, T, im), hm0, fun hC => ⟨σ, ?_, hC, Un43.rf⟩, fun s hR => ⟨s, ?_, hR, Un42.rf⟩⟩
      · have e : σ.1 26 4 = nI (t_se T) := hC.2.2.1.2.1
        unfold f_X7_told
        rw [if_neg (show ¬ nI 4 = 0 by decide), if_neg (show ¬ nI 4 = 1 by decide), if_neg (show ¬ nI 4 = 2 by decide), if_neg (show ¬ nI 4 = 3 by decide), if_pos (show nI 4 = 4 from rfl), e]
      · have e : s.1 43 7 = nI (t_se T) := hR.2.2.1.2.1
        unfold f_X8_told
        rw [if_neg (show ¬ nI 4 = 0 by decide), if_neg (show ¬ nI 4 = 1 by decide), if_neg (show ¬ nI 4 = 2 by decide), if_neg (show ¬ nI 4 = 3 by decide), if_pos (show nI 4 = 4 from rfl), e]
    · refine ⟨nI (t_cw T).length, (S, B, T, im), hm0, fun hC => ⟨σ, ?_, hC, Un43.rf⟩, fun s hR => ⟨s, ?_, hR, Un42.rf⟩⟩
      · have e : σ.2 26 5 = eL (t_cw T) := hC.2.2.1.2.2.1
        unfold f_X7_told
        rw [if_neg (show ¬ nI 5 = 0 by decide), if_neg (show ¬ nI 5 = 1 by decide), if_neg (show ¬ nI 5 = 2 by decide), if_neg (show ¬ nI 5 = 3 by decide), if_neg (show ¬ nI 5 = 4 by decide), if_pos (show nI 5 = 5 from rfl), e, sizeOf_s hT.2.2.2.1.1 hT.2.2.2.1.2, cP_s]
      · have e : s.1 43 6 = nI (t_c T) := hR.2.2.1.1
        unfold f_X8_told
        rw [if_neg (show ¬ nI 5 = 0 by decide), if_neg (show ¬ nI 5 = 1 by decide), if_neg (show ¬ nI 5 = 2 by decide), if_neg (show ¬ nI 5 = 3 by decide), if_neg (show ¬ nI 5 = 4 by decide), if_pos (show nI 5 = 5 from rfl), e]
        by_cases z : t_c T = 60
        · rw [if_pos (by rw [z]; decide), hT.2.2.2.2.2.1 z]
          rfl
        · rw [if_neg (fun g => by have := (c_ge 60 (by omega) (by decide)).mp g; omega), i15, rI_n (by omega) (by decide), (hR.2.2.1.2.2.2.1).1]
    · refine ⟨nI (sumN (fun i => sumN (ind (QF B T) i) (b_tc B)) (t_c T)), (S, B, T, im), hm0, fun hC => ?_, fun s hR => ?_⟩
      · obtain ⟨s', e1, e2, e3, e4⟩ := settled7_s hB hT hC
        refine ⟨s', ?_, e2, e4⟩
        have e5 : f_X4_foundCount s' = some (nI (sumN (fun i => sumN (ind (QF B T) i) (b_tc B)) (t_c T))) := foundCount7_s hB hT e2.2.2.1 e3.1
        unfold f_X7_told
        rw [if_neg (show ¬ nI 6 = 0 by decide), if_neg (show ¬ nI 6 = 1 by decide), if_neg (show ¬ nI 6 = 2 by decide), if_neg (show ¬ nI 6 = 3 by decide), if_neg (show ¬ nI 6 = 4 by decide), if_neg (show ¬ nI 6 = 5 by decide), if_pos (show nI 6 = 6 from rfl), e1, cA_s, e5, cP_s]
      · obtain ⟨s', e1, e2, e3, e4⟩ := choose8_s hB hT hR.2.1 hR.2.2.1
        have hR' := hR.c8 e2
        refine ⟨s', ?_, hR', e2.u42 (by decide)⟩
        unfold f_X8_told
        rw [if_neg (show ¬ nI 6 = 0 by decide), if_neg (show ¬ nI 6 = 1 by decide), if_neg (show ¬ nI 6 = 2 by decide), if_neg (show ¬ nI 6 = 3 by decide), if_neg (show ¬ nI 6 = 4 by decide), if_neg (show ¬ nI 6 = 5 by decide), if_pos (show nI 6 = 6 from rfl), counts8_s hB hT e1 hR'.2.2.1 (ct_0 hB hT hR'.2.1 hR'.2.2.1), cA_s]
    · refine ⟨nI (cc B T (t_c T)), (S, B, T, im), hm0, fun hC => ?_, fun s hR => ?_⟩
      · obtain ⟨s', e1, e2, e3, e4⟩ := settled7_s hB hT hC
        refine ⟨s', ?_, e2, e4⟩
        unfold f_X7_told
        rw [if_neg (show ¬ nI 7 = 0 by decide), if_neg (show ¬ nI 7 = 1 by decide), if_neg (show ¬ nI 7 = 2 by decide), if_neg (show ¬ nI 7 = 3 by decide), if_neg (show ¬ nI 7 = 4 by decide), if_neg (show ¬ nI 7 = 5 by decide), if_neg (show ¬ nI 7 = 6 by decide), if_pos (show nI 7 = 7 from rfl), e1, cA_s, e3.2.2.2.1]
      · obtain ⟨s', e1, e2, e3, e4⟩ := choose8_s hB hT hR.2.1 hR.2.2.1
        have hR' := hR.c8 e2
        refine ⟨s', ?_, hR', e2.u42 (by decide)⟩
        have e5 : sumN (fun i => sumN (ind (QC B T) i) (b_tc B)) (t_c T) = cc B T (t_c T) := rcnC hB (t_c T)
        unfold f_X8_told
        rw [if_neg (show ¬ nI 7 = 0 by decide), if_neg (show ¬ nI 7 = 1 by decide), if_neg (show ¬ nI 7 = 2 by decide), if_neg (show ¬ nI 7 = 3 by decide), if_neg (show ¬ nI 7 = 4 by decide), if_neg (show ¬ nI 7 = 5 by decide), if_neg (show ¬ nI 7 = 6 by decide), if_pos (show nI 7 = 7 from rfl), counts8_s hB hT e1 hR'.2.2.1 (ct_1 hB hT hR'.2.1 e4), cA_s, e5]
    · refine ⟨nI (wth B T 0), (S, B, T, im), hm0, fun hC => ?_, fun s hR => ?_⟩
      · obtain ⟨s', e1, e2, e3, e4⟩ := settled7_s hB hT hC
        refine ⟨s', ?_, e2, e4⟩
        unfold f_X7_told
        rw [if_neg (show ¬ nI 8 = 0 by decide), if_neg (show ¬ nI 8 = 1 by decide), if_neg (show ¬ nI 8 = 2 by decide), if_neg (show ¬ nI 8 = 3 by decide), if_neg (show ¬ nI 8 = 4 by decide), if_neg (show ¬ nI 8 = 5 by decide), if_neg (show ¬ nI 8 = 6 by decide), if_neg (show ¬ nI 8 = 7 by decide), if_pos (show nI 8 = 8 from rfl), e1, cA_s, show rI s' 34 61 0 = rI (α := Int32 × Sg) s' 34 61 (nI 0) from rfl, rI_n (by omega) (by decide), (e3.2.1 0 (Nat.zero_le _)).1]
      · obtain ⟨s', e1, e2, e3, e4⟩ := choose8_s hB hT hR.2.1 hR.2.2.1
        have hR' := hR.c8 e2
        refine ⟨s', ?_, hR', e2.u42 (by decide)⟩
        unfold f_X8_told
        rw [if_neg (show ¬ nI 8 = 0 by decide), if_neg (show ¬ nI 8 = 1 by decide), if_neg (show ¬ nI 8 = 2 by decide), if_neg (show ¬ nI 8 = 3 by decide), if_neg (show ¬ nI 8 = 4 by decide), if_neg (show ¬ nI 8 = 5 by decide), if_neg (show ¬ nI 8 = 6 by decide), if_neg (show ¬ nI 8 = 7 by decide), if_pos (show nI 8 = 8 from rfl), e1, cA_s, show rI s' 51 65 0 = rI (α := Int32 × Sg) s' 51 65 (nI 0) from rfl, rI_n (by omega) (by decide), e3]
    · refine ⟨nI (sumN (fun i => sumN (g2 B T i) (b_tc B)) (t_c T)), (S, B, T, im), hm0, fun hC => ?_, fun s hR => ?_⟩
      · obtain ⟨s', e1, e2, e3, e4⟩ := settled7_s hB hT hC
        refine ⟨s', ?_, e2, e4⟩
        unfold f_X7_told
        rw [if_neg (show ¬ nI 9 = 0 by decide), if_neg (show ¬ nI 9 = 1 by decide), if_neg (show ¬ nI 9 = 2 by decide), if_neg (show ¬ nI 9 = 3 by decide), if_neg (show ¬ nI 9 = 4 by decide), if_neg (show ¬ nI 9 = 5 by decide), if_neg (show ¬ nI 9 = 6 by decide), if_neg (show ¬ nI 9 = 7 by decide), if_neg (show ¬ nI 9 = 8 by decide), if_pos (show nI 9 = 9 from rfl), e1, cA_s, wordsChosen7_s hB hT e2.2.1 e3, cP_s]
      · obtain ⟨s', e1, e2, e3, e4⟩ := choose8_s hB hT hR.2.1 hR.2.2.1
        have hR' := hR.c8 e2
        refine ⟨s', ?_, hR', e2.u42 (by decide)⟩
        unfold f_X8_told
        rw [if_neg (show ¬ nI 9 = 0 by decide), if_neg (show ¬ nI 9 = 1 by decide), if_neg (show ¬ nI 9 = 2 by decide), if_neg (show ¬ nI 9 = 3 by decide), if_neg (show ¬ nI 9 = 4 by decide), if_neg (show ¬ nI 9 = 5 by decide), if_neg (show ¬ nI 9 = 6 by decide), if_neg (show ¬ nI 9 = 7 by decide), if_neg (show ¬ nI 9 = 8 by decide), if_pos (show nI 9 = 9 from rfl), counts8_s hB hT e1 hR'.2.2.1 (ct_2 hB hT hR'.2.1 e4), cA_s]
    · refine ⟨nI (sumN (fun i => sumN (g3 B T i) (b_tc B)) (t_c T)), (S, B, T, im), hm0, fun hC => ?_, fun s hR => ?_⟩
      · obtain ⟨s', e1, e2, e3, e4⟩ := settled7_s hB hT hC
        refine ⟨s', ?_, e2, e4⟩
        unfold f_X7_told
        rw [if_neg (show ¬ nI 10 = 0 by decide), if_neg (show ¬ nI 10 = 1 by decide), if_neg (show ¬ nI 10 = 2 by decide), if_neg (show ¬ nI 10 = 3 by decide), if_neg (show ¬ nI 10 = 4 by decide), if_neg (show ¬ nI 10 = 5 by decide), if_neg (show ¬ nI 10 = 6 by decide), if_neg (show ¬ nI 10 = 7 by decide), if_neg (show ¬ nI 10 = 8 by decide), if_neg (show ¬ nI 10 = 9 by decide), if_pos (show nI 10 = 10 from rfl), e1, cA_s, insteadCount7_s hB hT e2.2.1 e3, cP_s]
      · obtain ⟨s', e1, e2, e3, e4⟩ := choose8_s hB hT hR.2.1 hR.2.2.1
        have hR' := hR.c8 e2
        refine ⟨s', ?_, hR', e2.u42 (by decide)⟩
        unfold f_X8_told
        rw [if_neg (show ¬ nI 10 = 0 by decide), if_neg (show ¬ nI 10 = 1 by decide), if_neg (show ¬ nI 10 = 2 by decide), if_neg (show ¬ nI 10 = 3 by decide), if_neg (show ¬ nI 10 = 4 by decide), if_neg (show ¬ nI 10 = 5 by decide), if_neg (show ¬ nI 10 = 6 by decide), if_neg (show ¬ nI 10 = 7 by decide), if_neg (show ¬ nI 10 = 8 by decide), if_neg (show ¬ nI 10 = 9 by decide), if_pos (show nI 10 = 10 from rfl), counts8_s hB hT e1 hR'.2.2.1 (ct_3 hB hT hR'.2.1 e4), cA_s]
    · refine ⟨nI (mnd B T (t_c T)).length, (S, B, T, im), hm0, fun hC => ?_, fun s hR => ?_⟩
      · obtain ⟨s', e1, e2, e3, e4⟩ := written7_s hB hT hC
        refine ⟨s', ?_, e2, e4⟩
        unfold f_X7_told
        rw [if_neg (show ¬ nI 11 = 0 by decide), if_neg (show ¬ nI 11 = 1 by decide), if_neg (show ¬ nI 11 = 2 by decide), if_neg (show ¬ nI 11 = 3 by decide), if_neg (show ¬ nI 11 = 4 by decide), if_neg (show ¬ nI 11 = 5 by decide), if_neg (show ¬ nI 11 = 6 by decide), if_neg (show ¬ nI 11 = 7 by decide), if_neg (show ¬ nI 11 = 8 by decide), if_neg (show ¬ nI 11 = 9 by decide), if_neg (show ¬ nI 11 = 10 by decide), if_pos (show nI 11 = 11 from rfl), e1, cA_s, e3.1]
      · obtain ⟨s', e1, e2, e3⟩ := mends8_s hB hT hR.2.1 hR.2.2.1
        refine ⟨s', ?_, hR.c9 e3, e3.u42 (by decide)⟩
        unfold f_X8_told
        rw [if_neg (show ¬ nI 11 = 0 by decide), if_neg (show ¬ nI 11 = 1 by decide), if_neg (show ¬ nI 11 = 2 by decide), if_neg (show ¬ nI 11 = 3 by decide), if_neg (show ¬ nI 11 = 4 by decide), if_neg (show ¬ nI 11 = 5 by decide), if_neg (show ¬ nI 11 = 6 by decide), if_neg (show ¬ nI 11 = 7 by decide), if_neg (show ¬ nI 11 = 8 by decide), if_neg (show ¬ nI 11 = 9 by decide), if_neg (show ¬ nI 11 = 10 by decide), if_pos (show nI 11 = 11 from rfl), e1, cA_s]
    · refine ⟨fbs B (b_tc B), (S, B, T, im), hm0, fun hC => ⟨σ, ?_, hC, Un43.rf⟩, fun s hR => ⟨s, ?_, hR, Un42.rf⟩⟩
      · unfold f_X7_told
        rw [if_neg (show ¬ nI 12 = 0 by decide), if_neg (show ¬ nI 12 = 1 by decide), if_neg (show ¬ nI 12 = 2 by decide), if_neg (show ¬ nI 12 = 3 by decide), if_neg (show ¬ nI 12 = 4 by decide), if_neg (show ¬ nI 12 = 5 by decide), if_neg (show ¬ nI 12 = 6 by decide), if_neg (show ¬ nI 12 = 7 by decide), if_neg (show ¬ nI 12 = 8 by decide), if_neg (show ¬ nI 12 = 9 by decide), if_neg (show ¬ nI 12 = 10 by decide), if_neg (show ¬ nI 12 = 11 by decide), if_pos (show nI 12 = 12 from rfl), forbiddenSet7_s hC.2.1 hB, cP_s]
      · unfold f_X8_told
        rw [if_neg (show ¬ nI 12 = 0 by decide), if_neg (show ¬ nI 12 = 1 by decide), if_neg (show ¬ nI 12 = 2 by decide), if_neg (show ¬ nI 12 = 3 by decide), if_neg (show ¬ nI 12 = 4 by decide), if_neg (show ¬ nI 12 = 5 by decide), if_neg (show ¬ nI 12 = 6 by decide), if_neg (show ¬ nI 12 = 7 by decide), if_neg (show ¬ nI 12 = 8 by decide), if_neg (show ¬ nI 12 = 9 by decide), if_neg (show ¬ nI 12 = 10 by decide), if_neg (show ¬ nI 12 = 11 by decide), if_pos (show nI 12 = 12 from rfl), forbidden8_s hR.2.1 hB, cP_s]
  · have ne : ∀ c : Int32, (0 ≤ c ∧ c ≤ 12) → ¬ a1 = c := fun c hc e => hw (by rw [e]; exact hc)
    refine ⟨-1000000002, (S, B, T, im), hm0, fun hC => ⟨σ, ?_, hC, Un43.rf⟩, fun s hR => ⟨s, ?_, hR, Un42.rf⟩⟩
    · unfold f_X7_told
      rw [if_neg (ne 0 (by decide)), if_neg (ne 1 (by decide)), if_neg (ne 2 (by decide)), if_neg (ne 3 (by decide)), if_neg (ne 4 (by decide)), if_neg (ne 5 (by decide)), if_neg (ne 6 (by decide)), if_neg (ne 7 (by decide)), if_neg (ne 8 (by decide)), if_neg (ne 9 (by decide)), if_neg (ne 10 (by decide)), if_neg (ne 11 (by decide)), if_neg (ne 12 (by decide))]
    · unfold f_X8_told
      rw [if_neg (ne 0 (by decide)), if_neg (ne 1 (by decide)), if_neg (ne 2 (by decide)), if_neg (ne 3 (by decide)), if_neg (ne 4 (by decide)), if_neg (ne 5 (by decide)), if_neg (ne 6 (by decide)), if_neg (ne 7 (by decide)), if_neg (ne 8 (by decide)), if_neg (ne 9 (by decide)), if_neg (ne 10 (by decide)), if_neg (ne 11 (by decide)), if_neg (ne 12 (by decide))]
theorem ps_sign (σ : Sg) (a1 : Int32) (h : InvA σ) : ∃ (r : Int32) (σ1 σ2 : Sg), f_X7_sign σ a1 = some (r, σ1) ∧ f_X8_sign σ1 a1 = some (r, σ2) ∧ InvA σ2 := by
  refine step2 (f7 := fun s => f_X7_sign s a1) (f8 := fun s => f_X8_sign s a1) h (fun M hm => ?_)
  obtain ⟨S, B, T, im⟩ := M
  have hm0 := hm
  obtain ⟨hS, hB, hT, hI⟩ := hm
  have hB : Bok B := hB
  have hT : Tok T := hT
  have h60 := hT.1
  have hlen := mnd_len hB hT (t_c T) (Nat.le_refl _)
  by_cases ha : a1 < 0
  · refine ⟨-1000000002, (S, B, T, im), hm0, fun hC => ⟨σ, ?_, hC, Un43.rf⟩, fun s hR => ⟨s, ?_, hR, Un42.rf⟩⟩
    · unfold f_X7_sign
      rw [if_neg (i32_nle.mpr ha)]
    · unfold f_X8_sign
      rw [if_neg (i32_nle.mpr ha)]
  · obtain ⟨k, hk, rfl⟩ := nI_of ha
    rcases Nat.lt_or_ge k (mnd B T (t_c T)).length with q | q
    · have gk : (mnd B T (t_c T))[k]? = some ((mnd B T (t_c T))[k]) := List.getElem?_eq_getElem q
      refine ⟨nI ((mnd B T (t_c T))[k]), (S, B, T, im), hm0, fun hC => ?_, fun s hR => ?_⟩
      · obtain ⟨s', e1, e2, e3, e4⟩ := written7_s hB hT hC
        refine ⟨s', ?_, e2, e4⟩
        unfold f_X7_sign
        rw [if_pos (i32_nlt.mp ha), e1, cA_s, e3.1, if_neg (fun z => by have := (nI_leI (by omega) hk).mp z; omega), rI_n (by omega) (by decide), e3.2 k _ gk]
      · obtain ⟨s', e1, e2, e3⟩ := mends8_s hB hT hR.2.1 hR.2.2.1
        refine ⟨s', ?_, hR.c9 e3, e3.u42 (by decide)⟩
        unfold f_X8_sign
        rw [if_pos (i32_nlt.mp ha), e1, cA_s, if_neg (fun z => by have := (nI_leI (by omega) hk).mp z; omega), rI_n (by omega) (by decide), e2 k _ gk]
    · refine ⟨-1, (S, B, T, im), hm0, fun hC => ?_, fun s hR => ?_⟩
      · obtain ⟨s', e1, e2, e3, e4⟩ := written7_s hB hT hC
        refine ⟨s', ?_, e2, e4⟩
        unfold f_X7_sign
        rw [if_pos (i32_nlt.mp ha), e1, cA_s, e3.1, if_pos (nI_le q hk)]
      · obtain ⟨s', e1, e2, e3⟩ := mends8_s hB hT hR.2.1 hR.2.2.1
        refine ⟨s', ?_, hR.c9 e3, e3.u42 (by decide)⟩
        unfold f_X8_sign
        rw [if_pos (i32_nlt.mp ha), e1, cA_s, if_pos (nI_le q hk)]
