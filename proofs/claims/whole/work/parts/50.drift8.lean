section D8
variable {s : Sg} {B : Bk} {T : Tx}
theorem next8_s {v : Nat} (hv : v < 2147483647) : f_X8_next s (lN v) = some (lN (nx v)) := by
  unfold f_X8_next; rw [nx_l hv]
theorem comesAll8_s (h : txR s T) (hT : Tok T) (hc : t_c T < 60) {p : Nat} {w : List Nat} (hp : wordP (s.1 44) p w) (hw : lok1 w) (hl : w.length ≤ 12) (hp2 : p + 1 + w.length ≤ 475) : ∃ s', f_X8_comesAll s (nI p) = some ((), s') ∧ txR s' (addN T w w.length) ∧ Sr s s' := by
  have key : ∀ n i s2, i ≤ w.length → w.length < n + i → txR s2 (addN T w i) → Sr s s2 → ∃ s', f_X8_comesAll_L2 (fun (s11 : Sg) => some ((), s11)) (nI p) n s2 (nI i) = some ((), s') ∧ txR s' (addN T w w.length) ∧ Sr s s' := by
    intro n
    induction n with
    | zero => intro i s2 h1 h2; omega
    | succ n ih =>
      intro i s2 h1 h2 a1 a2
      have e44 : s2.1 44 = s.1 44 := a2.1.1 44 (by decide)
      rw [f_X8_comesAll_L2, rI_n (by omega) (by decide), e44, hp.1]
      rcases Nat.lt_or_ge i w.length with q | q
      · have gi : w[i]? = some w[i] := List.getElem?_eq_getElem q
        have x1 := hw _ (List.mem_of_getElem? gi)
        rw [if_neg (fun z => by have := (nI_leI (by omega) (by omega)).mp z; omega), nI_1, nI_add, rI_n (by omega) (by decide), e44, hp.2 i _ gi]
        obtain ⟨s3, d1, d2, d3⟩ := comes8_l a1 (addN_ok hT hc hw i (by omega)) (by rw [addN_c]; exact hc) x1
        rw [d1, cA_s, nI_1]
        refine ih (i + 1) s3 (by omega) (by omega) ?_ (a2.tr d3)
        rw [addN, gi]
        exact d2
      · have : i = w.length := by omega
        subst this
        rw [if_pos (nI_le (Nat.le_refl _) (by omega))]
        exact ⟨s2, rfl, a1, a2⟩
  exact key fu 0 s (Nat.zero_le _) (by unfold fu; omega) h Sr.rf
theorem lg0 {v : Nat} (hv : v < 2 ^ 31) : lg_cmp (lN v) 0 = 0 ↔ v = 0 := by
  rw [lg_cmp_0]; exact lN_eq hv (by decide)
theorem lne {m : Nat} (h0 : 0 < m) (hm : m < 2 ^ 31) : ¬ lN m = 0 := fun z => by
  have := (lN_eq hm (by decide)).mp (show lN m = lN 0 from z); omega
theorem drift8_st {c v : Nat} (kk : Sg → Option (Int32 × Sg)) (n i : Nat) (hi : i < c) (hc : c ≤ 30) (h : txR s T) (hT : Tok T) (hb : bookP (s.1 44) B) (hB : Bok B) (hv : v < 2147483647) : ∃ s', f_X8_drift_L32 kk (nI c) (n + 1) s (lN v) 1 (nI i) = f_X8_drift_L32 kk (nI c) n s' (lN (dst B T v).2.1) (nI (dst B T v).2.2) (nI (i + 1)) ∧ txR s' (dst B T v).1 ∧ Sr s s' := by
  have n10 : ¬ (1 : Int32) = 0 := by decide
  have h8 := hB.1
  have h5 := hB.2.1
  have h60 := hT.1
  rw [f_X8_drift_L32, if_neg (fun z => by have := (nI_leI (by omega) (by omega)).mp z; omega), if_neg n10, next8_s hv, cP_s, liL 8, rm_l (nx_lt _) (by decide) (by decide), nI_1]
  unfold dst
  have hlt := Nat.mod_lt (nx v) (show 0 < 8 by decide)
  by_cases h1 : nx v % 8 = 0
  · obtain ⟨s2, e2, t2, u2⟩ := comes8_s (a := 46) h hT (fun z => absurd z nl46)
    rw [if_pos ((lg0 (by omega)).mpr h1), if_pos h1, e2, cA_s]
    exact ⟨s2, rfl, t2, u2⟩
  · rw [if_neg (fun z => h1 ((lg0 (by omega)).mp z)), if_neg h1, show (0 : Int32) = nI 0 from rfl, rI_n (by omega) (by decide), hb.1]
    simp only [jn_s]
    rw [rI_n (by omega) (by decide), hb.1, h.1]
    by_cases h2 : b_tc B = 0
    · rw [if_pos h2, h2, if_pos (by decide), if_pos (by decide), nI_1]
      exact ⟨s, rfl, h, Sr.rf⟩
    · rw [if_neg (fun z => by have := (nI_leI (by omega) (by omega)).mp z; omega), if_neg h2]
      by_cases h3 : t_c T = 60
      · rw [if_pos (by rw [h3]; rfl), if_pos h3]
        exact ⟨s, rfl, h, Sr.rf⟩
      · have hc : t_c T < 60 := by omega
        have ht : nx (nx v) % b_tc B < b_tc B := Nat.mod_lt _ (by omega)
        have hk : nx (nx (nx v)) % b_n B (nx (nx v) % b_tc B) < b_n B (nx (nx v) % b_tc B) := Nat.mod_lt _ (hB.2.2.1 _ ht).1.1
        have hn := (hB.2.2.1 _ ht).1
        have hw := (hB.2.2.1 _ ht).2.2.2.2.1 _ hk
        rw [if_neg (fun z => by have := (c_eq 60 (by omega) (by decide)).mp z; omega), if_neg h3, if_neg (fun z => by have := (nI_leI (by omega) (by omega)).mp z; omega), next8_s (nx_lt _), cP_s, rI_n (by omega) (by decide), hb.1, nI_l (by omega), mH_t (lne (by omega) (by omega)), next8_s (nx_lt _), cP_s, rm_l (nx_lt _) (by omega) (by omega), lN_i, termAt8_s, cP_s, show (nI 0 : Int32) = 0 from rfl, nI_p0, rI_n (by omega) (by decide), (hb.2.2.1 _ ht).1, nI_l (by omega), mH_t (lne (by omega) (by omega)), rm_l (nx_lt _) (by omega) (by omega), lN_i, wordAt8_s, cP_s]
        obtain ⟨s4, e4, t4, u4⟩ := comesAll8_s h hT hc ((hb.2.2.1 _ ht).2.2.2.2 _ hk) hw.1 hw.2.2 (by have := hw.2.2; omega)
        have b4 : bookP (s4.1 44) B := by rw [u4.1.1 44 (by decide)]; exact hb
        have q4 := addN_ok hT hc hw.1 _ (Nat.le_refl _)
        have hlt3 := Nat.mod_lt (nx (nx (nx (nx v)))) (show 0 < 3 by decide)
        rw [e4, cA_s, next8_s (nx_lt _), cP_s, liL 3, rm_l (nx_lt _) (by decide) (by decide)]
        by_cases h6 : nx (nx (nx (nx v))) % 3 = 0
        · rw [if_pos ((lg0 (by omega)).mpr h6), show (1 : Int32) = nI 1 from rfl, rI_n (by omega) (by decide), b4.2.1]
          by_cases h7 : 0 < b_ec B
          · have he : nx (nx (nx (nx (nx v)))) % b_ec B < b_ec B := Nat.mod_lt _ h7
            have hw2 := hB.2.2.2 _ he
            have hw3 := hw2.2.2
            rw [if_neg (fun z => by have := (c_le 0 (by omega) (by decide)).mp z; omega), if_pos ⟨h6, h7⟩, next8_s (nx_lt _), cP_s, rI_n (by omega) (by decide), b4.2.1, nI_l (by omega), mH_t (lne (by omega) (by omega)), rm_l (nx_lt _) (by omega) (by omega), lN_i, endingAt8_s, cP_s]
            obtain ⟨s7, e7, t7, u7⟩ := comesAll8_s t4 q4 (by rw [addN_c]; exact hc) (b4.2.2.2 _ he) hw2.1 (by omega) (by omega)
            obtain ⟨s8, e8, t8, u8⟩ := comes8_s (a := 32) t7 (addN_ok q4 (by rw [addN_c]; exact hc) hw2.1 _ (Nat.le_refl _)) (fun z => absurd z nl32)
            rw [e7, cA_s, e8, cA_s, show nI 1 = (1 : Int32) from rfl, nI_1]
            exact ⟨s8, rfl, t8, (u4.tr u7).tr u8⟩
          · obtain ⟨s8, e8, t8, u8⟩ := comes8_s (a := 32) t4 q4 (fun z => absurd z nl32)
            rw [if_pos ((c_le 0 (by omega) (by decide)).mpr (by omega)), if_neg (fun z => h7 z.2), e8, cA_s, show nI 1 = (1 : Int32) from rfl, nI_1]
            exact ⟨s8, rfl, t8, u4.tr u8⟩
        · obtain ⟨s8, e8, t8, u8⟩ := comes8_s (a := 32) t4 q4 (fun z => absurd z nl32)
          rw [if_neg (fun z => h6 ((lg0 (by omega)).mp z)), if_neg (fun z => h6 z.1), e8, cA_s, nI_1]
          exact ⟨s8, rfl, t8, u4.tr u8⟩
theorem drift8_L {c : Nat} (hc : c ≤ 30) (kk : Sg → Option (Int32 × Sg)) (hB : Bok B) : ∀ n i s T v, i ≤ c → c < n + i → txR s T → Tok T → bookP (s.1 44) B → v < 2147483647 → ∃ s', f_X8_drift_L32 kk (nI c) n s (lN v) 1 (nI i) = kk s' ∧ txR s' (dlo B (c - i) T v) ∧ Sr s s' := by
  intro n
  induction n with
  | zero => intro i s T v h1 h2; omega
  | succ n ih =>
    intro i s T v h1 h2 h3 h4 h5 h7
    rcases Nat.lt_or_ge i c with q | q
    · obtain ⟨s1, e1, e2, e4⟩ := drift8_st kk n i q hc h3 h4 h5 hB h7
      obtain ⟨p1, p2, p3⟩ := dst_p (v := v) hB h4
      rw [e1, show c - i = (c - (i + 1)) + 1 by omega, dlo]
      by_cases z : (dst B T v).2.2 = 0
      · rw [if_pos z, z]
        refine ⟨s1, ?_, e2, e4⟩
        cases n with
        | zero => omega
        | succ n =>
          rw [f_X8_drift_L32]
          by_cases y : nI c ≤ nI (i + 1)
          · rw [if_pos y]
          · rw [if_neg y, if_pos (show nI 0 = (0 : Int32) from rfl)]
      · have z1 : (dst B T v).2.2 = 1 := by
          revert z
          unfold dst
          dsimp only
          repeat' split
          all_goals simp
        rw [if_neg z, z1]
        obtain ⟨s2, d1, d2, d3⟩ := ih (i + 1) s1 _ _ (by omega) (by omega) e2 p1 (by rw [e4.1.1 44 (by decide)]; exact h5) p3
        exact ⟨s2, d1, d2, e4.tr d3⟩
    · have : i = c := by omega
      subst this
      rw [f_X8_drift_L32, if_pos (nI_le (Nat.le_refl _) (by omega)), Nat.sub_self]
      exact ⟨s, rfl, h3, Sr.rf⟩
end D8
theorem ps_drift (σ : Sg) (a1 a2 : Int32) (h : InvA σ) : ∃ (r : Int32) (σ1 σ2 : Sg), f_X7_drift σ a1 a2 = some (r, σ1) ∧ f_X8_drift σ1 a1 a2 = some (r, σ2) ∧ InvA σ2 := by
  refine step2 (f7 := fun s => f_X7_drift s a1 a2) (f8 := fun s => f_X8_drift s a1 a2) h (fun M hm => ?_)
  obtain ⟨S, B, T, im⟩ := M
  have hm0 := hm
  obtain ⟨hS, hB, hT, hI⟩ := hm
  have hT : Tok T := hT
  have hB : Bok B := hB
  have h60 := hT.1
  have n10 : ¬ (1 : Int32) = 0 := by decide
  by_cases hr : (1 ≤ a1 ∧ a1 ≤ 30) ∧ (1 ≤ a2 ∧ a2 ≤ 999999)
  · obtain ⟨⟨r1, r2⟩, r3, r4⟩ := hr
    obtain ⟨c, hc0, hc, rfl⟩ := nat_of (a := a1) (lo := 1) (hi := 30) (by decide) ⟨r1, r2⟩ (by decide)
    obtain ⟨v, hv0, hv, rfl⟩ := nat_of (a := a2) (lo := 1) (hi := 999999) (by decide) ⟨r3, r4⟩ (by decide)
    obtain ⟨p1, p2⟩ := dlo_p hB c T v hT
    refine ⟨nI (t_c (dlo B c T v)), (S, B, dlo B c T v, im), ⟨hS, hB, p1, hI⟩, fun hC => ?_, fun s hR => ?_⟩
    · have u0 : Sm [] [42] σ (sL σ 42 0 (lN v)) := Sm.rf.l (by decide)
      obtain ⟨s1, e1, e2, e3⟩ := drift7_L (c := c) hc (fun (s9 : Sg) => cA (f_X7_textChanged s9) fun x10 s12 => (some ((s12.1 26 0), s12))) hB fu 0 (sL σ 42 0 (lN v)) T v (Nat.zero_le _) (by unfold fu; omega) (u0.txt (by decide) (by decide) hC.2.2.1) hT (u0.lex (by decide) (by decide) hC.2.1) (by rw [sL_2, if_pos ⟨rfl, rfl⟩]) (by omega)
      rw [Nat.sub_zero] at e2
      obtain ⟨s2, d1, d2, d3, d4⟩ := hC.text ((u0.up (by decide) (by decide)).tr e3) e2 p2
      refine ⟨s2, ?_, d2, d3⟩
      unfold f_X7_drift f_X2_start
      rw [if_neg (i32_nlt.mpr r1), if_neg (i32_nlt.mpr r2), if_neg (i32_nlt.mpr r3), if_pos r4, nI_l (by omega), pL_s, cA_s]
      refine e1.trans ?_
      rw [d1, cA_s, d4, e2.1]
    · obtain ⟨s1, e1, e2, e3⟩ := drift8_L (c := c) hc (fun (s68 : Sg) => some ((s68.1 43 6), s68)) hB fu 0 s T v (Nat.zero_le _) (by unfold fu; omega) hR.2.2.1 hT hR.2.1 (by omega)
      rw [Nat.sub_zero] at e2
      refine ⟨s1, ?_, hR.text e3 e2, e3.u⟩
      unfold f_X8_drift
      rw [in8_s, if_pos ⟨r1, r2⟩, cP_s, if_neg n10, in8_s, if_pos ⟨r3, r4⟩, cP_s, if_neg n10, nI_l (by omega)]
      refine e1.trans ?_
      rw [e2.1]
  · refine ⟨-1000000002, (S, B, T, im), hm0, fun hC => ⟨σ, ?_, hC, Un43.rf⟩, fun s hR => ⟨s, ?_, hR, Un42.rf⟩⟩
    · unfold f_X7_drift
      by_cases q1 : a1 < 1
      · rw [if_pos q1]
      · by_cases q2 : 30 < a1
        · rw [if_neg q1, if_pos q2]
        · by_cases q3 : a2 < 1
          · rw [if_neg q1, if_neg q2, if_pos q3]
          · rw [if_neg q1, if_neg q2, if_neg q3, if_neg (fun z => hr ⟨⟨i32_nlt.mp q1, i32_nlt.mp q2⟩, i32_nlt.mp q3, z⟩)]
    · unfold f_X8_drift
      rw [in8_s, cP_s]
      by_cases q : 1 ≤ a1 ∧ a1 ≤ 30
      · rw [if_pos q, if_neg n10, in8_s, cP_s, if_neg (fun z => hr ⟨q, z⟩), if_pos rfl]
      · rw [if_neg q, if_pos rfl]
