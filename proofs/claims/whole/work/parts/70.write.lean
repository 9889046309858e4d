/-! the mended text is written -/
theorem Sm.sl {L K : List Nat} {a b : Sg} {B : Bk} {T : Tx} (u : Sm L K a b) (hL : ∀ x ∈ L, x < 30 ∨ x = 31 ∨ 39 < x) (h : stl a B T) : stl b B T := by
  unfold stl
  have e : ∀ k, 30 ≤ k → k ≤ 39 → k ≠ 31 → b.1 k = a.1 k := fun k h1 h2 h3 => u.1 k (fun g => by have := hL k g; omega)
  rw [e 30 (by omega) (by omega) (by omega), e 32 (by omega) (by omega) (by omega), e 33 (by omega) (by omega) (by omega), e 34 (by omega) (by omega) (by omega), e 35 (by omega) (by omega) (by omega), e 36 (by omega) (by omega) (by omega), e 37 (by omega) (by omega) (by omega), e 38 (by omega) (by omega) (by omega), e 39 (by omega) (by omega) (by omega)]
  exact h
section WR
variable {B : Bk} {T : Tx}
theorem write7_L (hB : Bok B) (hT : Tok T) (kk : Sg → Option (Unit × Sg)) : ∀ n i s, i ≤ t_c T → t_c T < n + i → lexC s B → txtC s T → stl s B T → mndP (s.1 40) (s.1 41) (mnd B T i) → ∃ s', f_X3_write_L15 kk n s (nI i) = kk s' ∧ mndP (s'.1 40) (s'.1 41) (mnd B T (t_c T)) ∧ Sd s s' := by
  have h60 := hT.1
  have h8 := hB.1
  intro n
  induction n with
  | zero => intro i s h1 h2; omega
  | succ n ih =>
    intro i s h1 h2 hl hx hst hm
    rw [f_X3_write_L15, hx.1]
    rcases Nat.lt_or_ge i (t_c T) with q | q
    · have hlen := mnd_len hB hT i h1
      have hlenW := mnW_len hB hT q
      obtain ⟨w1, w2, w3⟩ := hT.2.1 i q
      have w12 := w1.2.2
      rw [if_neg (fun z => by have := (nI_leI (by omega) (by omega)).mp z; omega), insteadOver7_s hB hT hl hst q, cP_s]
      simp only [jn_s]
      have go : ∀ s6, Sd s s6 → mndP (s6.1 40) (s6.1 41) (mnW B T i) → ∃ s', (cP (f_X6_endsSentence s6 (nI i)) fun x7 => (if x7 = 0 then (f_X3_write_L15 kk n (s6) ((nI i + 1))) else (cA (f_X3_addSign s6 46) fun x9 s11 => (f_X3_write_L15 kk n (s11) ((nI i + 1)))))) = kk s' ∧ mndP (s'.1 40) (s'.1 41) (mnd B T (t_c T)) ∧ Sd s s' := by
        intro s6 u hm6
        have hx6 : txtC s6 T := u.1.txt (by decide) (by decide) hx
        rw [endsSentence7_s hT hx6 q, cP_s, nI_1]
        by_cases z : eS T i
        · obtain ⟨s7, d1, d2, d3⟩ := addSign7_s (x := 46) hm6 (by omega) (by decide)
          have d1 : f_X3_addSign s6 46 = some ((), s7) := d1
          rw [bI_t z, if_neg (by decide), d1, cA_s]
          have u7 := u.tr d3
          have e : mnd B T (i + 1) = mnW B T i ++ [46] := by rw [mnd_s, if_pos z]
          obtain ⟨s', c1, c2, c3⟩ := ih (i + 1) s7 (by omega) (by omega) (u7.lex hl) (u7.1.txt (by decide) (by decide) hx) (u7.1.sl (by decide) hst) (by rw [e]; exact d2)
          exact ⟨s', c1, c2, u7.tr c3⟩
        · rw [bI_f z, if_pos rfl]
          have e : mnd B T (i + 1) = mnW B T i := by rw [mnd_s, if_neg z, List.append_nil]
          obtain ⟨s', c1, c2, c3⟩ := ih (i + 1) s6 (by omega) (by omega) (u.lex hl) hx6 (u.1.sl (by decide) hst) (by rw [e]; exact hm6)
          exact ⟨s', c1, c2, u.tr c3⟩
      by_cases z : ins B T i = -1
      · obtain ⟨s1, d1, d2, d3⟩ := addWord7_s hm w1 (by omega)
        rw [if_pos z, rL_n (by omega) (by decide), (hx.2.2.2.2 i q).1, d1, cA_s]
        refine go s1 d3 ?_
        unfold mnW
        rw [if_pos z]
        exact d2
      · rw [if_neg z]
        rcases ins_or (T := T) hB i with ⟨-, -, a2⟩ | ⟨k, u, a1, a2, a3, a4, a5, a6, a7, a8⟩
        · exact absurd a2 z
        · have hcl := cc_le (B := B) (T := T) k
          obtain ⟨-, -, -, -, g4, g5⟩ := hst
          have hr := g4 k (by omega) (by rw [a4]; exact nI_m1 (by omega))
          rw [rI_n (by omega) (by decide), g5 i q, a6, rI_n (by omega) (by decide), hr.1]
          by_cases y : k = i
          · rw [if_pos (by rw [y])]
            rcases pr_ok hB a2 with g | ⟨v, g1, g2⟩
            · rw [a7] at z; exact absurd g z
            · obtain ⟨s1, d1, d2, d3⟩ := addWordsOf7_s hB hl g1 hm (by omega)
              rw [a7, g2, d1, cA_s]
              refine go s1 d3 ?_
              unfold mnW
              rw [if_neg z, if_pos (a8.mp y), a7, g2]
              unfold kn
              rw [nI_clamp (by omega)]
              exact d2
          · rw [if_neg (fun g => y ((nI_eq (by omega) (by omega)).mp g))]
            refine go s Sd.rf ?_
            unfold mnW
            rw [if_neg z, if_neg (fun g => y (a8.mpr g))]
            exact hm
    · have : i = t_c T := by omega
      subst this
      rw [if_pos (nI_le (Nat.le_refl _) (by omega))]
      exact ⟨s, rfl, hm, Sd.rf⟩
theorem write7_s {σ : Sg} {S : List Nat} {im : Nat → Option Bk} (hB : Bok B) (hT : Tok T) (hC : InvC σ (S, B, T, im)) (hst : stl σ B T) : ∃ s', f_X3_write σ = some ((), s') ∧ InvC s' (S, B, T, im) ∧ mndP (s'.1 40) (s'.1 41) (mnd B T (t_c T)) ∧ Un43 σ s' := by
  have h60 := hT.1
  have hC' := hC
  obtain ⟨g1, g2, g3, g4, g5, g6⟩ := hC'
  unfold f_X3_write
  rcases g6 with p | ⟨p1, p2⟩
  · rw [if_pos p, pI_s]
    have u : Sm [40, 41] [] σ (sI σ 40 4 0) := Sm.rf.i (by decide)
    obtain ⟨s1, d1, d2, d3⟩ := write7_L hB hT (fun (s31 : Sg) => pI s31 40 5 1 fun s32 => (some ((), s32))) fu 0 (sI σ 40 4 0) (Nat.zero_le _) (by unfold fu; omega) (u.lex (by decide) (by decide) g2) (u.txt (by decide) (by decide) g3) (u.sl (by decide) hst) ⟨by rw [sI_1, if_pos ⟨rfl, rfl⟩]; rfl, fun i x hx => by rw [mnd] at hx; simp at hx⟩
    have d1 : f_X3_write_L15 (fun (s31 : Sg) => pI s31 40 5 1 fun s32 => (some ((), s32))) fu (sI σ 40 4 0) 0 = pI s1 40 5 1 fun s32 => (some ((), s32)) := d1
    rw [d1, pI_s]
    have v : Sm [40, 41] [] σ (sI s1 40 5 1) := (u.tr d3.1).i (by decide)
    have em : mndP ((sI s1 40 5 1).1 40) ((sI s1 40 5 1).1 41) (mnd B T (t_c T)) := by
      refine ⟨?_, ?_⟩
      · rw [sI_1, if_neg (by decide)]; exact d2.1
      · rw [sI_ne _ (by decide)]; exact d2.2
    exact ⟨_, rfl, ⟨v.slp (by decide) g1, v.lex (by decide) (by decide) g2, v.txt (by decide) (by decide) g3, v.ims (by decide) (by decide) g4, v.scn (by decide) g5, Or.inr ⟨by rw [sI_1, if_pos ⟨rfl, rfl⟩], em⟩⟩, em, v.u43 (by decide)⟩
  · rw [if_neg (by rw [p1]; decide)]
    exact ⟨σ, rfl, hC, p2, Un43.rf⟩
theorem written7_s {σ : Sg} {S : List Nat} {im : Nat → Option Bk} (hB : Bok B) (hT : Tok T) (hC : InvC σ (S, B, T, im)) : ∃ s', f_X7_written σ = some ((), s') ∧ InvC s' (S, B, T, im) ∧ mndP (s'.1 40) (s'.1 41) (mnd B T (t_c T)) ∧ Un43 σ s' := by
  obtain ⟨s1, a1, a2, a3, a4⟩ := settle7_s hB hT hC
  obtain ⟨s2, b1, b2, b3, b4⟩ := write7_s hB hT a2 a3
  exact ⟨s2, by unfold f_X7_written; rw [a1, cA_s, b1, cA_s], b2, b3, a4.tr b4⟩
end WR
