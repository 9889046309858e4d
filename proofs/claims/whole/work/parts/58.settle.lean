/-! the scan is settled -/
def stl (s : Sg) (B : Bk) (T : Tx) : Prop := lookP (s.1 32) (s.1 33) B T (t_c T) ∧ setP (s.1 30) (s.1 34) (s.1 35) (s.1 36) (s.1 37) (s.1 38) (s.1 39) B T
section ST
variable {B : Bk} {T : Tx}
theorem settle7_L (hB : Bok B) (hT : Tok T) (kk : Sg → Option (Unit × Sg)) : ∀ n i s, i ≤ t_c T → t_c T < n + i → lexC s B → txtC s T → lookP (s.1 32) (s.1 33) B T i → ∃ s', f_X4_settle_L13 kk n s (nI i) = kk s' ∧ lookP (s'.1 32) (s'.1 33) B T (t_c T) ∧ Sk s s' := by
  have h60 := hT.1
  intro n
  induction n with
  | zero => intro i s h1 h2; omega
  | succ n ih =>
    intro i s h1 h2 hl ht hk
    rw [f_X4_settle_L13, ht.1]
    rcases Nat.lt_or_ge i (t_c T) with q | q
    · obtain ⟨s1, d1, d2, d3⟩ := look7_s hl hB ht hT q hk
      rw [if_neg (fun z => by have := (nI_leI (by omega) (by omega)).mp z; omega), d1, cA_s, nI_1]
      obtain ⟨s2, c1, c2, c3⟩ := ih (i + 1) s1 (by omega) (by omega) (d3.1.lex (by decide) (by decide) hl) (d3.1.txt (by decide) (by decide) ht) d2
      exact ⟨s2, c1, c2, d3.tr c3⟩
    · have : i = t_c T := by omega
      subst this
      rw [if_pos (nI_le (Nat.le_refl _) (by omega))]
      exact ⟨s, rfl, hk, Sk.rf⟩
theorem settle7_s {σ : Sg} {S : List Nat} {im : Nat → Option Bk} (hB : Bok B) (hT : Tok T) (hC : InvC σ (S, B, T, im)) : ∃ s', f_X4_settle σ = some ((), s') ∧ InvC s' (S, B, T, im) ∧ stl s' B T ∧ Un43 σ s' := by
  have h60 := hT.1
  have hC' := hC
  obtain ⟨g1, g2, g3, g4, g5, g6⟩ := hC'
  obtain ⟨lk, p1, p2, p3, p4⟩ := g5
  have p1 : lk ≤ t_c T := p1
  unfold f_X4_settle
  rcases p4 with p4 | ⟨p4, p5, p6⟩
  · rw [if_pos p4, p2]
    obtain ⟨s1, a1, a2, a3⟩ := settle7_L hB hT (fun (s5 : Sg) => pI s5 30 2 (s5.1 26 0) fun s6 => (cA (f_X4_weigh s6) fun x8 s10 => (cA (f_X4_choose s10) fun x11 s13 => (pI s13 30 3 1 fun s14 => (some ((), s14)))))) fu lk σ p1 (by unfold fu; omega) g2 g3 p3
    have e26 : s1.1 26 0 = nI (t_c T) := by rw [a3.1.1 26 (by decide)]; exact g3.1
    have hl1 : lexC (sI s1 30 2 (nI (t_c T))) B := (Sm.rf (L := [30]) (K := []) |>.i (by decide)).lex (by decide) (by decide) (a3.1.lex (by decide) (by decide) g2)
    obtain ⟨s2, b1, b2, b3, b4⟩ := weigh7_s (s := sI s1 30 2 (nI (t_c T))) hB hT hl1 (by rw [sI_ne _ (by decide)]; exact e26) (by rw [sI_ne _ (by decide), sI_ne _ (by decide)]; exact a2)
    obtain ⟨s3, c1, c2, c3, c4, c5⟩ := choose7_s hB hT (b2.lex (by decide) (by decide) hl1) (by rw [b2.1 26 (by decide), sI_ne _ (by decide)]; exact e26) b4
    rw [a1, pI_s, e26, b1, cA_s, c1, cA_s, pI_s]
    have v : Sm [30, 32, 33, 34, 35, 36, 37, 38, 39] [31] σ (sI s3 30 3 1) := ((((a3.1.up (by decide) (by decide)).i (by decide)).tr (b2.up (by decide) (by decide))).tr (c2.1.up (by decide) (by decide))).i (by decide)
    have e2 : (sI s3 30 3 1).1 30 2 = nI (t_c T) := by
      rw [sI_1, if_neg (by decide), c2.2 2 (by decide), b2.1 30 (by decide), sI_1, if_pos ⟨rfl, rfl⟩]
    have eL : lookP ((sI s3 30 3 1).1 32) ((sI s3 30 3 1).1 33) B T (t_c T) := by
      rw [sI_ne _ (by decide), sI_ne _ (by decide), c2.1.1 32 (by decide), c2.1.1 33 (by decide), b2.1 32 (by decide), b2.1 33 (by decide), sI_ne _ (by decide), sI_ne _ (by decide)]
      exact a2
    have eS : setP ((sI s3 30 3 1).1 30) ((sI s3 30 3 1).1 34) ((sI s3 30 3 1).1 35) ((sI s3 30 3 1).1 36) ((sI s3 30 3 1).1 37) ((sI s3 30 3 1).1 38) ((sI s3 30 3 1).1 39) B T := by
      refine ⟨?_, ?_, ?_, ?_, ?_⟩
      · rw [sI_ne _ (by decide), sI_ne _ (by decide), c2.1.1 34 (by decide), c2.1.1 35 (by decide)]; exact b3
      · rw [sI_ne _ (by decide), c2.1.1 36 (by decide)]; exact b4
      · rw [sI_1, if_neg (by decide)]; exact c3
      · rw [sI_ne _ (by decide), sI_ne _ (by decide)]; exact c4
      · rw [sI_ne _ (by decide)]; exact c5
    refine ⟨_, rfl, ⟨v.slp (by decide) g1, v.lex (by decide) (by decide) g2, v.txt (by decide) (by decide) g3, v.ims (by decide) (by decide) g4, ⟨t_c T, Nat.le_refl _, e2, eL, Or.inr ⟨by rw [sI_1, if_pos ⟨rfl, rfl⟩], rfl, eS⟩⟩, v.mnd (by decide) g6⟩, ⟨eL, eS⟩, v.u43 (by decide)⟩
  · rw [if_neg (by rw [p4]; decide)]
    subst p5
    exact ⟨σ, rfl, hC, ⟨p3, p6⟩, Un43.rf⟩
theorem settled7_s {σ : Sg} {S : List Nat} {im : Nat → Option Bk} (hB : Bok B) (hT : Tok T) (hC : InvC σ (S, B, T, im)) : ∃ s', f_X7_settled σ = some ((), s') ∧ InvC s' (S, B, T, im) ∧ stl s' B T ∧ Un43 σ s' := by
  obtain ⟨s', h1, h2⟩ := settle7_s hB hT hC
  exact ⟨s', by unfold f_X7_settled; rw [h1, cA_s], h2⟩
end ST
