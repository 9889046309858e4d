/-! weight, bent, preferred of a term are set anew -/
def sWe (B : Bk) (t v : Nat) : Bk := (b_tc B, b_ec B, b_n B, b_w B, fun u => if u = t then v else b_we B u, b_be B, b_pr B, b_en B)
def sBe (B : Bk) (t v : Nat) : Bk := (b_tc B, b_ec B, b_n B, b_w B, b_we B, fun u => if u = t then v else b_be B u, b_pr B, b_en B)
def sPr (B : Bk) (t : Nat) (v : Int32) : Bk := (b_tc B, b_ec B, b_n B, b_w B, b_we B, b_be B, fun u => if u = t then v else b_pr B u, b_en B)
theorem sWe_ok {B : Bk} {t v : Nat} (hB : Bok B) (hv : 1 ≤ v ∧ v ≤ 9) : Bok (sWe B t v) := by
  refine ⟨hB.1, hB.2.1, fun u hu => ?_, hB.2.2.2⟩
  obtain ⟨c1, c2, c3⟩ := hB.2.2.1 u hu
  refine ⟨c1, ?_, c3⟩
  show 1 ≤ (if u = t then v else b_we B u) ∧ (if u = t then v else b_we B u) ≤ 9
  split
  · exact hv
  · exact c2
theorem sBe_ok {B : Bk} {t v : Nat} (hB : Bok B) (hv : v ≤ 1) : Bok (sBe B t v) := by
  refine ⟨hB.1, hB.2.1, fun u hu => ?_, hB.2.2.2⟩
  obtain ⟨c1, c2, c3, c4⟩ := hB.2.2.1 u hu
  refine ⟨c1, c2, ?_, c4⟩
  show (if u = t then v else b_be B u) ≤ 1
  split
  · exact hv
  · exact c3
theorem sPr_ok {B : Bk} {t : Nat} {v : Int32} (hB : Bok B) (hv : v = -1 ∨ ∃ u, u < b_tc B ∧ v = nI u) : Bok (sPr B t v) := by
  refine ⟨hB.1, hB.2.1, fun u hu => ?_, hB.2.2.2⟩
  obtain ⟨c1, c2, c3, c4, c5⟩ := hB.2.2.1 u hu
  refine ⟨c1, c2, c3, ?_, c5⟩
  show (if u = t then v else b_pr B u) = -1 ∨ ∃ w, w < b_tc B ∧ (if u = t then v else b_pr B u) = nI w
  split
  · exact hv
  · exact c4
theorem lexC_we {σ : Sg} {B : Bk} {t v : Nat} (h : lexC σ B) : lexC (sI σ 7 t (nI v)) (sWe B t v) := by
  obtain ⟨c1, c2, c3, c4⟩ := h
  refine ⟨by rw [sI_ne σ (by decide)]; exact c1, by rw [sI_ne σ (by decide)]; exact c2, fun u hu => ?_, c4⟩
  obtain ⟨d1, d2, d3, d4, d5⟩ := c3 u hu
  refine ⟨by rw [sI_ne σ (by decide)]; exact d1, ?_, by rw [sI_ne σ (by decide)]; exact d3, by rw [sI_ne σ (by decide)]; exact d4, d5⟩
  show _ = nI (if u = t then v else b_we B u)
  rw [sI_1]
  by_cases q : u = t
  · rw [if_pos ⟨rfl, q⟩, if_pos q]
  · rw [if_neg (fun hc => q hc.2), if_neg q]; exact d2
theorem lexC_be {σ : Sg} {B : Bk} {t v : Nat} (h : lexC σ B) : lexC (sI σ 8 t (nI v)) (sBe B t v) := by
  obtain ⟨c1, c2, c3, c4⟩ := h
  refine ⟨by rw [sI_ne σ (by decide)]; exact c1, by rw [sI_ne σ (by decide)]; exact c2, fun u hu => ?_, c4⟩
  obtain ⟨d1, d2, d3, d4, d5⟩ := c3 u hu
  refine ⟨by rw [sI_ne σ (by decide)]; exact d1, by rw [sI_ne σ (by decide)]; exact d2, ?_, by rw [sI_ne σ (by decide)]; exact d4, d5⟩
  show _ = nI (if u = t then v else b_be B u)
  rw [sI_1]
  by_cases q : u = t
  · rw [if_pos ⟨rfl, q⟩, if_pos q]
  · rw [if_neg (fun hc => q hc.2), if_neg q]; exact d3
theorem lexC_pr {σ : Sg} {B : Bk} {t : Nat} {v : Int32} (h : lexC σ B) : lexC (sI σ 9 t v) (sPr B t v) := by
  obtain ⟨c1, c2, c3, c4⟩ := h
  refine ⟨by rw [sI_ne σ (by decide)]; exact c1, by rw [sI_ne σ (by decide)]; exact c2, fun u hu => ?_, c4⟩
  obtain ⟨d1, d2, d3, d4, d5⟩ := c3 u hu
  refine ⟨by rw [sI_ne σ (by decide)]; exact d1, by rw [sI_ne σ (by decide)]; exact d2, by rw [sI_ne σ (by decide)]; exact d3, ?_, d5⟩
  show _ = (if u = t then v else b_pr B u)
  rw [sI_1]
  by_cases q : u = t
  · rw [if_pos ⟨rfl, q⟩, if_pos q]
  · rw [if_neg (fun hc => q hc.2), if_neg q]; exact d4
/-- one of a term's three attributes is written: all else stays -/
theorem bookP_at {f f' : Nat → Int32} {B : Bk} (h : bookP f B) (hB : Bok B) {t i : Nat} (ht : t < b_tc B) (hi : 1 ≤ i ∧ i ≤ 3) (e : ∀ j, j ≠ 2 + 56 * t + i → f' j = f j) : f' 0 = nI (b_tc B) ∧ f' 1 = nI (b_ec B) ∧ (∀ u, u < b_tc B → f' (2 + 56 * u) = nI (b_n B u) ∧ ((u ≠ t ∨ i ≠ 1) → f' (2 + 56 * u + 1) = nI (b_we B u)) ∧ ((u ≠ t ∨ i ≠ 2) → f' (2 + 56 * u + 2) = nI (b_be B u)) ∧ ((u ≠ t ∨ i ≠ 3) → f' (2 + 56 * u + 3) = b_pr B u) ∧ ∀ k, k < b_n B u → wordP f' (2 + 56 * u + 4 + 13 * k) (b_w B u k)) ∧ ∀ e, e < b_ec B → wordP f' (450 + 5 * e) (b_en B e) := by
  have h8 := hB.1
  refine ⟨by rw [e 0 (by omega)]; exact h.1, by rw [e 1 (by omega)]; exact h.2.1, fun u hu => ?_, fun x hx => (h.2.2.2 x hx).cg (fun j h1 h2 => e j (by omega))⟩
  obtain ⟨c1, c2, c3, c4, c5⟩ := h.2.2.1 u hu
  obtain ⟨d1, d2, d3, d4, d5, d6⟩ := hB.2.2.1 u hu
  refine ⟨by rw [e _ (by omega)]; exact c1, fun q => by rw [e _ (by omega)]; exact c2, fun q => by rw [e _ (by omega)]; exact c3, fun q => by rw [e _ (by omega)]; exact c4, fun k hk => (c5 k hk).cg (fun j h1 h2 => ?_)⟩
  have := (d5 k hk).2.2
  rcases Nat.lt_trichotomy t u with q | q | q
  · exact e j (by omega)
  · exact e j (by omega)
  · exact e j (by omega)
theorem bookP_we {f : Nat → Int32} {B : Bk} (h : bookP f B) (hB : Bok B) {t v : Nat} (ht : t < b_tc B) : bookP (fun j => if j = 2 + 56 * t + 1 then nI v else f j) (sWe B t v) := by
  obtain ⟨c1, c2, c3, c4⟩ := bookP_at (f' := fun j => if j = 2 + 56 * t + 1 then nI v else f j) h hB ht (by omega) (fun j hj => if_neg hj)
  refine ⟨c1, c2, fun u hu => ?_, c4⟩
  obtain ⟨d1, d2, d3, d4, d5⟩ := c3 u hu
  refine ⟨d1, ?_, d3 (by omega), d4 (by omega), d5⟩
  show _ = nI (if u = t then v else b_we B u)
  by_cases q : u = t
  · rw [if_pos q, q]; exact if_pos rfl
  · rw [if_neg q]; exact d2 (Or.inl q)
theorem bookP_be {f : Nat → Int32} {B : Bk} (h : bookP f B) (hB : Bok B) {t v : Nat} (ht : t < b_tc B) : bookP (fun j => if j = 2 + 56 * t + 2 then nI v else f j) (sBe B t v) := by
  obtain ⟨c1, c2, c3, c4⟩ := bookP_at (f' := fun j => if j = 2 + 56 * t + 2 then nI v else f j) h hB ht (by omega) (fun j hj => if_neg hj)
  refine ⟨c1, c2, fun u hu => ?_, c4⟩
  obtain ⟨d1, d2, d3, d4, d5⟩ := c3 u hu
  refine ⟨d1, d2 (by omega), ?_, d4 (by omega), d5⟩
  show _ = nI (if u = t then v else b_be B u)
  by_cases q : u = t
  · rw [if_pos q, q]; exact if_pos rfl
  · rw [if_neg q]; exact d3 (Or.inl q)
theorem bookP_pr {f : Nat → Int32} {B : Bk} (h : bookP f B) (hB : Bok B) {t : Nat} {v : Int32} (ht : t < b_tc B) : bookP (fun j => if j = 2 + 56 * t + 3 then v else f j) (sPr B t v) := by
  obtain ⟨c1, c2, c3, c4⟩ := bookP_at (f' := fun j => if j = 2 + 56 * t + 3 then v else f j) h hB ht (by omega) (fun j hj => if_neg hj)
  refine ⟨c1, c2, fun u hu => ?_, c4⟩
  obtain ⟨d1, d2, d3, d4, d5⟩ := c3 u hu
  refine ⟨d1, d2 (by omega), d3 (by omega), ?_, d5⟩
  show _ = (if u = t then v else b_pr B u)
  by_cases q : u = t
  · rw [if_pos q, q]; exact if_pos rfl
  · rw [if_neg q]; exact d4 (Or.inl q)
/-- the class's side behind a change of terms -/
theorem InvC.terms {σ s : Sg} {S : List Nat} {B B' : Bk} {T : Tx} {im : Nat → Option Bk} {L : List Nat} (hC : InvC σ (S, B, T, im)) (u : Sm L [5, 10] σ s) (hL : ∀ x ∈ L, x ∈ [4, 6, 7, 8, 9]) (hl : lexC s B') : ∃ s', f_X7_termsChanged s = some ((), s') ∧ InvC s' (S, B', T, im) ∧ Un43 σ s' ∧ s'.1 4 = s.1 4 ∧ lexC s' B' := by
  obtain ⟨s', e1, e2, e3⟩ := termsChanged_s s
  obtain ⟨g1, g2, g3, g4, g5, g6⟩ := hC
  have u : Sm [4, 6, 7, 8, 9] [5, 10] σ s := u.up hL (fun x h => h)
  exact ⟨s', e1, ⟨e2.slp (by decide) (u.slp (by decide) g1), e2.lex (by decide) (by decide) hl, e2.txt (by decide) (by decide) (u.txt (by decide) (by decide) g3), e2.ims (by decide) (by decide) (u.ims (by decide) (by decide) g4), (e3 _ _).1, (e3 _ _).2⟩, (u.u43 (by decide)).tr (e2.u43 (by decide)), e2.1 4 (by decide), e2.lex (by decide) (by decide) hl⟩
theorem InvR.book {σ : Sg} {S : List Nat} {B B' : Bk} {T : Tx} {im : Nat → Option Bk} {s : Sg} (hR : InvR σ (S, B, T, im)) (u : Sm [44] [] σ s) (hb : bookP (s.1 44) B') : InvR s (S, B', T, im) := by
  obtain ⟨g1, g2, g3, g4, g5⟩ := hR
  refine ⟨?_, hb, ?_, ?_, ?_⟩
  · rw [u.1 43 (by decide), u.1 47 (by decide)]; exact g1
  · rw [u.1 43 (by decide), u.1 48 (by decide)]; exact g3
  · rw [u.1 45 (by decide), u.1 46 (by decide)]; exact g4
  · rw [u.1 45 (by decide), u.1 46 (by decide)]; exact g5
theorem sI_44 (σ : Sg) (p : Nat) (v : Int32) : (sI σ 44 p v).1 44 = fun j => if j = p then v else σ.1 44 j := by rw [sI_row, if_pos rfl]
theorem i32_01 {a : Int32} : (0 ≤ a ∧ a ≤ 1) ↔ (a = 0 ∨ a = 1) := by
  constructor
  · rintro h
    obtain ⟨j, h1, h2, rfl⟩ := nat_of (lo := 0) (hi := 1) (by decide) h (by decide)
    rcases (show j = 0 ∨ j = 1 by omega) with rfl | rfl
    · left; rfl
    · right; rfl
  · rintro (rfl | rfl) <;> decide
theorem ps_change (σ : Sg) (a1 a2 a3 : Int32) (h : InvA σ) : ∃ (r : Int32) (σ1 σ2 : Sg), f_X7_change σ a1 a2 a3 = some (r, σ1) ∧ f_X8_change σ1 a1 a2 a3 = some (r, σ2) ∧ InvA σ2 := by
  refine step2 (f7 := fun s => f_X7_change s a1 a2 a3) (f8 := fun s => f_X8_change s a1 a2 a3) h (fun M hm => ?_)
  obtain ⟨S, B, T, im⟩ := M
  have hm0 := hm
  obtain ⟨hS, hB, hT, hI⟩ := hm
  have hB : Bok B := hB
  have h8 := hB.1
  have n10 : ¬ (1 : Int32) = 0 := by decide
  have n01 : ¬ (0 : Int32) = 1 := by decide
  rcases Classical.em (rg a1 (b_tc B)) with hr | hr
  · obtain ⟨t, ht, rfl⟩ := hr
    have hT1 := hB.2.2.1 t ht
    have i7 : ∀ s, InvC s (S, B, T, im) → f_X1_isTerm s (nI t) = some 1 := fun s hC => by rw [isTerm7_s hC.2.1 hB, bI_t ⟨t, ht, rfl⟩]
    have i8 : ∀ s, InvR s (S, B, T, im) → f_X8_isTerm s (nI t) = some 1 := fun s hR => by rw [isTerm8_s hR.2.1 hB, bI_t ⟨t, ht, rfl⟩]
    by_cases hw : a2 = 0 ∧ (1 ≤ a3 ∧ a3 ≤ 9)
    · obtain ⟨q0, hv⟩ := hw
      obtain ⟨v, v1, v2, rfl⟩ := nat_of (lo := 1) (hi := 9) (by decide) hv (by decide)
      refine ⟨nI (b_we B t), (S, sWe B t v, T, im), ⟨hS, sWe_ok hB ⟨v1, v2⟩, hT, hI⟩, fun hC => ?_, fun s hR => ?_⟩
      · obtain ⟨s', e1, e2, e3, -⟩ := hC.terms (L := [7]) (Sm.rf.i (by decide)) (by decide) (lexC_we (t := t) (v := v) hC.2.1)
        refine ⟨s', ?_, e2, e3⟩
        unfold f_X7_change
        rw [i7 σ hC, cP_s, if_neg n10]
        simp only [jn_s]
        rw [if_pos q0, isWeight7_s, cP_s, bI_t hv, if_neg n10, rI_n (by omega) (by decide), wI_n (by omega) (by decide), e1, cA_s, (hC.2.1.2.2.1 t ht).2.1]
      · refine ⟨sI s 44 (2 + 56 * t + 1) (nI v), ?_, hR.book (Sm.rf.i (by decide)) (by rw [sI_44]; exact bookP_we hR.2.1 hB ht), Un42.rf.i (by decide)⟩
        unfold f_X8_change
        rw [i8 s hR, cP_s, if_neg n10]
        simp only [jn_s]
        rw [if_pos q0, in8_s, in_bI, cP_s, bI_t hv, if_neg n10, if_neg n10, termAt8_s, cP_s, if_pos q0, nI_1, rI_n (by omega) (by decide), wI_n (by omega) (by decide), (hR.2.1.2.2.1 t ht).2.1]
    · by_cases hb : a2 = 1 ∧ (0 ≤ a3 ∧ a3 ≤ 1)
      · obtain ⟨q1, hv⟩ := hb
        have q0 : ¬ a2 = 0 := by rw [q1]; exact n10
        obtain ⟨v, v1, v2, rfl⟩ := nat_of (lo := 0) (hi := 1) (by decide) hv (by decide)
        refine ⟨nI (b_be B t), (S, sBe B t v, T, im), ⟨hS, sBe_ok hB v2, hT, hI⟩, fun hC => ?_, fun s hR => ?_⟩
        · obtain ⟨s', e1, e2, e3, -⟩ := hC.terms (L := [8]) (Sm.rf.i (by decide)) (by decide) (lexC_be (t := t) (v := v) hC.2.1)
          refine ⟨s', ?_, e2, e3⟩
          unfold f_X7_change
          rw [i7 σ hC, cP_s, if_neg n10]
          simp only [jn_s]
          rw [if_neg q0, if_pos q1, isBent7_s, cP_s, bI_t hv, if_neg n10, rI_n (by omega) (by decide), wI_n (by omega) (by decide), e1, cA_s, (hC.2.1.2.2.1 t ht).2.2.1]
        · refine ⟨sI s 44 (2 + 56 * t + 2) (nI v), ?_, hR.book (Sm.rf.i (by decide)) (by rw [sI_44]; exact bookP_be hR.2.1 hB ht), Un42.rf.i (by decide)⟩
          unfold f_X8_change
          rw [i8 s hR, cP_s, if_neg n10]
          simp only [jn_s]
          rw [if_neg q0, if_pos q1, in8_s, in_bI, cP_s, bI_t hv, if_neg n10, if_neg n10, termAt8_s, cP_s, if_neg q0, nI_p2, rI_n (by omega) (by decide), wI_n (by omega) (by decide), (hR.2.1.2.2.1 t ht).2.2.1]
      · refine ⟨-1000000002, (S, B, T, im), hm0, fun hC => ⟨σ, ?_, hC, Un43.rf⟩, fun s hR => ⟨s, ?_, hR, Un42.rf⟩⟩
        · unfold f_X7_change
          rw [i7 σ hC, cP_s, if_neg n10]
          simp only [jn_s]
          by_cases q0 : a2 = 0
          · rw [if_pos q0, isWeight7_s, cP_s, bI_f (fun z => hw ⟨q0, z⟩), if_pos rfl, if_neg (by rw [q0]; exact n01)]
          · rw [if_neg q0]
            by_cases q1 : a2 = 1
            · rw [if_pos q1, isBent7_s, cP_s, bI_f (fun z => hb ⟨q1, z⟩), if_pos rfl]
            · rw [if_neg q1]
        · unfold f_X8_change
          rw [i8 s hR, cP_s, if_neg n10]
          simp only [jn_s]
          by_cases q0 : a2 = 0
          · rw [if_pos q0, in8_s, in_bI, cP_s, bI_f (fun z => hw ⟨q0, z⟩), if_pos rfl, if_neg (by rw [q0]; exact n01), if_pos trivial]
          · rw [if_neg q0]
            by_cases q1 : a2 = 1
            · rw [if_pos q1, in8_s, in_bI, cP_s, bI_f (fun z => hb ⟨q1, z⟩), if_pos rfl, if_pos trivial]
            · rw [if_neg q1, if_pos trivial]
  · refine ⟨-1000000001, (S, B, T, im), hm0, fun hC => ⟨σ, ?_, hC, Un43.rf⟩, fun s hR => ⟨s, ?_, hR, Un42.rf⟩⟩
    · unfold f_X7_change
      rw [isTerm7_s hC.2.1 hB, cP_s, bI_f hr, if_pos rfl]
    · unfold f_X8_change
      rw [isTerm8_s hR.2.1 hB, cP_s, bI_f hr, if_pos rfl]
