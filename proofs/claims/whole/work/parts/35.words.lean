/-! the words of the slip -/
def sp (S : List Nat) : Nat → Nat × (Nat → List Nat) × Bool
  | 0 => (0, fun _ => [], false)
  | i + 1 => if S.getD i 0 = 0 then ((sp S i).1, (sp S i).2.1, false)
      else if (sp S i).2.2 = true then ((sp S i).1, fun k => if k = (sp S i).1 - 1 then (sp S i).2.1 k ++ [S.getD i 0] else (sp S i).2.1 k, true)
      else ((sp S i).1 + 1, fun k => if k = (sp S i).1 then [S.getD i 0] else (sp S i).2.1 k, true)
def spm (S : List Nat) (i : Nat) : Nat := (sp S i).1
def spg (S : List Nat) (i : Nat) : Nat → List Nat := (sp S i).2.1
def spo (S : List Nat) (i : Nat) : Bool := (sp S i).2.2
theorem sp_b {S : List Nat} {i : Nat} (h : S.getD i 0 = 0) : spm S (i + 1) = spm S i ∧ spg S (i + 1) = spg S i ∧ spo S (i + 1) = false := by
  unfold spm spg spo
  rw [sp, if_pos h]
  exact ⟨rfl, rfl, rfl⟩
theorem sp_t {S : List Nat} {i : Nat} (h : ¬ S.getD i 0 = 0) (ho : spo S i = true) : spm S (i + 1) = spm S i ∧ spg S (i + 1) = (fun k => if k = spm S i - 1 then spg S i k ++ [S.getD i 0] else spg S i k) ∧ spo S (i + 1) = true := by
  unfold spo at ho
  unfold spm spg spo
  rw [sp, if_neg h, if_pos ho]
  exact ⟨rfl, rfl, rfl⟩
theorem sp_f {S : List Nat} {i : Nat} (h : ¬ S.getD i 0 = 0) (ho : spo S i = false) : spm S (i + 1) = spm S i + 1 ∧ spg S (i + 1) = (fun k => if k = spm S i then [S.getD i 0] else spg S i k) ∧ spo S (i + 1) = true := by
  unfold spo at ho
  unfold spm spg spo
  rw [sp, if_neg h, if_neg (by rw [ho]; decide)]
  exact ⟨rfl, rfl, rfl⟩
theorem b_sum_cg {f g : Nat → List Nat} : ∀ {n : Nat}, (∀ k, k < n → f k = g k) → b_sum f n = b_sum g n
  | 0, _ => rfl
  | n + 1, h => by
    simp only [b_sum]
    rw [b_sum_cg (fun k hk => h k (by omega)), h n (by omega)]
/-- what the words are like -/
theorem sp_ok {S : List Nat} (hS : ∀ x ∈ S, x ≤ 26) : ∀ i, i ≤ S.length → (spo S i = true → 1 ≤ spm S i) ∧ (∀ k, k < spm S i → lok1 (spg S i k) ∧ 1 ≤ (spg S i k).length) ∧ b_sum (spg S i) (spm S i) ≤ i + (if spo S i = true then 1 else 0) := by
  intro i
  induction i with
  | zero => intro _; exact ⟨fun h => (by cases h), fun k hk => absurd hk (Nat.not_lt_zero k), by simp [spm, sp, b_sum]⟩
  | succ i ih =>
    intro hi
    obtain ⟨h1, h2, h3⟩ := ih (by omega)
    have hx26 : S.getD i 0 ≤ 26 := by
      rw [List.getD_eq_getElem?_getD, List.getElem?_eq_getElem (by omega)]
      exact hS _ (List.getElem_mem _)
    by_cases hx : S.getD i 0 = 0
    · obtain ⟨e1, e2, e3⟩ := sp_b hx
      rw [e1, e2, e3]
      refine ⟨fun h => (by cases h), h2, ?_⟩
      have : (if spo S i = true then 1 else 0) ≤ 1 := by split <;> omega
      simp
      omega
    · by_cases ho : spo S i = true
      · obtain ⟨e1, e2, e3⟩ := sp_t hx ho
        rw [e1, e2, e3]
        have hm := h1 ho
        refine ⟨fun _ => hm, fun k hk => ?_, ?_⟩
        · dsimp only
          split
          · refine ⟨fun y hy => ?_, by simp⟩
            rcases List.mem_append.mp hy with g | g
            · exact (h2 k hk).1 y g
            · rw [List.mem_singleton.mp g]; omega
          · exact h2 k hk
        · obtain ⟨m, hm2⟩ : ∃ m, spm S i = m + 1 := ⟨spm S i - 1, by omega⟩
          rw [ho] at h3
          rw [hm2] at h3 ⊢
          simp only [b_sum, if_true, Nat.add_sub_cancel, List.length_append, List.length_singleton] at h3 ⊢
          rw [b_sum_cg (g := spg S i) (fun k hk => by rw [if_neg (by omega)])]
          omega
      · have ho : spo S i = false := by simpa using ho
        obtain ⟨e1, e2, e3⟩ := sp_f hx ho
        rw [e1, e2, e3]
        refine ⟨fun _ => by omega, fun k hk => ?_, ?_⟩
        · dsimp only
          split
          · refine ⟨fun y hy => ?_, by simp⟩
            rw [List.mem_singleton.mp hy]; omega
          · exact h2 k (by omega)
        · rw [ho] at h3
          simp only [b_sum, if_true, List.length_singleton]
          rw [b_sum_cg (g := spg S i) (fun k hk => by rw [if_neg (by omega)])]
          simp at h3
          omega
theorem b_sum_ge {f : Nat → List Nat} : ∀ {n : Nat}, (∀ k, k < n → 1 ≤ (f k).length) → 2 * n ≤ b_sum f n
  | 0, _ => by simp [b_sum]
  | n + 1, h => by
    have h1 := b_sum_ge (f := f) (n := n) (fun k hk => h k (by omega))
    have h2 := h n (by omega)
    simp only [b_sum]
    omega
theorem b_sum_len {f : Nat → List Nat} : ∀ {n k : Nat}, k < n → (f k).length + 1 ≤ b_sum f n
  | 0, k, h => absurd h (Nat.not_lt_zero k)
  | n + 1, k, h => by
    simp only [b_sum]
    rcases Nat.lt_or_ge k n with g | g
    · have := b_sum_len (f := f) g
      omega
    · have : k = n := by omega
      subst this
      omega
theorem sp_m {S : List Nat} (hS : Sok S) {i : Nat} (hi : i ≤ S.length) : 2 * spm S i ≤ i + (if spo S i = true then 1 else 0) ∧ spm S i ≤ 25 ∧ ∀ k, k < spm S i → (spg S i k).length ≤ 50 := by
  obtain ⟨h1, h2, h3⟩ := sp_ok hS.2 i hi
  have h4 := b_sum_ge (f := spg S i) (fun k hk => (h2 k hk).2)
  have h5 : (if spo S i = true then 1 else 0) ≤ 1 := by split <;> omega
  have h6 := hS.1
  refine ⟨by omega, by omega, fun k hk => ?_⟩
  have := b_sum_len (f := spg S i) hk
  omega
/-- the words could be those of a term -/
def fit (S : List Nat) (i : Nat) : Prop := spm S i ≤ 4 ∧ ∀ k, k < spm S i → (spg S i k).length ≤ 12
noncomputable def fitI (S : List Nat) (i : Nat) : Int32 := @ite _ (fit S i) (Classical.propDecidable _) 1 0
theorem fitI_t {S : List Nat} {i : Nat} (h : fit S i) : fitI S i = 1 := by unfold fitI; rw [if_pos h]
theorem fitI_f {S : List Nat} {i : Nat} (h : ¬ fit S i) : fitI S i = 0 := by unfold fitI; rw [if_neg h]
def spl (S : List Nat) (i : Nat) : Nat := if spo S i = true then (spg S i (spm S i - 1)).length else 0
theorem sgn_at {n : Int32} {f : Nat → Int32} {S : List Nat} (h : slipP n f S) {i : Nat} (hi : i < S.length) : f i = sgn (S.getD i 0) := by
  rw [List.getD_eq_getElem?_getD, List.getElem?_eq_getElem hi]
  exact h.2 i _ (List.getElem?_eq_getElem hi)
theorem sgn_32 {x : Nat} (hx : x ≤ 26) : sgn x = 32 ↔ x = 0 := by
  unfold sgn
  by_cases h : x = 0
  · simp [h]
  · rw [if_neg h]
    constructor
    · intro e
      have := (c_eq 32 (by omega) (by decide)).mp e
      omega
    · intro e; exact absurd e h
theorem nI_s1 {m : Nat} (h : 1 ≤ m) : nI m - 1 = nI (m - 1) := by
  obtain ⟨j, rfl⟩ : ∃ j, m = j + 1 := ⟨m - 1, by omega⟩
  rw [nI_pred, Nat.add_sub_cancel]
theorem takeWords_L {σ : Sg} {S : List Nat} (hS : Sok S) (h1 : slpC σ S) {k : Sg → Int32 → Int32 → Option (Int32 × Sg)} : ∀ (n i : Nat) (s : Sg), i ≤ S.length → S.length < n + i → s.1 = σ.1 → (∀ a, a ≠ 3 → s.2 a = σ.2 a) → (fit S i → ∀ j, j < spm S i → s.2 3 j = eL (spg S i j)) →
    ∃ s', s'.1 = σ.1 ∧ (∀ a, a ≠ 3 → s'.2 a = σ.2 a) ∧ (fit S S.length → ∀ j, j < spm S S.length → s'.2 3 j = eL (spg S S.length j)) ∧ f_X5_takeWords_L9 k n s (nI (spm S i)) (nI (spl S i)) (fitI S i) (nI i) = k s' (nI (spm S S.length)) (fitI S S.length) := by
  intro n
  induction n with
  | zero => intro i s h h'; omega
  | succ n ih =>
    intro i s hi hn hs1 hs2 hw
    have hS50 := hS.1
    have e0 : s.1 1 1 = nI S.length := by rw [hs1]; exact h1.1
    rw [f_X5_takeWords_L9]
    rcases Nat.lt_or_ge i S.length with hlt | hge
    · rw [e0, if_neg (fun hc => by have := (nI_leI (by omega) (by omega)).mp hc; omega), rI_n (by omega) (by decide)]
      have e2 : s.1 2 i = sgn (S.getD i 0) := by rw [hs1]; exact sgn_at h1 hlt
      have hx26 : S.getD i 0 ≤ 26 := by
        rw [List.getD_eq_getElem?_getD, List.getElem?_eq_getElem hlt]
        exact hS.2 _ (List.getElem_mem _)
      obtain ⟨m1, m2, m3⟩ := sp_m hS hi
      obtain ⟨o1, o2, o3⟩ := sp_ok hS.2 i hi
      by_cases hx : S.getD i 0 = 0
      · obtain ⟨a1, a2, a3⟩ := sp_b hx
        have hf : fit S (i + 1) = fit S i := by unfold fit; rw [a1, a2]
        have hfI : fitI S (i + 1) = fitI S i := by
          rcases Classical.em (fit S i) with g | g
          · rw [fitI_t g, fitI_t (by rw [hf]; exact g)]
          · rw [fitI_f g, fitI_f (by rw [hf]; exact g)]
        have hl : spl S (i + 1) = 0 := by unfold spl; rw [a3]; rfl
        obtain ⟨s', b1, b2, b3, b4⟩ := ih (i + 1) s (by omega) (by omega) hs1 hs2 (by rw [hf, a1, a2]; exact hw)
        refine ⟨s', b1, b2, b3, ?_⟩
        rw [e2, if_pos ((sgn_32 hx26).mpr hx), ← b4, a1, hfI, hl, nI_1]
        rfl
      · have e3 : sgn (S.getD i 0) = nI (S.getD i 0 + 96) := by unfold sgn; rw [if_neg hx]
        rw [e2, if_neg (fun hc => hx ((sgn_32 hx26).mp hc))]
        simp only [jn_s]
        by_cases ho : spo S i = true
        · -- the word goes on
          obtain ⟨a1, a2, a3⟩ := sp_t hx ho
          have hm := o1 ho
          have hl0 : spl S i = (spg S i (spm S i - 1)).length := by unfold spl; rw [if_pos ho]
          have hl50 := m3 (spm S i - 1) (by omega)
          have hl1 := (o2 (spm S i - 1) (by omega)).2
          have hlo := (o2 (spm S i - 1) (by omega)).1
          have hl2 : spl S (i + 1) = spl S i + 1 := by
            unfold spl
            rw [if_pos a3, if_pos ho, a1, a2]
            simp
          have hne : ¬ nI (spl S i) = 0 := nI_ne0 (by omega) (by omega)
          have hne1 : ¬ nI (spl S i) + 1 = 1 := by
            rw [nI_1]
            intro hc
            have := (c_eq 1 (by omega) (by decide)).mp hc
            omega
          rw [if_neg hne, nI_1]
          by_cases hf : fit S i
          · rw [fitI_t hf, if_neg (by decide)]
            by_cases h12 : 12 < spl S i + 1
            · have hf2 : ¬ fit S (i + 1) := by
                intro hc
                have := hc.2 (spm S i - 1) (by omega)
                rw [a2] at this
                simp at this
                omega
              obtain ⟨s', b1, b2, b3, b4⟩ := ih (i + 1) s (by omega) (by omega) hs1 hs2 (fun hc => absurd hc hf2)
              refine ⟨s', b1, b2, b3, ?_⟩
              rw [if_pos ((c_gt 12 (by omega) (by decide)).mpr h12), if_pos trivial, ← b4, a1, fitI_f hf2, hl2, nI_1]
            · have h4 : ¬ 4 < spm S i := by have := hf.1; omega
              have hf2 : fit S (i + 1) := by
                refine ⟨by rw [a1]; exact hf.1, fun k hk => ?_⟩
                rw [a2]
                dsimp only
                split
                · rename_i hk2
                  rw [List.length_append, hk2]
                  simp
                  omega
                · exact hf.2 k (by omega)
              have hwm := hw hf (spm S i - 1) (by omega)
              have hwi : f_X0_with s (s.2 3 (spm S i - 1)) (nI (spl S i + 1) - 1) (nI (S.getD i 0 + 96)) = some (eL (spg S i (spm S i - 1) ++ [S.getD i 0])) := by
                rw [nI_pred, hwm, hl0]
                exact with_s hlo (by omega) (by omega)
              obtain ⟨s', b1, b2, b3, b4⟩ := ih (i + 1) (sL s 3 (spm S i - 1) (eL (spg S i (spm S i - 1) ++ [S.getD i 0]))) (by omega) (by omega) hs1 (fun a ha => by rw [sL_ne s ha]; exact hs2 a ha) (fun _ j hj => by
                rw [sL_2, a2]
                dsimp only
                by_cases hj2 : j = spm S i - 1
                · rw [if_pos ⟨rfl, hj2⟩, if_pos hj2, hj2]
                · rw [if_neg (fun hc => hj2 hc.2), if_neg hj2]
                  exact hw hf j (by omega))
              refine ⟨s', b1, b2, b3, ?_⟩
              rw [if_neg (fun hc => h12 ((c_gt 12 (by omega) (by decide)).mp hc)), if_neg (fun hc => h4 ((c_gt 4 (by omega) (by decide)).mp hc)), if_neg (by decide), if_neg (by rw [nI_1] at hne1; exact hne1), nI_s1 hm, rL_n (by have := hf.1; omega) (by decide), rI_n (by omega) (by decide), e2, e3, hwi, cP_s, wL_n (by have := hf.1; omega) (by decide), ← b4, a1, fitI_t hf2, hl2, nI_1]
          · have hf2 : ¬ fit S (i + 1) := by
              intro hc
              apply hf
              refine ⟨by have := hc.1; omega, fun k hk => ?_⟩
              have := hc.2 k (by omega)
              rw [a2] at this
              dsimp only at this
              split at this
              · rw [List.length_append] at this; omega
              · exact this
            obtain ⟨s', b1, b2, b3, b4⟩ := ih (i + 1) s (by omega) (by omega) hs1 hs2 (fun hc => absurd hc hf2)
            refine ⟨s', b1, b2, b3, ?_⟩
            rw [fitI_f hf, if_pos rfl, if_pos trivial, ← b4, a1, fitI_f hf2, hl2, nI_1]
        · -- a word begins
          have ho : spo S i = false := by simpa using ho
          obtain ⟨a1, a2, a3⟩ := sp_f hx ho
          have hl0 : spl S i = 0 := by unfold spl; rw [ho]; rfl
          have hl2 : spl S (i + 1) = 1 := by
            unfold spl
            rw [if_pos a3, a1, a2]
            simp
          rw [hl0, if_pos (show nI 0 = 0 from rfl), nI_1, nI_1]
          by_cases hf : fit S i
          · rw [fitI_t hf, if_neg (by decide), if_neg (by decide)]
            by_cases h4 : 4 < spm S i + 1
            · have hf2 : ¬ fit S (i + 1) := fun hc => by have := hc.1; omega
              obtain ⟨s', b1, b2, b3, b4⟩ := ih (i + 1) s (by omega) (by omega) hs1 hs2 (fun hc => absurd hc hf2)
              refine ⟨s', b1, b2, b3, ?_⟩
              rw [if_pos ((c_gt 4 (by omega) (by decide)).mpr h4), if_pos trivial, ← b4, a1, fitI_f hf2, hl2, nI_1]
            · have hf2 : fit S (i + 1) := by
                refine ⟨by omega, fun k hk => ?_⟩
                rw [a2]
                dsimp only
                split
                · simp
                · exact hf.2 k (by omega)
              have hwi : f_X0_with s 0 (nI (0 + 1) - 1) (nI (S.getD i 0 + 96)) = some (eL [S.getD i 0]) := by
                have := with_s (σ := s) (w := []) (x := S.getD i 0) (fun _ h => by cases h) (by simp) (by omega)
                rw [nI_pred]
                exact this
              obtain ⟨s', b1, b2, b3, b4⟩ := ih (i + 1) (sL s 3 (spm S i) (eL [S.getD i 0])) (by omega) (by omega) hs1 (fun a ha => by rw [sL_ne s ha]; exact hs2 a ha) (fun _ j hj => by
                rw [sL_2, a2]
                dsimp only
                by_cases hj2 : j = spm S i
                · rw [if_pos ⟨rfl, hj2⟩, if_pos hj2]
                · rw [if_neg (fun hc => hj2 hc.2), if_neg hj2]
                  exact hw hf j (by omega))
              refine ⟨s', b1, b2, b3, ?_⟩
              rw [if_neg (fun hc => h4 ((c_gt 4 (by omega) (by decide)).mp hc)), if_neg (by decide), if_pos (show nI (0 + 1) = 1 from rfl), rI_n (by omega) (by decide), e2, e3, hwi, cP_s, nI_s1 (by omega), Nat.add_sub_cancel, wL_n (by omega) (by decide), ← b4, a1, fitI_t hf2, hl2, nI_1]
          · have hf2 : ¬ fit S (i + 1) := by
              intro hc
              apply hf
              refine ⟨by have := hc.1; omega, fun k hk => ?_⟩
              have := hc.2 k (by omega)
              rw [a2] at this
              dsimp only at this
              rw [if_neg (by omega)] at this
              exact this
            obtain ⟨s', b1, b2, b3, b4⟩ := ih (i + 1) s (by omega) (by omega) hs1 hs2 (fun hc => absurd hc hf2)
            refine ⟨s', b1, b2, b3, ?_⟩
            rw [fitI_f hf, if_pos rfl, if_pos trivial, ← b4, a1, fitI_f hf2, hl2, nI_1]
    · have hil : i = S.length := by omega
      subst hil
      refine ⟨s, hs1, hs2, hw, ?_⟩
      rw [e0, if_pos (nI_le (Nat.le_refl _) (by omega))]
theorem takeWords_s {σ : Sg} {S : List Nat} (hS : Sok S) (h1 : slpC σ S) : ∃ s', f_X5_takeWords σ = some (if fitI S S.length = 0 then 0 else nI (spm S S.length), s') ∧ s'.1 = (sI σ 1 1 0).1 ∧ (∀ a, a ≠ 3 → s'.2 a = σ.2 a) ∧ (fit S S.length → ∀ j, j < spm S S.length → s'.2 3 j = eL (spg S S.length j)) := by
  have hf0 : fit S 0 := ⟨by simp [spm, sp], fun k hk => by simp [spm, sp] at hk⟩
  have hS50 := hS.1
  obtain ⟨s', b1, b2, b3, b4⟩ := takeWords_L hS h1 (k := fun (s29 : Sg) (v30 : Int32) (v31 : Int32) => pI s29 1 1 0 fun s32 => (if v31 = 0 then (some (0, s32)) else (some (v30, s32)))) fu 0 σ (Nat.zero_le _) (by unfold fu; omega) rfl (fun _ _ => rfl) (fun _ j hj => by simp [spm, sp] at hj)
  refine ⟨sI s' 1 1 0, ?_, by rw [show s' = (s'.1, s'.2) from rfl, b1]; rfl, fun a ha => b2 a ha, b3⟩
  unfold f_X5_takeWords
  have e1 : (nI (spm S 0)) = 0 := rfl
  have e2 : (nI (spl S 0)) = 0 := rfl
  have e3 : nI 0 = 0 := rfl
  rw [e1, e2, fitI_t hf0, e3] at b4
  rw [b4, pI_s]
  split <;> rfl
