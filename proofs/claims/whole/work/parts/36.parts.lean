/-- word k of the slip, as the reference has it -/
def wAt (fb fs : Nat → Int32) (S : List Nat) (k : Nat) (w : List Nat) (e : Nat → Nat → Prop) : Prop := fs k = nI w.length ∧ ∃ p, fb k = nI p ∧ p + w.length ≤ S.length ∧ (∀ j x, w[j]? = some x → S[p + j]? = some x) ∧ e p w.length
def onI (b : Bool) : Int32 := if b = true then 1 else 0
theorem parts_L {σ : Sg} {S : List Nat} (hS : Sok S) (h1 : slipP (σ.1 43 4) (σ.1 47) S) {k : Sg → Int32 → Option (Int32 × Sg)} : ∀ (n i : Nat) (s : Sg), i ≤ S.length → S.length < n + i → s.2 = σ.2 → (∀ a, a ≠ 49 → a ≠ 50 → s.1 a = σ.1 a) → (∀ j, j < spm S i → wAt (s.1 49) (s.1 50) S j (spg S i j) (fun p l => p + l ≤ i ∧ (spo S i = true → j + 1 = spm S i → p + l = i))) →
    ∃ s', s'.2 = σ.2 ∧ (∀ a, a ≠ 49 → a ≠ 50 → s'.1 a = σ.1 a) ∧ (∀ j, j < spm S S.length → wAt (s'.1 49) (s'.1 50) S j (spg S S.length j) (fun _ _ => True)) ∧ f_X8_parts_L6 k n s (nI (spm S i)) (onI (spo S i)) (nI i) = k s' (nI (spm S S.length)) := by
  intro n
  induction n with
  | zero => intro i s h h'; omega
  | succ n ih =>
    intro i s hi hn hs2 hs1 hw
    have hS50 := hS.1
    have e0 : s.1 43 4 = nI S.length := by rw [hs1 43 (by decide) (by decide)]; exact h1.1
    rw [f_X8_parts_L6]
    rcases Nat.lt_or_ge i S.length with hlt | hge
    · rw [e0, if_neg (fun hc => by have := (nI_leI (by omega) (by omega)).mp hc; omega), rI_n (by omega) (by decide)]
      have e2 : s.1 47 i = sgn (S.getD i 0) := by rw [hs1 47 (by decide) (by decide)]; exact sgn_at h1 hlt
      have hSi : S[i]? = some (S.getD i 0) := by rw [List.getD_eq_getElem?_getD, List.getElem?_eq_getElem hlt]; rfl
      have hx26 : S.getD i 0 ≤ 26 := hS.2 _ (List.mem_of_getElem? hSi)
      obtain ⟨m1, m2, m3⟩ := sp_m hS hi
      obtain ⟨o1, o2, o3⟩ := sp_ok hS.2 i hi
      simp only [jn_s]
      by_cases hx : S.getD i 0 = 0
      · obtain ⟨a1, a2, a3⟩ := sp_b hx
        obtain ⟨s', b1, b2, b3, b4⟩ := ih (i + 1) s (by omega) (by omega) hs2 hs1 (fun j hj => by
          rw [a1] at hj
          obtain ⟨c1, p, c2, c3, c4, c5⟩ := hw j hj
          rw [a2]
          exact ⟨c1, p, c2, c3, c4, by have := c5.1; omega, fun h => by rw [a3] at h; cases h⟩)
        refine ⟨s', b1, b2, b3, ?_⟩
        rw [e2, if_pos ((sgn_32 hx26).mpr hx), if_pos trivial, if_pos trivial, ← b4, a1, a3, nI_1]
        rfl
      · rw [e2, if_neg (fun hc => hx ((sgn_32 hx26).mp hc)), if_neg (by decide)]
        by_cases ho : spo S i = true
        · obtain ⟨a1, a2, a3⟩ := sp_t hx ho
          have hm := o1 ho
          obtain ⟨c1, p, c2, c3, c4, c5⟩ := hw (spm S i - 1) (by omega)
          have hp := c5.2 ho (by omega)
          obtain ⟨s', b1, b2, b3, b4⟩ := ih (i + 1) (sI s 50 (spm S i - 1) (nI ((spg S i (spm S i - 1)).length + 1))) (by omega) (by omega) hs2 (fun a h49 h50 => by rw [sI_ne s h50]; exact hs1 a h49 h50) (fun j hj => by
            rw [a1] at hj
            rw [a2, sI_ne s (by decide)]
            dsimp only
            by_cases hj2 : j = spm S i - 1
            · rw [if_pos hj2, hj2]
              refine ⟨by rw [sI_1, if_pos ⟨rfl, rfl⟩, List.length_append]; rfl, p, c2, by rw [List.length_append]; simp; omega, fun q x hq => ?_, ?_, fun _ _ => ?_⟩
              · rw [List.getElem?_append] at hq
                split at hq
                · exact c4 q x hq
                · rename_i hq2
                  have : q = (spg S i (spm S i - 1)).length := by
                    rcases Nat.lt_or_ge (q - (spg S i (spm S i - 1)).length) 1 with g | g
                    · omega
                    · rw [List.getElem?_eq_none_iff.mpr (by simpa using g)] at hq
                      cases hq
                  subst this
                  rw [hp, hSi]
                  simpa using hq
              · rw [List.length_append]; simp; omega
              · rw [List.length_append]; simp; omega
            · rw [if_neg hj2]
              obtain ⟨d1, p2, d2, d3, d4, d5⟩ := hw j hj
              exact ⟨by rw [sI_1, if_neg (fun hc => hj2 hc.2)]; exact d1, p2, d2, d3, d4, by have := d5.1; omega, fun _ h => absurd h (by omega)⟩)
          refine ⟨s', b1, b2, b3, ?_⟩
          have eo : ¬ onI (spo S i) = 0 := by rw [ho]; decide
          rw [if_neg eo, if_neg (by decide), nI_s1 hm, rI_n (by omega) (by decide), wI_n (by omega) (by decide), c1, nI_1, nI_1, ← b4, a1, a3]
          rfl
        · have ho : spo S i = false := by simpa using ho
          obtain ⟨a1, a2, a3⟩ := sp_f hx ho
          have hm24 : spm S i < 25 := by rw [ho] at m1; simp at m1; omega
          obtain ⟨s', b1, b2, b3, b4⟩ := ih (i + 1) (sI (sI (sI s 49 (spm S i) (nI i)) 50 (spm S i) 0) 50 (spm S i) (nI 1)) (by omega) (by omega) hs2 (fun a h49 h50 => by rw [sI_ne _ h50, sI_ne _ h50, sI_ne _ h49]; exact hs1 a h49 h50) (fun j hj => by
            rw [a1] at hj
            rw [a2, sI_ne _ (by decide), sI_ne _ (by decide)]
            dsimp only
            by_cases hj2 : j = spm S i
            · rw [if_pos hj2, hj2]
              refine ⟨by rw [sI_1, if_pos ⟨rfl, rfl⟩]; rfl, i, by rw [sI_1, if_pos ⟨rfl, rfl⟩], by simp; omega, fun q x hq => ?_, by simp, fun _ _ => by simp⟩
              match q, hq with
              | 0, hq =>
                rw [Nat.add_zero, hSi]
                simpa using hq
              | q + 1, hq => simp at hq
            · rw [if_neg hj2]
              obtain ⟨d1, p2, d2, d3, d4, d5⟩ := hw j (by omega)
              exact ⟨by rw [sI_1, if_neg (fun hc => hj2 hc.2), sI_1, if_neg (fun hc => hj2 hc.2), sI_ne _ (by decide)]; exact d1, p2, by rw [sI_1, if_neg (fun hc => hj2 hc.2)]; exact d2, d3, d4, by have := d5.1; omega, fun _ h => absurd h (by omega)⟩)
          refine ⟨s', b1, b2, b3, ?_⟩
          have eo : onI (spo S i) = 0 := by rw [ho]; rfl
          rw [if_pos eo, wI_n hm24 (by decide), wI_n hm24 (by decide), if_neg (by decide), nI_1, nI_s1 (by omega), Nat.add_sub_cancel, rI_n hm24 (by decide), wI_n hm24 (by decide), ← b4, a1, a3, nI_1]
          have e5 : (sI (sI s 49 (spm S i) (nI i)) 50 (spm S i) 0).1 50 (spm S i) + 1 = nI 1 := by
            rw [sI_1, if_pos ⟨rfl, rfl⟩]
            rfl
          rw [e5]
          rfl
    · have hil : i = S.length := by omega
      subst hil
      refine ⟨s, hs2, hs1, fun j hj => ?_, ?_⟩
      · obtain ⟨d1, p2, d2, d3, d4, d5⟩ := hw j hj
        exact ⟨d1, p2, d2, d3, d4, trivial⟩
      · rw [e0, if_pos (nI_le (Nat.le_refl _) (by omega))]
theorem parts_s {σ : Sg} {S : List Nat} (hS : Sok S) (h1 : slipP (σ.1 43 4) (σ.1 47) S) : ∃ s', f_X8_parts σ = some (nI (spm S S.length), s') ∧ s'.2 = σ.2 ∧ (∀ a, a ≠ 49 → a ≠ 50 → s'.1 a = σ.1 a) ∧ ∀ j, j < spm S S.length → wAt (s'.1 49) (s'.1 50) S j (spg S S.length j) (fun _ _ => True) := by
  have hS50 := hS.1
  obtain ⟨s', b1, b2, b3, b4⟩ := parts_L hS h1 (k := fun (s28 : Sg) (v29 : Int32) => some (v29, s28)) fu 0 σ (Nat.zero_le _) (by unfold fu; omega) rfl (fun _ _ _ => rfl) (fun j hj => by simp [spm, sp] at hj)
  exact ⟨s', b4, b1, b2, b3⟩
