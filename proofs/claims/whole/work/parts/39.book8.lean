theorem nI_p0 (p : Nat) : nI p + 0 = nI p := nI_add p 0
theorem nI_p2 (p : Nat) : nI p + 2 = nI (p + 2) := nI_add p 2
theorem nI_p3 (p : Nat) : nI p + 3 = nI (p + 3) := nI_add p 3
theorem termAt8_s {σ : Sg} (t : Nat) : f_X8_termAt σ (nI t) = some (nI (2 + 56 * t)) := by
  unfold f_X8_termAt
  rw [li 56, pk_mul, li 2, nI_add]
theorem wordAt8_s {σ : Sg} (t k : Nat) : f_X8_wordAt σ (nI t) (nI k) = some (nI (2 + 56 * t + 4 + 13 * k)) := by
  unfold f_X8_wordAt
  rw [li 56, li 13, pk_mul, pk_mul, li 2, li 4, nI_add, nI_add, nI_add]
theorem endingAt8_s {σ : Sg} (e : Nat) : f_X8_endingAt σ (nI e) = some (nI (450 + 5 * e)) := by
  unfold f_X8_endingAt
  rw [li 5, pk_mul, li 450, nI_add]
theorem ext_iff {g w : List Nat} : g = w ↔ g.length = w.length ∧ ∀ j, j < g.length → g[j]? = w[j]? := by
  constructor
  · rintro rfl; exact ⟨rfl, fun _ _ => rfl⟩
  · rintro ⟨h1, h2⟩
    apply List.ext_getElem?
    intro j
    rcases Nat.lt_or_ge j g.length with q | q
    · exact h2 j q
    · rw [List.getElem?_eq_none_iff.mpr q, List.getElem?_eq_none_iff.mpr (by omega)]
theorem isSame8_s {σ : Sg} {S g w : List Nat} {k p : Nat} {E : Nat → Nat → Prop} (hS : S.length ≤ 50) (hsl : ∀ i x, S[i]? = some x → σ.1 47 i = sgn x) (hk : k < 25) (ha : wAt (σ.1 49) (σ.1 50) S k g E) (hw : wordP (σ.1 44) p w) (hp : p + 1 + w.length ≤ 475) (hg : lok1 g) (hwo : lok1 w) : f_X8_isSame σ (nI k) (nI p) = some (bI (g = w)) := by
  obtain ⟨c1, q, c2, c3, c4, -⟩ := ha
  have key : ∀ n i, i ≤ g.length → g.length < n + i → f_X8_isSame_L24 (fun (v24 : Int32) => mH (v24 = 0 ∨ v24 = 1) (some v24)) σ (nI k) (nI p) n (bI (g.length = w.length ∧ ∀ j, j < i → g[j]? = w[j]?)) (nI i) = some (bI (g = w)) := by
    intro n
    induction n with
    | zero => intro i h h'; omega
    | succ n ih =>
      intro i hi hn
      rw [f_X8_isSame_L24, rI_n hk (by decide), c1]
      rcases Nat.lt_or_ge i g.length with z | z
      · rw [if_neg (fun hc => by have := (nI_leI (by omega) (by omega)).mp hc; omega)]
        rcases Classical.em (g.length = w.length ∧ ∀ j, j < i → g[j]? = w[j]?) with h | h
        · rw [bI_t h, if_neg (by decide), rI_n hk (by decide), c2, nI_add, rI_n (by omega) (by decide), nI_1, nI_add, rI_n (by omega) (by decide)]
          have gi : g[i]? = some g[i] := List.getElem?_eq_getElem z
          have wi : w[i]? = some (w[i]'(by omega)) := List.getElem?_eq_getElem (by omega)
          have x1 := hg _ (List.mem_of_getElem? gi)
          have x2 := hwo _ (List.mem_of_getElem? wi)
          rw [hsl _ _ (c4 i _ gi), hw.2 i _ wi, nI_1]
          have es : sgn g[i] = nI (g[i] + 96) := by unfold sgn; rw [if_neg (by omega)]
          rw [es]
          have hiff : nI (g[i] + 96) = nI (w[i]'(by omega) + 96) ↔ g[i]? = w[i]? := by
            rw [nI_eq (by omega) (by omega), gi, wi]
            constructor
            · intro h; congr 1; omega
            · intro h; have := Option.some.inj h; omega
          by_cases h2 : g[i]? = w[i]?
          · rw [if_pos (hiff.mpr h2)]
            have := ih (i + 1) (by omega) (by omega)
            rw [bI_t ⟨h.1, fun j hj => by
              rcases Nat.lt_or_ge j i with y | y
              · exact h.2 j y
              · have : j = i := by omega
                rw [this]; exact h2⟩] at this
            exact this
          · rw [if_neg (fun hc => h2 (hiff.mp hc))]
            have := ih (i + 1) (by omega) (by omega)
            rw [bI_f (fun hc => h2 (hc.2 i (by omega)))] at this
            exact this
        · rw [bI_f h, if_pos rfl, mH_t (Or.inl rfl), bI_f]
          intro hc
          have := ext_iff.mp hc
          exact h ⟨this.1, fun j hj => this.2 j (by omega)⟩
      · have : i = g.length := by omega
        subst this
        rw [if_pos (nI_le (Nat.le_refl _) (by omega)), mH_t (bI_01 _)]
        congr 1
        exact bI_cg ext_iff.symm
  unfold f_X8_isSame
  rw [rI_n hk (by decide), rI_n (by omega) (by decide), c1, hw.1, jn_s]
  have h0 := key fu 0 (Nat.zero_le _) (by unfold fu; omega)
  by_cases h : g.length = w.length
  · rw [if_pos (by rw [h])]
    rw [bI_t ⟨h, fun j hj => absurd hj (Nat.not_lt_zero j)⟩] at h0
    exact h0
  · rw [if_neg (fun hc => h ((nI_eq (by omega) (by omega)).mp hc))]
    rw [bI_f (fun hc => h hc.1)] at h0
    exact h0
theorem writes8_s {σ : Sg} {S g : List Nat} {k p : Nat} {E : Nat → Nat → Prop} (hS : S.length ≤ 50) (hsl : ∀ i x, S[i]? = some x → σ.1 47 i = sgn x) (hk : k < 25) (ha : wAt (σ.1 49) (σ.1 50) S k g E) (hp : p + 1 + g.length ≤ 475) (hg : lok1 g) : ∃ s', f_X8_writes σ (nI k) (nI p) = some ((), s') ∧ Sm [44] [] σ s' ∧ wordP (s'.1 44) p g ∧ ∀ j, (j < p ∨ p + 1 + g.length ≤ j) → s'.1 44 j = σ.1 44 j := by
  obtain ⟨c1, q, c2, c3, c4, -⟩ := ha
  have key : ∀ n i s, i ≤ g.length → g.length < n + i → Sm [44] [] σ s → s.1 44 p = nI g.length → (∀ j x, j < i → g[j]? = some x → s.1 44 (p + 1 + j) = nI (x + 96)) → (∀ j, (j < p ∨ p + 1 + g.length ≤ j) → s.1 44 j = σ.1 44 j) → ∃ s', f_X8_writes_L14 (fun (s20 : Sg) => some ((), s20)) (nI k) (nI p) n s (nI i) = some ((), s') ∧ Sm [44] [] σ s' ∧ wordP (s'.1 44) p g ∧ ∀ j, (j < p ∨ p + 1 + g.length ≤ j) → s'.1 44 j = σ.1 44 j := by
    intro n
    induction n with
    | zero => intro i s h h'; omega
    | succ n ih =>
      intro i s hi hn hs e1 e2 e3
      rw [f_X8_writes_L14, rI_n hk (by decide), hs.1 50 (by decide), c1]
      rcases Nat.lt_or_ge i g.length with z | z
      · have gi : g[i]? = some g[i] := List.getElem?_eq_getElem z
        have x1 := hg _ (List.mem_of_getElem? gi)
        have es : sgn g[i] = nI (g[i] + 96) := by unfold sgn; rw [if_neg (by omega)]
        rw [if_neg (fun hc => by have := (nI_leI (by omega) (by omega)).mp hc; omega), rI_n hk (by decide), hs.1 49 (by decide), c2, nI_add, rI_n (by omega) (by decide), hs.1 47 (by decide), hsl _ _ (c4 i _ gi), es, nI_1, nI_add, wI_n (by omega) (by decide), nI_1]
        refine ih (i + 1) _ (by omega) (by omega) (hs.i (by decide)) ?_ ?_ ?_
        · rw [sI_1, if_neg (fun hc => by omega)]; exact e1
        · intro j x hj hx
          rw [sI_1]
          by_cases h : j = i
          · rw [if_pos ⟨rfl, by rw [h]⟩]
            rw [h, gi] at hx
            rw [Option.some.inj hx]
          · rw [if_neg (fun hc => h (by omega))]
            exact e2 j x (by omega) hx
        · intro j hj
          rw [sI_1, if_neg (fun hc => by omega)]
          exact e3 j hj
      · have : i = g.length := by omega
        subst this
        refine ⟨s, by rw [if_pos (nI_le (Nat.le_refl _) (by omega))], hs, ⟨e1, fun j x hx => e2 j x (List.getElem?_eq_some_iff.mp hx).1 hx⟩, e3⟩
  unfold f_X8_writes
  rw [rI_n hk (by decide), c1, wI_n (by omega) (by decide)]
  refine key fu 0 _ (Nat.zero_le _) (by unfold fu; omega) (Sm.rf.i (by decide)) ?_ (fun j x h => absurd h (Nat.not_lt_zero j)) (fun j hj => ?_)
  · rw [sI_1, if_pos ⟨rfl, rfl⟩]
  · rw [sI_1, if_neg (fun hc => by omega)]
section BX
variable {σ : Sg} {B : Bk}
theorem isTerm8_s (hb : bookP (σ.1 44) B) (hB : Bok B) (a : Int32) : f_X8_isTerm σ a = some (bI (rg a (b_tc B))) := by
  unfold f_X8_isTerm
  have := hB.1
  rw [show (0 : Int32) = nI 0 from rfl, rI_n (by omega) (by decide), hb.1]
  rw [show nI 0 = (0 : Int32) from rfl, rng8_s (by omega), cP_s, mH_t (bI_01 _)]
theorem isEnding8_s (hb : bookP (σ.1 44) B) (hB : Bok B) (a : Int32) : f_X8_isEnding σ a = some (bI (rg a (b_ec B))) := by
  unfold f_X8_isEnding
  have := hB.2.1
  rw [show (1 : Int32) = nI 1 from rfl, rI_n (by omega) (by decide), hb.2.1]
  rw [show nI 1 = (1 : Int32) from rfl, rng8_s (by omega), cP_s, mH_t (bI_01 _)]
theorem isTermThere8_s {S : List Nat} {m : Nat} {g : Nat → List Nat} {E : Nat → Nat → Prop} (hb : bookP (σ.1 44) B) (hB : Bok B) (hS : S.length ≤ 50) (hsl : ∀ i x, S[i]? = some x → σ.1 47 i = sgn x) (hm : m ≤ 4) (ha : ∀ k, k < m → wAt (σ.1 49) (σ.1 50) S k (g k) E) (hg : ∀ k, k < m → lok1 (g k)) : f_X8_isTermThere σ (nI m) = some (bI (hasT B m g)) := by
  have h8 := hB.1
  have inner : ∀ (kk : Int32 → Option Int32) (c2 : Int32) (t : Nat), t < b_tc B → ∀ n k, k ≤ m → m < n + k → f_X8_isTermThere_L39 kk σ (nI m) c2 (nI t) n (bI (b_n B t = m ∧ ∀ u, u < k → b_w B t u = g u)) (nI k) = kk (bI (b_n B t = m ∧ ∀ u, u < m → b_w B t u = g u)) := by
    intro kk c2 t ht n
    have hT := hB.2.2.1 t ht
    have hT1 := hT.1
    induction n with
    | zero => intro k h h'; omega
    | succ n ih =>
      intro k hk hn
      rw [f_X8_isTermThere_L39]
      rcases Nat.lt_or_ge k m with z | z
      · rw [if_neg (fun hc => by have := (nI_leI (by omega) (by omega)).mp hc; omega)]
        rcases Classical.em (b_n B t = m ∧ ∀ u, u < k → b_w B t u = g u) with h | h
        · have hw := hT.2.2.2.2.1 k (by omega)
          rw [bI_t h, if_neg (by decide), wordAt8_s, cP_s, isSame8_s hS hsl (by omega) (ha k z) ((hb.2.2.1 t ht).2.2.2.2 k (by omega)) (by have := hw.2.2; omega) (hg k z) hw.1, cP_s, nI_1]
          have := ih (k + 1) (by omega) (by omega)
          rw [← this]
          congr 1
          apply bI_cg
          constructor
          · intro e; exact ⟨h.1, fun u hu => by
              rcases Nat.lt_or_ge u k with y | y
              · exact h.2 u y
              · have : u = k := by omega
                rw [this]; exact e.symm⟩
          · intro e; exact (e.2 k (by omega)).symm
        · rw [bI_f h, if_pos rfl, bI_f]
          intro hc
          exact h ⟨hc.1, fun u hu => hc.2 u (by omega)⟩
      · have : k = m := by omega
        subst this
        rw [if_pos (nI_le (Nat.le_refl _) (by omega))]
  have key : ∀ n t, t ≤ b_tc B → b_tc B < n + t → f_X8_isTermThere_L4 (fun (v24 : Int32) => mH (v24 = 0 ∨ v24 = 1) (some v24)) σ (nI m) n (bI (∃ u, u < t ∧ b_n B u = m ∧ ∀ k, k < m → b_w B u k = g k)) (nI t) = some (bI (hasT B m g)) := by
    intro n
    induction n with
    | zero => intro t h h'; omega
    | succ n ih =>
      intro t ht hn
      rw [f_X8_isTermThere_L4, show (0 : Int32) = nI 0 from rfl, rI_n (by omega) (by decide), hb.1, show nI 0 = (0 : Int32) from rfl]
      rcases Nat.lt_or_ge t (b_tc B) with z | z
      · have hT1 := (hB.2.2.1 t z).1
        rw [if_neg (fun hc => by have := (nI_leI (by omega) (by omega)).mp hc; omega), termAt8_s, cP_s, nI_p0, rI_n (by omega) (by decide), (hb.2.2.1 t z).1, jn_s]
        have hnx := ih (t + 1) (by omega) (by omega)
        have hsel : ∀ (kk : Int32 → Option Int32) (c2 : Int32), (if nI (b_n B t) = nI m then f_X8_isTermThere_L39 kk σ (nI m) c2 (nI t) fu 1 0 else f_X8_isTermThere_L39 kk σ (nI m) c2 (nI t) fu 0 0) = kk (bI (b_n B t = m ∧ ∀ u, u < m → b_w B t u = g u)) := by
          intro kk c2
          have h1 := inner kk c2 t z fu 0 (Nat.zero_le _) (by unfold fu; omega)
          by_cases h : b_n B t = m
          · rw [if_pos (by rw [h])]
            rw [bI_t ⟨h, fun u hu => absurd hu (Nat.not_lt_zero u)⟩] at h1
            exact h1
          · rw [if_neg (fun hc => h ((nI_eq (by omega) (by omega)).mp hc))]
            rw [bI_f (fun hc => h hc.1)] at h1
            exact h1
        rw [← nI_1] at hnx
        rw [hsel, jn_s]
        rcases Classical.em (∃ u, u < t ∧ b_n B u = m ∧ ∀ k, k < m → b_w B u k = g k) with h | h
        · rw [bI_t h, if_neg (by decide)]
          obtain ⟨u, h1, h2⟩ := h
          rw [bI_t ⟨u, by omega, h2⟩] at hnx
          exact hnx
        · rw [bI_f h, if_pos rfl]
          rcases Classical.em (b_n B t = m ∧ ∀ u, u < m → b_w B t u = g u) with h3 | h3
          · rw [bI_t h3, if_neg (by decide)]
            rw [bI_t ⟨t, by omega, h3⟩] at hnx
            exact hnx
          · rw [bI_f h3, if_pos rfl]
            rw [bI_f (by
              rintro ⟨u, h1, h2⟩
              rcases Nat.lt_or_ge u t with y | y
              · exact h ⟨u, y, h2⟩
              · have : u = t := by omega
                rw [this] at h2
                exact h3 h2)] at hnx
            exact hnx
      · have : t = b_tc B := by omega
        subst this
        rw [if_pos (nI_le (Nat.le_refl _) (by omega)), mH_t (bI_01 _)]
        rfl
  have h0 := key fu 0 (Nat.zero_le _) (by unfold fu; omega)
  rw [bI_f (by rintro ⟨u, h1, -⟩; exact absurd h1 (Nat.not_lt_zero u))] at h0
  exact h0
end BX
