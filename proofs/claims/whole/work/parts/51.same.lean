theorem isWord7_s {σ : Sg} {T : Tx} (h : txtC σ T) (hT : Tok T) (a : Int32) : f_X6_isWord σ a = some (bI (rg a (t_c T))) := by
  unfold f_X6_isWord
  rw [h.1]
  exact rng_s (by have := hT.1; omega)
theorem isWord8_s {σ : Sg} {T : Tx} (h : txR σ T) (hT : Tok T) (a : Int32) : f_X8_isWord σ a = some (bI (rg a (t_c T))) := by
  unfold f_X8_isWord
  have e : σ.1 43 6 = nI (t_c T) := h.1
  rw [e, rng8_s (by have := hT.1; omega), cP_s, mH_t (bI_01 _)]
theorem same8_L {σ : Sg} {T : Tx} (h : txR σ T) (hT : Tok T) {i j : Nat} (hi : i < t_c T) (hj : j < t_c T) (hl : (t_w T i).length = (t_w T j).length) : f_X8_same_L82 (fun (v24 : Int32) => if v24 = 0 then (some 0) else (some 1)) σ (nI i) (nI j) fu 1 0 = some (bI (t_w T i = t_w T j)) := by
  have h60 := hT.1
  obtain ⟨⟨a1, a2⟩, -, -⟩ := h.2.2.1 i hi
  obtain ⟨⟨b1, b2⟩, -, -⟩ := h.2.2.1 j hj
  have hwi := (hT.2.1 i hi).1
  have hwj := (hT.2.1 j hj).1
  have hi12 := hwi.2.2
  have key : ∀ n k, k ≤ (t_w T i).length → (t_w T i).length < n + k → f_X8_same_L82 (fun (v24 : Int32) => if v24 = 0 then (some 0) else (some 1)) σ (nI i) (nI j) n (bI (∀ m, m < k → (t_w T i)[m]? = (t_w T j)[m]?)) (nI k) = some (bI (t_w T i = t_w T j)) := by
    intro n
    induction n with
    | zero => intro k h1 h2; omega
    | succ n ih =>
      intro k h1 h2
      rw [f_X8_same_L82, i15, i15, rI_n (by omega) (by decide), a1]
      rcases Nat.lt_or_ge k (t_w T i).length with z | z
      · rw [if_neg (fun hc => by have := (nI_leI (by omega) (by omega)).mp hc; omega)]
        rcases Classical.em (∀ m, m < k → (t_w T i)[m]? = (t_w T j)[m]?) with g | g
        · have gi : (t_w T i)[k]? = some (t_w T i)[k] := List.getElem?_eq_getElem z
          have gj : (t_w T j)[k]? = some ((t_w T j)[k]'(by omega)) := List.getElem?_eq_getElem (by omega)
          have x1 := hwi.1 _ (List.mem_of_getElem? gi)
          have x2 := hwj.1 _ (List.mem_of_getElem? gj)
          rw [bI_t g, if_neg (by decide), nI_p3, nI_add, rI_n (by omega) (by decide), nI_p3, nI_add, rI_n (by omega) (by decide), a2 k _ gi, b2 k _ gj, nI_1]
          have hiff : nI ((t_w T i)[k] + 96) = nI ((t_w T j)[k]'(by omega) + 96) ↔ (t_w T i)[k]? = (t_w T j)[k]? := by
            rw [nI_eq (by omega) (by omega), gi, gj]
            constructor
            · intro h; congr 1; omega
            · intro h; have := Option.some.inj h; omega
          have := ih (k + 1) (by omega) (by omega)
          by_cases h2 : (t_w T i)[k]? = (t_w T j)[k]?
          · rw [if_pos (hiff.mpr h2)]
            rw [bI_t (fun m hm => by
              rcases Nat.lt_or_ge m k with y | y
              · exact g m y
              · have : m = k := by omega
                rw [this]; exact h2)] at this
            exact this
          · rw [if_neg (fun hc => h2 (hiff.mp hc))]
            rw [bI_f (fun hc => h2 (hc k (by omega)))] at this
            exact this
        · rw [bI_f g, if_pos rfl]
          show (if (0 : Int32) = 0 then some 0 else some 1) = _
          rw [if_pos rfl, bI_f (fun hc => g (fun m _ => by rw [hc]))]
      · have : k = (t_w T i).length := by omega
        subst this
        rw [if_pos (nI_le (Nat.le_refl _) (by omega))]
        have hiff : (∀ m, m < (t_w T i).length → (t_w T i)[m]? = (t_w T j)[m]?) ↔ t_w T i = t_w T j := by
          rw [ext_iff]
          exact ⟨fun g => ⟨hl, g⟩, fun g => g.2⟩
        rw [bI_cg hiff]
        rcases Classical.em (t_w T i = t_w T j) with g | g
        · rw [bI_t g]; rfl
        · rw [bI_f g]; rfl
  have := key fu 0 (Nat.zero_le _) (by unfold fu; omega)
  rw [bI_t (fun m hm => absurd hm (Nat.not_lt_zero m))] at this
  exact this
theorem same8_0 {σ : Sg} {T : Tx} (h : txR σ T) (hT : Tok T) {i : Nat} {b : Int32} (hi : i < t_c T) : f_X8_same_L82 (fun (v24 : Int32) => if v24 = 0 then (some 0) else (some 1)) σ (nI i) b fu 0 0 = some 0 := by
  have h60 := hT.1
  obtain ⟨⟨a1, a2⟩, -, -⟩ := h.2.2.1 i hi
  show f_X8_same_L82 _ σ (nI i) b (4999 + 1) 0 0 = _
  rw [f_X8_same_L82, i15, rI_n (by omega) (by decide)]
  split
  · rfl
  · rfl
theorem ps_same (σ : Sg) (a1 a2 : Int32) (h : InvA σ) : ∃ r : Int32, f_X7_same σ a1 a2 = some r ∧ f_X8_same σ a1 a2 = some r := by
  obtain ⟨⟨S, B, T, im⟩, ⟨-, -, hT, -⟩, hC, hR⟩ := h
  have hT : Tok T := hT
  have h60 := hT.1
  have g : txtC σ T := hC.2.2.1
  have k : txR σ T := hR.2.2.1
  have n10 : ¬ (1 : Int32) = 0 := by decide
  rcases Classical.em (rg a1 (t_c T)) with r1 | r1
  · rcases Classical.em (rg a2 (t_c T)) with r2 | r2
    · by_cases e : a1 = a2
      · refine ⟨-1000000001, ?_, ?_⟩
        · unfold f_X7_same
          rw [isWord7_s g hT, bI_t r1, cP_s, if_neg n10, isWord7_s g hT, bI_t r2, cP_s, if_neg n10, if_pos e]
        · unfold f_X8_same
          rw [isWord8_s k hT, bI_t r1, cP_s, if_neg n10, isWord8_s k hT, bI_t r2, cP_s, if_neg n10, if_pos e]
      · refine ⟨bI (t_w T a1.toNatClampNeg = t_w T a2.toNatClampNeg ∧ t_l T a1.toNatClampNeg = 0 ∧ t_l T a2.toNatClampNeg = 0), ?_, ?_⟩
        · unfold f_X7_same
          rw [isWord7_s g hT, bI_t r1, cP_s, if_neg n10, isWord7_s g hT, bI_t r2, cP_s, if_neg n10, if_neg e]
          obtain ⟨i, hi, rfl⟩ := r1
          obtain ⟨j, hj, rfl⟩ := r2
          obtain ⟨u1, u2, u3⟩ := g.2.2.2.2 i hi
          obtain ⟨v1, v2, v3⟩ := g.2.2.2.2 j hj
          obtain ⟨wi, wi2, -⟩ := hT.2.1 i hi
          obtain ⟨wj, wj2, -⟩ := hT.2.1 j hj
          have hl : lg_cmp (eL (t_w T i)) (eL (t_w T j)) = 0 ↔ t_w T i = t_w T j := by
            rw [lg_cmp_0]
            exact eL_inj wi.1 wj.1 wi.2.2 wj.2.2
          have z0 : ∀ v, v ≤ 1 → (nI v = 0 ↔ v = 0) := fun v hv => c_eq 0 (by omega) (by decide)
          rw [rL_n (by omega) (by decide), rL_n (by omega) (by decide), u1, v1, nI_clamp (by omega), nI_clamp (by omega)]
          simp only [jn_s]
          rw [rI_n (by omega) (by decide), rI_n (by omega) (by decide), u2, v2]
          by_cases ew : t_w T i = t_w T j
          · rw [if_pos (hl.mpr ew)]
            by_cases l1 : t_l T i = 0
            · rw [if_pos ((z0 _ wi2).mpr l1)]
              by_cases l2 : t_l T j = 0
              · rw [if_pos ((z0 _ wj2).mpr l2), bI_t ⟨ew, l1, l2⟩]; rfl
              · rw [if_neg (fun z => l2 ((z0 _ wj2).mp z)), bI_f (fun z => l2 z.2.2)]; rfl
            · rw [if_neg (fun z => l1 ((z0 _ wi2).mp z)), bI_f (fun z => l1 z.2.1)]; rfl
          · rw [if_neg (fun z => ew (hl.mp z)), bI_f (fun z => ew z.1)]; rfl
        · unfold f_X8_same
          rw [isWord8_s k hT, bI_t r1, cP_s, if_neg n10, isWord8_s k hT, bI_t r2, cP_s, if_neg n10, if_neg e]
          obtain ⟨i, hi, rfl⟩ := r1
          obtain ⟨j, hj, rfl⟩ := r2
          obtain ⟨⟨p1, p2⟩, p3, p4⟩ := k.2.2.1 i hi
          obtain ⟨⟨q1, q2⟩, q3, q4⟩ := k.2.2.1 j hj
          obtain ⟨wi, wi2, -⟩ := hT.2.1 i hi
          obtain ⟨wj, wj2, -⟩ := hT.2.1 j hj
          have hi12 := wi.2.2
          have hj12 := wj.2.2
          have z0 : ∀ v, v ≤ 1 → (nI v = 0 ↔ v = 0) := fun v hv => c_eq 0 (by omega) (by decide)
          rw [nI_clamp (by omega), nI_clamp (by omega), i15, i15, rI_n (by omega) (by decide), rI_n (by omega) (by decide), p1, q1]
          simp only [jn_s]
          rw [nI_p2, nI_p2, rI_n (by omega) (by decide), rI_n (by omega) (by decide), p4, q4, same8_0 k hT hi]
          by_cases hn : (t_w T i).length = (t_w T j).length
          · rw [if_pos (by rw [hn])]
            by_cases l1 : t_l T i = 0
            · rw [if_pos ((z0 _ wi2).mpr l1)]
              by_cases l2 : t_l T j = 0
              · rw [if_pos ((z0 _ wj2).mpr l2), same8_L k hT hi hj hn]
                congr 1
                exact bI_cg ⟨fun z => ⟨z, l1, l2⟩, fun z => z.1⟩
              · rw [if_neg (fun z => l2 ((z0 _ wj2).mp z)), bI_f (fun z => l2 z.2.2)]
            · rw [if_neg (fun z => l1 ((z0 _ wi2).mp z)), bI_f (fun z => l1 z.2.1)]
          · rw [if_neg (fun z => hn ((nI_eq (by omega) (by omega)).mp z)), bI_f (fun z => hn (by rw [z.1]))]
    · refine ⟨-1000000001, ?_, ?_⟩
      · unfold f_X7_same
        rw [isWord7_s g hT, bI_t r1, cP_s, if_neg n10, isWord7_s g hT, bI_f r2, cP_s, if_pos rfl]
      · unfold f_X8_same
        rw [isWord8_s k hT, bI_t r1, cP_s, if_neg n10, isWord8_s k hT, bI_f r2, cP_s, if_pos rfl]
  · refine ⟨-1000000001, ?_, ?_⟩
    · unfold f_X7_same
      rw [isWord7_s g hT, bI_f r1, cP_s, if_pos rfl]
    · unfold f_X8_same
      rw [isWord8_s k hT, bI_f r1, cP_s, if_pos rfl]
