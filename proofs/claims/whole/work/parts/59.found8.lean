/-! what is met, found: the reference -/
def eqN (v : List Nat) (f : Nat) (w : List Nat) (k : Nat) : Prop := ∀ m, m < k → v[f + m]? = w[m]?
theorem eqN_s {v w : List Nat} {f k : Nat} : eqN v f w (k + 1) ↔ eqN v f w k ∧ v[f + k]? = w[k]? := by
  constructor
  · intro h
    exact ⟨fun m hm => h m (by omega), h k (by omega)⟩
  · rintro ⟨h1, h2⟩ m hm
    by_cases z : m = k
    · rw [z]; exact h2
    · exact h1 m (by omega)
theorem eqN_0 {v w : List Nat} {f : Nat} : eqN v f w 0 := fun m hm => absurd hm (Nat.not_lt_zero m)
theorem app_iff {v w e : List Nat} : v = w ++ e ↔ (w.length ≤ v.length ∧ eqN v 0 w w.length) ∧ v.length = w.length + e.length ∧ eqN v w.length e e.length := by
  constructor
  · rintro rfl
    rw [List.length_append]
    refine ⟨⟨by omega, fun m hm => ?_⟩, rfl, fun m hm => ?_⟩
    · rw [Nat.zero_add, List.getElem?_append, if_pos hm]
    · rw [List.getElem?_append, if_neg (by omega), show w.length + m - w.length = m by omega]
  · rintro ⟨⟨h1, h2⟩, h3, h4⟩
    rw [ext_iff]
    refine ⟨by rw [List.length_append]; exact h3, fun j hj => ?_⟩
    rw [List.getElem?_append]
    by_cases z : j < w.length
    · rw [if_pos z]
      have := h2 j z
      rw [Nat.zero_add] at this
      exact this
    · rw [if_neg z]
      have := h4 (j - w.length) (by omega)
      rw [show w.length + (j - w.length) = j by omega] at this
      exact this
section FO
variable {σ : Sg} {B : Bk} {T : Tx}
theorem isBegun8_s (h : txR σ T) (hT : Tok T) {i p : Nat} {w : List Nat} (hi : i < t_c T) (hw : wordP (σ.1 44) p w) (hp : p + 1 + w.length ≤ 475) (hlw : lok1 w) : f_X8_isBegun σ (nI i) (nI p) = some (bI (w.length ≤ (t_w T i).length ∧ eqN (t_w T i) 0 w w.length)) := by
  have h60 := hT.1
  obtain ⟨⟨a1, a2⟩, -, -⟩ := h.2.2.1 i hi
  have hv := (hT.2.1 i hi).1
  have hv12 := hv.2.2
  have z0 : ∀ n k, f_X8_isBegun_L27 (fun (v21 : Int32) => mH (v21 = 0 ∨ v21 = 1) (some v21)) σ (nI i) (nI p) (n + 1) 0 (nI k) = some 0 := by
    intro n k
    rw [f_X8_isBegun_L27, rI_n (by omega) (by decide)]
    split
    · rfl
    · rfl
  have key : w.length ≤ (t_w T i).length → ∀ n k, k ≤ w.length → w.length < n + k → f_X8_isBegun_L27 (fun (v21 : Int32) => mH (v21 = 0 ∨ v21 = 1) (some v21)) σ (nI i) (nI p) n (bI (eqN (t_w T i) 0 w k)) (nI k) = some (bI (eqN (t_w T i) 0 w w.length)) := by
    intro hle n
    induction n with
    | zero => intro k h1 h2; omega
    | succ n ih =>
      intro k h1 h2
      rw [f_X8_isBegun_L27, rI_n (by omega) (by decide), hw.1]
      rcases Nat.lt_or_ge k w.length with z | z
      · rw [if_neg (fun hc => by have := (nI_leI (by omega) (by omega)).mp hc; omega)]
        rcases Classical.em (eqN (t_w T i) 0 w k) with g | g
        · have gi : (t_w T i)[k]? = some ((t_w T i)[k]'(by omega)) := List.getElem?_eq_getElem (by omega)
          have gj : w[k]? = some w[k] := List.getElem?_eq_getElem z
          have x1 := hv.1 _ (List.mem_of_getElem? gi)
          have x2 := hlw _ (List.mem_of_getElem? gj)
          rw [bI_t g, if_neg (by decide), i15, nI_p3, nI_add, rI_n (by omega) (by decide), nI_1, nI_add, rI_n (by omega) (by decide), a2 k _ gi, hw.2 k _ gj, nI_1]
          have hiff : nI ((t_w T i)[k]'(by omega) + 96) = nI (w[k] + 96) ↔ (t_w T i)[0 + k]? = w[k]? := by
            rw [nI_eq (by omega) (by omega), Nat.zero_add, gi, gj]
            constructor
            · intro h; congr 1; omega
            · intro h; have := Option.some.inj h; omega
          have := ih (k + 1) (by omega) (by omega)
          by_cases h2 : (t_w T i)[0 + k]? = w[k]?
          · rw [if_pos (hiff.mpr h2)]
            rw [bI_t (eqN_s.mpr ⟨g, h2⟩)] at this
            exact this
          · rw [if_neg (fun hc => h2 (hiff.mp hc))]
            rw [bI_f (fun hc => h2 (eqN_s.mp hc).2)] at this
            exact this
        · rw [bI_f g, if_pos rfl, bI_f (fun hc => g (fun m hm => hc m (by omega)))]
          rfl
      · have : k = w.length := by omega
        subst this
        rw [if_pos (nI_le (Nat.le_refl _) (by omega)), mH_t (bI_01 _)]
  unfold f_X8_isBegun
  rw [i15, rI_n (by omega) (by decide), rI_n (by omega) (by decide), a1, hw.1]
  simp only [jn_s]
  by_cases z : (t_w T i).length < w.length
  · rw [if_pos (nI_lt z (by omega)), bI_f (fun g => by have := g.1; omega)]
    exact z0 4999 0
  · rw [if_neg (nI_nlt (by omega) (by omega))]
    have := key (by omega) fu 0 (Nat.zero_le _) (by unfold fu; omega)
    rw [bI_t eqN_0] at this
    rw [bI_cg (show (w.length ≤ (t_w T i).length ∧ eqN (t_w T i) 0 w w.length) ↔ eqN (t_w T i) 0 w w.length from ⟨fun g => g.2, fun g => ⟨by omega, g⟩⟩)]
    exact this
theorem isAs8_s (h : txR σ T) (hT : Tok T) {i p f : Nat} {w : List Nat} (hi : i < t_c T) (hf : f ≤ (t_w T i).length) (hw : wordP (σ.1 44) p w) (hp : p + 1 + w.length ≤ 475) (hlw : lok1 w) : f_X8_isAs σ (nI i) (nI f) (nI p) = some (bI ((t_w T i).length = f + w.length ∧ eqN (t_w T i) f w w.length)) := by
  have h60 := hT.1
  obtain ⟨⟨a1, a2⟩, -, -⟩ := h.2.2.1 i hi
  have hv := (hT.2.1 i hi).1
  have hv12 := hv.2.2
  have z0 : ∀ n k, f_X8_isAs_L30 (fun (v21 : Int32) => mH (v21 = 0 ∨ v21 = 1) (some v21)) σ (nI i) (nI f) (nI p) (n + 1) 0 (nI k) = some 0 := by
    intro n k
    rw [f_X8_isAs_L30, rI_n (by omega) (by decide)]
    split
    · rfl
    · rfl
  have key : (t_w T i).length = f + w.length → ∀ n k, k ≤ w.length → w.length < n + k → f_X8_isAs_L30 (fun (v21 : Int32) => mH (v21 = 0 ∨ v21 = 1) (some v21)) σ (nI i) (nI f) (nI p) n (bI (eqN (t_w T i) f w k)) (nI k) = some (bI (eqN (t_w T i) f w w.length)) := by
    intro hle n
    induction n with
    | zero => intro k h1 h2; omega
    | succ n ih =>
      intro k h1 h2
      rw [f_X8_isAs_L30, rI_n (by omega) (by decide), hw.1]
      rcases Nat.lt_or_ge k w.length with z | z
      · rw [if_neg (fun hc => by have := (nI_leI (by omega) (by omega)).mp hc; omega)]
        rcases Classical.em (eqN (t_w T i) f w k) with g | g
        · have gi : (t_w T i)[f + k]? = some ((t_w T i)[f + k]'(by omega)) := List.getElem?_eq_getElem (by omega)
          have gj : w[k]? = some w[k] := List.getElem?_eq_getElem z
          have x1 := hv.1 _ (List.mem_of_getElem? gi)
          have x2 := hlw _ (List.mem_of_getElem? gj)
          rw [bI_t g, if_neg (by decide), i15, nI_p3, nI_add, nI_add, Nat.add_assoc (15 * i + 3) f k, rI_n (by omega) (by decide), nI_1, nI_add, rI_n (by omega) (by decide), a2 (f + k) _ gi, hw.2 k _ gj, nI_1]
          have hiff : nI ((t_w T i)[f + k]'(by omega) + 96) = nI (w[k] + 96) ↔ (t_w T i)[f + k]? = w[k]? := by
            rw [nI_eq (by omega) (by omega), gi, gj]
            constructor
            · intro h; congr 1; omega
            · intro h; have := Option.some.inj h; omega
          have := ih (k + 1) (by omega) (by omega)
          by_cases h2 : (t_w T i)[f + k]? = w[k]?
          · rw [if_pos (hiff.mpr h2)]
            rw [bI_t (eqN_s.mpr ⟨g, h2⟩)] at this
            exact this
          · rw [if_neg (fun hc => h2 (hiff.mp hc))]
            rw [bI_f (fun hc => h2 (eqN_s.mp hc).2)] at this
            exact this
        · rw [bI_f g, if_pos rfl, bI_f (fun hc => g (fun m hm => hc m (by omega)))]
          rfl
      · have : k = w.length := by omega
        subst this
        rw [if_pos (nI_le (Nat.le_refl _) (by omega)), mH_t (bI_01 _)]
  unfold f_X8_isAs
  rw [i15, rI_n (by omega) (by decide), rI_n (by omega) (by decide), a1, hw.1, pk_sub hf]
  simp only [jn_s]
  by_cases z : (t_w T i).length = f + w.length
  · rw [if_pos (by rw [z]; congr 1; omega)]
    have := key z fu 0 (Nat.zero_le _) (by unfold fu; omega)
    rw [bI_t eqN_0] at this
    rw [bI_cg (show ((t_w T i).length = f + w.length ∧ eqN (t_w T i) f w w.length) ↔ eqN (t_w T i) f w w.length from ⟨fun g => g.2, fun g => ⟨z, g⟩⟩)]
    exact this
  · rw [if_neg (fun g => by have := (nI_eq (by omega) (by omega)).mp g; omega), bI_f (fun g => z g.1)]
    exact z0 4999 0
theorem meets8_s (h : txR σ T) (hT : Tok T) (hb : bookP (σ.1 44) B) (hB : Bok B) {i t k : Nat} (hi : i < t_c T) (ht : t < b_tc B) (hk : k < b_n B t) : f_X8_meets σ (nI i) (nI t) (nI k) = some (bI (mt B T i t k)) := by
  have h60 := hT.1
  have h8 := hB.1
  have h5 := hB.2.1
  have hb0 := hb.2.2.1 t ht
  have hw := hb0.2.2.2.2 k hk
  have hn := (hB.2.2.1 t ht).1
  have hwo := (hB.2.2.1 t ht).2.2.2.2.1 k hk
  have hw12 := hwo.2.2
  have hbe := (hB.2.2.1 t ht).2.2.1
  obtain ⟨⟨a1, a2⟩, -, a3⟩ := h.2.2.1 i hi
  have hv := (hT.2.1 i hi).1
  have hv12 := hv.2.2
  have htl := (hT.2.1 i hi).2.1
  unfold f_X8_meets
  rw [wordAt8_s, cP_s, i15, nI_p2, rI_n (by omega) (by decide), a3]
  by_cases hl : t_l T i = 0
  · rw [if_neg (fun g => by have := (c_eq 1 (by omega) (by decide)).mp g; omega), isBegun8_s h hT hi hw (by omega) hwo.1, cP_s]
    by_cases hbg : (b_w B t k).length ≤ (t_w T i).length ∧ eqN (t_w T i) 0 (b_w B t k) (b_w B t k).length
    · rw [bI_t hbg, if_neg (by decide), rI_n (by omega) (by decide), rI_n (by omega) (by decide), a1, hw.1]
      simp only [jn_s]
      have e1 : (t_w T i).length = (b_w B t k).length ↔ t_w T i = b_w B t k := by
        constructor
        · intro g
          refine (ext_iff).mpr ⟨g, fun j hj => ?_⟩
          have := hbg.2 j (by omega)
          rw [Nat.zero_add] at this
          exact this
        · intro g; rw [g]
      have e2 : ∀ e, ((t_w T i).length = (b_w B t k).length + (b_en B e).length ∧ eqN (t_w T i) (b_w B t k).length (b_en B e) (b_en B e).length) ↔ t_w T i = b_w B t k ++ b_en B e := fun e => by
        rw [app_iff]
        exact ⟨fun g => ⟨hbg, g⟩, fun g => g.2⟩
      have e0 : ∀ x : Int32, (x = 0 ∨ x = 1) → b_be B t ≠ 1 → f_X8_meets_L63 (fun (v37 : Int32) => mH (v37 = 0 ∨ v37 = 1) (some v37)) σ (nI i) (nI t) (nI (2 + 56 * t + 4 + 13 * k)) fu x 0 = some x := by
        intro x hx hne
        show f_X8_meets_L63 _ σ (nI i) (nI t) (nI (2 + 56 * t + 4 + 13 * k)) (4999 + 1) x 0 = _
        rw [f_X8_meets_L63, show (1 : Int32) = nI 1 from rfl, rI_n (by omega) (by decide), hb.2.1]
        split
        · exact mH_t hx
        · rw [termAt8_s, cP_s, nI_p2, rI_n (by omega) (by decide), hb0.2.2.1, if_neg (fun g => hne ((nI_eq (by omega) (by decide)).mp g))]
          exact mH_t hx
      have key : b_be B t = 1 → ∀ n e, e ≤ b_ec B → b_ec B < n + e → f_X8_meets_L63 (fun (v37 : Int32) => mH (v37 = 0 ∨ v37 = 1) (some v37)) σ (nI i) (nI t) (nI (2 + 56 * t + 4 + 13 * k)) n (bI (t_w T i = b_w B t k ∨ ∃ e', e' < e ∧ t_w T i = b_w B t k ++ b_en B e')) (nI e) = some (bI (t_w T i = b_w B t k ∨ ∃ e', e' < b_ec B ∧ t_w T i = b_w B t k ++ b_en B e')) := by
        intro hb1 n
        induction n with
        | zero => intro e h1 h2; omega
        | succ n ih =>
          intro e h1 h2
          rw [f_X8_meets_L63, show rI σ 44 475 1 = rI (α := Int32) σ 44 475 (nI 1) from rfl, rI_n (by omega) (by decide), hb.2.1]
          rcases Nat.lt_or_ge e (b_ec B) with z | z
          · have he := hB.2.2.2 e z
            have he4 := he.2.2
            have hbe2 := hb.2.2.2 e z
            rw [if_neg (fun hc => by have := (nI_leI (by omega) (by omega)).mp hc; omega), termAt8_s, cP_s, nI_p2, rI_n (by omega) (by decide), hb0.2.2.1, hb1, if_pos (show nI 1 = 1 from rfl)]
            simp only [jn_s]
            have := ih (e + 1) (by omega) (by omega)
            rcases Classical.em (t_w T i = b_w B t k ∨ ∃ e', e' < e ∧ t_w T i = b_w B t k ++ b_en B e') with g | g
            · rw [bI_t g, if_neg (by decide), nI_1]
              rw [bI_t (by
                rcases g with g | ⟨e', g1, g2⟩
                · exact Or.inl g
                · exact Or.inr ⟨e', by omega, g2⟩)] at this
              exact this
            · rw [bI_f g, if_pos rfl, rI_n (by omega) (by decide), hw.1, endingAt8_s, cP_s, isAs8_s h hT hi hbg.1 hbe2 (by omega) he.1, cP_s, nI_1, bI_cg (e2 e)]
              by_cases y : t_w T i = b_w B t k ++ b_en B e
              · rw [bI_t y, if_neg (by decide)]
                rw [bI_t (Or.inr ⟨e, by omega, y⟩)] at this
                exact this
              · rw [bI_f y, if_pos rfl]
                rw [bI_f (by
                  rintro (g1 | ⟨e', g1, g2⟩)
                  · exact g (Or.inl g1)
                  · by_cases q : e' = e
                    · rw [q] at g2; exact y g2
                    · exact g (Or.inr ⟨e', by omega, g2⟩))] at this
                exact this
          · have : e = b_ec B := by omega
            subst this
            rw [if_pos (nI_le (Nat.le_refl _) (by omega)), mH_t (bI_01 _)]
      have fin : f_X8_meets_L63 (fun (v37 : Int32) => mH (v37 = 0 ∨ v37 = 1) (some v37)) σ (nI i) (nI t) (nI (2 + 56 * t + 4 + 13 * k)) fu (bI (t_w T i = b_w B t k)) 0 = some (bI (mt B T i t k)) := by
        by_cases hb1 : b_be B t = 1
        · have := key hb1 fu 0 (Nat.zero_le _) (by unfold fu; omega)
          rw [bI_cg (show (t_w T i = b_w B t k ∨ ∃ e', e' < 0 ∧ t_w T i = b_w B t k ++ b_en B e') ↔ t_w T i = b_w B t k from ⟨fun g => by rcases g with g | ⟨e', g1, -⟩; exact g; omega, Or.inl⟩)] at this
          refine this.trans (congrArg some (bI_cg ?_))
          unfold mt
          constructor
          · rintro (g | ⟨e, g1, g2⟩)
            · exact ⟨hl, Or.inl g⟩
            · exact ⟨hl, Or.inr ⟨hb1, e, g1, g2⟩⟩
          · rintro ⟨-, g | ⟨-, g⟩⟩
            · exact Or.inl g
            · exact Or.inr g
        · rw [e0 _ (bI_01 _) hb1]
          refine congrArg some (bI_cg ?_)
          unfold mt
          constructor
          · intro g; exact ⟨hl, Or.inl g⟩
          · rintro ⟨-, g | ⟨g, -⟩⟩
            · exact g
            · exact absurd g hb1
      by_cases y : t_w T i = b_w B t k
      · rw [if_pos (by rw [y])]
        rw [bI_t y] at fin
        exact fin
      · rw [if_neg (fun g => y (e1.mp ((nI_eq (by omega) (by omega)).mp g)))]
        rw [bI_f y] at fin
        exact fin
    · rw [bI_f hbg, if_pos rfl]
      refine congrArg some (bI_f ?_).symm
      rintro ⟨-, g | ⟨-, e, -, g⟩⟩
      · exact hbg (by rw [g]; exact ⟨Nat.le_refl _, fun m hm => by rw [Nat.zero_add]⟩)
      · exact hbg (app_iff.mp g).1
  · rw [if_pos (by rw [show t_l T i = 1 by omega]; rfl)]
    exact congrArg some (bI_f (fun g => hl g.1)).symm
end FO
