/-! so many words are met; found: the reference -/
section ME
variable {σ : Sg} {B : Bk} {T : Tx}
theorem isMet8_L0 {K : Int32 → Option Int32} {a b c x : Int32} : f_X8_isMet_L24 K σ a b c fu 0 x = K 0 := by
  show f_X8_isMet_L24 K σ a b c (4999 + 1) 0 x = K 0
  rw [f_X8_isMet_L24]
  split
  · rfl
  · rw [if_pos rfl]
theorem isMet8_n {a b c : Int32} (h : b < 0) : f_X8_isMet σ a b c = some 0 := by
  unfold f_X8_isMet
  rw [jn_s, if_pos h, isMet8_L0]
  rfl
theorem isMet8_s (h : txR σ T) (hT : Tok T) (hb : bookP (σ.1 44) B) (hB : Bok B) {i t m : Nat} (hi : i ≤ 100) (ht : t < b_tc B) (hm : m ≤ b_n B t) : f_X8_isMet σ (nI t) (nI i) (nI m) = some (bI (i + m ≤ t_c T ∧ met B T t i m)) := by
  have h60 := hT.1
  have h8 := hB.1
  have hn := (hB.2.2.1 t ht).1
  have e6 : σ.1 43 6 = nI (t_c T) := h.1
  unfold f_X8_isMet
  rw [jn_s, if_neg (nI_pos (by omega)), e6, nI_add]
  by_cases z : t_c T < i + m
  · rw [if_pos (nI_lt z (by omega)), isMet8_L0]
    exact congrArg some (bI_f (fun g => by have := g.1; omega)).symm
  · rw [if_neg (nI_nlt (by omega) (by omega))]
    have z0 : ∀ n x, f_X8_isMet_L24 (fun (v18 : Int32) => mH (v18 = 0 ∨ v18 = 1) (some v18)) σ (nI t) (nI i) (nI m) (n + 1) 0 x = some 0 := by
      intro n x
      rw [f_X8_isMet_L24]
      split
      · rfl
      · rw [if_pos rfl]; rfl
    have key : ∀ n j, j ≤ m → m < n + j → met B T t i j → f_X8_isMet_L24 (fun (v18 : Int32) => mH (v18 = 0 ∨ v18 = 1) (some v18)) σ (nI t) (nI i) (nI m) n 1 (nI j) = some (bI (met B T t i m)) := by
      intro n
      induction n with
      | zero => intro j h1 h2; omega
      | succ n ih =>
        intro j h1 h2 hj
        rw [f_X8_isMet_L24]
        rcases Nat.lt_or_ge j m with q | q
        · have c1 := h.2.2.1 (i + j) (by omega)
          have c2 := h.2.2.1 i (by omega)
          have d1 := (hT.2.1 (i + j) (by omega)).2.2
          have d2 := (hT.2.1 i (by omega)).2.2
          obtain ⟨n', rfl⟩ : ∃ n', n = n' + 1 := ⟨n - 1, by omega⟩
          rw [if_neg (fun hc => by have := (nI_leI (by omega) (by omega)).mp hc; omega), if_neg (by decide), nI_add, i15, i15, nI_1, nI_1, rI_n (by omega) (by decide), rI_n (by omega) (by decide), c1.2.1, c2.2.1]
          simp only [jn_s]
          by_cases y : t_s T (i + j) = t_s T i
          · rw [if_pos (by rw [y]), meets8_s h hT hb hB (by omega) ht (by omega), cP_s]
            by_cases w : mt B T (i + j) t j
            · rw [bI_t w, if_neg (by decide), nI_1]
              exact ih (j + 1) (by omega) (by omega) (met_succ.mpr ⟨hj, y, w⟩)
            · rw [bI_f w, if_pos rfl, z0]
              exact congrArg some (bI_f (fun g => w (g j q).2)).symm
          · rw [if_neg (fun g => y ((nI_eq (by omega) (by omega)).mp g)), z0]
            exact congrArg some (bI_f (fun g => y (g j q).1)).symm
        · have : j = m := by omega
          subst this
          rw [if_pos (nI_le (Nat.le_refl _) (by omega)), bI_t hj]
          rfl
    refine (key fu 0 (Nat.zero_le _) (by unfold fu; omega) (fun k hk => absurd hk (Nat.not_lt_zero k))).trans (congrArg some (bI_cg ⟨fun g => ⟨by omega, g⟩, fun g => g.2⟩))
theorem isFound8_s (h : txR σ T) (hT : Tok T) (hb : bookP (σ.1 44) B) (hB : Bok B) {i t : Nat} (hi : i ≤ 100) (ht : t < b_tc B) : f_X8_isFound σ (nI t) (nI i) = some (bI (fB B T t i = true)) := by
  have h8 := hB.1
  unfold f_X8_isFound
  rw [termAt8_s, cP_s, nI_p0, rI_n (by omega) (by decide), (hb.2.2.1 t ht).1, isMet8_s h hT hb hB hi ht (Nat.le_refl _), cP_s, mH_t (bI_01 _)]
  exact congrArg some (bI_cg fB_iff.symm)
theorem isFound8_n (hb : bookP (σ.1 44) B) (hB : Bok B) {b : Int32} {t : Nat} (hn : b < 0) (ht : t < b_tc B) : f_X8_isFound σ (nI t) b = some 0 := by
  have h8 := hB.1
  unfold f_X8_isFound
  rw [termAt8_s, cP_s, nI_p0, rI_n (by omega) (by decide), isMet8_n hn, cP_s, mH_t (Or.inl rfl)]
theorem worthOf8_s (hb : bookP (σ.1 44) B) (hB : Bok B) {t : Nat} (ht : t < b_tc B) : f_X8_worthOf σ (nI t) = some (nI (b_we B t * b_n B t)) := by
  have h8 := hB.1
  unfold f_X8_worthOf
  rw [termAt8_s, cP_s, nI_1, rI_n (by omega) (by decide), cP_s, nI_p0, rI_n (by omega) (by decide), (hb.2.2.1 t ht).1, (hb.2.2.1 t ht).2.1, pk_mul]
end ME
/-! the best of some: one and the same, however they come -/
section BE
variable {W0 F0 : Nat} {wo fe sz : Nat → Nat} {P Q : Nat → Prop} {p q : Nat × Nat × Int32}
def beats (W0 F0 : Nat) (wo fe : Nat → Nat) (u : Nat) : Prop := W0 < wo u ∨ (wo u = W0 ∧ fe u ≤ F0)
def geT (wo fe sz : Nat → Nat) (t u : Nat) : Prop := wo u < wo t ∨ (wo u = wo t ∧ (fe t < fe u ∨ (fe t = fe u ∧ (sz u < sz t ∨ (sz u = sz t ∧ t ≤ u)))))
def Best (W0 F0 : Nat) (wo fe sz : Nat → Nat) (P : Nat → Prop) (p : Nat × Nat × Int32) : Prop := (p = (W0, F0, -1) ∧ ∀ u, P u → ¬ beats W0 F0 wo fe u) ∨ ∃ t, t < 8 ∧ P t ∧ p = (wo t, fe t, nI t) ∧ beats W0 F0 wo fe t ∧ ∀ u, P u → geT wo fe sz t u
theorem geT_r (t : Nat) : geT wo fe sz t t := Or.inr ⟨rfl, Or.inr ⟨rfl, Or.inr ⟨rfl, Nat.le_refl _⟩⟩⟩
theorem geT_t {a b c : Nat} (h1 : geT wo fe sz a b) (h2 : geT wo fe sz b c) : geT wo fe sz a c := by
  unfold geT at h1 h2 ⊢
  omega
theorem geT_a {a b : Nat} (h1 : geT wo fe sz a b) (h2 : geT wo fe sz b a) : a = b := by
  unfold geT at h1 h2
  omega
theorem Best_u (h1 : Best W0 F0 wo fe sz P p) (h2 : Best W0 F0 wo fe sz P q) : p = q := by
  rcases h1 with ⟨a1, a2⟩ | ⟨t, -, a1, a2, a3, a4⟩
  · rcases h2 with ⟨b1, b2⟩ | ⟨u, -, b1, b2, b3, b4⟩
    · rw [a1, b1]
    · exact absurd b3 (a2 u b1)
  · rcases h2 with ⟨b1, b2⟩ | ⟨u, -, b1, b2, b3, b4⟩
    · exact absurd a3 (b2 t a1)
    · rw [a2, b2, geT_a (a4 u b1) (b4 t a1)]
theorem Best_c (h : Best W0 F0 wo fe sz P p) (hQ : ∀ u, Q u ↔ P u) : Best W0 F0 wo fe sz Q p := by
  have : Q = P := funext fun u => propext (hQ u)
  rw [this]
  exact h
theorem Best_take {t : Nat} (hp : Best W0 F0 wo fe sz P p) (hQ : ∀ u, Q u ↔ P u ∨ u = t) (h8 : t < 8) (h0 : p = (W0, F0, -1) → beats W0 F0 wo fe t) (h1 : ∀ v, v < 8 → P v → p = (wo v, fe v, nI v) → geT wo fe sz t v) : Best W0 F0 wo fe sz Q (wo t, fe t, nI t) := by
  refine Or.inr ⟨t, h8, (hQ t).mpr (Or.inr rfl), rfl, ?_, ?_⟩
  · rcases hp with ⟨a1, a2⟩ | ⟨v, v8, a1, a2, a3, a4⟩
    · exact h0 a1
    · have := h1 v v8 a1 a2
      unfold beats at a3 ⊢
      unfold geT at this
      omega
  · intro u hu
    rcases (hQ u).mp hu with g | g
    · rcases hp with ⟨a1, a2⟩ | ⟨v, v8, a1, a2, a3, a4⟩
      · have g1 := h0 a1
        have g2 := a2 u g
        unfold beats at g1 g2
        unfold geT
        omega
      · exact geT_t (h1 v v8 a1 a2) (a4 u g)
    · rw [g]; exact geT_r t
theorem Best_keep {t : Nat} (hp : Best W0 F0 wo fe sz P p) (hQ : ∀ u, Q u ↔ P u ∨ u = t) (h0 : p = (W0, F0, -1) → ¬ beats W0 F0 wo fe t) (h1 : ∀ v, v < 8 → P v → p = (wo v, fe v, nI v) → geT wo fe sz v t) : Best W0 F0 wo fe sz Q p := by
  rcases hp with ⟨a1, a2⟩ | ⟨v, v8, a1, a2, a3, a4⟩
  · refine Or.inl ⟨a1, fun u hu => ?_⟩
    rcases (hQ u).mp hu with g | g
    · exact a2 u g
    · rw [g]; exact h0 a1
  · refine Or.inr ⟨v, v8, (hQ v).mpr (Or.inl a1), a2, a3, fun u hu => ?_⟩
    rcases (hQ u).mp hu with g | g
    · exact a4 u g
    · rw [g]; exact h1 v v8 a1 a2
end BE
def woF (B : Bk) (W : Nat → Nat) (i t : Nat) : Nat := b_we B t * b_n B t + W (i + b_n B t)
def feF (B : Bk) (F : Nat → Nat) (i t : Nat) : Nat := 1 + F (i + b_n B t)
theorem stp_best {B : Bk} {T : Tx} {W F : Nat → Nat} {i : Nat} (hB : Bok B) : ∀ t, t ≤ b_tc B → Best (W (i + 1)) (F (i + 1)) (woF B W i) (feF B F i) (b_n B) (fun u => fB B T u i = true ∧ u < t) (stp B T W F i t) := by
  have h8 := hB.1
  intro t
  induction t with
  | zero => intro _; exact Or.inl ⟨rfl, fun u hu => absurd hu.2 (Nat.not_lt_zero u)⟩
  | succ t ih =>
    intro ht
    have hp := ih (by omega)
    rw [stp]
    by_cases z : fB B T t i = true
    · have hQ : ∀ u, (fB B T u i = true ∧ u < t + 1) ↔ (fB B T u i = true ∧ u < t) ∨ u = t := by
        intro u
        constructor
        · rintro ⟨g1, g2⟩
          by_cases y : u = t
          · exact Or.inr y
          · exact Or.inl ⟨g1, by omega⟩
        · rintro (⟨g1, g2⟩ | g)
          · exact ⟨g1, by omega⟩
          · rw [g]; exact ⟨z, by omega⟩
      by_cases w : bet B (stp B T W F i t) (b_we B t * b_n B t + W (i + b_n B t)) (1 + F (i + b_n B t)) t
      · rw [if_pos ⟨z, w⟩]
        refine Best_take hp hQ (by omega) (fun e => ?_) (fun v v8 hv e => ?_)
        · rw [e] at w
          unfold bet at w
          unfold beats woF feF
          have w : W (i + 1) < b_we B t * b_n B t + W (i + b_n B t) ∨ (b_we B t * b_n B t + W (i + b_n B t) = W (i + 1) ∧ (1 + F (i + b_n B t) < F (i + 1) ∨ (1 + F (i + b_n B t) = F (i + 1) ∧ _))) := w
          rcases w with w | ⟨w1, w2 | ⟨w2, -⟩⟩
          · exact Or.inl w
          · exact Or.inr ⟨w1, by omega⟩
          · exact Or.inr ⟨w1, by omega⟩
        · rw [e] at w
          unfold bet at w
          unfold geT
          rcases w with w | ⟨w1, w2 | ⟨w2, w3 | w3⟩⟩
          · exact Or.inl w
          · exact Or.inr ⟨w1.symm, Or.inl w2⟩
          · exact absurd w3 (nI_m1 (by omega))
          · have w3 : b_n B (nI v).toNatClampNeg < b_n B t := w3
            rw [nI_clamp (by omega)] at w3
            exact Or.inr ⟨w1.symm, Or.inr ⟨w2, Or.inl w3⟩⟩
      · rw [if_neg (fun g => w g.2)]
        refine Best_keep hp hQ (fun e g => w ?_) (fun v v8 hv e => ?_)
        · rw [e]
          unfold bet
          unfold beats woF feF at g
          rcases g with g | ⟨g1, g2⟩
          · exact Or.inl g
          · rcases Nat.lt_or_ge (1 + F (i + b_n B t)) (F (i + 1)) with y | y
            · exact Or.inr ⟨g1, Or.inl y⟩
            · exact Or.inr ⟨g1, Or.inr ⟨Nat.le_antisymm g2 y, Or.inl rfl⟩⟩
        · rw [e] at w
          unfold bet at w
          have w : ¬ (woF B W i v < woF B W i t ∨ (woF B W i t = woF B W i v ∧ (feF B F i t < feF B F i v ∨ (feF B F i t = feF B F i v ∧ (nI v = -1 ∨ b_n B (nI v).toNatClampNeg < b_n B t))))) := w
          rw [nI_clamp (by omega)] at w
          have hv2 := hv.2
          unfold geT
          rcases Nat.lt_or_ge (woF B W i t) (woF B W i v) with y | y
          · exact Or.inl y
          · have e1 : woF B W i t = woF B W i v := Nat.le_antisymm (Nat.le_of_not_lt (fun g => w (Or.inl g))) y
            rcases Nat.lt_or_ge (feF B F i v) (feF B F i t) with x | x
            · exact Or.inr ⟨e1, Or.inl x⟩
            · have e2 : feF B F i v = feF B F i t := Nat.le_antisymm (Nat.le_of_not_lt (fun g => w (Or.inr ⟨e1, Or.inl g⟩))) x
              have e3 : ¬ b_n B v < b_n B t := fun g => w (Or.inr ⟨e1, Or.inr ⟨e2.symm, Or.inr g⟩⟩)
              exact Or.inr ⟨e1, Or.inr ⟨e2, by omega⟩⟩
    · rw [if_neg (fun g => z g.1)]
      refine Best_c hp (fun u => ⟨fun g => ⟨g.1, ?_⟩, fun g => ⟨g.1, by omega⟩⟩)
      by_cases y : u = t
      · rw [y] at g; exact absurd g.1 z
      · have := g.2; omega
