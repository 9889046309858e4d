/-! how far what ends at a word begins a term -/
def rc (B : Bk) (T : Tx) (i n : Nat) : Prop := 1 ≤ n ∧ ∃ t, t < b_tc B ∧ n ≤ b_n B t ∧ n ≤ i + 1 ∧ met B T t (i + 1 - n) n
noncomputable def rm (B : Bk) (T : Tx) (i : Nat) : Nat → Nat
  | 0 => 0
  | m + 1 => @ite _ (rc B T i (m + 1)) (Classical.propDecidable _) (m + 1) (rm B T i m)
theorem rm_p {B : Bk} {T : Tx} {i : Nat} : ∀ m, rm B T i m ≤ m ∧ (rm B T i m = 0 ∨ rc B T i (rm B T i m)) ∧ ∀ n, n ≤ m → rc B T i n → n ≤ rm B T i m := by
  intro m
  induction m with
  | zero => exact ⟨Nat.le_refl _, Or.inl rfl, fun n hn _ => hn⟩
  | succ m ih =>
    obtain ⟨h1, h2, h3⟩ := ih
    rw [rm]
    by_cases z : rc B T i (m + 1)
    · rw [if_pos z]
      exact ⟨Nat.le_refl _, Or.inr z, fun n hn _ => hn⟩
    · rw [if_neg z]
      refine ⟨by omega, h2, fun n hn hr => ?_⟩
      by_cases y : n = m + 1
      · rw [y] at hr; exact absurd hr z
      · exact h3 n (by omega) hr
section RE
variable {B : Bk} {T : Tx} {s : Sg}
theorem rm_u (hB : Bok B) {i r : Nat} (h1 : r = 0 ∨ rc B T i r) (h2 : ∀ n, rc B T i n → n ≤ r) : r = rm B T i 4 := by
  obtain ⟨g1, g2, g3⟩ := rm_p (B := B) (T := T) (i := i) 4
  have h4 : ∀ n, rc B T i n → n ≤ 4 := fun n hn => by
    obtain ⟨-, t, q1, q2, -⟩ := hn
    have := (hB.2.2.1 t q1).1
    omega
  have a1 : r ≤ rm B T i 4 := by
    rcases h1 with h | h
    · omega
    · exact g3 r (h4 r h) h
  have a2 : rm B T i 4 ≤ r := by
    rcases g2 with h | h
    · omega
    · exact h2 _ h
  omega
theorem reach7_s (hB : Bok B) (hT : Tok T) (hl : lexC s B) (hk : lookP (s.1 32) (s.1 33) B T (t_c T)) {i : Nat} (hi : i < t_c T) : f_X4_reach s (nI i) = some (nI (rm B T i 4)) := by
  have h60 := hT.1
  have h8 := hB.1
  have inner : ∀ (k : Option Int32) m, 1 ≤ m → m ≤ 4 → ∀ n t, t ≤ b_tc B → b_tc B < n + t → (∀ u, u < t → ¬ (m ≤ b_n B u ∧ m ≤ i + 1 ∧ met B T u (i + 1 - m) m)) → (rc B T i m → f_X4_reach_L8 k s (nI i) (nI m) n (nI t) = some (nI m)) ∧ (¬ rc B T i m → f_X4_reach_L8 k s (nI i) (nI m) n (nI t) = k) := by
    intro k m hm1 hm4 n
    induction n with
    | zero => intro t h1 h2; omega
    | succ n ih =>
      intro t h1 h2 hno
      rw [f_X4_reach_L8, hl.1]
      rcases Nat.lt_or_ge t (b_tc B) with q | q
      · have hn := (hB.2.2.1 t q).1
        have hiff := hk.1 i hi t (m - 1) (by omega) (by omega)
        rw [show i - (m - 1) = i + 1 - m by omega, show m - 1 + 1 = m by omega] at hiff
        rw [if_neg (fun z => by have := (nI_leI (by omega) (by omega)).mp z; omega), hasBegun7_s (by omega) (by omega) ⟨hm1, hm4⟩, cP_s, nI_1]
        by_cases z : bt (s.1 32 i) (4 * t + (m - 1)) = true
        · obtain ⟨g1, g2, g3, g4⟩ := hiff.mp z
          rw [bI_t z, if_neg (by decide)]
          exact ⟨fun _ => rfl, fun hc => absurd ⟨hm1, t, q, by omega, by omega, g4⟩ hc⟩
        · rw [bI_f z, if_pos rfl]
          refine ih (t + 1) (by omega) (by omega) (fun u hu => ?_)
          by_cases y : u = t
          · rw [y]
            rintro ⟨g1, g2, g3⟩
            exact z (hiff.mpr ⟨q, by omega, by omega, g3⟩)
          · exact hno u (by omega)
      · have : t = b_tc B := by omega
        subst this
        rw [if_pos (nI_le (Nat.le_refl _) (by omega))]
        refine ⟨fun hc => ?_, fun _ => rfl⟩
        obtain ⟨-, u, g1, g2, g3, g4⟩ := hc
        exact absurd ⟨g2, g3, g4⟩ (hno u g1)
  have outer : ∀ n m, m ≤ 4 → m < n → f_X4_reach_L2 (some 0) s (nI i) n (nI m) = some (nI (rm B T i m)) := by
    intro n
    induction n with
    | zero => intro m h1 h2; omega
    | succ n ih =>
      intro m h1 h2
      rw [f_X4_reach_L2]
      cases m with
      | zero => rw [if_pos (by decide)]; rfl
      | succ m =>
        rw [if_neg (nI_nle (by omega) (by omega))]
        have h := inner (f_X4_reach_L2 (some 0) s (nI i) n (nI (m + 1) + (-1))) (m + 1) (by omega) h1 fu 0 (Nat.zero_le _) (by unfold fu; omega) (fun u hu => absurd hu (Nat.not_lt_zero u))
        rw [rm]
        by_cases z : rc B T i (m + 1)
        · rw [if_pos z]
          exact h.1 z
        · rw [if_neg z]
          refine (h.2 z).trans ?_
          rw [add_m1, nI_s1 (by omega)]
          exact ih m (by omega) (by omega)
  exact outer fu 4 (Nat.le_refl _) (by decide)
/-- all that was looked at is below most -/
def rP (B : Bk) (T : Tx) (i M t n : Nat) : Prop := M ≤ 4 ∧ (M = 0 ∨ rc B T i M) ∧ ∀ u m, u < b_tc B → (u < t ∨ (u = t ∧ m < n)) → 1 ≤ m → m ≤ b_n B u → m ≤ i + 1 → met B T u (i + 1 - m) m → m ≤ M
theorem reach8_L17 (hB : Bok B) (hT : Tok T) (hb : bookP (s.1 44) B) (hx : txR s T) {i t : Nat} (hi : i < t_c T) (ht : t < b_tc B) (kk : Int32 → Option Int32) : ∀ n m M, 1 ≤ m → m ≤ b_n B t + 1 → b_n B t + 1 < n + m → rP B T i M t m → ∃ M', f_X8_reach_L17 kk s (nI i) (nI t) n (nI M) (nI m) = kk (nI M') ∧ rP B T i M' (t + 1) 0 := by
  have h60 := hT.1
  have h8 := hB.1
  have hn := (hB.2.2.1 t ht).1
  intro n
  induction n with
  | zero => intro m M h1 h2; omega
  | succ n ih =>
    intro m M h0 h1 h2 hp
    rw [f_X8_reach_L17, termAt8_s, cP_s, nI_p0, rI_n (by omega) (by decide), (hb.2.2.1 t ht).1]
    have hM := hp.1
    rcases Nat.lt_or_ge (b_n B t) m with q | q
    · rw [if_pos (nI_lt q (by omega))]
      refine ⟨M, rfl, hp.1, hp.2.1, fun u k g1 g2 g3 g4 g5 g6 => ?_⟩
      refine hp.2.2 u k g1 ?_ g3 g4 g5 g6
      by_cases y : u = t
      · rw [y] at g4; omega
      · omega
    · rw [if_neg (nI_nlt (by omega) (by omega))]
      simp only [jn_s]
      have nxt : (¬ (m ≤ i + 1 ∧ met B T t (i + 1 - m) m) ∨ m ≤ M) → ∃ M', f_X8_reach_L17 kk s (nI i) (nI t) n (nI M) (nI (m + 1)) = kk (nI M') ∧ rP B T i M' (t + 1) 0 := by
        intro hno
        refine ih (m + 1) M (by omega) (by omega) (by omega) ⟨hp.1, hp.2.1, fun u k g1 g2 g3 g4 g5 g6 => ?_⟩
        by_cases y : u = t ∧ k = m
        · obtain ⟨rfl, rfl⟩ := y
          rcases hno with hno | hno
          · exact absurd ⟨g5, g6⟩ hno
          · exact hno
        · exact hp.2.2 u k g1 (by omega) g3 g4 g5 g6
      by_cases z : m ≤ M
      · rw [if_pos (nI_le z (by omega)), nI_1]
        exact nxt (Or.inr z)
      · rw [if_neg (fun y => z ((nI_leI (by omega) (by omega)).mp y)), nI_sub_p1, nI_1]
        by_cases w : m ≤ i + 1
        · rw [pk_sub w, isMet8_s hx hT hb hB (by omega) ht q, cP_s]
          by_cases y : met B T t (i + 1 - m) m
          · rw [bI_t ⟨by omega, y⟩, if_neg (by decide)]
            refine ih (m + 1) m (by omega) (by omega) (by omega) ⟨by omega, Or.inr ⟨h0, t, ht, q, w, y⟩, fun u k g1 g2 g3 g4 g5 g6 => ?_⟩
            by_cases x : u = t ∧ k = m
            · omega
            · have := hp.2.2 u k g1 (by omega) g3 g4 g5 g6
              omega
          · rw [bI_f (fun g => y g.2), if_pos rfl]
            exact nxt (Or.inl (fun g => y g.2))
        · rw [isMet8_n (pk_sneg (by omega) (by omega)), cP_s, if_pos rfl]
          exact nxt (Or.inl (fun g => w g.1))
theorem reach8_s (hB : Bok B) (hT : Tok T) (hb : bookP (s.1 44) B) (hx : txR s T) {i : Nat} (hi : i < t_c T) : f_X8_reach s (nI i) = some (nI (rm B T i 4)) := by
  have h60 := hT.1
  have h8 := hB.1
  have key : ∀ n t M, t ≤ b_tc B → b_tc B < n + t → rP B T i M t 0 → f_X8_reach_L4 (fun (v19 : Int32) => some v19) s (nI i) n (nI M) (nI t) = some (nI (rm B T i 4)) := by
    intro n
    induction n with
    | zero => intro t M h1 h2; omega
    | succ n ih =>
      intro t M h1 h2 hp
      rw [f_X8_reach_L4, show rI s 44 475 0 = rI (α := Int32) s 44 475 (nI 0) from rfl, rI_n (by omega) (by decide), hb.1]
      rcases Nat.lt_or_ge t (b_tc B) with q | q
      · rw [if_neg (fun z => by have := (nI_leI (by omega) (by omega)).mp z; omega), nI_1]
        obtain ⟨M', g1, g2⟩ := reach8_L17 hB hT hb hx hi q (fun (v17 : Int32) => f_X8_reach_L4 (fun (v19 : Int32) => some v19) s (nI i) n v17 (nI (t + 1))) fu 1 M (Nat.le_refl _) (by omega) (by have := (hB.2.2.1 t q).1; unfold fu; omega) ⟨hp.1, hp.2.1, fun u k a1 a2 a3 a4 a5 a6 => hp.2.2 u k a1 (by omega) a3 a4 a5 a6⟩
        refine Eq.trans g1 ?_
        exact ih (t + 1) M' (by omega) (by omega) g2
      · have : t = b_tc B := by omega
        subst this
        rw [if_pos (nI_le (Nat.le_refl _) (by omega)), rm_u (T := T) hB hp.2.1 (fun n hn => ?_)]
        obtain ⟨c1, u, c2, c3, c4, c5⟩ := hn
        exact hp.2.2 u n c2 (Or.inl c2) c1 c3 c4 c5
  exact key fu 0 0 (Nat.zero_le _) (by unfold fu; omega) ⟨by omega, Or.inl rfl, fun u k a1 a2 => by omega⟩
end RE
/-! what is found over a word, a set -/
theorem or_id (x y : Int32) : (x ||| y) ||| y = x ||| y := by
  apply b_ext
  intro i _
  rw [b_or, b_or]
  cases bt x i <;> cases bt y i <;> rfl
def ovP (B : Bk) (T : Tx) (i t k : Nat) : Prop := ∃ j, j < k ∧ j ≤ i ∧ fnd B T t (i - j)
noncomputable def ovb (p : Prop) (x : Int32) (t : Nat) : Int32 := @ite _ p (Classical.propDecidable p) (x ||| ((1 : Int32) <<< (nI t &&& 31))) x
theorem ovb_t {p : Prop} {x : Int32} {t : Nat} (h : p) : ovb p x t = x ||| ((1 : Int32) <<< (nI t &&& 31)) := by unfold ovb; rw [if_pos h]
theorem ovb_f {p : Prop} {x : Int32} {t : Nat} (h : ¬ p) : ovb p x t = x := by unfold ovb; rw [if_neg h]
theorem ovb_c {p q : Prop} {x : Int32} {t : Nat} (h : p ↔ q) : ovb p x t = ovb q x t := by rw [propext h]
noncomputable def ovs (B : Bk) (T : Tx) (i : Nat) : Nat → Int32
  | 0 => 0
  | t + 1 => ovb (ovP B T i t (b_n B t)) (ovs B T i t) t
theorem ovP_s {B : Bk} {T : Tx} {i t k : Nat} : ovP B T i t (k + 1) ↔ ovP B T i t k ∨ (k ≤ i ∧ fnd B T t (i - k)) := by
  constructor
  · rintro ⟨j, h1, h2, h3⟩
    by_cases z : j = k
    · rw [z] at h2 h3; exact Or.inr ⟨h2, h3⟩
    · exact Or.inl ⟨j, by omega, h2, h3⟩
  · rintro (⟨j, h1, h2, h3⟩ | ⟨h2, h3⟩)
    · exact ⟨j, by omega, h2, h3⟩
    · exact ⟨k, by omega, h2, h3⟩
/-- one more, where it is found -/
theorem ovb_1 {B : Bk} {T : Tx} {i t k : Nat} {x : Int32} (h : k ≤ i ∧ fnd B T t (i - k)) : ovb (ovP B T i t k) x t ||| ((1 : Int32) <<< (nI t &&& 31)) = ovb (ovP B T i t (k + 1)) x t := by
  rw [ovb_t (p := ovP B T i t (k + 1)) (ovP_s.mpr (Or.inr h))]
  rcases Classical.em (ovP B T i t k) with z | z
  · rw [ovb_t z, or_id]
  · rw [ovb_f z]
theorem ovb_0 {B : Bk} {T : Tx} {i t k : Nat} {x : Int32} (h : ¬ (k ≤ i ∧ fnd B T t (i - k))) : ovb (ovP B T i t k) x t = ovb (ovP B T i t (k + 1)) x t :=
  ovb_c ⟨fun g => ovP_s.mpr (Or.inl g), fun g => by rcases ovP_s.mp g with g | g; exact g; exact absurd g h⟩
section OV
variable {B : Bk} {T : Tx} {s : Sg}
theorem termsOver7_s (hB : Bok B) (hT : Tok T) (hl : lexC s B) (hk : lookP (s.1 32) (s.1 33) B T (t_c T)) {i : Nat} (hi : i < t_c T) : f_X4_termsOver s (nI i) = some (ovs B T i (b_tc B)) := by
  have h60 := hT.1
  have h8 := hB.1
  have inner : ∀ (kk : Int32 → Option Int32) t x, t < b_tc B → ∀ n k, k ≤ b_n B t → b_n B t < n + k → f_X4_termsOver_L18 kk s (nI i) (nI t) n (ovb (ovP B T i t k) x t) (nI k) = kk (ovb (ovP B T i t (b_n B t)) x t) := by
    intro kk t x q n
    have hn := (hB.2.2.1 t q).1
    induction n with
    | zero => intro k h1 h2; omega
    | succ n ih =>
      intro k h1 h2
      rw [f_X4_termsOver_L18, rI_n (by omega) (by decide), (hl.2.2.1 t q).1]
      rcases Nat.lt_or_ge k (b_n B t) with z | z
      · rw [if_neg (fun y => by have := (nI_leI (by omega) (by omega)).mp y; omega)]
        by_cases w : i < k
        · rw [if_pos (nI_lt w (by omega))]
          congr 1
          refine ovb_c ⟨fun g => ?_, fun g => ?_⟩
          · obtain ⟨j, g1, g2, g3⟩ := g; exact ⟨j, by omega, g2, g3⟩
          · obtain ⟨j, g1, g2, g3⟩ := g; exact ⟨j, by omega, g2, g3⟩
        · rw [if_neg (nI_nlt (by omega) (by omega)), pk_sub (by omega), isFound7_t hk hT hB (by omega) q, cP_s, nI_1]
          by_cases y : fB B T t (i - k) = true
          · rw [bI_t y, if_neg (by decide), ovb_1 ⟨by omega, fB_iff.mp y⟩]
            exact ih (k + 1) (by omega) (by omega)
          · rw [bI_f y, if_pos rfl, ovb_0 (fun g => y (fB_iff.mpr g.2))]
            exact ih (k + 1) (by omega) (by omega)
      · have : k = b_n B t := by omega
        subst this
        rw [if_pos (nI_le (Nat.le_refl _) (by omega))]
  have key : ∀ n t, t ≤ b_tc B → b_tc B < n + t → f_X4_termsOver_L4 (fun (v11 : Int32) => some v11) s (nI i) n (ovs B T i t) (nI t) = some (ovs B T i (b_tc B)) := by
    intro n
    induction n with
    | zero => intro t h1 h2; omega
    | succ n ih =>
      intro t h1 h2
      rw [f_X4_termsOver_L4, hl.1]
      rcases Nat.lt_or_ge t (b_tc B) with q | q
      · rw [if_neg (fun z => by have := (nI_leI (by omega) (by omega)).mp z; omega), nI_1]
        have h := inner (fun (v9 : Int32) => f_X4_termsOver_L4 (fun (v11 : Int32) => some v11) s (nI i) n v9 (nI (t + 1))) t (ovs B T i t) q fu 0 (Nat.zero_le _) (by have := (hB.2.2.1 t q).1; unfold fu; omega)
        rw [ovb_f (p := ovP B T i t 0) (by rintro ⟨j, g, -⟩; omega)] at h
        refine Eq.trans h ?_
        exact ih (t + 1) (by omega) (by omega)
      · have : t = b_tc B := by omega
        subst this
        rw [if_pos (nI_le (Nat.le_refl _) (by omega))]
  exact key fu 0 (Nat.zero_le _) (by unfold fu; omega)
theorem foundOver8_s (hB : Bok B) (hT : Tok T) (hb : bookP (s.1 44) B) (hx : txR s T) {i : Nat} (hi : i < t_c T) : f_X8_foundOver s (nI i) = some (ovs B T i (b_tc B)) := by
  have h60 := hT.1
  have h8 := hB.1
  have inner : ∀ (kk : Int32 → Option Int32) t x, t < b_tc B → ∀ n k, k ≤ b_n B t → b_n B t < n + k → f_X8_foundOver_L17 kk s (nI i) (nI t) n (ovb (ovP B T i t k) x t) (nI k) = kk (ovb (ovP B T i t (b_n B t)) x t) := by
    intro kk t x q n
    have hn := (hB.2.2.1 t q).1
    induction n with
    | zero => intro k h1 h2; omega
    | succ n ih =>
      intro k h1 h2
      rw [f_X8_foundOver_L17, termAt8_s, cP_s, nI_p0, rI_n (by omega) (by decide), (hb.2.2.1 t q).1]
      rcases Nat.lt_or_ge k (b_n B t) with z | z
      · rw [if_neg (fun y => by have := (nI_leI (by omega) (by omega)).mp y; omega)]
        by_cases w : i < k
        · rw [isFound8_n hb hB (pk_sneg (by omega) w) q, cP_s]
          simp only [jn_s]
          rw [if_pos trivial, or_0, nI_1, ovb_0 (fun g => by have := g.1; omega)]
          exact ih (k + 1) (by omega) (by omega)
        · rw [pk_sub (by omega), isFound8_s hx hT hb hB (by omega) q, cP_s]
          simp only [jn_s]
          rw [nI_1]
          by_cases y : fB B T t (i - k) = true
          · rw [bI_t y, if_neg (by decide), ovb_1 ⟨by omega, fB_iff.mp y⟩]
            exact ih (k + 1) (by omega) (by omega)
          · rw [bI_f y, if_pos rfl, or_0, ovb_0 (fun g => y (fB_iff.mpr g.2))]
            exact ih (k + 1) (by omega) (by omega)
      · have : k = b_n B t := by omega
        subst this
        rw [if_pos (nI_le (Nat.le_refl _) (by omega))]
  have key : ∀ n t, t ≤ b_tc B → b_tc B < n + t → f_X8_foundOver_L4 (fun (v17 : Int32) => some v17) s (nI i) n (ovs B T i t) (nI t) = some (ovs B T i (b_tc B)) := by
    intro n
    induction n with
    | zero => intro t h1 h2; omega
    | succ n ih =>
      intro t h1 h2
      rw [f_X8_foundOver_L4, show rI s 44 475 0 = rI (α := Int32) s 44 475 (nI 0) from rfl, rI_n (by omega) (by decide), hb.1]
      rcases Nat.lt_or_ge t (b_tc B) with q | q
      · rw [if_neg (fun z => by have := (nI_leI (by omega) (by omega)).mp z; omega), nI_1]
        have h := inner (fun (v15 : Int32) => f_X8_foundOver_L4 (fun (v17 : Int32) => some v17) s (nI i) n v15 (nI (t + 1))) t (ovs B T i t) q fu 0 (Nat.zero_le _) (by have := (hB.2.2.1 t q).1; unfold fu; omega)
        rw [ovb_f (p := ovP B T i t 0) (by rintro ⟨j, g, -⟩; omega)] at h
        refine Eq.trans h ?_
        exact ih (t + 1) (by omega) (by omega)
      · have : t = b_tc B := by omega
        subst this
        rw [if_pos (nI_le (Nat.le_refl _) (by omega))]
  exact key fu 0 (Nat.zero_le _) (by unfold fu; omega)
end OV
