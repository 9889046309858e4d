/-! a word is looked at -/
theorem bt_test {x : Int32} {l : Nat} (hl : l < 32) : ((x.toUInt32 >>> ((nI l).toUInt32 &&& Int32.toUInt32 31)).toInt32 &&& 1) = 0 ↔ bt x l = false := by
  constructor
  · intro h
    have h2 := congrArg (fun y => bt y 0) h
    have h2 : bt ((x.toUInt32 >>> ((nI l).toUInt32 &&& Int32.toUInt32 31)).toInt32 &&& 1) 0 = bt 0 0 := h2
    rw [b_and, b_ushr l hl, bt_1, b_0, Nat.add_zero] at h2
    simpa using h2
  · intro h
    apply b_ext
    intro i hi
    rw [b_and, b_ushr l hl, bt_1, b_0]
    by_cases z : i = 0
    · subst z; rw [Nat.add_zero, h]; rfl
    · simp [z]
theorem nI_sub_p1 (a b : Nat) : nI a - nI b + 1 = nI (a + 1) - nI b := by
  rw [← nI_1, Int32.sub_eq_add_neg, Int32.sub_eq_add_neg, Int32.add_assoc, Int32.add_comm (-nI b) 1, ← Int32.add_assoc]
theorem bt_hex : ∀ u, u < 8 → ∀ m, m < 4 → bt 286331153 (4 * u + m) = decide (m = 0) := by decide +kernel
def Sk (s s' : Sg) : Prop := Sm [30, 32, 33] [31] s s' ∧ ∀ j, j ≠ 5 → s'.1 30 j = s.1 30 j
theorem Sk.rf {s : Sg} : Sk s s := ⟨Sm.rf, fun _ _ => rfl⟩
theorem Sk.tr {a b c : Sg} (h1 : Sk a b) (h2 : Sk b c) : Sk a c := ⟨h1.1.tr h2.1, fun j hj => (h2.2 j hj).trans (h1.2 j hj)⟩
theorem Sk.f {a b : Sg} (h : Sf a b) : Sk a b := ⟨h.1.up (by decide) (by decide), h.2⟩
theorem Sk.b {a b : Sg} {j : Nat} {v : Int32} (h : Sk a b) : Sk a (sI b 32 j v) := ⟨h.1.i (by decide), fun i hi => by rw [sI_ne b (by decide)]; exact h.2 i hi⟩
theorem Sk.s {a b : Sg} {j : Nat} {v : Int32} (h : Sk a b) : Sk a (sI b 33 j v) := ⟨h.1.i (by decide), fun i hi => by rw [sI_ne b (by decide)]; exact h.2 i hi⟩
section LK
variable {s : Sg} {B : Bk} {T : Tx}
theorem beginsSentence7_s (h : txtC s T) (hT : Tok T) {i : Nat} (hi : i < t_c T) : f_X6_beginsSentence s (nI i) = some (bI (i = 0 ∨ ¬ t_s T (i - 1) = t_s T i)) := by
  have h60 := hT.1
  unfold f_X6_beginsSentence
  by_cases z : i = 0
  · rw [if_pos (by rw [z]; rfl), bI_t (Or.inl z)]
  · rw [if_neg (fun y => z ((c_eq 0 (by omega) (by decide)).mp y)), nI_s1 (by omega), rI_n (by omega) (by decide), rI_n (by omega) (by decide), (h.2.2.2.2 i hi).2.2, (h.2.2.2.2 (i - 1) (by omega)).2.2]
    have h1 := (hT.2.1 i hi).2.2
    have h2 := (hT.2.1 (i - 1) (by omega)).2.2
    by_cases y : t_s T (i - 1) = t_s T i
    · rw [if_pos (by rw [y]), bI_f (by rintro (g | g); exact z g; exact g y)]
    · rw [if_neg (fun g => y ((nI_eq (by omega) (by omega)).mp g)), bI_t (Or.inr y)]
theorem met_succ {t i k : Nat} : met B T t i (k + 1) ↔ met B T t i k ∧ t_s T (i + k) = t_s T i ∧ mt B T (i + k) t k := by
  constructor
  · intro h
    exact ⟨fun m hm => h m (by omega), h k (by omega)⟩
  · rintro ⟨h1, h2⟩ m hm
    by_cases z : m = k
    · rw [z]; exact h2
    · exact h1 m (by omega)
theorem hasBegun7_s {i t n : Nat} (hi : i < 60) (ht : t < 8) (hn : 1 ≤ n ∧ n ≤ 4) : f_X4_hasBegun s (nI i) (nI t) (nI n) = some (bI (bt (s.1 32 i) (4 * t + (n - 1)) = true)) := by
  unfold f_X4_hasBegun
  rw [rI_n hi (by decide), ix4, nI_s1 (by omega), show 4 * t + n - 1 = 4 * t + (n - 1) by omega]
  by_cases z : bt (s.1 32 i) (4 * t + (n - 1)) = true
  · rw [if_neg (fun y => by rw [bt_test (by omega)] at y; rw [y] at z; cases z), bI_t z]
  · rw [if_pos ((bt_test (by omega)).mpr (ts_nt z)), bI_f z]
/-- the starts while the terms are gone through -/
def stP (s : Sg) (B : Bk) (T : Tx) (i t : Nat) : Prop := ∀ x, x ≤ i → ∀ j, j < 32 → (bt (s.1 33 x) j = true ↔ j < b_tc B ∧ met B T j x (b_n B j) ∧ (x + b_n B j ≤ i ∨ (j < t ∧ x + b_n B j = i + 1)))
theorem look7_L51 (hB : Bok B) {i : Nat} (hi : i < 60) : ∀ n t s, t ≤ b_tc B → b_tc B < n + t → lexC s B → (∀ u k, u < 8 → k < 4 → (bt (s.1 32 i) (4 * u + k) = true ↔ u < b_tc B ∧ k < b_n B u ∧ k ≤ i ∧ met B T u (i - k) (k + 1))) → stP s B T i t → ∃ s', f_X4_look_L51 (fun (s28 : Sg) => some ((), s28)) (nI i) n s (nI t) = some ((), s') ∧ stP s' B T i (b_tc B) ∧ Sk s s' ∧ s'.1 32 = s.1 32 := by
  have h8 := hB.1
  intro n
  induction n with
  | zero => intro t s h1 h2; omega
  | succ n ih =>
    intro t s h1 h2 hl hb hs
    rw [f_X4_look_L51, hl.1]
    rcases Nat.lt_or_ge t (b_tc B) with q | q
    · have hn := (hB.2.2.1 t q).1
      rw [if_neg (fun z => by have := (nI_leI (by omega) (by omega)).mp z; omega), rI_n (by omega) (by decide), (hl.2.2.1 t q).1, nI_sub_p1, nI_1]
      have skip : (¬ ∃ x, x + b_n B t = i + 1 ∧ met B T t x (b_n B t)) → ∃ s', f_X4_look_L51 (fun (s28 : Sg) => some ((), s28)) (nI i) n s (nI (t + 1)) = some ((), s') ∧ stP s' B T i (b_tc B) ∧ Sk s s' ∧ s'.1 32 = s.1 32 := by
        intro hno
        refine ih (t + 1) s (by omega) (by omega) hl hb (fun x hx j hj => ?_)
        rw [hs x hx j hj]
        constructor
        · rintro ⟨g1, g2, g3 | g3⟩
          · exact ⟨g1, g2, Or.inl g3⟩
          · exact ⟨g1, g2, Or.inr ⟨by omega, g3.2⟩⟩
        · rintro ⟨g1, g2, g3 | g3⟩
          · exact ⟨g1, g2, Or.inl g3⟩
          · refine ⟨g1, g2, Or.inr ⟨?_, g3.2⟩⟩
            by_cases z : j = t
            · rw [z] at g2 g3
              exact absurd ⟨x, g3.2, g2⟩ hno
            · omega
      by_cases hlt : i + 1 < b_n B t
      · rw [if_pos (by
          rw [Int32.lt_iff_toInt_lt, pk_sub_toInt (by omega) (by omega)]
          have : (0 : Int32).toInt = 0 := by decide
          omega)]
        exact skip (by rintro ⟨x, g, -⟩; omega)
      · rw [pk_sub (by omega), if_neg (nI_pos (by omega)), hasBegun7_s hi (by omega) hn, cP_s]
        have hiff := hb t (b_n B t - 1) (by omega) (by omega)
        rw [show i - (b_n B t - 1) = i + 1 - b_n B t by omega, show b_n B t - 1 + 1 = b_n B t by omega] at hiff
        by_cases z : bt (s.1 32 i) (4 * t + (b_n B t - 1)) = true
        · have hm := (hiff.mp z).2.2.2
          rw [bI_t z, if_neg (by decide), rI_n (by omega) (by decide), wI_n (by omega) (by decide)]
          have hst : stP (sI s 33 (i + 1 - b_n B t) (s.1 33 (i + 1 - b_n B t) ||| ((1 : Int32) <<< (nI t &&& 31)))) B T i (t + 1) := by
            intro x hx j hj
            rw [sI_1]
            by_cases y : x = i + 1 - b_n B t
            · rw [if_pos ⟨rfl, y⟩, b_set (by omega) hj, ← y, hs x hx j hj]
              constructor
              · rintro (⟨g1, g2, g3 | g3⟩ | g)
                · exact ⟨g1, g2, Or.inl g3⟩
                · exact ⟨g1, g2, Or.inr ⟨by omega, g3.2⟩⟩
                · rw [g]
                  exact ⟨q, by rw [y]; exact hm, Or.inr ⟨by omega, by omega⟩⟩
              · rintro ⟨g1, g2, g3 | g3⟩
                · exact Or.inl ⟨g1, g2, Or.inl g3⟩
                · by_cases w : j = t
                  · exact Or.inr w
                  · exact Or.inl ⟨g1, g2, Or.inr ⟨by omega, g3.2⟩⟩
            · rw [if_neg (fun g => y g.2), hs x hx j hj]
              constructor
              · rintro ⟨g1, g2, g3 | g3⟩
                · exact ⟨g1, g2, Or.inl g3⟩
                · exact ⟨g1, g2, Or.inr ⟨by omega, g3.2⟩⟩
              · rintro ⟨g1, g2, g3 | g3⟩
                · exact ⟨g1, g2, Or.inl g3⟩
                · refine ⟨g1, g2, Or.inr ⟨?_, g3.2⟩⟩
                  by_cases w : j = t
                  · rw [w] at g3; omega
                  · omega
          obtain ⟨s', d1, d2, d3, d4⟩ := ih (t + 1) (sI s 33 (i + 1 - b_n B t) (s.1 33 (i + 1 - b_n B t) ||| ((1 : Int32) <<< (nI t &&& 31)))) (by omega) (by omega) ((Sm.rf (L := [33]) (K := [])).i (by decide) |>.lex (by decide) (by decide) hl) (by rw [sI_ne _ (by decide)]; exact hb) hst
          exact ⟨s', d1, d2, (Sk.rf.s).tr d3, by rw [d4, sI_ne _ (by decide)]⟩
        · rw [bI_f z, if_pos rfl]
          exact skip (by
            rintro ⟨x, g1, g2⟩
            rw [show x = i + 1 - b_n B t by omega] at g2
            exact z (hiff.mpr ⟨q, by omega, by omega, g2⟩))
    · have : t = b_tc B := by omega
      subst this
      rw [if_pos (nI_le (Nat.le_refl _) (by omega))]
      exact ⟨s, rfl, hs, Sk.rf, rfl⟩
theorem look7_s (hl : lexC s B) (hB : Bok B) (h : txtC s T) (hT : Tok T) {i : Nat} (hi : i < t_c T) (hk : lookP (s.1 32) (s.1 33) B T i) : ∃ s', f_X4_look s (nI i) = some ((), s') ∧ lookP (s'.1 32) (s'.1 33) B T (i + 1) ∧ Sk s s' := by
  have h60 := hT.1
  have h8 := hB.1
  unfold f_X4_look
  rw [beginsSentence7_s h hT hi, cP_s]
  simp only [jn_s]
  obtain ⟨m, s1, e1, e2, e3⟩ := meets7_s hl hB h hT hi
  have e32 : s1.1 32 = s.1 32 := e2.1.1 32 (by decide)
  have e33 : s1.1 33 = s.1 33 := e2.1.1 33 (by decide)
  have go : ∀ v4, (∀ u k, u < 8 → k < 4 → 1 ≤ k → (bt v4 (4 * u + (k - 1)) = true ↔ (i ≠ 0 ∧ t_s T (i - 1) = t_s T i) ∧ u < b_tc B ∧ k - 1 < b_n B u ∧ k ≤ i ∧ met B T u (i - k) k)) → ∃ s', (cA (f_X4_meets s (nI i)) fun x5 s7 => (wI s7 32 60 (nI i) (((v4 <<< ((1 : Int32) &&& 31)) ||| (286331153 : Int32)) &&& x5) fun s8 => (wI s8 33 60 (nI i) 0 fun s11 => (f_X4_look_L51 (fun (s28 : Sg) => some ((), s28)) (nI i) fu s11 0)))) = some ((), s') ∧ lookP (s'.1 32) (s'.1 33) B T (i + 1) ∧ Sk s s' := by
    intro v4 hv
    rw [e1, cA_s, wI_n (by omega) (by decide), wI_n (by omega) (by decide)]
    have hbits : ∀ u k, u < 8 → k < 4 → (bt (((v4 <<< ((1 : Int32) &&& 31)) ||| (286331153 : Int32)) &&& m) (4 * u + k) = true ↔ u < b_tc B ∧ k < b_n B u ∧ k ≤ i ∧ met B T u (i - k) (k + 1)) := by
      intro u k hu hk4
      rw [b_and, b_or, show (1 : Int32) = nI 1 from rfl, b_shl 1 (by decide) v4 (by omega), bt_hex u hu k hk4, Bool.and_eq_true, e3 u k hu hk4]
      by_cases z : k = 0
      · subst z
        simp only [decide_true, Bool.or_true, true_and, Nat.sub_zero]
        constructor
        · rintro ⟨g1, g2, g3⟩
          refine ⟨g1, g2, Nat.zero_le _, fun m hm => ?_⟩
          have : m = 0 := by omega
          subst this
          exact ⟨rfl, g3⟩
        · rintro ⟨g1, g2, -, g3⟩
          exact ⟨g1, g2, (g3 0 (by omega)).2⟩
      · have e4 : 4 * u + k - 1 = 4 * u + (k - 1) := by omega
        have d1 : decide (1 ≤ 4 * u + k) = true := by simp; omega
        have d2 : decide (k = 0) = false := by simp [z]
        rw [d1, d2, Bool.true_and, Bool.or_false, e4, hv u k hu hk4 (by omega)]
        constructor
        · rintro ⟨⟨⟨g1, g2⟩, g3, g4, g5, g6⟩, g7, g8, g9⟩
          refine ⟨g3, g8, g5, met_succ.mpr ⟨g6, ?_, ?_⟩⟩
          · have := (g6 (k - 1) (by omega)).1
            rw [show i - k + (k - 1) = i - 1 by omega, g2] at this
            rw [show i - k + k = i by omega]
            exact this
          · rw [show i - k + k = i by omega]; exact g9
        · rintro ⟨g1, g2, g3, g4⟩
          obtain ⟨g5, g6, g7⟩ := met_succ.mp g4
          have g8 := (g5 (k - 1) (by omega)).1
          rw [show i - k + k = i by omega] at g6 g7
          rw [show i - k + (k - 1) = i - 1 by omega] at g8
          exact ⟨⟨⟨by omega, by rw [g8, g6]⟩, g1, by omega, g3, g5⟩, g1, g2, g7⟩
    have u0 : Sk s (sI (sI s1 32 i (((v4 <<< ((1 : Int32) &&& 31)) ||| (286331153 : Int32)) &&& m)) 33 i 0) := (((Sk.f e2)).b).s
    obtain ⟨s', d1, d2, d3, d4⟩ := look7_L51 (T := T) hB (i := i) (by omega) fu 0 (sI (sI s1 32 i (((v4 <<< ((1 : Int32) &&& 31)) ||| (286331153 : Int32)) &&& m)) 33 i 0) (Nat.zero_le _) (by unfold fu; omega) (u0.1.lex (by decide) (by decide) hl) (fun u k hu hk4 => by rw [sI_ne _ (by decide), sI_1, if_pos ⟨rfl, rfl⟩]; exact hbits u k hu hk4) (fun x hx j hj => by
      rw [sI_1]
      by_cases y : x = i
      · rw [if_pos ⟨rfl, y⟩, b_0]
        constructor
        · intro g; cases g
        · rintro ⟨g1, g2, g3 | g3⟩
          · have := (hB.2.2.1 j g1).1; omega
          · omega
      · rw [if_neg (fun g => y g.2), sI_ne _ (by decide), e33, hk.2 x (by omega) j hj]
        constructor
        · rintro ⟨g1, g2, g3⟩; exact ⟨g1, g3, Or.inl g2⟩
        · rintro ⟨g1, g2, g3 | g3⟩
          · exact ⟨g1, g3, g2⟩
          · omega)
    refine ⟨s', d1, ⟨fun x hx u k hu hk4 => ?_, fun x hx j hj => ?_⟩, u0.tr d3⟩
    · rw [d4, sI_ne _ (by decide), sI_1]
      by_cases y : x = i
      · rw [if_pos ⟨rfl, y⟩, y]; exact hbits u k hu hk4
      · rw [if_neg (fun g => y g.2), e32]; exact hk.1 x (by omega) u k hu hk4
    · rw [d2 x (by omega) j hj]
      constructor
      · rintro ⟨g1, g2, g3 | g3⟩
        · exact ⟨g1, by omega, g2⟩
        · exact ⟨g1, by omega, g2⟩
      · rintro ⟨g1, g2, g3⟩
        exact ⟨g1, g3, by omega⟩
  rcases Classical.em (i = 0 ∨ ¬ t_s T (i - 1) = t_s T i) with z | z
  · rw [bI_t z, if_neg (by decide)]
    refine go 0 (fun u k hu hk4 h1 => ?_)
    rw [b_0]
    constructor
    · intro g; cases g
    · rintro ⟨⟨g1, g2⟩, -⟩
      rcases z with z | z
      · exact absurd z g1
      · exact absurd g2 z
  · have z1 : i ≠ 0 := fun g => z (Or.inl g)
    have z2 : t_s T (i - 1) = t_s T i := Classical.byContradiction (fun g => z (Or.inr g))
    rw [bI_f z, if_pos rfl, nI_s1 (by omega), rI_n (by omega) (by decide)]
    refine go _ (fun u k hu hk4 h1 => ?_)
    rw [hk.1 (i - 1) (by omega) u (k - 1) hu (by omega), show i - 1 - (k - 1) = i - k by omega, show k - 1 + 1 = k by omega]
    constructor
    · rintro ⟨g1, g2, g3, g4⟩; exact ⟨⟨z1, z2⟩, g1, g2, by omega, g4⟩
    · rintro ⟨-, g1, g2, g3, g4⟩; exact ⟨g1, g2, by omega, g4⟩
end LK
