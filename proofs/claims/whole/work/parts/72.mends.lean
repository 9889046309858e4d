/-! the mended text: the reference's walk -/
section MW
variable {B : Bk} {T : Tx}
noncomputable def pt (T : Tx) (i : Nat) : List Nat := @ite _ (eS T i) (eSD T i) [46] []
theorem pt_t {i : Nat} (h : eS T i) : pt T i = [46] := by unfold pt; rw [if_pos h]
theorem pt_f {i : Nat} (h : ¬ eS T i) : pt T i = [] := by unfold pt; rw [if_neg h]
theorem mnd_p (i : Nat) : mnd B T (i + 1) = mnW B T i ++ pt T i := mnd_s i
theorem ins_nx {i : Nat} (h : ins B T i = -1) (hc : ch B T (i + 1) = -1) : ins B T (i + 1) = -1 := by
  have e : ov B T (i + 1) = if i + 1 < fr B T (i + 2) then ov B T i else -1 := by rw [ov, if_neg (fun g => g hc)]
  unfold ins at h ⊢
  rw [e]
  by_cases z : i + 1 < fr B T (i + 2)
  · rw [if_pos z]; exact h
  · rw [if_neg z, if_pos rfl]
/-- behind the first word of what is put in its place -/
theorem mnd_j (hB : Bok B) {i t v : Nat} (ht : t < b_tc B) (hf : fnd B T t i) (hc : ch B T i = nI t) (hfr : fr B T (i + 1) = i + b_n B t) (hv : v < b_tc B) (hp : b_pr B t = nI v) : ∀ d, d < b_n B t → mnd B T (i + 1 + d) = addT (mnd B T i) (b_w B v) (b_n B v) ++ pt T (i + d) := by
  have h8 := hB.1
  have hne : ch B T i ≠ -1 := by rw [hc]; exact nI_m1 (by omega)
  have hins : ∀ d, d < b_n B t → ins B T (i + d) = nI v := fun d hd => by
    have ho := ov_1 hne hfr d hd
    rw [hc] at ho
    rw [ins_t (by omega) ho, hp]
  intro d
  induction d with
  | zero =>
    intro hd
    have h0 := hins 0 hd
    rw [Nat.add_zero] at h0
    rw [Nat.add_zero, Nat.add_zero, mnd_p]
    unfold mnW
    rw [h0, if_neg (nI_m1 (by omega)), if_pos hne]
    unfold kn
    rw [nI_clamp (by omega)]
    rfl
  | succ d ih =>
    intro hd
    have h1 := ih (by omega)
    have h2 := hins (d + 1) hd
    have h3 : ch B T (i + 1 + d) = -1 := ch_in hfr (by omega) (by omega)
    have h4 : ¬ eS T (i + d) := by
      rintro ⟨g, -⟩
      have m1 := (hf.2 d (by omega)).1
      have m2 := (hf.2 (d + 1) hd).1
      have m3 := hf.1
      rcases g with g | g
      · omega
      · exact g (by rw [show i + d + 1 = i + (d + 1) by omega, m1, m2])
    rw [pt_f h4, List.append_nil] at h1
    rw [show i + (d + 1) = i + 1 + d by omega] at h2 ⊢
    rw [show i + 1 + (d + 1) = i + 1 + d + 1 by omega, mnd_p]
    unfold mnW
    rw [h2, if_neg (nI_m1 (by omega)), if_neg (fun g => g h3), h1]
/-- the point, and on -/
def mpK (kk : Sg → Int32 → Option (Int32 × Sg)) (n : Nat) (nx : Int32) (s : Sg) (v : Int32) : Option (Int32 × Sg) :=
  rI s 48 915 ((15 * (nx - 1)) + 1) fun x51 => (jn (fun (v55 : Int32) => if v55 = 0 then (f_X8_mends_L8 kk n s v nx) else (if (s.1 43 7) ≤ x51 then (f_X8_mends_L8 kk n s v nx) else (wI s 54 3300 v 46 fun s56 => (f_X8_mends_L8 kk n s56 (v + 1) nx)))) fun k54 => (if nx = (s.1 43 6) then (k54 1) else (rI s 48 915 ((15 * nx) + 1) fun x61 => (if x61 = x51 then (k54 0) else (k54 1)))))
theorem mends_pt {s : Sg} {m : List Nat} (hT : Tok T) (hx : txR s T) {i x : Nat} {X : Int32} (hX : X = nI x) (hx1 : 1 ≤ x) (hix : i + x ≤ t_c T) (kk : Sg → Int32 → Option (Int32 × Sg)) (n : Nat) (hm : mnR s m) (hl : m.length + 1 ≤ 3300) : ∃ s', mpK kk n (nI i + X) s (nI m.length) = f_X8_mends_L8 kk n s' (nI (m ++ pt T (i + x - 1)).length) (nI (i + x)) ∧ mnR s' (m ++ pt T (i + x - 1)) ∧ Sm [54] [] s s' := by
  subst hX
  unfold mpK
  have h60 := hT.1
  have e6 : s.1 43 6 = nI (t_c T) := hx.1
  have e7 : s.1 43 7 = nI (t_se T) := hx.2.1
  have q1 := hx.2.2.1 (i + x - 1) (by omega)
  have d1 := (hT.2.1 (i + x - 1) (by omega)).2.2
  have d3 := hT.2.2.1
  rw [nI_add, nI_s1 (by omega), i15, nI_1, rI_n (by omega) (by decide), q1.2.1, e6, e7]
  dsimp only [jn]
  have no : ¬ eS T (i + x - 1) → ∃ s', f_X8_mends_L8 kk n s (nI m.length) (nI (i + x)) = f_X8_mends_L8 kk n s' (nI (m ++ pt T (i + x - 1)).length) (nI (i + x)) ∧ mnR s' (m ++ pt T (i + x - 1)) ∧ Sm [54] [] s s' := fun h => by
    rw [pt_f h, List.append_nil]
    exact ⟨s, rfl, hm, Sm.rf⟩
  have last : (i + x - 1 + 1 = t_c T ∨ t_s T (i + x - 1 + 1) ≠ t_s T (i + x - 1)) → ∃ s', (if (1 : Int32) = 0 then (f_X8_mends_L8 kk n s (nI m.length) (nI (i + x))) else (if nI (t_se T) ≤ nI (t_s T (i + x - 1)) then (f_X8_mends_L8 kk n s (nI m.length) (nI (i + x))) else (wI s 54 3300 (nI m.length) 46 fun s56 => (f_X8_mends_L8 kk n s56 (nI m.length + 1) (nI (i + x)))))) = f_X8_mends_L8 kk n s' (nI (m ++ pt T (i + x - 1)).length) (nI (i + x)) ∧ mnR s' (m ++ pt T (i + x - 1)) ∧ Sm [54] [] s s' := fun h => by
    rw [if_neg (by decide)]
    by_cases z : t_se T ≤ t_s T (i + x - 1)
    · rw [if_pos (nI_le z (by omega))]
      exact no (fun g => by have := g.2; omega)
    · rw [if_neg (fun g => z ((nI_leI (by omega) (by omega)).mp g)), wI_n (by omega) (by decide), nI_1, pt_t ⟨h, by omega⟩, List.length_append]
      exact ⟨_, rfl, mnR_add hm, Sm.rf.i (by decide)⟩
  by_cases z : i + x = t_c T
  · rw [if_pos (by rw [z])]
    exact last (Or.inl (by omega))
  · have q2 := hx.2.2.1 (i + x) (by omega)
    have d2 := (hT.2.1 (i + x) (by omega)).2.2
    rw [if_neg (fun g => z ((nI_eq (by omega) (by omega)).mp g)), i15, nI_1, rI_n (by omega) (by decide), q2.2.1]
    by_cases y : t_s T (i + x) = t_s T (i + x - 1)
    · rw [if_pos (by rw [y]), if_pos rfl]
      refine no ?_
      rintro ⟨g | g, -⟩
      · omega
      · exact g (by rw [show i + x - 1 + 1 = i + x by omega]; exact y)
    · rw [if_neg (fun g => y ((nI_eq (by omega) (by omega)).mp g))]
      exact last (Or.inr (by rw [show i + x - 1 + 1 = i + x by omega]; exact y))
theorem mends_L8 (hB : Bok B) (hT : Tok T) : ∀ n i s, i ≤ t_c T → t_c T < n + i → bookP (s.1 44) B → txR s T → (∀ j, j < t_c T → s.1 53 j = ch B T j) → (ch B T i = -1 → ins B T i = -1) → mnR s (mnd B T i) → ∃ s', f_X8_mends_L8 (fun (s85 : Sg) (v86 : Int32) => some (v86, s85)) n s (nI (mnd B T i).length) (nI i) = some (nI (mnd B T (t_c T)).length, s') ∧ mnR s' (mnd B T (t_c T)) ∧ Sm [54] [] s s' := by
  have h60 := hT.1
  have h8 := hB.1
  intro n
  induction n with
  | zero => intro i s h1 h2; omega
  | succ n ih =>
    intro i s h1 h2 hb hx hc hi hm
    have e6 : s.1 43 6 = nI (t_c T) := hx.1
    rw [f_X8_mends_L8, e6]
    rcases Nat.lt_or_ge i (t_c T) with q | q
    · have hlen := mnd_len hB hT i h1
      have hlenW := mnW_len hB hT q
      rw [if_neg (fun z => by have := (nI_leI (by omega) (by omega)).mp z; omega), rI_n (by omega) (by decide), hc i q, jn_s]
      have hw12 := (hT.2.1 i q).1.2.2
      -- a word as it is
      have asis : ins B T i = -1 → ∃ s', f_X8_mends_L97 (mpK (fun (s85 : Sg) (v86 : Int32) => some (v86, s85)) n (nI i + 1)) (nI i) (-1) (nI i + 1) 1 fu s (nI (mnd B T i).length) 0 = some (nI (mnd B T (t_c T)).length, s') ∧ mnR s' (mnd B T (t_c T)) ∧ Sm [54] [] s s' := by
        intro hz
        have eW : mnW B T i = addW (mnd B T i) (t_w T i) := by unfold mnW; rw [if_pos hz]
        obtain ⟨s1, c1, c2, c3⟩ := mends_T hT hx q (nI i + 1) (mpK (fun (s85 : Sg) (v86 : Int32) => some (v86, s85)) n (nI i + 1)) hm (by omega)
        rw [eW] at hlenW
        obtain ⟨s2, d1, d2, d3⟩ := mends_pt hT (c3.tx (by decide) hx) (i := i) (x := 1) (X := 1) rfl (by omega) (by omega) (fun (s85 : Sg) (v86 : Int32) => some (v86, s85)) n c2 (by omega)
        have v2 := c3.tr d3
        have e : addW (mnd B T i) (t_w T i) ++ pt T (i + 1 - 1) = mnd B T (i + 1) := by rw [mnd_p, eW]; rfl
        rw [e] at d1 d2
        obtain ⟨s3, b1, b2, b3⟩ := ih (i + 1) s2 (by omega) (by omega) (v2.bk (by decide) hb) (v2.tx (by decide) hx) (by rw [v2.1 53 (by decide)]; exact hc) (ins_nx hz) d2
        exact ⟨s3, c1.trans (d1.trans b1), b2, v2.tr b3⟩
      rcases ch_or (T := T) hB i with ⟨g1, -⟩ | ⟨-, t, ht, hf, -, g1, g2, g3⟩
      · rw [g1, if_pos rfl]
        dsimp only
        rw [jn_s, if_pos rfl]
        dsimp only
        rw [jn_s, if_pos rfl]
        exact asis (hi g1)
      · have hn := (hB.2.2.1 t ht).1
        have hne : ch B T i ≠ -1 := by rw [g1]; exact nI_m1 (by omega)
        have ho := ov_s hne
        rw [g1] at ho
        have hins := ins_t (by omega) ho
        rw [g1, if_neg (nI_m1 (by omega)), termAt8_s, cP_s, nI_p3, rI_n (by omega) (by decide), (hb.2.2.1 t ht).2.2.2.1]
        rcases pr_ok hB ht with hp | ⟨v, hv, hp⟩
        · rw [hp]
          dsimp only
          rw [jn_s, if_pos rfl]
          dsimp only
          rw [jn_s, if_pos rfl]
          exact asis (by rw [hins, hp])
        · have hnv := (hB.2.2.1 v hv).1
          have hif := hf.1
          rw [hp]
          dsimp only
          rw [jn_s, if_neg (nI_m1 (by omega)), cP_s, nI_p0, rI_n (by omega) (by decide), (hb.2.2.1 t ht).1]
          dsimp only
          rw [jn_s, if_neg (nI_m1 (by omega)), termAt8_s, cP_s, nI_p0, rI_n (by omega) (by decide), (hb.2.2.1 v hv).1]
          obtain ⟨s1, c1, c2, c3⟩ := mends_B hB hb hv (nI i) (nI i + nI (b_n B t)) (mpK (fun (s85 : Sg) (v86 : Int32) => some (v86, s85)) n (nI i + nI (b_n B t))) hm (by omega)
          have hl3 := addT_len (mnd B T i) (b_w B v) (b_n B v)
          have hl4 := (hB.2.2.1 v hv).2.2.2.2.2
          obtain ⟨s2, d1, d2, d3⟩ := mends_pt hT (c3.tx (by decide) hx) (i := i) (x := b_n B t) (X := nI (b_n B t)) rfl (by omega) hif (fun (s85 : Sg) (v86 : Int32) => some (v86, s85)) n c2 (by omega)
          have v2 := c3.tr d3
          have hj := mnd_j hB ht hf g1 g2 hv hp (b_n B t - 1) (by omega)
          rw [show i + 1 + (b_n B t - 1) = i + b_n B t by omega, show i + (b_n B t - 1) = i + b_n B t - 1 by omega] at hj
          rw [← hj] at d1 d2
          have hfr := fr_in g2 (b_n B t - 1) (by omega)
          rw [show i + 1 + (b_n B t - 1) = i + b_n B t by omega] at hfr
          obtain ⟨s3, b1, b2, b3⟩ := ih (i + b_n B t) s2 hif (by omega) (v2.bk (by decide) hb) (v2.tx (by decide) hx) (by rw [v2.1 53 (by decide)]; exact hc) (fun hcn => by
            refine ins_f (ov_0 hB ?_)
            rcases ch_or (T := T) hB (i + b_n B t) with ⟨-, k2, -⟩ | ⟨-, u, hu, -, -, k1, -⟩
            · omega
            · rw [hcn] at k1; exact absurd k1.symm (nI_m1 (by omega))) d2
          exact ⟨s3, c1.trans (d1.trans b1), b2, v2.tr b3⟩
    · have : i = t_c T := by omega
      subst this
      rw [if_pos (nI_le (Nat.le_refl _) (by omega))]
      exact ⟨s, rfl, hm, Sm.rf⟩
theorem mends8_s {s : Sg} (hB : Bok B) (hT : Tok T) (hb : bookP (s.1 44) B) (hx : txR s T) : ∃ s', f_X8_mends s = some (nI (mnd B T (t_c T)).length, s') ∧ mnR s' (mnd B T (t_c T)) ∧ Sm [51, 52, 53, 54] [] s s' := by
  have h60 := hT.1
  obtain ⟨s1, a1, a2, a3, a4⟩ := choose8_s hB hT hb hx
  obtain ⟨s2, b1, b2, b3⟩ := mends_L8 hB hT fu 0 s1 (Nat.zero_le _) (by unfold fu; omega) (a2.bk (by decide) hb) (a2.tx (by decide) hx) a4 (fun g => by
    unfold ins
    rw [ov, if_pos g]) (by intro i x h; rw [mnd] at h; simp at h)
  refine ⟨s2, ?_, b2, (a2.up (by decide) (by decide)).tr (b3.up (by decide) (by decide))⟩
  unfold f_X8_mends
  rw [a1, cA_s]
  exact b1
theorem InvR.c9 {a b : Sg} {M : Ms} (h : InvR a M) (u : Sm [51, 52, 53, 54] [] a b) : InvR b M := by
  unfold InvR
  rw [u.1 43 (by decide), u.1 44 (by decide), u.1 45 (by decide), u.1 46 (by decide), u.1 47 (by decide), u.1 48 (by decide)]
  exact h
end MW
