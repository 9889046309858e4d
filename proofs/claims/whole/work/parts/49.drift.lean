/-! drift -/
def nx (v : Nat) : Nat := v * 16807 % 2147483647
theorem nx_lt (v : Nat) : nx v < 2147483647 := Nat.mod_lt _ (by decide)
theorem nx_l {v : Nat} (hv : v < 2147483647) : (lN v * (16807 : Int64)) - (lN v * (16807 : Int64)) / (2147483647 : Int64) * (2147483647 : Int64) = lN (nx v) := by
  rw [liL 16807, lN_mul, liL 2147483647, pk_lRem (by omega) (by decide) (by decide)]; rfl
theorem rm_l {v m : Nat} (hv : v < 2147483647) (h0 : 0 < m) (hm : m < 2 ^ 31) : lN v - lN v / lN m * lN m = lN (v % m) := pk_lRem (by omega) h0 (by omega)
/-- the first i letters of a word come -/
def addN (T : Tx) (w : List Nat) : Nat → Tx
  | 0 => T
  | i + 1 => addL (addN T w i) (w[i]?.getD 1)
theorem addL_c {T : Tx} {x : Nat} : t_c (addL T x) = t_c T := by unfold addL; split <;> rfl
theorem addN_c {T : Tx} {w : List Nat} : ∀ i, t_c (addN T w i) = t_c T
  | 0 => rfl
  | i + 1 => by rw [addN, addL_c, addN_c i]
theorem addN_ex {T : Tx} {w : List Nat} : ∀ i, exX T (addN T w i)
  | 0 => exX.rf
  | i + 1 => (addN_ex i).tr addL_ex
theorem addN_ok {T : Tx} {w : List Nat} (hT : Tok T) (hc : t_c T < 60) (hw : lok1 w) : ∀ i, i ≤ w.length → Tok (addN T w i)
  | 0, _ => hT
  | i + 1, h => addL_ok (addN_ok hT hc hw i (by omega)) (by
      have : w[i]? = some w[i] := List.getElem?_eq_getElem (by omega)
      rw [this]
      exact hw _ (List.mem_of_getElem? this)) (by rw [addN_c]; exact hc)
/-- one lot -/
def dst (B : Bk) (T : Tx) (v : Nat) : Tx × Nat × Nat :=
  if nx v % 8 = 0 then (tak T 46, nx v, 1)
  else if b_tc B = 0 then (T, nx v, 1)
  else if t_c T = 60 then (T, nx v, 0)
  else
    let t := nx (nx v) % b_tc B
    let k := nx (nx (nx v)) % b_n B t
    let T1 := addN T (b_w B t k) (b_w B t k).length
    let v4 := nx (nx (nx (nx v)))
    if v4 % 3 = 0 ∧ 0 < b_ec B then (tak (addN T1 (b_en B (nx v4 % b_ec B)) (b_en B (nx v4 % b_ec B)).length) 32, nx v4, 1)
    else (tak T1 32, v4, 1)
def dlo (B : Bk) : Nat → Tx → Nat → Tx
  | 0, T, _ => T
  | n + 1, T, v => if (dst B T v).2.2 = 0 then (dst B T v).1 else dlo B n (dst B T v).1 (dst B T v).2.1
theorem nl46 : ¬ ((97 : Int32) ≤ 46 ∧ (46 : Int32) ≤ 122) := by decide
theorem nl32 : ¬ ((97 : Int32) ≤ 32 ∧ (32 : Int32) ≤ 122) := by decide
theorem dst_p {B : Bk} {T : Tx} {v : Nat} (hB : Bok B) (hT : Tok T) : Tok (dst B T v).1 ∧ exX T (dst B T v).1 ∧ (dst B T v).2.1 < 2147483647 := by
  unfold dst
  by_cases h1 : nx v % 8 = 0
  · rw [if_pos h1]; exact ⟨tak_ok hT (fun z => absurd z nl46), tak_ex, nx_lt _⟩
  · rw [if_neg h1]
    by_cases h2 : b_tc B = 0
    · rw [if_pos h2]; exact ⟨hT, exX.rf, nx_lt _⟩
    · rw [if_neg h2]
      by_cases h3 : t_c T = 60
      · rw [if_pos h3]; exact ⟨hT, exX.rf, nx_lt _⟩
      · rw [if_neg h3]
        have hc : t_c T < 60 := by have := hT.1; omega
        have ht : nx (nx v) % b_tc B < b_tc B := Nat.mod_lt _ (by omega)
        have hk : nx (nx (nx v)) % b_n B (nx (nx v) % b_tc B) < b_n B (nx (nx v) % b_tc B) := Nat.mod_lt _ (hB.2.2.1 _ ht).1.1
        have hw := (hB.2.2.1 _ ht).2.2.2.2.1 _ hk
        have q1 := addN_ok hT hc hw.1 _ (Nat.le_refl _)
        dsimp only
        split
        · rename_i h4
          have he := hB.2.2.2 _ (Nat.mod_lt (nx (nx (nx (nx (nx v))))) h4.2)
          exact ⟨tak_ok (addN_ok q1 (by rw [addN_c]; exact hc) he.1 _ (Nat.le_refl _)) (fun z => absurd z nl32), ((addN_ex _).tr (addN_ex _)).tr tak_ex, nx_lt _⟩
        · exact ⟨tak_ok q1 (fun z => absurd z nl32), (addN_ex _).tr tak_ex, nx_lt _⟩
theorem dlo_p {B : Bk} (hB : Bok B) : ∀ n T v, Tok T → Tok (dlo B n T v) ∧ exX T (dlo B n T v)
  | 0, T, v, hT => ⟨hT, exX.rf⟩
  | n + 1, T, v, hT => by
    obtain ⟨h1, h2, -⟩ := dst_p (v := v) hB hT
    rw [dlo]
    split
    · exact ⟨h1, h2⟩
    · obtain ⟨g1, g2⟩ := dlo_p hB n _ (dst B T v).2.1 h1
      exact ⟨g1, h2.tr g2⟩
section D7
variable {s : Sg} {B : Bk} {T : Tx}
theorem below7_s {v m : Nat} (hx : s.2 42 0 = lN v) (hv : v < 2147483647) (h0 : 0 < m) (hm : m < 2 ^ 31) : ∃ s', f_X2_below s (nI m) = some (nI (nx v % m), s') ∧ s'.2 42 0 = lN (nx v) ∧ Sm [] [42] s s' := by
  refine ⟨sL s 42 0 (lN (nx v)), ?_, ?_, Sm.rf.l (by decide)⟩
  · unfold f_X2_below
    rw [hx, nx_l hv, pL_s, if_neg (fun z => by have := (c_le 0 hm (by decide)).mp z; omega), nI_l hm, sL_2, if_pos ⟨rfl, rfl⟩, rm_l (nx_lt _) h0 hm, lN_i, mH_t]
    intro z
    have := (lN_eq hm (by decide)).mp (show lN m = lN 0 from z)
    omega
  · rw [sL_2, if_pos ⟨rfl, rfl⟩]
theorem takeLetters7_s (h : txtC s T) (hT : Tok T) (hc : t_c T < 60) {w : List Nat} (hw : lok1 w) (hl : w.length ≤ 12) : ∃ s', f_X6_takeLetters s (eL w) = some ((), s') ∧ txtC s' (addN T w w.length) ∧ Sm [26] [26] s s' := by
  have key : ∀ n i s2, i ≤ w.length → w.length < n + i → txtC s2 (addN T w i) → Sm [26] [26] s s2 → ∃ s', f_X6_takeLetters_L8 (fun (s9 : Sg) => some ((), s9)) (eL w) (nI w.length) n s2 (nI i) = some ((), s') ∧ txtC s' (addN T w w.length) ∧ Sm [26] [26] s s' := by
    intro n
    induction n with
    | zero => intro i s2 h1 h2; omega
    | succ n ih =>
      intro i s2 h1 h2 a1 a2
      rw [f_X6_takeLetters_L8]
      rcases Nat.lt_or_ge i w.length with q | q
      · have gi : w[i]? = some w[i] := List.getElem?_eq_getElem q
        have x1 := hw _ (List.mem_of_getElem? gi)
        rw [if_neg (fun z => by have := (nI_leI (by omega) (by omega)).mp z; omega), at_s hw hl (by omega), show letA w i = nI (w[i] + 96) by unfold letA; rw [gi]]
        obtain ⟨s3, d1, d2, d3⟩ := addLetter7_s a1 (addN_ok hT hc hw i (by omega)) x1
        rw [cP_s, d1, cA_s, nI_1]
        refine ih (i + 1) s3 (by omega) (by omega) ?_ (a2.tr d3)
        rw [addN, gi]
        exact d2
      · have : i = w.length := by omega
        subst this
        rw [if_pos (nI_le (Nat.le_refl _) (by omega))]
        exact ⟨s2, rfl, a1, a2⟩
  unfold f_X6_takeLetters
  rw [sizeOf_s hw hl, cP_s]
  exact key fu 0 s (Nat.zero_le _) (by unfold fu; omega) h Sm.rf
theorem takeLot7_s {v : Nat} (h : txtC s T) (hT : Tok T) (hl : lexC s B) (hB : Bok B) (hx : s.2 42 0 = lN v) (hv : v < 2147483647) : ∃ s', f_X7_takeLot s = some (nI (dst B T v).2.2, s') ∧ txtC s' (dst B T v).1 ∧ s'.2 42 0 = lN (dst B T v).2.1 ∧ Sm [26, 28, 29] [26, 27, 42] s s' := by
  have n10 : ¬ (1 : Int32) = 0 := by decide
  have h8 := hB.1
  have h5 := hB.2.1
  have h60 := hT.1
  obtain ⟨s1, e1, x1, u1⟩ := below7_s (m := 8) hx hv (by decide) (by decide)
  have t1 := u1.txt (by decide) (by decide) h
  have l1 := u1.lex (by decide) (by decide) hl
  have v1 : Sm [26, 28, 29] [26, 27, 42] s s1 := u1.up (by decide) (by decide)
  have e1 : f_X2_below s 8 = some (nI (nx v % 8), s1) := e1
  unfold f_X7_takeLot f_X6_hasRoom dst
  rw [e1, cA_s]
  by_cases h1 : nx v % 8 = 0
  · obtain ⟨s2, e2, t2, u2⟩ := take7_s (a := 46) t1 hT
    rw [if_pos (by rw [h1]; rfl), if_pos h1, e2, cA_s]
    exact ⟨s2, rfl, t2, by rw [u2.2 42 (by decide)]; exact x1, v1.tr (u2.up (by decide) (by decide))⟩
  · have hlt := Nat.mod_lt (nx v) (show 0 < 8 by decide)
    rw [if_neg (fun z => h1 ((c_eq 0 (by omega) (by decide)).mp z)), if_neg h1, l1.1]
    by_cases h2 : b_tc B = 0
    · rw [if_pos (by rw [h2]; rfl), if_pos h2]
      exact ⟨s1, rfl, t1, x1, v1⟩
    · rw [if_neg (fun z => h2 ((c_eq 0 (by omega) (by decide)).mp z)), if_neg h2, t1.1]
      by_cases h3 : t_c T = 60
      · rw [if_pos (by rw [h3]; decide), cP_s, if_pos rfl, if_pos h3]
        exact ⟨s1, rfl, t1, x1, v1⟩
      · have hc : t_c T < 60 := by omega
        rw [if_neg (fun z => by have := (c_ge 60 (by omega) (by decide)).mp z; omega), cP_s, if_neg n10, if_neg h3]
        obtain ⟨s2, e2, x2, u2⟩ := below7_s (m := b_tc B) x1 (nx_lt _) (by omega) (by omega)
        have t2 := u2.txt (by decide) (by decide) t1
        have l2 := u2.lex (by decide) (by decide) l1
        have v2 : Sm [26, 28, 29] [26, 27, 42] s s2 := v1.tr (u2.up (by decide) (by decide))
        have ht : nx (nx v) % b_tc B < b_tc B := Nat.mod_lt _ (by omega)
        have hk : nx (nx (nx v)) % b_n B (nx (nx v) % b_tc B) < b_n B (nx (nx v) % b_tc B) := Nat.mod_lt _ (hB.2.2.1 _ ht).1.1
        have hn := (hB.2.2.1 _ ht).1
        have hw := (hB.2.2.1 _ ht).2.2.2.2.1 _ hk
        rw [e2, cA_s, rI_n (by omega) (by decide), (l2.2.2.1 _ ht).1]
        obtain ⟨s3, e3, x3, u3⟩ := below7_s (m := b_n B (nx (nx v) % b_tc B)) x2 (nx_lt _) (by omega) (by omega)
        have t3 := u3.txt (by decide) (by decide) t2
        have l3 := u3.lex (by decide) (by decide) l2
        have v3 : Sm [26, 28, 29] [26, 27, 42] s s3 := v2.tr (u3.up (by decide) (by decide))
        obtain ⟨s4, e4, t4, u4⟩ := takeLetters7_s t3 hT hc hw.1 hw.2.2
        have x4 : s4.2 42 0 = lN (nx (nx (nx v))) := by rw [u4.2 42 (by decide)]; exact x3
        have l4 := u4.lex (by decide) (by decide) l3
        have v4 : Sm [26, 28, 29] [26, 27, 42] s s4 := v3.tr (u4.up (by decide) (by decide))
        have q4 := addN_ok hT hc hw.1 _ (Nat.le_refl _)
        obtain ⟨s5, e5, x5, u5⟩ := below7_s (m := 3) x4 (nx_lt _) (by decide) (by decide)
        have t5 := u5.txt (by decide) (by decide) t4
        have l5 := u5.lex (by decide) (by decide) l4
        have v5 : Sm [26, 28, 29] [26, 27, 42] s s5 := v4.tr (u5.up (by decide) (by decide))
        have e5 : f_X2_below s4 3 = some _ := e5
        rw [e3, cA_s, wordOf7_s l3 hB ht hk, cP_s, e4, cA_s, e5, cA_s, l5.2.1]
        simp only [jn_s]
        have hlt3 := Nat.mod_lt (nx (nx (nx (nx v)))) (show 0 < 3 by decide)
        by_cases h4 : nx (nx (nx (nx v))) % 3 = 0 ∧ 0 < b_ec B
        · rw [if_pos (by rw [h4.1]; rfl), if_neg (fun z => by have := (c_le 0 (by omega) (by decide)).mp z; omega), if_pos h4]
          obtain ⟨s6, e6, x6, u6⟩ := below7_s (m := b_ec B) x5 (nx_lt _) h4.2 (by omega)
          have t6 := u6.txt (by decide) (by decide) t5
          have l6 := u6.lex (by decide) (by decide) l5
          have he : nx (nx (nx (nx (nx v)))) % b_ec B < b_ec B := Nat.mod_lt _ h4.2
          have hw2 := hB.2.2.2 _ he
          rw [e6, cA_s, rL_n (by omega) (by decide), l6.2.2.2 _ he]
          obtain ⟨s7, e7, t7, u7⟩ := takeLetters7_s t6 q4 (by rw [addN_c]; exact hc) hw2.1 (Nat.le_trans hw2.2.2 (by decide))
          obtain ⟨s8, e8, t8, u8⟩ := take7_s (a := 32) t7 (addN_ok q4 (by rw [addN_c]; exact hc) hw2.1 _ (Nat.le_refl _))
          rw [e7, cA_s, e8, cA_s]
          exact ⟨s8, rfl, t8, by rw [u8.2 42 (by decide), u7.2 42 (by decide)]; exact x6, ((v5.tr (u6.up (by decide) (by decide))).tr (u7.up (by decide) (by decide))).tr (u8.up (by decide) (by decide))⟩
        · rw [if_neg h4]
          obtain ⟨s8, e8, t8, u8⟩ := take7_s (a := 32) t5 q4
          rw [e8, cA_s]
          refine ⟨s8, ?_, t8, by rw [u8.2 42 (by decide)]; exact x5, v5.tr (u8.up (by decide) (by decide))⟩
          by_cases h6 : nx (nx (nx (nx v))) % 3 = 0
          · rw [if_pos (by rw [h6]; rfl), if_pos ((c_le 0 (by omega) (by decide)).mpr (by have := fun z => h4 ⟨h6, z⟩; omega))]
            rfl
          · rw [if_neg (fun z => h6 ((c_eq 0 (by omega) (by decide)).mp z))]
            rfl
theorem drift7_L {c : Nat} (hc : c ≤ 30) (kk : Sg → Option (Int32 × Sg)) (hB : Bok B) : ∀ n i s T v, i ≤ c → c < n + i → txtC s T → Tok T → lexC s B → s.2 42 0 = lN v → v < 2147483647 → ∃ s', f_X7_drift_L38 kk (nI c) n s 1 (nI i) = kk s' ∧ txtC s' (dlo B (c - i) T v) ∧ Sm [26, 28, 29] [26, 27, 42] s s' := by
  intro n
  induction n with
  | zero => intro i s T v h1 h2; omega
  | succ n ih =>
    intro i s T v h1 h2 h3 h4 h5 h6 h7
    rw [f_X7_drift_L38]
    rcases Nat.lt_or_ge i c with q | q
    · rw [if_neg (fun z => by have := (nI_leI (by omega) (by omega)).mp z; omega), if_neg (by decide)]
      obtain ⟨s1, e1, e2, e3, e4⟩ := takeLot7_s h3 h4 h5 hB h6 h7
      obtain ⟨p1, p2, p3⟩ := dst_p (v := v) hB h4
      rw [e1, cA_s, nI_1, show c - i = (c - (i + 1)) + 1 by omega, dlo]
      by_cases z : (dst B T v).2.2 = 0
      · rw [if_pos z, z]
        refine ⟨s1, ?_, e2, e4⟩
        cases n with
        | zero => omega
        | succ n =>
          rw [f_X7_drift_L38]
          by_cases y : nI c ≤ nI (i + 1)
          · rw [if_pos y]
          · rw [if_neg y, if_pos (show nI 0 = (0 : Int32) from rfl)]
      · have z1 : (dst B T v).2.2 = 1 := by
          revert z
          unfold dst
          dsimp only
          repeat' split
          all_goals simp
        rw [if_neg z, z1]
        obtain ⟨s2, d1, d2, d3⟩ := ih (i + 1) s1 _ _ (by omega) (by omega) e2 p1 (e4.lex (by decide) (by decide) h5) e3 p3
        exact ⟨s2, d1, d2, e4.tr d3⟩
    · have : i = c := by omega
      subst this
      rw [if_pos (nI_le (Nat.le_refl _) (by omega)), Nat.sub_self]
      exact ⟨s, rfl, h3, Sm.rf⟩
end D7
