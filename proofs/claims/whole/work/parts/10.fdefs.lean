def f_X0_isLetter (σ : Sg) (a1 : Int32) : Option Int32 :=
  if a1 < 97 then (some 0) else (if 122 < a1 then (some 0) else (some 1))
def f_X5_add (σ : Sg) (a1 : Int32) : Option (Int32 × Sg) :=
  if (σ.1 1 1) < 50 then (wI σ 2 50 (σ.1 1 1) a1 fun s1 => (pI s1 1 1 ((s1.1 1 1) + 1) fun s4 => (some (1, s4)))) else (some (0, σ))
def f_X7_spell (σ : Sg) (a1 : Int32) : Option (Int32 × Sg) :=
  cP (f_X0_isLetter σ a1) fun x1 => (jn (cA (f_X5_add σ a1) fun x4 s6 => (if x4 = 0 then (some ((-1000000004 : Int32), s6)) else (some ((s6.1 1 1), s6)))) fun k3 => (if x1 = 0 then (if a1 = 32 then (k3) else (some ((-1000000002 : Int32), σ))) else (k3)))
def f_X8_in (σ : Sg) (a1 : Int32) (a2 : Int32) (a3 : Int32) : Option Int32 :=
  if a1 < a2 then (some 0) else (if a3 < a1 then (some 0) else (some 1))
def f_X8_isLetter (σ : Sg) (a1 : Int32) : Option Int32 :=
  cP (f_X8_in σ a1 97 122) fun x1 => (mH (x1 = 0 ∨ x1 = 1) (some x1))
def f_X8_spell (σ : Sg) (a1 : Int32) : Option (Int32 × Sg) :=
  cP (f_X8_isLetter σ a1) fun x1 => (jn (if (σ.1 43 4) = 50 then (some ((-1000000004 : Int32), σ)) else (wI σ 47 50 (σ.1 43 4) a1 fun s4 => (pI s4 43 4 ((s4.1 43 4) + 1) fun s7 => (some ((s7.1 43 4), s7))))) fun k3 => (if x1 = 0 then (if a1 = 32 then (k3) else (some ((-1000000002 : Int32), σ))) else (k3)))
def f_X7_isWeight (σ : Sg) (a1 : Int32) : Option Int32 :=
  if a1 < 1 then (some 0) else (if 9 < a1 then (some 0) else (some 1))
def f_X7_isBent (σ : Sg) (a1 : Int32) : Option Int32 :=
  if a1 = 0 then (some 1) else (if a1 = 1 then (some 1) else (some 0))
def f_X0_with (σ : Sg) (a1 : Int64) (a2 : Int32) (a3 : Int32) : Option Int64 :=
  if a2 < 0 then (some a1) else (if a2 < 12 then (some (a1 ||| ((Int32.toInt64 (a3 - 96)) <<< ((Int32.toInt64 (5 * a2)) &&& 63)))) else (some a1))
def f_X5_takeWords_L9 (k : Sg → Int32 → Int32 → Option (Int32 × Sg)) : Nat → Sg → Int32 → Int32 → Int32 → Int32 → Option (Int32 × Sg)
  | 0, _, _, _, _, _ => none
  | n + 1, s, i1, i2, i3, i4 =>
  if (s.1 1 1) ≤ i4 then (k s i1 i3) else (rI s 2 50 i4 fun x1 => (if x1 = 32 then (f_X5_takeWords_L9 k n (s) (i1) (0) (i3) ((i4 + 1))) else (jn (fun (v5 : Int32) => jn (fun (v7 : Int32) => if v7 = 0 then (f_X5_takeWords_L9 k n (s) (v5) ((i2 + 1)) (v7) ((i4 + 1))) else (jn (fun (v9 : Int64) => rI s 2 50 i4 fun x10 => (cP (f_X0_with s v9 ((i2 + 1) - 1) x10) fun x13 => (wL s 3 4 (v5 - 1) x13 fun s15 => (f_X5_takeWords_L9 k n (s15) (v5) ((i2 + 1)) (v7) ((i4 + 1)))))) fun k8 => (if (i2 + 1) = 1 then (k8 0) else (rL s 3 4 (v5 - 1) fun x18 => (k8 x18))))) fun k6 => (if i3 = 0 then (k6 0) else (if 12 < (i2 + 1) then (k6 0) else (if 4 < v5 then (k6 0) else (k6 1))))) fun k4 => (if i2 = 0 then (k4 (i1 + 1)) else (k4 i1)))))
def f_X5_takeWords (σ : Sg)  : Option (Int32 × Sg) :=
  f_X5_takeWords_L9 (fun (s29 : Sg) (v30 : Int32) (v31 : Int32) => pI s29 1 1 0 fun s32 => (if v31 = 0 then (some (0, s32)) else (some (v30, s32)))) fu σ 0 0 1 0
def f_X1_wordOf (σ : Sg) (a1 : Int32) (a2 : Int32) : Option Int64 :=
  rL σ 5 32 ((a1 * 4) + a2) fun x1 => (some x1)
def f_X1_hasWords_L2 (k : Option Int32) (σ : Sg) (c1 : Int32) : Nat → Int32 → Option Int32
  | 0, _ => none
  | n + 1, i3 =>
  rI σ 6 8 c1 fun x1 => (if x1 ≤ i3 then (k) else (if 4 ≤ i3 then (k) else (cP (f_X1_wordOf σ c1 i3) fun x4 => (rL σ 3 4 i3 fun x6 => (if (lg_cmp x4 x6) = 0 then (f_X1_hasWords_L2 k σ c1 n ((i3 + 1))) else (some 0))))))
def f_X1_hasWords (σ : Sg) (a1 : Int32) : Option Int32 :=
  f_X1_hasWords_L2 (some 1) σ a1 fu 0
def f_X1_hasTerm_L2 (k : Option Int32) (σ : Sg) (c2 : Int32) : Nat → Int32 → Option Int32
  | 0, _ => none
  | n + 1, i3 =>
  if (σ.1 4 0) ≤ i3 then (k) else (rI σ 6 8 i3 fun x1 => (if x1 = c2 then (cP (f_X1_hasWords σ i3) fun x4 => (if x4 = 0 then (f_X1_hasTerm_L2 k σ c2 n ((i3 + 1))) else (some 1))) else (f_X1_hasTerm_L2 k σ c2 n ((i3 + 1)))))
def f_X1_hasTerm (σ : Sg) (a1 : Int32) : Option Int32 :=
  f_X1_hasTerm_L2 (some 0) σ a1 fu 0
def f_X1_addTerm_4_3_L20 (k : Sg → Option (Int32 × Sg)) (c2 : Int32) (c3 : Int32) (c4 : Int32) (c5 : Int32) : Nat → Sg → Int32 → Option (Int32 × Sg)
  | 0, _, _ => none
  | n + 1, s, i6 =>
  if c2 ≤ i6 then (k s) else (if 4 ≤ i6 then (k s) else (rL s 3 4 i6 fun x1 => (wL s 5 32 ((c5 * 4) + i6) x1 fun s4 => (f_X1_addTerm_4_3_L20 k c2 c3 c4 c5 n (s4) ((i6 + 1))))))
def f_X1_addTerm_4_3 (σ : Sg) (a1 : Int32) (a2 : Int32) (a3 : Int32) : Option (Int32 × Sg) :=
  if (σ.1 4 0) < 8 then (f_X1_addTerm_4_3_L20 (fun (s9 : Sg) => wI s9 6 8 (σ.1 4 0) a1 fun s10 => (wI s10 7 8 (σ.1 4 0) a2 fun s13 => (wI s13 8 8 (σ.1 4 0) a3 fun s16 => (wI s16 9 8 (σ.1 4 0) (-1) fun s19 => (pI s19 4 0 ((s19.1 4 0) + 1) fun s22 => (some ((σ.1 4 0), s22))))))) a1 a2 a3 (σ.1 4 0) fu σ 0) else (some ((-1), σ))
def f_X4_forget (σ : Sg)  : Option (Unit × Sg) :=
  pI σ 30 2 0 fun s1 => (pI s1 30 3 0 fun s3 => (some ((), s3)))
def f_X3_forget (σ : Sg)  : Option (Unit × Sg) :=
  pI σ 40 5 0 fun s1 => (some ((), s1))
def f_X7_termsChanged (σ : Sg)  : Option (Unit × Sg) :=
  cA (f_X4_forget σ) fun x1 s3 => (cA (f_X3_forget s3) fun x4 s6 => (some ((), s6)))
def f_X7_term (σ : Sg) (a1 : Int32) (a2 : Int32) : Option (Int32 × Sg) :=
  cP (f_X7_isWeight σ a1) fun x1 => (if x1 = 0 then (some ((-1000000002 : Int32), σ)) else (cP (f_X7_isBent σ a2) fun x3 => (if x3 = 0 then (some ((-1000000002 : Int32), σ)) else (cA (f_X5_takeWords σ) fun x5 s7 => (if x5 = 0 then (some ((-1000000003 : Int32), s7)) else (cP (f_X1_hasTerm s7 x5) fun x8 => (if x8 = 0 then (cA (f_X1_addTerm_4_3 s7 x5 a1 a2) fun x10 s12 => (if x10 = (-1) then (some ((-1000000004 : Int32), s12)) else (cA (f_X7_termsChanged s12) fun x13 s15 => (some (x10, s15))))) else (some ((-1000000003 : Int32), s7)))))))))
def f_X8_parts_L6 (k : Sg → Int32 → Option (Int32 × Sg)) : Nat → Sg → Int32 → Int32 → Int32 → Option (Int32 × Sg)
  | 0, _, _, _, _ => none
  | n + 1, s, i1, i2, i3 =>
  if (s.1 43 4) ≤ i3 then (k s i1) else (rI s 47 50 i3 fun x1 => (jn (fun (v5 : Int32) => jn (fun (s7 : Sg) (v8 : Int32) => jn (fun (s10 : Sg) => f_X8_parts_L6 k n (s10) (v8) (v5) ((i3 + 1))) fun k9 => (if v5 = 0 then (k9 s7) else (rI s7 50 25 (v8 - 1) fun x11 => (wI s7 50 25 (v8 - 1) (x11 + 1) fun s14 => (k9 s14))))) fun k6 => (if v5 = 0 then (k6 s i1) else (if i2 = 0 then (wI s 49 25 i1 i3 fun s18 => (wI s18 50 25 i1 0 fun s21 => (k6 s21 (i1 + 1)))) else (k6 s i1)))) fun k4 => (if x1 = 32 then (k4 0) else (k4 1))))
def f_X8_parts (σ : Sg)  : Option (Int32 × Sg) :=
  f_X8_parts_L6 (fun (s28 : Sg) (v29 : Int32) => some (v29, s28)) fu σ 0 0 0
def f_X8_termAt (σ : Sg) (a1 : Int32) : Option Int32 :=
  some (2 + (56 * a1))
def f_X8_wordAt (σ : Sg) (a1 : Int32) (a2 : Int32) : Option Int32 :=
  some (((2 + (56 * a1)) + 4) + (13 * a2))
def f_X8_isSame_L24 (k : Int32 → Option Int32) (σ : Sg) (c1 : Int32) (c2 : Int32) : Nat → Int32 → Int32 → Option Int32
  | 0, _, _ => none
  | n + 1, i3, i4 =>
  rI σ 50 25 c1 fun x9 => (if x9 ≤ i4 then (k i3) else (if i3 = 0 then (k i3) else (rI σ 49 25 c1 fun x12 => (rI σ 47 50 (x12 + i4) fun x15 => (rI σ 44 475 ((c2 + 1) + i4) fun x18 => (if x15 = x18 then (f_X8_isSame_L24 k σ c1 c2 n (1) ((i4 + 1))) else (f_X8_isSame_L24 k σ c1 c2 n (0) ((i4 + 1)))))))))
def f_X8_isSame (σ : Sg) (a1 : Int32) (a2 : Int32) : Option Int32 :=
  rI σ 50 25 a1 fun x1 => (rI σ 44 475 a2 fun x4 => (jn (fun (v8 : Int32) => f_X8_isSame_L24 (fun (v24 : Int32) => mH (v24 = 0 ∨ v24 = 1) (some v24)) σ a1 a2 fu v8 0) fun k7 => (if x1 = x4 then (k7 1) else (k7 0))))
def f_X8_isTermThere_L39 (k : Int32 → Option Int32) (σ : Sg) (c1 : Int32) (c2 : Int32) (c3 : Int32) : Nat → Int32 → Int32 → Option Int32
  | 0, _, _ => none
  | n + 1, i4, i5 =>
  if c1 ≤ i5 then (k i4) else (if i4 = 0 then (k i4) else (cP (f_X8_wordAt σ c3 i5) fun x11 => (cP (f_X8_isSame σ i5 x11) fun x13 => (f_X8_isTermThere_L39 k σ c1 c2 c3 n (x13) ((i5 + 1))))))
def f_X8_isTermThere_L4 (k : Int32 → Option Int32) (σ : Sg) (c1 : Int32) : Nat → Int32 → Int32 → Option Int32
  | 0, _, _ => none
  | n + 1, i2, i3 =>
  rI σ 44 475 0 fun x1 => (if x1 ≤ i3 then (k i2) else (cP (f_X8_termAt σ i3) fun x4 => (rI σ 44 475 (x4 + 0) fun x6 => (jn (fun (v10 : Int32) => f_X8_isTermThere_L39 (fun (v17 : Int32) => jn (fun (v19 : Int32) => f_X8_isTermThere_L4 k σ c1 n (1) ((v19 + 1))) fun k18 => (if i2 = 0 then (if v17 = 0 then (f_X8_isTermThere_L4 k σ c1 n (0) ((i3 + 1))) else (k18 i3)) else (k18 i3))) σ c1 i2 i3 fu v10 0) fun k9 => (if x6 = c1 then (k9 1) else (k9 0))))))
def f_X8_isTermThere (σ : Sg) (a1 : Int32) : Option Int32 :=
  f_X8_isTermThere_L4 (fun (v24 : Int32) => mH (v24 = 0 ∨ v24 = 1) (some v24)) σ a1 fu 0 0
def f_X8_writes_L14 (k : Sg → Option (Unit × Sg)) (c1 : Int32) (c2 : Int32) : Nat → Sg → Int32 → Option (Unit × Sg)
  | 0, _, _ => none
  | n + 1, s, i3 =>
  rI s 50 25 c1 fun x7 => (if x7 ≤ i3 then (k s) else (rI s 49 25 c1 fun x10 => (rI s 47 50 (x10 + i3) fun x13 => (wI s 44 475 ((c2 + 1) + i3) x13 fun s16 => (f_X8_writes_L14 k c1 c2 n (s16) ((i3 + 1)))))))
def f_X8_writes (σ : Sg) (a1 : Int32) (a2 : Int32) : Option (Unit × Sg) :=
  rI σ 50 25 a1 fun x1 => (wI σ 44 475 a2 x1 fun s4 => (f_X8_writes_L14 (fun (s20 : Sg) => some ((), s20)) a1 a2 fu s4 0))
def f_X8_term_L43 (k : Int32 → Option (Int32 × Sg)) (σ : Sg) (c1 : Int32) (c2 : Int32) (c3 : Int32) : Nat → Int32 → Int32 → Option (Int32 × Sg)
  | 0, _, _ => none
  | n + 1, i4, i5 =>
  if c3 ≤ i5 then (k i4) else (jn (fun (v13 : Int32) => f_X8_term_L43 k σ c1 c2 c3 n (0) ((v13 + 1))) fun k12 => (if i4 = 0 then (k12 i5) else (rI σ 50 25 i5 fun x14 => (if 12 < x14 then (k12 i5) else (f_X8_term_L43 k σ c1 c2 c3 n (1) ((i5 + 1)))))))
def f_X8_term_L172 (k : Sg → Option (Int32 × Sg)) (c3 : Int32) (c5 : Int32) : Nat → Sg → Int32 → Option (Int32 × Sg)
  | 0, _, _ => none
  | n + 1, s, i6 =>
  if c3 ≤ i6 then (k s) else (cP (f_X8_wordAt s c5 i6) fun x49 => (cA (f_X8_writes s i6 x49) fun x51 s53 => (f_X8_term_L172 k c3 c5 n (s53) ((i6 + 1)))))
def f_X8_term (σ : Sg) (a1 : Int32) (a2 : Int32) : Option (Int32 × Sg) :=
  cP (f_X8_in σ a1 1 9) fun x1 => (if x1 = 0 then (some ((-1000000002 : Int32), σ)) else (cP (f_X8_in σ a2 0 1) fun x3 => (if x3 = 0 then (some ((-1000000002 : Int32), σ)) else (cA (f_X8_parts σ) fun x5 s7 => (pI s7 43 4 0 fun s8 => (cP (f_X8_in s8 x5 1 4) fun x10 => (f_X8_term_L43 (fun (v20 : Int32) => if v20 = 0 then (some ((-1000000003 : Int32), s8)) else (cP (f_X8_isTermThere s8 x5) fun x21 => (if x21 = 0 then (rI s8 44 475 0 fun x23 => (if x23 = 8 then (some ((-1000000004 : Int32), s8)) else (rI s8 44 475 0 fun x26 => (cP (f_X8_termAt s8 x26) fun x29 => (wI s8 44 475 (x29 + 0) x5 fun s31 => (cP (f_X8_termAt s31 x26) fun x34 => (wI s31 44 475 (x34 + 1) a1 fun s36 => (cP (f_X8_termAt s36 x26) fun x39 => (wI s36 44 475 (x39 + 2) a2 fun s41 => (cP (f_X8_termAt s41 x26) fun x44 => (wI s41 44 475 (x44 + 3) (-1) fun s46 => (f_X8_term_L172 (fun (s55 : Sg) => rI s55 44 475 0 fun x56 => (wI s55 44 475 0 (x56 + 1) fun s59 => (some (x26, s59)))) x5 x26 fu s46 0)))))))))))) else (some ((-1000000003 : Int32), s8))))) s8 a1 a2 x5 fu x10 0)))))))
def f_X0_sizeOf_L2 (k : Option Int32) (σ : Sg) (c0 : Int64) : Nat → Int32 → Option Int32
  | 0, _ => none
  | n + 1, i2 =>
  if 12 ≤ i2 then (k) else (if (lg_cmp ((Int64.toUInt64 c0 >>> ((Int32.toInt64 (5 * i2)).toUInt64 &&& Int64.toUInt64 63)).toInt64) 0) = 0 then (some i2) else (f_X0_sizeOf_L2 k σ c0 n ((i2 + 1))))
def f_X0_sizeOf (σ : Sg) (a1 : Int64) : Option Int32 :=
  f_X0_sizeOf_L2 (some 12) σ a1 fu 0
def f_X1_hasEnding_L2 (k : Option Int32) (σ : Sg) (c1 : Int64) : Nat → Int32 → Option Int32
  | 0, _ => none
  | n + 1, i3 =>
  if (σ.1 4 6) ≤ i3 then (k) else (rL σ 10 5 i3 fun x1 => (if (lg_cmp x1 c1) = 0 then (some 1) else (f_X1_hasEnding_L2 k σ c1 n ((i3 + 1)))))
def f_X1_hasEnding (σ : Sg) (a1 : Int64) : Option Int32 :=
  f_X1_hasEnding_L2 (some 0) σ a1 fu 0
def f_X1_addEnding (σ : Sg) (a1 : Int64) : Option (Int32 × Sg) :=
  if (σ.1 4 6) < 5 then (wL σ 10 5 (σ.1 4 6) a1 fun s1 => (pI s1 4 6 ((s1.1 4 6) + 1) fun s4 => (some (((s4.1 4 6) - 1), s4)))) else (some ((-1), σ))
def f_X7_ending (σ : Sg)  : Option (Int32 × Sg) :=
  cA (f_X5_takeWords σ) fun x1 s3 => (rL s3 3 4 0 fun x4 => (if x1 = 1 then (cP (f_X0_sizeOf s3 x4) fun x7 => (if 4 < x7 then (some ((-1000000003 : Int32), s3)) else (cP (f_X1_hasEnding s3 x4) fun x9 => (if x9 = 0 then (cA (f_X1_addEnding s3 x4) fun x11 s13 => (if x11 = (-1) then (some ((-1000000004 : Int32), s13)) else (cA (f_X7_termsChanged s13) fun x14 s16 => (some (x11, s16))))) else (some ((-1000000003 : Int32), s3)))))) else (some ((-1000000003 : Int32), s3))))
def f_X8_endingAt (σ : Sg) (a1 : Int32) : Option Int32 :=
  some (450 + (5 * a1))
def f_X8_ending_L33 (k : Int32 → Option (Int32 × Sg)) (σ : Sg) : Nat → Int32 → Int32 → Option (Int32 × Sg)
  | 0, _, _ => none
  | n + 1, i2, i3 =>
  rI σ 44 475 1 fun x8 => (if x8 ≤ i3 then (k i2) else (if i2 = 0 then (k i2) else (cP (f_X8_endingAt σ i3) fun x11 => (cP (f_X8_isSame σ 0 x11) fun x13 => (if x13 = 0 then (f_X8_ending_L33 k σ n (1) ((i3 + 1))) else (f_X8_ending_L33 k σ n (0) ((i3 + 1))))))))
def f_X8_ending (σ : Sg)  : Option (Int32 × Sg) :=
  cA (f_X8_parts σ) fun x1 s3 => (pI s3 43 4 0 fun s4 => (jn (fun (v7 : Int32) => f_X8_ending_L33 (fun (v18 : Int32) => if v18 = 0 then (some ((-1000000003 : Int32), s4)) else (rI s4 44 475 1 fun x19 => (if x19 = 5 then (some ((-1000000004 : Int32), s4)) else (rI s4 44 475 1 fun x22 => (cP (f_X8_endingAt s4 x22) fun x25 => (cA (f_X8_writes s4 0 x25) fun x27 s29 => (rI s29 44 475 1 fun x30 => (wI s29 44 475 1 (x30 + 1) fun s33 => (rI s33 44 475 1 fun x36 => (some ((x36 - 1), s33))))))))))) s4 fu v7 0) fun k6 => (if x1 = 1 then (rI s4 50 25 0 fun x41 => (if 4 < x41 then (k6 0) else (k6 1))) else (k6 0))))
def f_X1_isTerm (σ : Sg) (a1 : Int32) : Option Int32 :=
  if a1 < 0 then (some 0) else (if (σ.1 4 0) ≤ a1 then (some 0) else (some 1))
def f_X1_isPreferred_L2 (k : Option Int32) (σ : Sg) (c1 : Int32) : Nat → Int32 → Option Int32
  | 0, _ => none
  | n + 1, i2 =>
  if (σ.1 4 0) ≤ i2 then (k) else (rI σ 9 8 i2 fun x1 => (if x1 = c1 then (some 1) else (f_X1_isPreferred_L2 k σ c1 n ((i2 + 1)))))
def f_X1_isPreferred (σ : Sg) (a1 : Int32) : Option Int32 :=
  f_X1_isPreferred_L2 (some 0) σ a1 fu 0
def f_X1_copyTerm_4_4 (σ : Sg) (a1 : Int32) (a2 : Int32) : Option (Unit × Sg) :=
  xL4 σ 5 32 5 32 (a1 * 4) (a2 * 4) 4 fun s1 => (rI s1 6 8 a1 fun x4 => (wI s1 6 8 a2 x4 fun s7 => (rI s7 7 8 a1 fun x10 => (wI s7 7 8 a2 x10 fun s13 => (rI s13 8 8 a1 fun x16 => (wI s13 8 8 a2 x16 fun s19 => (rI s19 9 8 a1 fun x22 => (wI s19 9 8 a2 x22 fun s25 => (some ((), s25))))))))))
def f_X1_removeTerm_L2 (k : Sg → Option (Unit × Sg)) (c1 : Int32) : Nat → Sg → Int32 → Option (Unit × Sg)
  | 0, _, _ => none
  | n + 1, s, i2 =>
  if (s.1 4 0) ≤ (i2 + 1) then (k s) else (cA (f_X1_copyTerm_4_4 s (i2 + 1) i2) fun x1 s3 => (f_X1_removeTerm_L2 k c1 n (s3) ((i2 + 1))))
def f_X1_removeTerm_L39 (k : Sg → Option (Unit × Sg)) (c1 : Int32) : Nat → Sg → Int32 → Option (Unit × Sg)
  | 0, _, _ => none
  | n + 1, s, i2 =>
  if (s.1 4 0) ≤ i2 then (k s) else (rI s 9 8 i2 fun x8 => (if x8 ≤ c1 then (f_X1_removeTerm_L39 k c1 n (s) ((i2 + 1))) else (rI s 9 8 i2 fun x11 => (wI s 9 8 i2 (x11 - 1) fun s14 => (f_X1_removeTerm_L39 k c1 n (s14) ((i2 + 1)))))))
def f_X1_removeTerm (σ : Sg) (a1 : Int32) : Option (Unit × Sg) :=
  f_X1_removeTerm_L2 (fun (s5 : Sg) => pI s5 4 0 ((s5.1 4 0) - 1) fun s6 => (f_X1_removeTerm_L39 (fun (s19 : Sg) => some ((), s19)) a1 fu s6 0)) a1 fu σ a1
def f_X7_dropTerm (σ : Sg) (a1 : Int32) : Option (Int32 × Sg) :=
  cP (f_X1_isTerm σ a1) fun x1 => (if x1 = 0 then (some ((-1000000001 : Int32), σ)) else (cP (f_X1_isPreferred σ a1) fun x3 => (if x3 = 0 then (cA (f_X1_removeTerm σ a1) fun x5 s7 => (cA (f_X7_termsChanged s7) fun x8 s10 => (some ((s10.1 4 0), s10)))) else (some ((-1000000003 : Int32), σ)))))
def f_X8_isTerm (σ : Sg) (a1 : Int32) : Option Int32 :=
  rI σ 44 475 0 fun x1 => (cP (f_X8_in σ a1 0 (x1 - 1)) fun x4 => (mH (x4 = 0 ∨ x4 = 1) (some x4)))
def f_X8_isPreferred_L4 (k : Int32 → Option Int32) (σ : Sg) (c1 : Int32) : Nat → Int32 → Int32 → Option Int32
  | 0, _, _ => none
  | n + 1, i2, i3 =>
  rI σ 44 475 0 fun x1 => (if x1 ≤ i3 then (k i2) else (jn (fun (v5 : Int32) => f_X8_isPreferred_L4 k σ c1 n (1) ((v5 + 1))) fun k4 => (if i2 = 0 then (cP (f_X8_termAt σ i3) fun x6 => (rI σ 44 475 (x6 + 3) fun x8 => (if x8 = c1 then (k4 i3) else (f_X8_isPreferred_L4 k σ c1 n (0) ((i3 + 1)))))) else (k4 i3))))
def f_X8_isPreferred (σ : Sg) (a1 : Int32) : Option Int32 :=
  f_X8_isPreferred_L4 (fun (v14 : Int32) => mH (v14 = 0 ∨ v14 = 1) (some v14)) σ a1 fu 0 0
def f_X8_dropTerm_L27 (k : Sg → Option (Int32 × Sg)) (c1 : Int32) : Nat → Sg → Int32 → Option (Int32 × Sg)
  | 0, _, _ => none
  | n + 1, s, i2 =>
  if 450 ≤ (i2 + 56) then (k s) else (rI s 44 475 (i2 + 56) fun x7 => (wI s 44 475 i2 x7 fun s10 => (f_X8_dropTerm_L27 k c1 n (s10) ((i2 + 1)))))
def f_X8_dropTerm_L70 (k : Sg → Option (Int32 × Sg)) (c1 : Int32) : Nat → Sg → Int32 → Option (Int32 × Sg)
  | 0, _, _ => none
  | n + 1, s, i2 =>
  rI s 44 475 0 fun x21 => (if x21 ≤ i2 then (k s) else (cP (f_X8_termAt s i2) fun x24 => (rI s 44 475 (x24 + 3) fun x26 => (rI s 44 475 (x24 + 3) fun x29 => (jn (fun (v33 : Int32) => wI s 44 475 (x24 + 3) (x26 - v33) fun s34 => (f_X8_dropTerm_L70 k c1 n (s34) ((i2 + 1)))) fun k32 => (if x29 ≤ c1 then (k32 0) else (k32 1)))))))
def f_X8_dropTerm (σ : Sg) (a1 : Int32) : Option (Int32 × Sg) :=
  cP (f_X8_isTerm σ a1) fun x1 => (if x1 = 0 then (some ((-1000000001 : Int32), σ)) else (cP (f_X8_isPreferred σ a1) fun x3 => (if x3 = 0 then (cP (f_X8_termAt σ a1) fun x5 => (f_X8_dropTerm_L27 (fun (s14 : Sg) => rI s14 44 475 0 fun x15 => (wI s14 44 475 0 (x15 - 1) fun s18 => (f_X8_dropTerm_L70 (fun (s39 : Sg) => rI s39 44 475 0 fun x40 => (some (x40, s39))) a1 fu s18 0))) a1 fu σ x5)) else (some ((-1000000003 : Int32), σ)))))
def f_X1_isEnding (σ : Sg) (a1 : Int32) : Option Int32 :=
  if a1 < 0 then (some 0) else (if (σ.1 4 6) ≤ a1 then (some 0) else (some 1))
def f_X1_removeEnding_L2 (k : Sg → Option (Unit × Sg)) : Nat → Sg → Int32 → Option (Unit × Sg)
  | 0, _, _ => none
  | n + 1, s, i2 =>
  if (s.1 4 6) ≤ (i2 + 1) then (k s) else (rL s 10 5 (i2 + 1) fun x1 => (wL s 10 5 i2 x1 fun s4 => (f_X1_removeEnding_L2 k n (s4) ((i2 + 1)))))
def f_X1_removeEnding (σ : Sg) (a1 : Int32) : Option (Unit × Sg) :=
  f_X1_removeEnding_L2 (fun (s8 : Sg) => pI s8 4 6 ((s8.1 4 6) - 1) fun s9 => (some ((), s9))) fu σ a1
def f_X7_dropEnding (σ : Sg) (a1 : Int32) : Option (Int32 × Sg) :=
  cP (f_X1_isEnding σ a1) fun x1 => (if x1 = 0 then (some ((-1000000001 : Int32), σ)) else (cA (f_X1_removeEnding σ a1) fun x3 s5 => (cA (f_X7_termsChanged s5) fun x6 s8 => (some ((s8.1 4 6), s8)))))
def f_X8_isEnding (σ : Sg) (a1 : Int32) : Option Int32 :=
  rI σ 44 475 1 fun x1 => (cP (f_X8_in σ a1 0 (x1 - 1)) fun x4 => (mH (x4 = 0 ∨ x4 = 1) (some x4)))
def f_X8_dropEnding_L16 (k : Sg → Option (Int32 × Sg)) : Nat → Sg → Int32 → Option (Int32 × Sg)
  | 0, _, _ => none
  | n + 1, s, i2 =>
  if 475 ≤ (i2 + 5) then (k s) else (rI s 44 475 (i2 + 5) fun x5 => (wI s 44 475 i2 x5 fun s8 => (f_X8_dropEnding_L16 k n (s8) ((i2 + 1)))))
def f_X8_dropEnding (σ : Sg) (a1 : Int32) : Option (Int32 × Sg) :=
  cP (f_X8_isEnding σ a1) fun x1 => (if x1 = 0 then (some ((-1000000001 : Int32), σ)) else (cP (f_X8_endingAt σ a1) fun x3 => (f_X8_dropEnding_L16 (fun (s12 : Sg) => rI s12 44 475 1 fun x13 => (wI s12 44 475 1 (x13 - 1) fun s16 => (rI s16 44 475 1 fun x19 => (some (x19, s16))))) fu σ x3)))
def f_X1_isForbidden (σ : Sg) (a1 : Int32) : Option Int32 :=
  rI σ 9 8 a1 fun x1 => (if x1 = (-1) then (some 0) else (some 1))
def f_X1_forbiddenSet_L4 (k : Int32 → Option Int32) (σ : Sg) : Nat → Int32 → Int32 → Option Int32
  | 0, _, _ => none
  | n + 1, i1, i2 =>
  if (σ.1 4 0) ≤ i2 then (k i1) else (cP (f_X1_isForbidden σ i2) fun x1 => (if x1 = 0 then (f_X1_forbiddenSet_L4 k σ n (i1) ((i2 + 1))) else (f_X1_forbiddenSet_L4 k σ n ((i1 ||| (1 <<< (i2 &&& 31)))) ((i2 + 1)))))
def f_X1_forbiddenSet (σ : Sg)  : Option Int32 :=
  f_X1_forbiddenSet_L4 (fun (v5 : Int32) => some v5) σ fu 0 0
def f_J6_bitCount_0f7a4 (σ : Sg) (a1 : Int32) : Option Int32 :=
  some ((((((((a1 - (((a1.toUInt32 >>> (Int32.toUInt32 1 &&& Int32.toUInt32 31)).toInt32) &&& (1431655765 : Int32))) &&& (858993459 : Int32)) + ((((a1 - (((a1.toUInt32 >>> (Int32.toUInt32 1 &&& Int32.toUInt32 31)).toInt32) &&& (1431655765 : Int32))).toUInt32 >>> (Int32.toUInt32 2 &&& Int32.toUInt32 31)).toInt32) &&& (858993459 : Int32))) + (((((a1 - (((a1.toUInt32 >>> (Int32.toUInt32 1 &&& Int32.toUInt32 31)).toInt32) &&& (1431655765 : Int32))) &&& (858993459 : Int32)) + ((((a1 - (((a1.toUInt32 >>> (Int32.toUInt32 1 &&& Int32.toUInt32 31)).toInt32) &&& (1431655765 : Int32))).toUInt32 >>> (Int32.toUInt32 2 &&& Int32.toUInt32 31)).toInt32) &&& (858993459 : Int32))).toUInt32 >>> (Int32.toUInt32 4 &&& Int32.toUInt32 31)).toInt32)) &&& (252645135 : Int32)) + (((((((a1 - (((a1.toUInt32 >>> (Int32.toUInt32 1 &&& Int32.toUInt32 31)).toInt32) &&& (1431655765 : Int32))) &&& (858993459 : Int32)) + ((((a1 - (((a1.toUInt32 >>> (Int32.toUInt32 1 &&& Int32.toUInt32 31)).toInt32) &&& (1431655765 : Int32))).toUInt32 >>> (Int32.toUInt32 2 &&& Int32.toUInt32 31)).toInt32) &&& (858993459 : Int32))) + (((((a1 - (((a1.toUInt32 >>> (Int32.toUInt32 1 &&& Int32.toUInt32 31)).toInt32) &&& (1431655765 : Int32))) &&& (858993459 : Int32)) + ((((a1 - (((a1.toUInt32 >>> (Int32.toUInt32 1 &&& Int32.toUInt32 31)).toInt32) &&& (1431655765 : Int32))).toUInt32 >>> (Int32.toUInt32 2 &&& Int32.toUInt32 31)).toInt32) &&& (858993459 : Int32))).toUInt32 >>> (Int32.toUInt32 4 &&& Int32.toUInt32 31)).toInt32)) &&& (252645135 : Int32)).toUInt32 >>> (Int32.toUInt32 8 &&& Int32.toUInt32 31)).toInt32)) + ((((((((a1 - (((a1.toUInt32 >>> (Int32.toUInt32 1 &&& Int32.toUInt32 31)).toInt32) &&& (1431655765 : Int32))) &&& (858993459 : Int32)) + ((((a1 - (((a1.toUInt32 >>> (Int32.toUInt32 1 &&& Int32.toUInt32 31)).toInt32) &&& (1431655765 : Int32))).toUInt32 >>> (Int32.toUInt32 2 &&& Int32.toUInt32 31)).toInt32) &&& (858993459 : Int32))) + (((((a1 - (((a1.toUInt32 >>> (Int32.toUInt32 1 &&& Int32.toUInt32 31)).toInt32) &&& (1431655765 : Int32))) &&& (858993459 : Int32)) + ((((a1 - (((a1.toUInt32 >>> (Int32.toUInt32 1 &&& Int32.toUInt32 31)).toInt32) &&& (1431655765 : Int32))).toUInt32 >>> (Int32.toUInt32 2 &&& Int32.toUInt32 31)).toInt32) &&& (858993459 : Int32))).toUInt32 >>> (Int32.toUInt32 4 &&& Int32.toUInt32 31)).toInt32)) &&& (252645135 : Int32)) + (((((((a1 - (((a1.toUInt32 >>> (Int32.toUInt32 1 &&& Int32.toUInt32 31)).toInt32) &&& (1431655765 : Int32))) &&& (858993459 : Int32)) + ((((a1 - (((a1.toUInt32 >>> (Int32.toUInt32 1 &&& Int32.toUInt32 31)).toInt32) &&& (1431655765 : Int32))).toUInt32 >>> (Int32.toUInt32 2 &&& Int32.toUInt32 31)).toInt32) &&& (858993459 : Int32))) + (((((a1 - (((a1.toUInt32 >>> (Int32.toUInt32 1 &&& Int32.toUInt32 31)).toInt32) &&& (1431655765 : Int32))) &&& (858993459 : Int32)) + ((((a1 - (((a1.toUInt32 >>> (Int32.toUInt32 1 &&& Int32.toUInt32 31)).toInt32) &&& (1431655765 : Int32))).toUInt32 >>> (Int32.toUInt32 2 &&& Int32.toUInt32 31)).toInt32) &&& (858993459 : Int32))).toUInt32 >>> (Int32.toUInt32 4 &&& Int32.toUInt32 31)).toInt32)) &&& (252645135 : Int32)).toUInt32 >>> (Int32.toUInt32 8 &&& Int32.toUInt32 31)).toInt32)).toUInt32 >>> (Int32.toUInt32 16 &&& Int32.toUInt32 31)).toInt32)) &&& 63)
def f_X7_forbid (σ : Sg) (a1 : Int32) (a2 : Int32) : Option (Int32 × Sg) :=
  cP (f_X1_isTerm σ a1) fun x1 => (if x1 = 0 then (some ((-1000000001 : Int32), σ)) else (cP (f_X1_isTerm σ a2) fun x3 => (if x3 = 0 then (some ((-1000000001 : Int32), σ)) else (if a1 = a2 then (some ((-1000000001 : Int32), σ)) else (cP (f_X1_isPreferred σ a1) fun x5 => (if x5 = 0 then (cP (f_X1_isForbidden σ a2) fun x7 => (if x7 = 0 then (wI σ 9 8 a1 a2 fun s9 => (cA (f_X7_termsChanged s9) fun x12 s14 => (cP (f_X1_forbiddenSet s14) fun x15 => (cP (f_J6_bitCount_0f7a4 s14 x15) fun x17 => (some (x17, s14)))))) else (some ((-1000000003 : Int32), σ)))) else (some ((-1000000003 : Int32), σ))))))))
def f_X8_forbidden_L4 (k : Int32 → Option Int32) (σ : Sg) : Nat → Int32 → Int32 → Option Int32
  | 0, _, _ => none
  | n + 1, i1, i2 =>
  rI σ 44 475 0 fun x1 => (if x1 ≤ i2 then (k i1) else (cP (f_X8_termAt σ i2) fun x4 => (rI σ 44 475 (x4 + 3) fun x6 => (jn (fun (v10 : Int32) => f_X8_forbidden_L4 k σ n ((i1 ||| v10)) ((i2 + 1))) fun k9 => (if x6 = (-1) then (k9 0) else (k9 (1 <<< (i2 &&& 31))))))))
def f_X8_forbidden (σ : Sg)  : Option Int32 :=
  f_X8_forbidden_L4 (fun (v13 : Int32) => some v13) σ fu 0 0
def f_X8_ones_L4 (k : Int32 → Option Int32) (σ : Sg) (c0 : Int32) : Nat → Int32 → Int32 → Option Int32
  | 0, _, _ => none
  | n + 1, i1, i2 =>
  if 8 ≤ i2 then (k i1) else (f_X8_ones_L4 k σ c0 n ((i1 + ((c0 >>> (i2 &&& 31)) &&& 1))) ((i2 + 1)))
def f_X8_ones (σ : Sg) (a1 : Int32) : Option Int32 :=
  f_X8_ones_L4 (fun (v2 : Int32) => some v2) σ a1 fu 0 0
def f_X8_forbid (σ : Sg) (a1 : Int32) (a2 : Int32) : Option (Int32 × Sg) :=
  cP (f_X8_isTerm σ a1) fun x1 => (if x1 = 0 then (some ((-1000000001 : Int32), σ)) else (cP (f_X8_isTerm σ a2) fun x3 => (if x3 = 0 then (some ((-1000000001 : Int32), σ)) else (if a1 = a2 then (some ((-1000000001 : Int32), σ)) else (cP (f_X8_isPreferred σ a1) fun x5 => (if x5 = 0 then (cP (f_X8_termAt σ a2) fun x7 => (rI σ 44 475 (x7 + 3) fun x9 => (if x9 = (-1) then (cP (f_X8_termAt σ a1) fun x12 => (wI σ 44 475 (x12 + 3) a2 fun s14 => (cP (f_X8_forbidden s14) fun x17 => (cP (f_X8_ones s14 x17) fun x19 => (some (x19, s14)))))) else (some ((-1000000003 : Int32), σ))))) else (some ((-1000000003 : Int32), σ))))))))
def f_X7_allow (σ : Sg) (a1 : Int32) : Option (Int32 × Sg) :=
  cP (f_X1_isTerm σ a1) fun x1 => (if x1 = 0 then (some ((-1000000001 : Int32), σ)) else (cP (f_X1_isForbidden σ a1) fun x3 => (if x3 = 0 then (some ((-1000000003 : Int32), σ)) else (wI σ 9 8 a1 (-1) fun s5 => (cA (f_X7_termsChanged s5) fun x8 s10 => (cP (f_X1_forbiddenSet s10) fun x11 => (cP (f_J6_bitCount_0f7a4 s10 x11) fun x13 => (some (x13, s10)))))))))
def f_X8_allow (σ : Sg) (a1 : Int32) : Option (Int32 × Sg) :=
  cP (f_X8_isTerm σ a1) fun x1 => (if x1 = 0 then (some ((-1000000001 : Int32), σ)) else (cP (f_X8_termAt σ a1) fun x3 => (rI σ 44 475 (x3 + 3) fun x5 => (if x5 = (-1) then (some ((-1000000003 : Int32), σ)) else (cP (f_X8_termAt σ a1) fun x8 => (wI σ 44 475 (x8 + 3) (-1) fun s10 => (cP (f_X8_forbidden s10) fun x13 => (cP (f_X8_ones s10 x13) fun x15 => (some (x15, s10))))))))))
def f_X7_change (σ : Sg) (a1 : Int32) (a2 : Int32) (a3 : Int32) : Option (Int32 × Sg) :=
  cP (f_X1_isTerm σ a1) fun x1 => (if x1 = 0 then (some ((-1000000001 : Int32), σ)) else (jn (fun (s4 : Sg) => if a2 = 1 then (cP (f_X7_isBent s4 a3) fun x5 => (if x5 = 0 then (some ((-1000000002 : Int32), s4)) else (rI s4 8 8 a1 fun x7 => (wI s4 8 8 a1 a3 fun s10 => (cA (f_X7_termsChanged s10) fun x13 s15 => (some (x7, s15))))))) else (some ((-1000000002 : Int32), s4))) fun k3 => (if a2 = 0 then (cP (f_X7_isWeight σ a3) fun x18 => (if x18 = 0 then (k3 σ) else (rI σ 7 8 a1 fun x20 => (wI σ 7 8 a1 a3 fun s23 => (cA (f_X7_termsChanged s23) fun x26 s28 => (some (x20, s28))))))) else (k3 σ))))
def f_X8_change (σ : Sg) (a1 : Int32) (a2 : Int32) (a3 : Int32) : Option (Int32 × Sg) :=
  cP (f_X8_isTerm σ a1) fun x1 => (if x1 = 0 then (some ((-1000000001 : Int32), σ)) else (jn (fun (v4 : Int32) => if v4 = 0 then (some ((-1000000002 : Int32), σ)) else (cP (f_X8_termAt σ a1) fun x5 => (jn (fun (v8 : Int32) => rI σ 44 475 (x5 + v8) fun x9 => (wI σ 44 475 (x5 + v8) a3 fun s12 => (some (x9, s12)))) fun k7 => (if a2 = 0 then (k7 1) else (k7 2))))) fun k3 => (if a2 = 0 then (cP (f_X8_in σ a3 1 9) fun x21 => (if x21 = 0 then (if a2 = 1 then (cP (f_X8_in σ a3 0 1) fun x23 => (if x23 = 0 then (k3 0) else (k3 1))) else (k3 0)) else (k3 1))) else (if a2 = 1 then (cP (f_X8_in σ a3 0 1) fun x17 => (if x17 = 0 then (k3 0) else (k3 1))) else (k3 0)))))
def f_X6_beginsSentence (σ : Sg) (a1 : Int32) : Option Int32 :=
  if a1 = 0 then (some 1) else (rI σ 29 60 (a1 - 1) fun x1 => (rI σ 29 60 a1 fun x4 => (if x1 = x4 then (some 0) else (some 1))))
def f_X0_without (σ : Sg) (a1 : Int64) (a2 : Int64) (a3 : Int32) : Option Int64 :=
  if a3 ≤ 0 then (some 0) else (if 12 ≤ a3 then (some 0) else (if (lg_cmp ((Int64.toUInt64 a1 >>> ((Int32.toInt64 (5 * a3)).toUInt64 &&& Int64.toUInt64 63)).toInt64) a2) = 0 then (some (a1 &&& ((1 <<< ((Int32.toInt64 (5 * a3)) &&& 63)) - 1))) else (some 0)))
def f_X4_makeForms_L20 (k : Sg → Option (Unit × Sg)) (c1 : Int64) (c3 : Int32) : Nat → Sg → Int32 → Option (Unit × Sg)
  | 0, _, _ => none
  | n + 1, s, i4 =>
  if (s.1 4 6) ≤ i4 then (k s) else (if 6 ≤ (s.1 30 5) then (k s) else (rL s 10 5 i4 fun x8 => (cP (f_X0_sizeOf s x8) fun x11 => (cP (f_X0_without s c1 x8 (c3 - x11)) fun x13 => (if (lg_cmp x13 0) = 0 then (f_X4_makeForms_L20 k c1 c3 n (s) ((i4 + 1))) else (wL s 31 6 (s.1 30 5) x13 fun s15 => (pI s15 30 5 ((s15.1 30 5) + 1) fun s18 => (f_X4_makeForms_L20 k c1 c3 n (s18) ((i4 + 1))))))))))
def f_X4_makeForms (σ : Sg) (a1 : Int64) : Option (Unit × Sg) :=
  cP (f_X0_sizeOf σ a1) fun x1 => (wL σ 31 6 0 a1 fun s3 => (pI s3 30 5 1 fun s6 => (f_X4_makeForms_L20 (fun (s23 : Sg) => some ((), s23)) a1 x1 fu s6 0)))
def f_X4_isForm_L3 (k : Option Int32) (σ : Sg) (c1 : Int64) (c3 : Int32) : Nat → Int32 → Option Int32
  | 0, _ => none
  | n + 1, i4 =>
  if c3 ≤ i4 then (k) else (if 6 ≤ i4 then (k) else (rL σ 31 6 i4 fun x1 => (if (lg_cmp x1 c1) = 0 then (some 1) else (f_X4_isForm_L3 k σ c1 c3 n ((i4 + 1))))))
def f_X4_isForm (σ : Sg) (a1 : Int64) (a2 : Int32) : Option Int32 :=
  f_X4_isForm_L3 (some 0) σ a1 a2 fu 0
def f_X4_meets_L68 (k : Int32 → Option (Int32 × Sg)) (σ : Sg) (c3 : Int32) (c4 : Int32) : Nat → Int32 → Int32 → Option (Int32 × Sg)
  | 0, _, _ => none
  | n + 1, i2, i5 =>
  rI σ 6 8 c3 fun x15 => (if x15 ≤ i5 then (k i2) else (cP (f_X1_wordOf σ c3 i5) fun x18 => (cP (f_X4_isForm σ x18 c4) fun x20 => (if x20 = 0 then (f_X4_meets_L68 k σ c3 c4 n (i2) ((i5 + 1))) else (f_X4_meets_L68 k σ c3 c4 n ((i2 ||| (1 <<< (((c3 * 4) + i5) &&& 31)))) ((i5 + 1)))))))
def f_X4_meets_L31 (k : Int32 → Option (Int32 × Sg)) (σ : Sg) : Nat → Int32 → Int32 → Option (Int32 × Sg)
  | 0, _, _ => none
  | n + 1, i2, i3 =>
  if (σ.1 4 0) ≤ i3 then (k i2) else (rI σ 8 8 i3 fun x10 => (jn (fun (v14 : Int32) => f_X4_meets_L68 (fun (v24 : Int32) => f_X4_meets_L31 k σ n (v24) ((i3 + 1))) σ i3 v14 fu i2 0) fun k13 => (if x10 = 1 then (k13 (σ.1 30 5)) else (k13 1))))
def f_X4_meets (σ : Sg) (a1 : Int32) : Option (Int32 × Sg) :=
  rI σ 28 60 a1 fun x1 => (if x1 = 0 then (rL σ 27 60 a1 fun x4 => (cA (f_X4_makeForms σ x4) fun x7 s9 => (f_X4_meets_L31 (fun (v27 : Int32) => some (v27, s9)) s9 fu 0 0))) else (some (0, σ)))
def f_X4_hasBegun (σ : Sg) (a1 : Int32) (a2 : Int32) (a3 : Int32) : Option Int32 :=
  rI σ 32 60 a1 fun x1 => (if (((x1.toUInt32 >>> (Int32.toUInt32 (((a2 * 4) + a3) - 1) &&& Int32.toUInt32 31)).toInt32) &&& 1) = 0 then (some 0) else (some 1))
def f_X4_look_L51 (k : Sg → Option (Unit × Sg)) (c1 : Int32) : Nat → Sg → Int32 → Option (Unit × Sg)
  | 0, _, _ => none
  | n + 1, s, i3 =>
  if (s.1 4 0) ≤ i3 then (k s) else (rI s 6 8 i3 fun x14 => (if ((c1 - x14) + 1) < 0 then (f_X4_look_L51 k c1 n (s) ((i3 + 1))) else (cP (f_X4_hasBegun s c1 i3 x14) fun x17 => (if x17 = 0 then (f_X4_look_L51 k c1 n (s) ((i3 + 1))) else (rI s 33 60 ((c1 - x14) + 1) fun x19 => (wI s 33 60 ((c1 - x14) + 1) (x19 ||| (1 <<< (i3 &&& 31))) fun s22 => (f_X4_look_L51 k c1 n (s22) ((i3 + 1)))))))))
def f_X4_look (σ : Sg) (a1 : Int32) : Option (Unit × Sg) :=
  cP (f_X6_beginsSentence σ a1) fun x1 => (jn (fun (v4 : Int32) => cA (f_X4_meets σ a1) fun x5 s7 => (wI s7 32 60 a1 (((v4 <<< (1 &&& 31)) ||| (286331153 : Int32)) &&& x5) fun s8 => (wI s8 33 60 a1 0 fun s11 => (f_X4_look_L51 (fun (s28 : Sg) => some ((), s28)) a1 fu s11 0)))) fun k3 => (if x1 = 0 then (rI σ 32 60 (a1 - 1) fun x29 => (k3 x29)) else (k3 0)))
def f_X4_isFound (σ : Sg) (a1 : Int32) (a2 : Int32) : Option Int32 :=
  rI σ 33 60 a1 fun x1 => (if (((x1.toUInt32 >>> (Int32.toUInt32 a2 &&& Int32.toUInt32 31)).toInt32) &&& 1) = 0 then (some 0) else (some 1))
def f_X1_worthOf (σ : Sg) (a1 : Int32) : Option Int32 :=
  rI σ 7 8 a1 fun x1 => (rI σ 6 8 a1 fun x4 => (some (x1 * x4)))
def f_X4_isBetter (σ : Sg) (a1 : Int32) (a2 : Int32) (a3 : Int32) (a4 : Int32) : Option Int32 :=
  rI σ 34 61 a1 fun x1 => (if a3 = x1 then (rI σ 35 61 a1 fun x4 => (if a4 = x4 then (rI σ 36 60 a1 fun x7 => (if x7 = (-1) then (some 1) else (rI σ 6 8 a2 fun x10 => (rI σ 36 60 a1 fun x13 => (rI σ 6 8 x13 fun x16 => (if x10 ≤ x16 then (some 0) else (some 1))))))) else (rI σ 35 61 a1 fun x21 => (if x21 ≤ a4 then (some 0) else (some 1))))) else (rI σ 34 61 a1 fun x26 => (if a3 ≤ x26 then (some 0) else (some 1))))
def f_X4_weighFrom_L37 (k : Sg → Option (Unit × Sg)) (c1 : Int32) : Nat → Sg → Int32 → Option (Unit × Sg)
  | 0, _, _ => none
  | n + 1, s, i2 =>
  if (s.1 4 0) ≤ i2 then (k s) else (rI s 6 8 i2 fun x16 => (cP (f_X4_isFound s c1 i2) fun x19 => (if x19 = 0 then (f_X4_weighFrom_L37 k c1 n (s) ((i2 + 1))) else (if (s.1 26 0) < (c1 + x16) then (f_X4_weighFrom_L37 k c1 n (s) ((i2 + 1))) else (cP (f_X1_worthOf s i2) fun x21 => (rI s 34 61 (c1 + x16) fun x23 => (rI s 35 61 (c1 + x16) fun x26 => (cP (f_X4_isBetter s c1 i2 (x21 + x23) (1 + x26)) fun x29 => (if x29 = 0 then (f_X4_weighFrom_L37 k c1 n (s) ((i2 + 1))) else (wI s 36 60 c1 i2 fun s31 => (wI s31 34 61 c1 (x21 + x23) fun s34 => (wI s34 35 61 c1 (1 + x26) fun s37 => (f_X4_weighFrom_L37 k c1 n (s37) ((i2 + 1)))))))))))))))
def f_X4_weighFrom (σ : Sg) (a1 : Int32) : Option (Unit × Sg) :=
  wI σ 36 60 a1 (-1) fun s1 => (rI s1 34 61 (a1 + 1) fun x4 => (wI s1 34 61 a1 x4 fun s7 => (rI s7 35 61 (a1 + 1) fun x10 => (wI s7 35 61 a1 x10 fun s13 => (f_X4_weighFrom_L37 (fun (s44 : Sg) => some ((), s44)) a1 fu s13 0)))))
def f_X4_weigh_L36 (k : Sg → Option (Unit × Sg)) : Nat → Sg → Int32 → Option (Unit × Sg)
  | 0, _, _ => none
  | n + 1, s, i1 =>
  if i1 < 0 then (k s) else (cA (f_X4_weighFrom s i1) fun x7 s9 => (f_X4_weigh_L36 k n (s9) ((i1 + (-1)))))
def f_X4_weigh (σ : Sg)  : Option (Unit × Sg) :=
  wI σ 34 61 (σ.1 26 0) 0 fun s1 => (wI s1 35 61 (s1.1 26 0) 0 fun s4 => (f_X4_weigh_L36 (fun (s11 : Sg) => some ((), s11)) fu s4 ((s4.1 26 0) - 1)))
def f_X4_choose_L9 (k : Sg → Option (Unit × Sg)) : Nat → Sg → Int32 → Int32 → Option (Unit × Sg)
  | 0, _, _, _ => none
  | n + 1, s, i1, i2 =>
  if (s.1 26 0) ≤ i2 then (k s) else (jn (fun (s4 : Sg) (v5 : Int32) => jn (fun (v7 : Int32) => wI s4 39 60 i2 v7 fun s8 => (f_X4_choose_L9 k n (s8) (v5) ((i2 + 1)))) fun k6 => (if v5 ≤ i2 then (k6 (-1)) else (k6 ((s4.1 30 11) - 1)))) fun k3 => (if i2 < i1 then (k3 s i1) else (rI s 36 60 i2 fun x12 => (if x12 = (-1) then (k3 s i1) else (wI s 37 60 (s.1 30 11) i2 fun s15 => (rI s15 36 60 i2 fun x18 => (wI s15 38 60 (s15.1 30 11) x18 fun s21 => (pI s21 30 11 ((s21.1 30 11) + 1) fun s24 => (rI s24 36 60 i2 fun x26 => (rI s24 6 8 x26 fun x29 => (k3 s24 (i2 + x29))))))))))))
def f_X4_choose (σ : Sg)  : Option (Unit × Sg) :=
  pI σ 30 11 0 fun s1 => (f_X4_choose_L9 (fun (s35 : Sg) => some ((), s35)) fu s1 0 0)
def f_X4_settle_L13 (k : Sg → Option (Unit × Sg)) : Nat → Sg → Int32 → Option (Unit × Sg)
  | 0, _, _ => none
  | n + 1, s, i1 =>
  if (s.1 26 0) ≤ i1 then (k s) else (cA (f_X4_look s i1) fun x1 s3 => (f_X4_settle_L13 k n (s3) ((i1 + 1))))
def f_X4_settle (σ : Sg)  : Option (Unit × Sg) :=
  if (σ.1 30 3) = 0 then (f_X4_settle_L13 (fun (s5 : Sg) => pI s5 30 2 (s5.1 26 0) fun s6 => (cA (f_X4_weigh s6) fun x8 s10 => (cA (f_X4_choose s10) fun x11 s13 => (pI s13 30 3 1 fun s14 => (some ((), s14)))))) fu σ (σ.1 30 2)) else (some ((), σ))
def f_X7_settled (σ : Sg)  : Option (Unit × Sg) :=
  cA (f_X4_settle σ) fun x1 s3 => (some ((), s3))
def f_X4_timesFound_L4 (k : Int32 → Option Int32) (σ : Sg) (c1 : Int32) : Nat → Int32 → Int32 → Option Int32
  | 0, _, _ => none
  | n + 1, i2, i3 =>
  if (σ.1 26 0) ≤ i3 then (k i2) else (cP (f_X4_isFound σ i3 c1) fun x1 => (jn (fun (v4 : Int32) => f_X4_timesFound_L4 k σ c1 n ((i2 + v4)) ((i3 + 1))) fun k3 => (if x1 = 0 then (k3 0) else (k3 1))))
def f_X4_timesFound (σ : Sg) (a1 : Int32) : Option Int32 :=
  f_X4_timesFound_L4 (fun (v7 : Int32) => some v7) σ a1 fu 0 0
def f_X4_timesChosen_L4 (k : Int32 → Option Int32) (σ : Sg) (c1 : Int32) : Nat → Int32 → Int32 → Option Int32
  | 0, _, _ => none
  | n + 1, i2, i3 =>
  if (σ.1 30 11) ≤ i3 then (k i2) else (rI σ 38 60 i3 fun x1 => (jn (fun (v5 : Int32) => f_X4_timesChosen_L4 k σ c1 n ((i2 + v5)) ((i3 + 1))) fun k4 => (if x1 = c1 then (k4 1) else (k4 0))))
def f_X4_timesChosen (σ : Sg) (a1 : Int32) : Option Int32 :=
  f_X4_timesChosen_L4 (fun (v8 : Int32) => some v8) σ a1 fu 0 0
def f_X7_termOf (σ : Sg) (a1 : Int32) (a2 : Int32) : Option (Int32 × Sg) :=
  cP (f_X1_isTerm σ a1) fun x1 => (if x1 = 0 then (some ((-1000000001 : Int32), σ)) else (if a2 = 0 then (rI σ 6 8 a1 fun x4 => (some (x4, σ))) else (if a2 = 1 then (rI σ 7 8 a1 fun x8 => (some (x8, σ))) else (if a2 = 2 then (rI σ 8 8 a1 fun x12 => (some (x12, σ))) else (if a2 = 3 then (rI σ 9 8 a1 fun x16 => (some (x16, σ))) else (if a2 = 4 then (cA (f_X7_settled σ) fun x20 s22 => (cP (f_X4_timesFound s22 a1) fun x23 => (some (x23, s22)))) else (if a2 = 5 then (cA (f_X7_settled σ) fun x26 s28 => (cP (f_X4_timesChosen s28 a1) fun x29 => (some (x29, s28)))) else (some ((-1000000002 : Int32), σ)))))))))
def f_X8_isBegun_L27 (k : Int32 → Option Int32) (σ : Sg) (c1 : Int32) (c2 : Int32) : Nat → Int32 → Int32 → Option Int32
  | 0, _, _ => none
  | n + 1, i3, i4 =>
  rI σ 44 475 c2 fun x9 => (if x9 ≤ i4 then (k i3) else (if i3 = 0 then (k i3) else (rI σ 48 915 (((15 * c1) + 3) + i4) fun x12 => (rI σ 44 475 ((c2 + 1) + i4) fun x15 => (if x12 = x15 then (f_X8_isBegun_L27 k σ c1 c2 n (1) ((i4 + 1))) else (f_X8_isBegun_L27 k σ c1 c2 n (0) ((i4 + 1))))))))
def f_X8_isBegun (σ : Sg) (a1 : Int32) (a2 : Int32) : Option Int32 :=
  rI σ 48 915 (15 * a1) fun x1 => (rI σ 44 475 a2 fun x4 => (jn (fun (v8 : Int32) => f_X8_isBegun_L27 (fun (v21 : Int32) => mH (v21 = 0 ∨ v21 = 1) (some v21)) σ a1 a2 fu v8 0) fun k7 => (if x1 < x4 then (k7 0) else (k7 1))))
def f_X8_isAs_L30 (k : Int32 → Option Int32) (σ : Sg) (c1 : Int32) (c2 : Int32) (c3 : Int32) : Nat → Int32 → Int32 → Option Int32
  | 0, _, _ => none
  | n + 1, i4, i5 =>
  rI σ 44 475 c3 fun x9 => (if x9 ≤ i5 then (k i4) else (if i4 = 0 then (k i4) else (rI σ 48 915 ((((15 * c1) + 3) + c2) + i5) fun x12 => (rI σ 44 475 ((c3 + 1) + i5) fun x15 => (if x12 = x15 then (f_X8_isAs_L30 k σ c1 c2 c3 n (1) ((i5 + 1))) else (f_X8_isAs_L30 k σ c1 c2 c3 n (0) ((i5 + 1))))))))
def f_X8_isAs (σ : Sg) (a1 : Int32) (a2 : Int32) (a3 : Int32) : Option Int32 :=
  rI σ 48 915 (15 * a1) fun x1 => (rI σ 44 475 a3 fun x4 => (jn (fun (v8 : Int32) => f_X8_isAs_L30 (fun (v21 : Int32) => mH (v21 = 0 ∨ v21 = 1) (some v21)) σ a1 a2 a3 fu v8 0) fun k7 => (if (x1 - a2) = x4 then (k7 1) else (k7 0))))
def f_X8_meets_L63 (k : Int32 → Option Int32) (σ : Sg) (c1 : Int32) (c2 : Int32) (c4 : Int32) : Nat → Int32 → Int32 → Option Int32
  | 0, _, _ => none
  | n + 1, i5, i6 =>
  rI σ 44 475 1 fun x16 => (if x16 ≤ i6 then (k i5) else (cP (f_X8_termAt σ c2) fun x19 => (rI σ 44 475 (x19 + 2) fun x21 => (if x21 = 1 then (jn (fun (v25 : Int32) => f_X8_meets_L63 k σ c1 c2 c4 n (1) ((v25 + 1))) fun k24 => (if i5 = 0 then (rI σ 44 475 c4 fun x26 => (cP (f_X8_endingAt σ i6) fun x29 => (cP (f_X8_isAs σ c1 x26 x29) fun x31 => (if x31 = 0 then (f_X8_meets_L63 k σ c1 c2 c4 n (0) ((i6 + 1))) else (k24 i6))))) else (k24 i6))) else (k i5)))))
def f_X8_meets (σ : Sg) (a1 : Int32) (a2 : Int32) (a3 : Int32) : Option Int32 :=
  cP (f_X8_wordAt σ a2 a3) fun x1 => (rI σ 48 915 ((15 * a1) + 2) fun x3 => (if x3 = 1 then (some 0) else (cP (f_X8_isBegun σ a1 x1) fun x6 => (if x6 = 0 then (some 0) else (rI σ 48 915 (15 * a1) fun x8 => (rI σ 44 475 x1 fun x11 => (jn (fun (v15 : Int32) => f_X8_meets_L63 (fun (v37 : Int32) => mH (v37 = 0 ∨ v37 = 1) (some v37)) σ a1 a2 x1 fu v15 0) fun k14 => (if x8 = x11 then (k14 1) else (k14 0)))))))))
def f_X8_isMet_L24 (k : Int32 → Option Int32) (σ : Sg) (c1 : Int32) (c2 : Int32) (c3 : Int32) : Nat → Int32 → Int32 → Option Int32
  | 0, _, _ => none
  | n + 1, i4, i5 =>
  if c3 ≤ i5 then (k i4) else (if i4 = 0 then (k i4) else (rI σ 48 915 ((15 * (c2 + i5)) + 1) fun x2 => (rI σ 48 915 ((15 * c2) + 1) fun x5 => (jn (fun (v9 : Int32) => f_X8_isMet_L24 k σ c1 c2 c3 n (0) ((v9 + 1))) fun k8 => (if x2 = x5 then (cP (f_X8_meets σ (c2 + i5) c1 i5) fun x10 => (if x10 = 0 then (k8 i5) else (f_X8_isMet_L24 k σ c1 c2 c3 n (1) ((i5 + 1))))) else (k8 i5))))))
def f_X8_isMet (σ : Sg) (a1 : Int32) (a2 : Int32) (a3 : Int32) : Option Int32 :=
  jn (f_X8_isMet_L24 (fun (v16 : Int32) => mH (v16 = 0 ∨ v16 = 1) (some v16)) σ a1 a2 a3 fu 0 0) fun k1 => (if a2 < 0 then (k1) else (if (σ.1 43 6) < (a2 + a3) then (k1) else (f_X8_isMet_L24 (fun (v18 : Int32) => mH (v18 = 0 ∨ v18 = 1) (some v18)) σ a1 a2 a3 fu 1 0)))
def f_X8_isFound (σ : Sg) (a1 : Int32) (a2 : Int32) : Option Int32 :=
  cP (f_X8_termAt σ a1) fun x1 => (rI σ 44 475 (x1 + 0) fun x3 => (cP (f_X8_isMet σ a1 a2 x3) fun x6 => (mH (x6 = 0 ∨ x6 = 1) (some x6))))
def f_X8_worthOf (σ : Sg) (a1 : Int32) : Option Int32 :=
  cP (f_X8_termAt σ a1) fun x1 => (rI σ 44 475 (x1 + 1) fun x3 => (cP (f_X8_termAt σ a1) fun x6 => (rI σ 44 475 (x6 + 0) fun x8 => (some (x3 * x8)))))
def f_X8_choose_L74 (k : Sg → Option (Unit × Sg)) (c1 : Int32) (c2 : Int32) : Nat → Sg → Int32 → Option (Unit × Sg)
  | 0, _, _ => none
  | n + 1, s, i3 =>
  rI s 44 475 0 fun x22 => (if x22 ≤ i3 then (k s) else (cP (f_X8_termAt s i3) fun x25 => (rI s 44 475 (x25 + 0) fun x27 => (if x27 = c2 then (cP (f_X8_isFound s i3 c1) fun x30 => (if x30 = 0 then (f_X8_choose_L74 k c1 c2 n (s) ((i3 + 1))) else (cP (f_X8_worthOf s i3) fun x32 => (rI s 51 65 (c1 + c2) fun x34 => (rI s 52 65 (c1 + c2) fun x37 => (rI s 51 65 c1 fun x40 => (jn (fun (v44 : Int32) => if v44 = 0 then (f_X8_choose_L74 k c1 c2 n (s) ((i3 + 1))) else (wI s 51 65 c1 (x32 + x34) fun s45 => (wI s45 52 65 c1 (1 + x37) fun s48 => (wI s48 53 60 c1 i3 fun s51 => (f_X8_choose_L74 k c1 c2 n (s51) ((i3 + 1))))))) fun k43 => (if x40 < (x32 + x34) then (k43 1) else (rI s 51 65 c1 fun x55 => (if (x32 + x34) = x55 then (rI s 52 65 c1 fun x58 => (if (1 + x37) < x58 then (k43 1) else (rI s 52 65 c1 fun x61 => (if (1 + x37) = x61 then (rI s 53 60 c1 fun x64 => (if x64 = (-1) then (k43 1) else (k43 0))) else (k43 0))))) else (k43 0))))))))))) else (f_X8_choose_L74 k c1 c2 n (s) ((i3 + 1)))))))
def f_X8_choose_L68 (k : Sg → Option (Unit × Sg)) (c1 : Int32) : Nat → Sg → Int32 → Option (Unit × Sg)
  | 0, _, _ => none
  | n + 1, s, i2 =>
  if i2 ≤ 0 then (k s) else (f_X8_choose_L74 (fun (s75 : Sg) => f_X8_choose_L68 k c1 n (s75) ((i2 + (-1)))) c1 i2 fu s 0)
def f_X8_choose_L27 (k : Sg → Option (Unit × Sg)) : Nat → Sg → Int32 → Option (Unit × Sg)
  | 0, _, _ => none
  | n + 1, s, i1 =>
  if i1 < 0 then (k s) else (wI s 53 60 i1 (-1) fun s7 => (rI s7 51 65 (i1 + 1) fun x10 => (wI s7 51 65 i1 x10 fun s13 => (rI s13 52 65 (i1 + 1) fun x16 => (wI s13 52 65 i1 x16 fun s19 => (f_X8_choose_L68 (fun (s77 : Sg) => f_X8_choose_L27 k n (s77) ((i1 + (-1)))) i1 fu s19 4))))))
def f_X8_choose_L286 (k : Sg → Option (Unit × Sg)) (c1 : Int32) (c2 : Int32) : Nat → Sg → Int32 → Option (Unit × Sg)
  | 0, _, _ => none
  | n + 1, s, i3 =>
  if c2 ≤ i3 then (k s) else (wI s 53 60 (c1 + i3) (-1) fun s85 => (f_X8_choose_L286 k c1 c2 n (s85) ((i3 + 1))))
def f_X8_choose_L245 (k : Sg → Option (Unit × Sg)) : Nat → Sg → Int32 → Option (Unit × Sg)
  | 0, _, _ => none
  | n + 1, s, i1 =>
  if (s.1 43 6) ≤ i1 then (k s) else (rI s 53 60 i1 fun x80 => (jn (fun (v84 : Int32) => f_X8_choose_L286 (fun (s89 : Sg) => f_X8_choose_L245 k n (s89) ((i1 + v84))) i1 v84 fu s 1) fun k83 => (if x80 = (-1) then (k83 1) else (rI s 53 60 i1 fun x90 => (cP (f_X8_termAt s x90) fun x93 => (rI s 44 475 (x93 + 0) fun x95 => (k83 x95)))))))
def f_X8_choose (σ : Sg)  : Option (Unit × Sg) :=
  wI σ 51 65 (σ.1 43 6) 0 fun s1 => (wI s1 52 65 (s1.1 43 6) 0 fun s4 => (f_X8_choose_L27 (fun (s79 : Sg) => f_X8_choose_L245 (fun (s100 : Sg) => some ((), s100)) fu s79 0) fu s4 ((s4.1 43 6) - 1)))
def f_X8_termOf_L49 (k : Int32 → Option (Int32 × Sg)) (σ : Sg) (c1 : Int32) (c2 : Int32) : Nat → Int32 → Int32 → Option (Int32 × Sg)
  | 0, _, _ => none
  | n + 1, i3, i4 =>
  if (σ.1 43 6) ≤ i4 then (k i3) else (jn (fun (v9 : Int32) => f_X8_termOf_L49 k σ c1 c2 n ((i3 + v9)) ((i4 + 1))) fun k8 => (if c2 = 4 then (cP (f_X8_isFound σ c1 i4) fun x14 => (if x14 = 0 then (k8 0) else (k8 1))) else (rI σ 53 60 i4 fun x10 => (if x10 = c1 then (k8 1) else (k8 0)))))
def f_X8_termOf (σ : Sg) (a1 : Int32) (a2 : Int32) : Option (Int32 × Sg) :=
  cP (f_X8_isTerm σ a1) fun x1 => (if x1 = 0 then (some ((-1000000001 : Int32), σ)) else (cP (f_X8_in σ a2 0 5) fun x3 => (if x3 = 0 then (some ((-1000000002 : Int32), σ)) else (if 4 ≤ a2 then (cA (f_X8_choose σ) fun x5 s7 => (f_X8_termOf_L49 (fun (v19 : Int32) => some (v19, s7)) s7 a1 a2 fu 0 0)) else (cP (f_X8_termAt σ a1) fun x20 => (rI σ 44 475 (x20 + a2) fun x22 => (some (x22, σ))))))))
def f_X0_at (σ : Sg) (a1 : Int64) (a2 : Int32) : Option Int32 :=
  if a2 < 0 then (some (-1)) else (if a2 < 12 then (if ((Int64.toInt32 ((Int64.toUInt64 a1 >>> ((Int32.toInt64 (5 * a2)).toUInt64 &&& Int64.toUInt64 63)).toInt64)) &&& 31) = 0 then (some (-1)) else (some (((Int64.toInt32 ((Int64.toUInt64 a1 >>> ((Int32.toInt64 (5 * a2)).toUInt64 &&& Int64.toUInt64 63)).toInt64)) &&& 31) + 96))) else (some (-1)))
def f_X7_letter (σ : Sg) (a1 : Int32) (a2 : Int32) (a3 : Int32) : Option Int32 :=
  jn (fun (v2 : Int32) => if v2 = 0 then (some (-1000000001 : Int32)) else (if 0 ≤ a3 then (if a2 = (-1) then (rL σ 10 5 a1 fun x12 => (cP (f_X0_at σ x12 a3) fun x15 => (some x15))) else (if a2 < 0 then (some (-1000000002 : Int32)) else (rI σ 6 8 a1 fun x3 => (if a2 < x3 then (cP (f_X1_wordOf σ a1 a2) fun x6 => (cP (f_X0_at σ x6 a3) fun x8 => (some x8))) else (some (-1000000002 : Int32)))))) else (some (-1000000002 : Int32)))) fun k1 => (if a2 = (-1) then (cP (f_X1_isEnding σ a1) fun x22 => (k1 x22)) else (cP (f_X1_isTerm σ a1) fun x20 => (k1 x20)))
def f_X8_letter (σ : Sg) (a1 : Int32) (a2 : Int32) (a3 : Int32) : Option Int32 :=
  jn (if a3 < 0 then (some (-1000000002 : Int32)) else (if a2 < (-1) then (some (-1000000002 : Int32)) else (jn (jn (fun (v4 : Int32) => rI σ 44 475 v4 fun x5 => (if x5 ≤ a3 then (some (-1)) else (rI σ 44 475 ((v4 + 1) + a3) fun x8 => (some x8)))) fun k3 => (if a2 = (-1) then (cP (f_X8_endingAt σ a1) fun x14 => (k3 x14)) else (cP (f_X8_wordAt σ a1 a2) fun x12 => (k3 x12)))) fun k2 => (if a2 = (-1) then (k2) else (cP (f_X8_termAt σ a1) fun x17 => (rI σ 44 475 (x17 + 0) fun x19 => (if a2 < x19 then (k2) else (some (-1000000002 : Int32))))))))) fun k1 => (if a2 = (-1) then (cP (f_X8_isEnding σ a1) fun x29 => (if x29 = 0 then (some (-1000000001 : Int32)) else (k1))) else (cP (f_X8_isTerm σ a1) fun x26 => (if x26 = 0 then (some (-1000000001 : Int32)) else (k1))))
def f_X6_endWord (σ : Sg)  : Option (Unit × Sg) :=
  if (lg_cmp (σ.2 26 5) 0) = 0 then (some ((), σ)) else (if (σ.1 26 0) < 60 then (wL σ 27 60 (σ.1 26 0) (σ.2 26 5) fun s1 => (wI s1 28 60 (s1.1 26 0) (vp_nar .boolean (s1.1 26 6)) fun s4 => (wI s4 29 60 (s4.1 26 0) (s4.1 26 4) fun s7 => (pI s7 26 0 ((s7.1 26 0) + 1) fun s10 => (pL s10 26 5 0 fun s12 => (pI s12 26 6 0 fun s14 => (some ((), s14)))))))) else (some ((), σ)))
def f_X6_endSentence (σ : Sg)  : Option (Unit × Sg) :=
  if (σ.1 26 0) ≤ 0 then (some ((), σ)) else (rI σ 29 60 ((σ.1 26 0) - 1) fun x1 => (if x1 = (σ.1 26 4) then (pI σ 26 4 ((σ.1 26 4) + 1) fun s4 => (some ((), s4))) else (some ((), σ))))
def f_X6_addLetter (σ : Sg) (a1 : Int32) : Option (Unit × Sg) :=
  cP (f_X0_sizeOf σ (σ.2 26 5)) fun x1 => (if 12 ≤ x1 then (pI σ 26 6 1 fun s3 => (some ((), s3))) else (cP (f_X0_with σ (σ.2 26 5) x1 a1) fun x5 => (pL σ 26 5 x5 fun s7 => (some ((), s7)))))
def f_X6_take (σ : Sg) (a1 : Int32) : Option (Unit × Sg) :=
  cP (f_X0_isLetter σ a1) fun x1 => (if x1 = 0 then (cA (f_X6_endWord σ) fun x3 s5 => (if a1 = 46 then (cA (f_X6_endSentence s5) fun x6 s8 => (some ((), s8))) else (some ((), s5)))) else (cA (f_X6_addLetter σ a1) fun x10 s12 => (some ((), s12))))
def f_X4_unsettle (σ : Sg)  : Option (Unit × Sg) :=
  pI σ 30 3 0 fun s1 => (some ((), s1))
def f_X7_textChanged (σ : Sg)  : Option (Unit × Sg) :=
  cA (f_X4_unsettle σ) fun x1 s3 => (cA (f_X3_forget s3) fun x4 s6 => (some ((), s6)))
def f_X6_hasRoom (σ : Sg)  : Option Int32 :=
  if 60 ≤ (σ.1 26 0) then (some 0) else (some 1)
def f_X7_read (σ : Sg) (a1 : Int32) : Option (Int32 × Sg) :=
  if a1 < 0 then (some ((-1000000002 : Int32), σ)) else (if a1 ≤ 255 then (cP (f_X0_isLetter σ a1) fun x1 => (jn (cA (f_X6_take σ a1) fun x4 s6 => (cA (f_X7_textChanged s6) fun x7 s9 => (some ((s9.1 26 0), s9)))) fun k3 => (if x1 = 0 then (k3) else (cP (f_X6_hasRoom σ) fun x10 => (if x10 = 0 then (some ((-1000000004 : Int32), σ)) else (k3)))))) else (some ((-1000000002 : Int32), σ)))
def f_X8_clears_L2 (k : Sg → Option (Unit × Sg)) (c1 : Int32) : Nat → Sg → Int32 → Option (Unit × Sg)
  | 0, _, _ => none
  | n + 1, s, i2 =>
  if 15 ≤ i2 then (k s) else (wI s 48 915 ((15 * c1) + i2) 0 fun s1 => (f_X8_clears_L2 k c1 n (s1) ((i2 + 1))))
def f_X8_clears (σ : Sg) (a1 : Int32) : Option (Unit × Sg) :=
  f_X8_clears_L2 (fun (s5 : Sg) => some ((), s5)) a1 fu σ 0
def f_X8_ends (σ : Sg)  : Option (Unit × Sg) :=
  if 60 ≤ (σ.1 43 6) then (some ((), σ)) else (rI σ 48 915 (15 * (σ.1 43 6)) fun x1 => (if x1 ≤ 0 then (some ((), σ)) else (wI σ 48 915 ((15 * (σ.1 43 6)) + 1) (σ.1 43 7) fun s4 => (pI s4 43 6 ((s4.1 43 6) + 1) fun s7 => (cA (f_X8_clears s7 (s7.1 43 6)) fun x9 s11 => (some ((), s11)))))))
def f_X8_hasWord (σ : Sg)  : Option Int32 :=
  if (σ.1 43 6) ≤ 0 then (some 0) else (rI σ 48 915 ((15 * ((σ.1 43 6) - 1)) + 1) fun x1 => (if x1 = (σ.1 43 7) then (some 1) else (some 0)))
def f_X8_comes (σ : Sg) (a1 : Int32) : Option (Unit × Sg) :=
  cP (f_X8_isLetter σ a1) fun x1 => (if x1 = 0 then (cA (f_X8_ends σ) fun x3 s5 => (jn (fun (v7 : Int32) => pI s5 43 7 ((s5.1 43 7) + v7) fun s8 => (some ((), s8))) fun k6 => (if a1 = 46 then (cP (f_X8_hasWord s5) fun x10 => (if x10 = 0 then (k6 0) else (k6 1))) else (k6 0)))) else (rI σ 48 915 (15 * (σ.1 43 6)) fun x14 => (if x14 = 12 then (wI σ 48 915 ((15 * (σ.1 43 6)) + 2) 1 fun s29 => (some ((), s29))) else (rI σ 48 915 (15 * (σ.1 43 6)) fun x17 => (wI σ 48 915 (((15 * (σ.1 43 6)) + 3) + x17) a1 fun s20 => (rI s20 48 915 (15 * (σ.1 43 6)) fun x23 => (wI s20 48 915 (15 * (σ.1 43 6)) (x23 + 1) fun s26 => (some ((), s26)))))))))
def f_X8_read (σ : Sg) (a1 : Int32) : Option (Int32 × Sg) :=
  cP (f_X8_in σ a1 0 255) fun x1 => (if x1 = 0 then (some ((-1000000002 : Int32), σ)) else (cP (f_X8_isLetter σ a1) fun x3 => (jn (cA (f_X8_comes σ a1) fun x6 s8 => (some ((s8.1 43 6), s8))) fun k5 => (if x3 = 0 then (k5) else (if (σ.1 43 6) = 60 then (some ((-1000000004 : Int32), σ)) else (k5))))))
def f_X6_clear (σ : Sg)  : Option (Unit × Sg) :=
  pI σ 26 0 0 fun s1 => (pI s1 26 4 0 fun s3 => (pL s3 26 5 0 fun s5 => (pI s5 26 6 0 fun s7 => (some ((), s7)))))
def f_X7_wipe (σ : Sg)  : Option (Int32 × Sg) :=
  cA (f_X6_clear σ) fun x1 s3 => (cA (f_X4_forget s3) fun x4 s6 => (cA (f_X7_textChanged s6) fun x7 s9 => (some ((σ.1 26 0), s9))))
def f_X8_wipe (σ : Sg)  : Option (Int32 × Sg) :=
  pI σ 43 6 0 fun s1 => (pI s1 43 7 0 fun s3 => (cA (f_X8_clears s3 0) fun x5 s7 => (some ((σ.1 43 6), s7))))
def f_X2_start (σ : Sg) (a1 : Int32) : Option (Unit × Sg) :=
  pL σ 42 0 (Int32.toInt64 a1) fun s1 => (some ((), s1))
def f_X2_below (σ : Sg) (a1 : Int32) : Option (Int32 × Sg) :=
  pL σ 42 0 (((σ.2 42 0) * (16807 : Int64)) - ((σ.2 42 0) * (16807 : Int64)) / (2147483647 : Int64) * (2147483647 : Int64)) fun s1 => (if a1 ≤ 0 then (some (0, s1)) else (mH (¬ (Int32.toInt64 a1) = 0) (some ((Int64.toInt32 ((s1.2 42 0) - (s1.2 42 0) / (Int32.toInt64 a1) * (Int32.toInt64 a1))), s1))))
def f_X6_takeLetters_L8 (k : Sg → Option (Unit × Sg)) (c1 : Int64) (c3 : Int32) : Nat → Sg → Int32 → Option (Unit × Sg)
  | 0, _, _ => none
  | n + 1, s, i4 =>
  if c3 ≤ i4 then (k s) else (cP (f_X0_at s c1 i4) fun x3 => (cA (f_X6_addLetter s x3) fun x5 s7 => (f_X6_takeLetters_L8 k c1 c3 n (s7) ((i4 + 1)))))
def f_X6_takeLetters (σ : Sg) (a1 : Int64) : Option (Unit × Sg) :=
  cP (f_X0_sizeOf σ a1) fun x1 => (f_X6_takeLetters_L8 (fun (s9 : Sg) => some ((), s9)) a1 x1 fu σ 0)
def f_X7_takeLot (σ : Sg)  : Option (Int32 × Sg) :=
  cA (f_X2_below σ 8) fun x1 s3 => (if x1 = 0 then (cA (f_X6_take s3 46) fun x41 s43 => (some (1, s43))) else (if (s3.1 4 0) = 0 then (some (1, s3)) else (cP (f_X6_hasRoom s3) fun x4 => (if x4 = 0 then (some (0, s3)) else (cA (f_X2_below s3 (s3.1 4 0)) fun x6 s8 => (rI s8 6 8 x6 fun x9 => (cA (f_X2_below s8 x9) fun x12 s14 => (cP (f_X1_wordOf s14 x6 x12) fun x15 => (cA (f_X6_takeLetters s14 x15) fun x17 s19 => (cA (f_X2_below s19 3) fun x20 s22 => (jn (fun (s24 : Sg) => cA (f_X6_take s24 32) fun x25 s27 => (some (1, s27))) fun k23 => (if x20 = 0 then (if (s22.1 4 6) ≤ 0 then (k23 s22) else (cA (f_X2_below s22 (s22.1 4 6)) fun x28 s30 => (rL s30 10 5 x28 fun x31 => (cA (f_X6_takeLetters s30 x31) fun x34 s36 => (k23 s36))))) else (k23 s22)))))))))))))
def f_X7_drift_L38 (k : Sg → Option (Int32 × Sg)) (c1 : Int32) : Nat → Sg → Int32 → Int32 → Option (Int32 × Sg)
  | 0, _, _, _ => none
  | n + 1, s, i3, i4 =>
  if c1 ≤ i4 then (k s) else (if i3 = 0 then (k s) else (cA (f_X7_takeLot s) fun x4 s6 => (f_X7_drift_L38 k c1 n (s6) (x4) ((i4 + 1)))))
def f_X7_drift (σ : Sg) (a1 : Int32) (a2 : Int32) : Option (Int32 × Sg) :=
  if a1 < 1 then (some ((-1000000002 : Int32), σ)) else (if 30 < a1 then (some ((-1000000002 : Int32), σ)) else (if a2 < 1 then (some ((-1000000002 : Int32), σ)) else (if a2 ≤ (999999 : Int32) then (cA (f_X2_start σ a2) fun x1 s3 => (f_X7_drift_L38 (fun (s9 : Sg) => cA (f_X7_textChanged s9) fun x10 s12 => (some ((s12.1 26 0), s12))) a1 fu s3 1 0)) else (some ((-1000000002 : Int32), σ)))))
def f_X8_next (σ : Sg) (a1 : Int64) : Option Int64 :=
  some ((a1 * (16807 : Int64)) - (a1 * (16807 : Int64)) / (2147483647 : Int64) * (2147483647 : Int64))
def f_X8_comesAll_L2 (k : Sg → Option (Unit × Sg)) (c1 : Int32) : Nat → Sg → Int32 → Option (Unit × Sg)
  | 0, _, _ => none
  | n + 1, s, i2 =>
  rI s 44 475 c1 fun x1 => (if x1 ≤ i2 then (k s) else (rI s 44 475 ((c1 + 1) + i2) fun x4 => (cA (f_X8_comes s x4) fun x7 s9 => (f_X8_comesAll_L2 k c1 n (s9) ((i2 + 1))))))
def f_X8_comesAll (σ : Sg) (a1 : Int32) : Option (Unit × Sg) :=
  f_X8_comesAll_L2 (fun (s11 : Sg) => some ((), s11)) a1 fu σ 0
def f_X8_drift_L32 (k : Sg → Option (Int32 × Sg)) (c1 : Int32) : Nat → Sg → Int64 → Int32 → Int32 → Option (Int32 × Sg)
  | 0, _, _, _, _ => none
  | n + 1, s, i3, i5, i6 =>
  if c1 ≤ i6 then (k s) else (if i5 = 0 then (k s) else (cP (f_X8_next s i3) fun x5 => (if (lg_cmp (x5 - x5 / (8 : Int64) * (8 : Int64)) 0) = 0 then (cA (f_X8_comes s 46) fun x62 s64 => (f_X8_drift_L32 k c1 n (s64) (x5) (i5) ((i6 + 1)))) else (rI s 44 475 0 fun x7 => (jn (fun (v11 : Int32) (v12 : Int32) => rI s 44 475 0 fun x13 => (if x13 ≤ 0 then (f_X8_drift_L32 k c1 n (s) (x5) (v11) ((v12 + 1))) else (cP (f_X8_next s x5) fun x16 => (rI s 44 475 0 fun x18 => (mH (¬ (Int32.toInt64 x18) = 0) (cP (f_X8_next s x16) fun x22 => (cP (f_X8_termAt s (Int64.toInt32 (x16 - x16 / (Int32.toInt64 x18) * (Int32.toInt64 x18)))) fun x24 => (rI s 44 475 (x24 + 0) fun x26 => (mH (¬ (Int32.toInt64 x26) = 0) (cP (f_X8_wordAt s (Int64.toInt32 (x16 - x16 / (Int32.toInt64 x18) * (Int32.toInt64 x18))) (Int64.toInt32 (x22 - x22 / (Int32.toInt64 x26) * (Int32.toInt64 x26)))) fun x30 => (cA (f_X8_comesAll s x30) fun x32 s34 => (cP (f_X8_next s34 x22) fun x35 => (jn (fun (s38 : Sg) (v39 : Int64) => cA (f_X8_comes s38 32) fun x40 s42 => (f_X8_drift_L32 k c1 n (s42) (v39) (v11) ((v12 + 1)))) fun k37 => (if (lg_cmp (x35 - x35 / (3 : Int64) * (3 : Int64)) 0) = 0 then (rI s34 44 475 1 fun x43 => (if x43 ≤ 0 then (k37 s34 x35) else (cP (f_X8_next s34 x35) fun x46 => (rI s34 44 475 1 fun x48 => (mH (¬ (Int32.toInt64 x48) = 0) (cP (f_X8_endingAt s34 (Int64.toInt32 (x46 - x46 / (Int32.toInt64 x48) * (Int32.toInt64 x48)))) fun x52 => (cA (f_X8_comesAll s34 x52) fun x54 s56 => (k37 s56 x46)))))))) else (k37 s34 x35))))))))))))))) fun k10 => (if x7 ≤ 0 then (k10 i5 i6) else (if (s.1 43 6) = 60 then (f_X8_drift_L32 k c1 n (s) (x5) (0) ((i6 + 1))) else (k10 i5 i6))))))))
def f_X8_drift (σ : Sg) (a1 : Int32) (a2 : Int32) : Option (Int32 × Sg) :=
  cP (f_X8_in σ a1 1 30) fun x1 => (if x1 = 0 then (some ((-1000000002 : Int32), σ)) else (cP (f_X8_in σ a2 1 (999999 : Int32)) fun x3 => (if x3 = 0 then (some ((-1000000002 : Int32), σ)) else (f_X8_drift_L32 (fun (s68 : Sg) => some ((s68.1 43 6), s68)) a1 fu σ (Int32.toInt64 a2) 1 0))))
def f_X6_isWord (σ : Sg) (a1 : Int32) : Option Int32 :=
  if a1 < 0 then (some 0) else (if (σ.1 26 0) ≤ a1 then (some 0) else (some 1))
def f_X4_reach_L8 (k : Option Int32) (σ : Sg) (c1 : Int32) (c2 : Int32) : Nat → Int32 → Option Int32
  | 0, _ => none
  | n + 1, i3 =>
  if (σ.1 4 0) ≤ i3 then (k) else (cP (f_X4_hasBegun σ c1 i3 c2) fun x1 => (if x1 = 0 then (f_X4_reach_L8 k σ c1 c2 n ((i3 + 1))) else (some c2)))
def f_X4_reach_L2 (k : Option Int32) (σ : Sg) (c1 : Int32) : Nat → Int32 → Option Int32
  | 0, _ => none
  | n + 1, i2 =>
  if i2 ≤ 0 then (k) else (f_X4_reach_L8 (f_X4_reach_L2 k σ c1 n ((i2 + (-1)))) σ c1 i2 fu 0)
def f_X4_reach (σ : Sg) (a1 : Int32) : Option Int32 :=
  f_X4_reach_L2 (some 0) σ a1 fu 4
def f_X4_termsOver_L18 (k : Int32 → Option Int32) (σ : Sg) (c1 : Int32) (c3 : Int32) : Nat → Int32 → Int32 → Option Int32
  | 0, _, _ => none
  | n + 1, i2, i4 =>
  rI σ 6 8 c3 fun x1 => (if x1 ≤ i4 then (k i2) else (if c1 < i4 then (k i2) else (cP (f_X4_isFound σ (c1 - i4) c3) fun x4 => (if x4 = 0 then (f_X4_termsOver_L18 k σ c1 c3 n (i2) ((i4 + 1))) else (f_X4_termsOver_L18 k σ c1 c3 n ((i2 ||| (1 <<< (c3 &&& 31)))) ((i4 + 1)))))))
def f_X4_termsOver_L4 (k : Int32 → Option Int32) (σ : Sg) (c1 : Int32) : Nat → Int32 → Int32 → Option Int32
  | 0, _, _ => none
  | n + 1, i2, i3 =>
  if (σ.1 4 0) ≤ i3 then (k i2) else (f_X4_termsOver_L18 (fun (v9 : Int32) => f_X4_termsOver_L4 k σ c1 n (v9) ((i3 + 1))) σ c1 i3 fu i2 0)
def f_X4_termsOver (σ : Sg) (a1 : Int32) : Option Int32 :=
  f_X4_termsOver_L4 (fun (v11 : Int32) => some v11) σ a1 fu 0 0
def f_X7_word (σ : Sg) (a1 : Int32) (a2 : Int32) : Option (Int32 × Sg) :=
  cP (f_X6_isWord σ a1) fun x1 => (if x1 = 0 then (some ((-1000000001 : Int32), σ)) else (if a2 = 0 then (rL σ 27 60 a1 fun x4 => (cP (f_X0_sizeOf σ x4) fun x7 => (some (x7, σ)))) else (if a2 = 1 then (rI σ 29 60 a1 fun x10 => (some (x10, σ))) else (if a2 = 2 then (rI σ 28 60 a1 fun x14 => (if x14 = 0 then (some (0, σ)) else (some (1, σ)))) else (if a2 = 3 then (cA (f_X7_settled σ) fun x19 s21 => (cP (f_X4_reach s21 a1) fun x22 => (some (x22, s21)))) else (if a2 = 4 then (cA (f_X7_settled σ) fun x25 s27 => (cP (f_X4_termsOver s27 a1) fun x28 => (some (x28, s27)))) else (if a2 = 5 then (cA (f_X7_settled σ) fun x31 s33 => (rI s33 39 60 a1 fun x34 => (some (x34, s33)))) else (some ((-1000000002 : Int32), σ)))))))))
def f_X8_isWord (σ : Sg) (a1 : Int32) : Option Int32 :=
  cP (f_X8_in σ a1 0 ((σ.1 43 6) - 1)) fun x1 => (mH (x1 = 0 ∨ x1 = 1) (some x1))
def f_X8_reach_L17 (k : Int32 → Option Int32) (σ : Sg) (c1 : Int32) (c3 : Int32) : Nat → Int32 → Int32 → Option Int32
  | 0, _, _ => none
  | n + 1, i2, i4 =>
  cP (f_X8_termAt σ c3) fun x4 => (rI σ 44 475 (x4 + 0) fun x6 => (if x6 < i4 then (k i2) else (jn (fun (v10 : Int32) (v11 : Int32) => f_X8_reach_L17 k σ c1 c3 n (v10) ((v11 + 1))) fun k9 => (if i4 ≤ i2 then (k9 i2 i4) else (cP (f_X8_isMet σ c3 ((c1 - i4) + 1) i4) fun x12 => (if x12 = 0 then (k9 i2 i4) else (f_X8_reach_L17 k σ c1 c3 n (i4) ((i4 + 1)))))))))
def f_X8_reach_L4 (k : Int32 → Option Int32) (σ : Sg) (c1 : Int32) : Nat → Int32 → Int32 → Option Int32
  | 0, _, _ => none
  | n + 1, i2, i3 =>
  rI σ 44 475 0 fun x1 => (if x1 ≤ i3 then (k i2) else (f_X8_reach_L17 (fun (v17 : Int32) => f_X8_reach_L4 k σ c1 n (v17) ((i3 + 1))) σ c1 i3 fu i2 1))
def f_X8_reach (σ : Sg) (a1 : Int32) : Option Int32 :=
  f_X8_reach_L4 (fun (v19 : Int32) => some v19) σ a1 fu 0 0
def f_X8_foundOver_L17 (k : Int32 → Option Int32) (σ : Sg) (c1 : Int32) (c3 : Int32) : Nat → Int32 → Int32 → Option Int32
  | 0, _, _ => none
  | n + 1, i2, i4 =>
  cP (f_X8_termAt σ c3) fun x4 => (rI σ 44 475 (x4 + 0) fun x6 => (if x6 ≤ i4 then (k i2) else (cP (f_X8_isFound σ c3 (c1 - i4)) fun x9 => (jn (fun (v12 : Int32) => f_X8_foundOver_L17 k σ c1 c3 n ((i2 ||| v12)) ((i4 + 1))) fun k11 => (if x9 = 0 then (k11 0) else (k11 (1 <<< (c3 &&& 31))))))))
def f_X8_foundOver_L4 (k : Int32 → Option Int32) (σ : Sg) (c1 : Int32) : Nat → Int32 → Int32 → Option Int32
  | 0, _, _ => none
  | n + 1, i2, i3 =>
  rI σ 44 475 0 fun x1 => (if x1 ≤ i3 then (k i2) else (f_X8_foundOver_L17 (fun (v15 : Int32) => f_X8_foundOver_L4 k σ c1 n (v15) ((i3 + 1))) σ c1 i3 fu i2 0))
def f_X8_foundOver (σ : Sg) (a1 : Int32) : Option Int32 :=
  f_X8_foundOver_L4 (fun (v17 : Int32) => some v17) σ a1 fu 0 0
def f_X8_chosenOver_L8 (k : Option (Int32 × Sg)) (σ : Sg) (c1 : Int32) : Nat → Int32 → Int32 → Option (Int32 × Sg)
  | 0, _, _ => none
  | n + 1, i2, i3 =>
  if c1 < i3 then (k) else (rI σ 53 60 i3 fun x4 => (if x4 = (-1) then (f_X8_chosenOver_L8 k σ c1 n (i2) ((i3 + 1))) else (rI σ 53 60 i3 fun x7 => (cP (f_X8_termAt σ x7) fun x10 => (rI σ 44 475 (x10 + 0) fun x12 => (if (i3 + x12) ≤ c1 then (f_X8_chosenOver_L8 k σ c1 n ((i2 + 1)) ((i3 + 1))) else (some (i2, σ))))))))
def f_X8_chosenOver (σ : Sg) (a1 : Int32) : Option (Int32 × Sg) :=
  cA (f_X8_choose σ) fun x1 s3 => (f_X8_chosenOver_L8 (some ((-1), s3)) s3 a1 fu 0 0)
def f_X8_word (σ : Sg) (a1 : Int32) (a2 : Int32) : Option (Int32 × Sg) :=
  cP (f_X8_isWord σ a1) fun x1 => (if x1 = 0 then (some ((-1000000001 : Int32), σ)) else (if a2 = 0 then (rI σ 48 915 ((15 * a1) + a2) fun x4 => (some (x4, σ))) else (if a2 = 1 then (rI σ 48 915 ((15 * a1) + a2) fun x8 => (some (x8, σ))) else (if a2 = 2 then (rI σ 48 915 ((15 * a1) + a2) fun x12 => (some (x12, σ))) else (if a2 = 3 then (cP (f_X8_reach σ a1) fun x16 => (some (x16, σ))) else (if a2 = 4 then (cP (f_X8_foundOver σ a1) fun x19 => (some (x19, σ))) else (if a2 = 5 then (cA (f_X8_chosenOver σ a1) fun x22 s24 => (some (x22, s24))) else (some ((-1000000002 : Int32), σ)))))))))
def f_X4_foundCount_L4 (k : Int32 → Option Int32) (σ : Sg) : Nat → Int32 → Int32 → Option Int32
  | 0, _, _ => none
  | n + 1, i1, i2 =>
  if (σ.1 26 0) ≤ i2 then (k i1) else (rI σ 33 60 i2 fun x1 => (cP (f_J6_bitCount_0f7a4 σ x1) fun x4 => (f_X4_foundCount_L4 k σ n ((i1 + x4)) ((i2 + 1)))))
def f_X4_foundCount (σ : Sg)  : Option Int32 :=
  f_X4_foundCount_L4 (fun (v7 : Int32) => some v7) σ fu 0 0
def f_X4_wordsChosen_L4 (k : Int32 → Option Int32) (σ : Sg) : Nat → Int32 → Int32 → Option Int32
  | 0, _, _ => none
  | n + 1, i1, i2 =>
  if (σ.1 30 11) ≤ i2 then (k i1) else (rI σ 38 60 i2 fun x1 => (rI σ 6 8 x1 fun x4 => (f_X4_wordsChosen_L4 k σ n ((i1 + x4)) ((i2 + 1)))))
def f_X4_wordsChosen (σ : Sg)  : Option Int32 :=
  f_X4_wordsChosen_L4 (fun (v8 : Int32) => some v8) σ fu 0 0
def f_X4_insteadCount_L4 (k : Int32 → Option Int32) (σ : Sg) : Nat → Int32 → Int32 → Option Int32
  | 0, _, _ => none
  | n + 1, i1, i2 =>
  if (σ.1 30 11) ≤ i2 then (k i1) else (rI σ 38 60 i2 fun x1 => (cP (f_X1_isForbidden σ x1) fun x4 => (jn (fun (v7 : Int32) => f_X4_insteadCount_L4 k σ n ((i1 + v7)) ((i2 + 1))) fun k6 => (if x4 = 0 then (k6 0) else (k6 1)))))
def f_X4_insteadCount (σ : Sg)  : Option Int32 :=
  f_X4_insteadCount_L4 (fun (v10 : Int32) => some v10) σ fu 0 0
def f_X4_insteadOver (σ : Sg) (a1 : Int32) : Option Int32 :=
  rI σ 39 60 a1 fun x1 => (if x1 = (-1) then (some (-1)) else (rI σ 38 60 x1 fun x4 => (rI σ 9 8 x4 fun x7 => (some x7))))
def f_X6_endsSentence (σ : Sg) (a1 : Int32) : Option Int32 :=
  jn (if (1 : Int32) = 0 then (some 0) else (rI σ 29 60 a1 fun x2 => (if (σ.1 26 4) ≤ x2 then (some 0) else (some 1)))) fun k1 => (if (a1 + 1) = (σ.1 26 0) then (k1) else (rI σ 29 60 (a1 + 1) fun x7 => (rI σ 29 60 a1 fun x10 => (if x7 = x10 then (if (0 : Int32) = 0 then (some 0) else (rI σ 29 60 a1 fun x13 => (if (σ.1 26 4) ≤ x13 then (some 0) else (some 1)))) else (k1)))))
def f_X3_addSign (σ : Sg) (a1 : Int32) : Option (Unit × Sg) :=
  if 3120 ≤ (σ.1 40 4) then (some ((), σ)) else (wI σ 41 3120 (σ.1 40 4) (vp_nar .char ((Int32.toUInt32 a1 % 65536).toInt32)) fun s1 => (pI s1 40 4 ((s1.1 40 4) + 1) fun s4 => (some ((), s4))))
def f_X3_addWord_L21 (k : Sg → Option (Unit × Sg)) (c1 : Int64) (c3 : Int32) : Nat → Sg → Int32 → Option (Unit × Sg)
  | 0, _, _ => none
  | n + 1, s, i4 =>
  if c3 ≤ i4 then (k s) else (cP (f_X0_at s c1 i4) fun x5 => (cA (f_X3_addSign s x5) fun x7 s9 => (f_X3_addWord_L21 k c1 c3 n (s9) ((i4 + 1)))))
def f_X3_addWord (σ : Sg) (a1 : Int64) : Option (Unit × Sg) :=
  jn (fun (s2 : Sg) => cP (f_X0_sizeOf s2 a1) fun x3 => (f_X3_addWord_L21 (fun (s11 : Sg) => some ((), s11)) a1 x3 fu s2 0)) fun k1 => (if (σ.1 40 4) ≤ 0 then (k1 σ) else (cA (f_X3_addSign σ 32) fun x12 s14 => (k1 s14)))
def f_X3_addWordsOf_L2 (k : Sg → Option (Unit × Sg)) (c1 : Int32) : Nat → Sg → Int32 → Option (Unit × Sg)
  | 0, _, _ => none
  | n + 1, s, i2 =>
  rI s 6 8 c1 fun x1 => (if x1 ≤ i2 then (k s) else (cP (f_X1_wordOf s c1 i2) fun x4 => (cA (f_X3_addWord s x4) fun x6 s8 => (f_X3_addWordsOf_L2 k c1 n (s8) ((i2 + 1))))))
def f_X3_addWordsOf (σ : Sg) (a1 : Int32) : Option (Unit × Sg) :=
  f_X3_addWordsOf_L2 (fun (s10 : Sg) => some ((), s10)) a1 fu σ 0
def f_X3_write_L15 (k : Sg → Option (Unit × Sg)) : Nat → Sg → Int32 → Option (Unit × Sg)
  | 0, _, _ => none
  | n + 1, s, i1 =>
  if (s.1 26 0) ≤ i1 then (k s) else (cP (f_X4_insteadOver s i1) fun x3 => (jn (fun (s6 : Sg) => cP (f_X6_endsSentence s6 i1) fun x7 => (if x7 = 0 then (f_X3_write_L15 k n (s6) ((i1 + 1))) else (cA (f_X3_addSign s6 46) fun x9 s11 => (f_X3_write_L15 k n (s11) ((i1 + 1)))))) fun k5 => (if x3 = (-1) then (rL s 27 60 i1 fun x23 => (cA (f_X3_addWord s x23) fun x26 s28 => (k5 s28))) else (rI s 39 60 i1 fun x13 => (rI s 37 60 x13 fun x16 => (if x16 = i1 then (cA (f_X3_addWordsOf s x3) fun x19 s21 => (k5 s21)) else (k5 s)))))))
def f_X3_write (σ : Sg)  : Option (Unit × Sg) :=
  if (σ.1 40 5) = 0 then (pI σ 40 4 0 fun s1 => (f_X3_write_L15 (fun (s31 : Sg) => pI s31 40 5 1 fun s32 => (some ((), s32))) fu s1 0)) else (some ((), σ))
def f_X7_written (σ : Sg)  : Option (Unit × Sg) :=
  cA (f_X4_settle σ) fun x1 s3 => (cA (f_X3_write s3) fun x4 s6 => (some ((), s6)))
def f_X7_told (σ : Sg) (a1 : Int32) : Option (Int32 × Sg) :=
  if a1 = 0 then (some ((σ.1 4 0), σ)) else (if a1 = 1 then (some ((σ.1 4 6), σ)) else (if a1 = 2 then (some ((σ.1 1 1), σ)) else (if a1 = 3 then (some ((σ.1 26 0), σ)) else (if a1 = 4 then (some ((σ.1 26 4), σ)) else (if a1 = 5 then (cP (f_X0_sizeOf σ (σ.2 26 5)) fun x7 => (some (x7, σ))) else (if a1 = 6 then (cA (f_X7_settled σ) fun x10 s12 => (cP (f_X4_foundCount s12) fun x13 => (some (x13, s12)))) else (if a1 = 7 then (cA (f_X7_settled σ) fun x16 s18 => (some ((s18.1 30 11), s18))) else (if a1 = 8 then (cA (f_X7_settled σ) fun x20 s22 => (rI s22 34 61 0 fun x23 => (some (x23, s22)))) else (if a1 = 9 then (cA (f_X7_settled σ) fun x27 s29 => (cP (f_X4_wordsChosen s29) fun x30 => (some (x30, s29)))) else (if a1 = 10 then (cA (f_X7_settled σ) fun x33 s35 => (cP (f_X4_insteadCount s35) fun x36 => (some (x36, s35)))) else (if a1 = 11 then (cA (f_X7_written σ) fun x39 s41 => (some ((s41.1 40 4), s41))) else (if a1 = 12 then (cP (f_X1_forbiddenSet σ) fun x43 => (some (x43, σ))) else (some ((-1000000002 : Int32), σ))))))))))))))
def f_X8_counts_L19 (k : Int32 → Option (Int32 × Sg)) (σ : Sg) (c1 : Int32) (c3 : Int32) : Nat → Int32 → Int32 → Option (Int32 × Sg)
  | 0, _, _ => none
  | n + 1, i2, i4 =>
  rI σ 44 475 0 fun x4 => (if x4 ≤ i4 then (k i2) else (rI σ 53 60 c3 fun x7 => (jn (fun (v11 : Int32) => jn (fun (v13 : Int32) => jn (fun (v15 : Int32) => f_X8_counts_L19 k σ c1 c3 n ((i2 + v15)) ((i4 + 1))) fun k14 => (if v13 = 0 then (k14 0) else (if c1 = 2 then (cP (f_X8_termAt σ i4) fun x16 => (rI σ 44 475 (x16 + 0) fun x18 => (k14 x18))) else (k14 1)))) fun k12 => (if c1 = 0 then (cP (f_X8_isFound σ i4 c3) fun x31 => (k12 x31)) else (if v11 = 0 then (k12 0) else (if c1 < 3 then (k12 1) else (cP (f_X8_termAt σ i4) fun x23 => (rI σ 44 475 (x23 + 3) fun x25 => (if x25 = (-1) then (k12 0) else (k12 1)))))))) fun k10 => (if x7 = i4 then (k10 1) else (k10 0)))))
def f_X8_counts_L8 (k : Int32 → Option (Int32 × Sg)) (σ : Sg) (c1 : Int32) : Nat → Int32 → Int32 → Option (Int32 × Sg)
  | 0, _, _ => none
  | n + 1, i2, i3 =>
  if (σ.1 43 6) ≤ i3 then (k i2) else (f_X8_counts_L19 (fun (v36 : Int32) => f_X8_counts_L8 k σ c1 n (v36) ((i3 + 1))) σ c1 i3 fu i2 0)
def f_X8_counts (σ : Sg) (a1 : Int32) : Option (Int32 × Sg) :=
  cA (f_X8_choose σ) fun x1 s3 => (f_X8_counts_L8 (fun (v38 : Int32) => some (v38, s3)) s3 a1 fu 0 0)
def f_X8_mends_L154 (k : Sg → Int32 → Option (Int32 × Sg)) (c2 : Int32) (c4 : Int32) (c5 : Int32) (c6 : Int32) (c7 : Int32) (c8 : Int32) : Nat → Sg → Int32 → Int32 → Option (Int32 × Sg)
  | 0, _, _, _ => none
  | n + 1, s, i1, i9 =>
  if c8 ≤ i9 then (k s i1) else (jn (fun (v19 : Int32) => wI s 54 3300 i1 v19 fun s20 => (f_X8_mends_L154 k c2 c4 c5 c6 c7 c8 n (s20) ((i1 + 1)) ((i9 + 1)))) fun k18 => (if c4 = (-1) then (rI s 48 915 (((15 * c2) + 3) + i9) fun x28 => (k18 x28)) else (cP (f_X8_wordAt s c4 c7) fun x23 => (rI s 44 475 ((x23 + 1) + i9) fun x25 => (k18 x25)))))
def f_X8_mends_L97 (k : Sg → Int32 → Option (Int32 × Sg)) (c2 : Int32) (c4 : Int32) (c5 : Int32) (c6 : Int32) : Nat → Sg → Int32 → Int32 → Option (Int32 × Sg)
  | 0, _, _, _ => none
  | n + 1, s, i1, i7 =>
  if c6 ≤ i7 then (k s i1) else (jn (fun (s14 : Sg) (v15 : Int32) => jn (fun (v17 : Int32) => f_X8_mends_L154 (fun (s33 : Sg) (v34 : Int32) => f_X8_mends_L97 k c2 c4 c5 c6 n (s33) (v34) ((i7 + 1))) c2 c4 c5 c6 i7 v17 fu s14 v15 0) fun k16 => (if c4 = (-1) then (rI s14 48 915 (15 * c2) fun x40 => (k16 x40)) else (cP (f_X8_wordAt s14 c4 i7) fun x35 => (rI s14 44 475 x35 fun x37 => (k16 x37))))) fun k13 => (if i1 ≤ 0 then (k13 s i1) else (wI s 54 3300 i1 32 fun s44 => (k13 s44 (i1 + 1)))))
def f_X8_mends_L8 (k : Sg → Int32 → Option (Int32 × Sg)) : Nat → Sg → Int32 → Int32 → Option (Int32 × Sg)
  | 0, _, _, _ => none
  | n + 1, s, i1, i2 =>
  if (s.1 43 6) ≤ i2 then (k s i1) else (rI s 53 60 i2 fun x4 => (jn (fun (v8 : Int32) => jn (fun (v10 : Int32) => jn (fun (v12 : Int32) => f_X8_mends_L97 (fun (s49 : Sg) (v50 : Int32) => rI s49 48 915 ((15 * ((i2 + v10) - 1)) + 1) fun x51 => (jn (fun (v55 : Int32) => if v55 = 0 then (f_X8_mends_L8 k n (s49) (v50) ((i2 + v10))) else (if (s49.1 43 7) ≤ x51 then (f_X8_mends_L8 k n (s49) (v50) ((i2 + v10))) else (wI s49 54 3300 v50 46 fun s56 => (f_X8_mends_L8 k n (s56) ((v50 + 1)) ((i2 + v10)))))) fun k54 => (if (i2 + v10) = (s49.1 43 6) then (k54 1) else (rI s49 48 915 ((15 * (i2 + v10)) + 1) fun x61 => (if x61 = x51 then (k54 0) else (k54 1)))))) i2 v8 (i2 + v10) v12 fu s i1 0) fun k11 => (if v8 = (-1) then (k11 1) else (cP (f_X8_termAt s v8) fun x66 => (rI s 44 475 (x66 + 0) fun x68 => (k11 x68))))) fun k9 => (if v8 = (-1) then (k9 1) else (cP (f_X8_termAt s x4) fun x72 => (rI s 44 475 (x72 + 0) fun x74 => (k9 x74))))) fun k7 => (if x4 = (-1) then (k7 (-1)) else (cP (f_X8_termAt s x4) fun x78 => (rI s 44 475 (x78 + 3) fun x80 => (k7 x80))))))
def f_X8_mends (σ : Sg)  : Option (Int32 × Sg) :=
  cA (f_X8_choose σ) fun x1 s3 => (f_X8_mends_L8 (fun (s85 : Sg) (v86 : Int32) => some (v86, s85)) fu s3 0 0)
def f_X8_told (σ : Sg) (a1 : Int32) : Option (Int32 × Sg) :=
  if a1 = 0 then (rI σ 44 475 0 fun x2 => (some (x2, σ))) else (if a1 = 1 then (rI σ 44 475 1 fun x6 => (some (x6, σ))) else (if a1 = 2 then (some ((σ.1 43 4), σ)) else (if a1 = 3 then (some ((σ.1 43 6), σ)) else (if a1 = 4 then (some ((σ.1 43 7), σ)) else (if a1 = 5 then (if 60 ≤ (σ.1 43 6) then (some (0, σ)) else (rI σ 48 915 (15 * (σ.1 43 6)) fun x13 => (some (x13, σ)))) else (if a1 = 6 then (cA (f_X8_counts σ 0) fun x18 s20 => (some (x18, s20))) else (if a1 = 7 then (cA (f_X8_counts σ 1) fun x22 s24 => (some (x22, s24))) else (if a1 = 8 then (cA (f_X8_choose σ) fun x26 s28 => (rI s28 51 65 0 fun x29 => (some (x29, s28)))) else (if a1 = 9 then (cA (f_X8_counts σ 2) fun x33 s35 => (some (x33, s35))) else (if a1 = 10 then (cA (f_X8_counts σ 3) fun x37 s39 => (some (x37, s39))) else (if a1 = 11 then (cA (f_X8_mends σ) fun x41 s43 => (some (x41, s43))) else (if a1 = 12 then (cP (f_X8_forbidden σ) fun x45 => (some (x45, σ))) else (some ((-1000000002 : Int32), σ))))))))))))))
def f_X4_foundAt_L4 (k : Option Int32) (σ : Sg) (c1 : Int32) : Nat → Int32 → Int32 → Option Int32
  | 0, _, _ => none
  | n + 1, i2, i3 =>
  if (σ.1 26 0) ≤ i3 then (k) else (rI σ 33 60 i3 fun x1 => (cP (f_J6_bitCount_0f7a4 σ x1) fun x4 => (if (i2 + x4) ≤ c1 then (f_X4_foundAt_L4 k σ c1 n ((i2 + x4)) ((i3 + 1))) else (some i3))))
def f_X4_foundAt (σ : Sg) (a1 : Int32) : Option Int32 :=
  f_X4_foundAt_L4 (some (-1)) σ a1 fu 0 0
def f_X4_foundTerm_L18 (k : Int32 → Option Int32) (σ : Sg) (c1 : Int32) (c3 : Int32) : Nat → Int32 → Int32 → Option Int32
  | 0, _, _ => none
  | n + 1, i2, i4 =>
  if (σ.1 4 0) ≤ i4 then (k i2) else (cP (f_X4_isFound σ c3 i4) fun x1 => (if x1 = 0 then (f_X4_foundTerm_L18 k σ c1 c3 n (i2) ((i4 + 1))) else (if i2 = c1 then (some i4) else (f_X4_foundTerm_L18 k σ c1 c3 n ((i2 + 1)) ((i4 + 1))))))
def f_X4_foundTerm_L4 (k : Option Int32) (σ : Sg) (c1 : Int32) : Nat → Int32 → Int32 → Option Int32
  | 0, _, _ => none
  | n + 1, i2, i3 =>
  if (σ.1 26 0) ≤ i3 then (k) else (f_X4_foundTerm_L18 (fun (v6 : Int32) => f_X4_foundTerm_L4 k σ c1 n (v6) ((i3 + 1))) σ c1 i3 fu i2 0)
def f_X4_foundTerm (σ : Sg) (a1 : Int32) : Option Int32 :=
  f_X4_foundTerm_L4 (some (-1)) σ a1 fu 0 0
def f_X4_isChosen (σ : Sg) (a1 : Int32) (a2 : Int32) : Option Int32 :=
  rI σ 39 60 a1 fun x1 => (if x1 = (-1) then (some 0) else (rI σ 37 60 x1 fun x4 => (if x4 = a1 then (rI σ 38 60 x1 fun x7 => (if x7 = a2 then (some 1) else (some 0))) else (some 0))))
def f_X7_found (σ : Sg) (a1 : Int32) (a2 : Int32) : Option (Int32 × Sg) :=
  if a1 < 0 then (some ((-1000000002 : Int32), σ)) else (if a2 < 0 then (some ((-1000000002 : Int32), σ)) else (if a2 ≤ 3 then (cA (f_X7_settled σ) fun x1 s3 => (cP (f_X4_foundAt s3 a1) fun x4 => (cP (f_X4_foundTerm s3 a1) fun x6 => (if x4 = (-1) then (some ((-1), s3)) else (if x6 = (-1) then (some ((-1), s3)) else (if a2 = 0 then (some (x4, s3)) else (if a2 = 1 then (some (x6, s3)) else (if a2 = 2 then (cP (f_X1_worthOf s3 x6) fun x11 => (some (x11, s3))) else (cP (f_X4_isChosen s3 x4 x6) fun x13 => (if x13 = 0 then (some (0, s3)) else (some (1, s3)))))))))))) else (some ((-1000000002 : Int32), σ))))
def f_X8_place_L21 (k : Int32 → Option (Int32 × Sg)) (σ : Sg) (c2 : Int32) (c4 : Int32) : Nat → Int32 → Int32 → Option (Int32 × Sg)
  | 0, _, _ => none
  | n + 1, i3, i5 =>
  rI σ 44 475 0 fun x4 => (if x4 ≤ i5 then (k i3) else (jn (fun (v8 : Int32) => jn (jn (fun (v11 : Int32) => f_X8_place_L21 k σ c2 c4 n ((i3 - v11)) ((i5 + 1))) fun k10 => (if v8 = 0 then (k10 0) else (k10 1))) fun k9 => (if v8 = 0 then (k9) else (if i3 = 0 then (some (((8 * c4) + i5), σ)) else (k9)))) fun k7 => (if c2 = 0 then (cP (f_X8_isFound σ i5 c4) fun x15 => (k7 x15)) else (rI σ 53 60 c4 fun x17 => (if x17 = i5 then (k7 1) else (k7 0))))))
def f_X8_place_L9 (k : Option (Int32 × Sg)) (σ : Sg) (c2 : Int32) : Nat → Int32 → Int32 → Option (Int32 × Sg)
  | 0, _, _ => none
  | n + 1, i3, i4 =>
  if (σ.1 43 6) ≤ i4 then (k) else (f_X8_place_L21 (fun (v23 : Int32) => f_X8_place_L9 k σ c2 n (v23) ((i4 + 1))) σ c2 i4 fu i3 0)
def f_X8_place (σ : Sg) (a1 : Int32) (a2 : Int32) : Option (Int32 × Sg) :=
  cA (f_X8_choose σ) fun x1 s3 => (f_X8_place_L9 (some ((-1), s3)) s3 a2 fu a1 0)
def f_X8_found (σ : Sg) (a1 : Int32) (a2 : Int32) : Option (Int32 × Sg) :=
  if a1 < 0 then (some ((-1000000002 : Int32), σ)) else (cP (f_X8_in σ a2 0 3) fun x1 => (if x1 = 0 then (some ((-1000000002 : Int32), σ)) else (cA (f_X8_place σ a1 0) fun x3 s5 => (if x3 = (-1) then (some ((-1), s5)) else (if a2 = 0 then (some ((x3 / 8), s5)) else (if a2 = 1 then (some ((x3 - x3 / 8 * 8), s5)) else (if a2 = 2 then (cP (f_X8_worthOf s5 (x3 - x3 / 8 * 8)) fun x10 => (some (x10, s5))) else (rI s5 53 60 (x3 / 8) fun x6 => (if x6 = (x3 - x3 / 8 * 8) then (some (1, s5)) else (some (0, s5)))))))))))
def f_X7_chosen (σ : Sg) (a1 : Int32) (a2 : Int32) : Option (Int32 × Sg) :=
  if a1 < 0 then (some ((-1000000002 : Int32), σ)) else (if a2 < 0 then (some ((-1000000002 : Int32), σ)) else (if a2 ≤ 3 then (cA (f_X7_settled σ) fun x1 s3 => (if a1 < (s3.1 30 11) then (rI s3 38 60 a1 fun x4 => (if a2 = 0 then (rI s3 37 60 a1 fun x8 => (some (x8, s3))) else (if a2 = 1 then (some (x4, s3)) else (if a2 = 2 then (cP (f_X1_worthOf s3 x4) fun x13 => (some (x13, s3))) else (rI s3 9 8 x4 fun x15 => (some (x15, s3))))))) else (some ((-1), s3)))) else (some ((-1000000002 : Int32), σ))))
def f_X8_chosen (σ : Sg) (a1 : Int32) (a2 : Int32) : Option (Int32 × Sg) :=
  if a1 < 0 then (some ((-1000000002 : Int32), σ)) else (cP (f_X8_in σ a2 0 3) fun x1 => (if x1 = 0 then (some ((-1000000002 : Int32), σ)) else (cA (f_X8_place σ a1 1) fun x3 s5 => (if x3 = (-1) then (some ((-1), s5)) else (if a2 = 0 then (some ((x3 / 8), s5)) else (if a2 = 1 then (some ((x3 - x3 / 8 * 8), s5)) else (if a2 = 2 then (cP (f_X8_worthOf s5 (x3 - x3 / 8 * 8)) fun x11 => (some (x11, s5))) else (cP (f_X8_termAt s5 (x3 - x3 / 8 * 8)) fun x6 => (rI s5 44 475 (x6 + 3) fun x8 => (some (x8, s5)))))))))))
def f_X4_isLonger (σ : Sg) (a1 : Int32) (a2 : Int32) : Option Int32 :=
  rI σ 6 8 a1 fun x1 => (rI σ 6 8 a2 fun x4 => (if x1 = x4 then (rI σ 7 8 a1 fun x7 => (rI σ 7 8 a2 fun x10 => (if x7 ≤ x10 then (some 0) else (some 1)))) else (rI σ 6 8 a1 fun x14 => (rI σ 6 8 a2 fun x17 => (if x14 ≤ x17 then (some 0) else (some 1))))))
def f_X4_longestAt_L4 (k : Int32 → Option Int32) (σ : Sg) (c1 : Int32) : Nat → Int32 → Int32 → Option Int32
  | 0, _, _ => none
  | n + 1, i2, i3 =>
  if (σ.1 4 0) ≤ i3 then (k i2) else (cP (f_X4_isFound σ c1 i3) fun x1 => (if x1 = 0 then (f_X4_longestAt_L4 k σ c1 n (i2) ((i3 + 1))) else (jn (fun (v4 : Int32) => f_X4_longestAt_L4 k σ c1 n (v4) ((v4 + 1))) fun k3 => (if i2 = (-1) then (k3 i3) else (cP (f_X4_isLonger σ i3 i2) fun x5 => (if x5 = 0 then (f_X4_longestAt_L4 k σ c1 n (i2) ((i3 + 1))) else (k3 i3)))))))
def f_X4_longestAt (σ : Sg) (a1 : Int32) : Option Int32 :=
  f_X4_longestAt_L4 (fun (v11 : Int32) => some v11) σ a1 fu (-1) 0
def f_X7_longest (σ : Sg) (a1 : Int32) : Option (Int32 × Sg) :=
  cP (f_X6_isWord σ a1) fun x1 => (if x1 = 0 then (some ((-1000000001 : Int32), σ)) else (cA (f_X7_settled σ) fun x3 s5 => (cP (f_X4_longestAt s5 a1) fun x6 => (some (x6, s5)))))
def f_X8_longest_L18 (k : Int32 → Option Int32) (σ : Sg) (c1 : Int32) : Nat → Int32 → Int32 → Int32 → Option Int32
  | 0, _, _, _ => none
  | n + 1, i2, i3, i4 =>
  rI σ 44 475 0 fun x3 => (if x3 ≤ i4 then (k i2) else (cP (f_X8_termAt σ i4) fun x6 => (rI σ 44 475 (x6 + 0) fun x8 => (cP (f_X8_termAt σ i4) fun x11 => (rI σ 44 475 (x11 + 1) fun x13 => (jn (fun (v17 : Int32) => jn (fun (v19 : Int32) => if v17 = 0 then (f_X8_longest_L18 k σ c1 n (v19) (i3) ((i4 + 1))) else (f_X8_longest_L18 k σ c1 n (v19) (((10 * x8) + x13)) ((i4 + 1)))) fun k18 => (if v17 = 0 then (k18 i2) else (k18 i4))) fun k16 => (if ((10 * x8) + x13) ≤ i3 then (k16 0) else (cP (f_X8_isFound σ i4 c1) fun x22 => (if x22 = 0 then (k16 0) else (k16 1))))))))))
def f_X8_longest (σ : Sg) (a1 : Int32) : Option Int32 :=
  cP (f_X8_isWord σ a1) fun x1 => (if x1 = 0 then (some (-1000000001 : Int32)) else (f_X8_longest_L18 (fun (v27 : Int32) => some v27) σ a1 fu (-1) 0 0))
def f_X7_sign (σ : Sg) (a1 : Int32) : Option (Int32 × Sg) :=
  if 0 ≤ a1 then (cA (f_X7_written σ) fun x1 s3 => (if (s3.1 40 4) ≤ a1 then (some ((-1), s3)) else (rI s3 41 3120 a1 fun x4 => (some (x4, s3))))) else (some ((-1000000002 : Int32), σ))
def f_X8_sign (σ : Sg) (a1 : Int32) : Option (Int32 × Sg) :=
  if 0 ≤ a1 then (cA (f_X8_mends σ) fun x1 s3 => (if x1 ≤ a1 then (some ((-1), s3)) else (rI s3 54 3300 a1 fun x4 => (some (x4, s3))))) else (some ((-1000000002 : Int32), σ))
def f_X7_same (σ : Sg) (a1 : Int32) (a2 : Int32) : Option Int32 :=
  cP (f_X6_isWord σ a1) fun x1 => (if x1 = 0 then (some (-1000000001 : Int32)) else (cP (f_X6_isWord σ a2) fun x3 => (if x3 = 0 then (some (-1000000001 : Int32)) else (if a1 = a2 then (some (-1000000001 : Int32)) else (rL σ 27 60 a1 fun x5 => (rL σ 27 60 a2 fun x8 => (jn (if (0 : Int32) = 0 then (some 0) else (some 1)) fun k11 => (if (lg_cmp x5 x8) = 0 then (rI σ 28 60 a1 fun x13 => (if x13 = 0 then (rI σ 28 60 a2 fun x16 => (if x16 = 0 then (if (1 : Int32) = 0 then (some 0) else (some 1)) else (k11))) else (k11))) else (k11)))))))))
def f_X8_same_L82 (k : Int32 → Option Int32) (σ : Sg) (c1 : Int32) (c2 : Int32) : Nat → Int32 → Int32 → Option Int32
  | 0, _, _ => none
  | n + 1, i3, i4 =>
  rI σ 48 915 (15 * c1) fun x12 => (if x12 ≤ i4 then (k i3) else (if i3 = 0 then (k i3) else (rI σ 48 915 (((15 * c1) + 3) + i4) fun x15 => (rI σ 48 915 (((15 * c2) + 3) + i4) fun x18 => (if x15 = x18 then (f_X8_same_L82 k σ c1 c2 n (1) ((i4 + 1))) else (f_X8_same_L82 k σ c1 c2 n (0) ((i4 + 1))))))))
def f_X8_same (σ : Sg) (a1 : Int32) (a2 : Int32) : Option Int32 :=
  cP (f_X8_isWord σ a1) fun x1 => (if x1 = 0 then (some (-1000000001 : Int32)) else (cP (f_X8_isWord σ a2) fun x3 => (if x3 = 0 then (some (-1000000001 : Int32)) else (if a1 = a2 then (some (-1000000001 : Int32)) else (rI σ 48 915 (15 * a1) fun x5 => (rI σ 48 915 (15 * a2) fun x8 => (jn (f_X8_same_L82 (fun (v24 : Int32) => if v24 = 0 then (some 0) else (some 1)) σ a1 a2 fu 0 0) fun k11 => (if x5 = x8 then (rI σ 48 915 ((15 * a1) + 2) fun x26 => (if x26 = 0 then (rI σ 48 915 ((15 * a2) + 2) fun x29 => (if x29 = 0 then (f_X8_same_L82 (fun (v32 : Int32) => if v32 = 0 then (some 0) else (some 1)) σ a1 a2 fu 1 0) else (k11))) else (k11))) else (k11)))))))))
def f_X7_imageOf (σ : Sg) (a1 : Int32) : Option Nat :=
  if a1 < 0 then (some 0) else (if 2 ≤ a1 then (some 0) else (mH (¬ (a1 < 0 ∨ 2 ≤ Int32.toNatClampNeg a1)) (if a1 = 0 then (some 12) else (if a1 = 1 then (some 19) else (none)))))
def f_X1_copyTerm_12_4 (σ : Sg) (a1 : Int32) (a2 : Int32) : Option (Unit × Sg) :=
  xL4 σ 5 32 13 32 (a1 * 4) (a2 * 4) 4 fun s1 => (rI s1 6 8 a1 fun x4 => (wI s1 14 8 a2 x4 fun s7 => (rI s7 7 8 a1 fun x10 => (wI s7 15 8 a2 x10 fun s13 => (rI s13 8 8 a1 fun x16 => (wI s13 16 8 a2 x16 fun s19 => (rI s19 9 8 a1 fun x22 => (wI s19 17 8 a2 x22 fun s25 => (some ((), s25))))))))))
def f_X1_copyFrom_12_4_L10 (k : Sg → Option (Unit × Sg)) : Nat → Sg → Int32 → Option (Unit × Sg)
  | 0, _, _ => none
  | n + 1, s, i2 =>
  if 8 ≤ i2 then (k s) else (cA (f_X1_copyTerm_12_4 s i2 i2) fun x3 s5 => (f_X1_copyFrom_12_4_L10 k n (s5) ((i2 + 1))))
def f_X1_copyFrom_12_4 (σ : Sg)  : Option (Unit × Sg) :=
  pI σ 12 0 (σ.1 4 0) fun s1 => (f_X1_copyFrom_12_4_L10 (fun (s7 : Sg) => pI s7 12 6 (s7.1 4 6) fun s8 => (xL4 s8 10 5 18 5 0 0 5 fun s10 => (some ((), s10)))) fu s1 0)
def f_X1_copyTerm_19_4 (σ : Sg) (a1 : Int32) (a2 : Int32) : Option (Unit × Sg) :=
  xL4 σ 5 32 20 32 (a1 * 4) (a2 * 4) 4 fun s1 => (rI s1 6 8 a1 fun x4 => (wI s1 21 8 a2 x4 fun s7 => (rI s7 7 8 a1 fun x10 => (wI s7 22 8 a2 x10 fun s13 => (rI s13 8 8 a1 fun x16 => (wI s13 23 8 a2 x16 fun s19 => (rI s19 9 8 a1 fun x22 => (wI s19 24 8 a2 x22 fun s25 => (some ((), s25))))))))))
def f_X1_copyFrom_19_4_L10 (k : Sg → Option (Unit × Sg)) : Nat → Sg → Int32 → Option (Unit × Sg)
  | 0, _, _ => none
  | n + 1, s, i2 =>
  if 8 ≤ i2 then (k s) else (cA (f_X1_copyTerm_19_4 s i2 i2) fun x3 s5 => (f_X1_copyFrom_19_4_L10 k n (s5) ((i2 + 1))))
def f_X1_copyFrom_19_4 (σ : Sg)  : Option (Unit × Sg) :=
  pI σ 19 0 (σ.1 4 0) fun s1 => (f_X1_copyFrom_19_4_L10 (fun (s7 : Sg) => pI s7 19 6 (s7.1 4 6) fun s8 => (xL4 s8 10 5 25 5 0 0 5 fun s10 => (some ((), s10)))) fu s1 0)
def f_X7_keep (σ : Sg) (a1 : Int32) : Option (Int32 × Sg) :=
  cP (f_X7_imageOf σ a1) fun x1 => (if x1 = 12 then (cA (f_X1_copyFrom_12_4 σ) fun x4 s6 => (pI s6 12 8 1 fun s7 => (some ((s7.1 4 0), s7)))) else (if x1 = 19 then (cA (f_X1_copyFrom_19_4 σ) fun x10 s12 => (pI s12 19 8 1 fun s13 => (some ((s13.1 4 0), s13)))) else (if x1 = 0 then (some ((-1000000001 : Int32), σ)) else (none))))
def f_X8_keep_L14 (k : Sg → Option (Int32 × Sg)) (c1 : Int32) : Nat → Sg → Int32 → Option (Int32 × Sg)
  | 0, _, _ => none
  | n + 1, s, i2 =>
  if 475 ≤ i2 then (k s) else (rI s 44 475 i2 fun x3 => (wI s 45 950 ((475 * c1) + i2) x3 fun s6 => (f_X8_keep_L14 k c1 n (s6) ((i2 + 1)))))
def f_X8_keep (σ : Sg) (a1 : Int32) : Option (Int32 × Sg) :=
  cP (f_X8_in σ a1 0 1) fun x1 => (if x1 = 0 then (some ((-1000000001 : Int32), σ)) else (f_X8_keep_L14 (fun (s10 : Sg) => wI s10 46 2 a1 (vp_nar .boolean 1) fun s11 => (rI s11 44 475 0 fun x14 => (some (x14, s11)))) a1 fu σ 0))
def f_X1_copyTerm_4_12 (σ : Sg) (a1 : Int32) (a2 : Int32) : Option (Unit × Sg) :=
  xL4 σ 13 32 5 32 (a1 * 4) (a2 * 4) 4 fun s1 => (rI s1 14 8 a1 fun x4 => (wI s1 6 8 a2 x4 fun s7 => (rI s7 15 8 a1 fun x10 => (wI s7 7 8 a2 x10 fun s13 => (rI s13 16 8 a1 fun x16 => (wI s13 8 8 a2 x16 fun s19 => (rI s19 17 8 a1 fun x22 => (wI s19 9 8 a2 x22 fun s25 => (some ((), s25))))))))))
def f_X1_copyFrom_4_12_L10 (k : Sg → Option (Unit × Sg)) : Nat → Sg → Int32 → Option (Unit × Sg)
  | 0, _, _ => none
  | n + 1, s, i2 =>
  if 8 ≤ i2 then (k s) else (cA (f_X1_copyTerm_4_12 s i2 i2) fun x3 s5 => (f_X1_copyFrom_4_12_L10 k n (s5) ((i2 + 1))))
def f_X1_copyFrom_4_12 (σ : Sg)  : Option (Unit × Sg) :=
  pI σ 4 0 (σ.1 12 0) fun s1 => (f_X1_copyFrom_4_12_L10 (fun (s7 : Sg) => pI s7 4 6 (s7.1 12 6) fun s8 => (xL4 s8 18 5 10 5 0 0 5 fun s10 => (some ((), s10)))) fu s1 0)
def f_X1_copyTerm_4_19 (σ : Sg) (a1 : Int32) (a2 : Int32) : Option (Unit × Sg) :=
  xL4 σ 20 32 5 32 (a1 * 4) (a2 * 4) 4 fun s1 => (rI s1 21 8 a1 fun x4 => (wI s1 6 8 a2 x4 fun s7 => (rI s7 22 8 a1 fun x10 => (wI s7 7 8 a2 x10 fun s13 => (rI s13 23 8 a1 fun x16 => (wI s13 8 8 a2 x16 fun s19 => (rI s19 24 8 a1 fun x22 => (wI s19 9 8 a2 x22 fun s25 => (some ((), s25))))))))))
def f_X1_copyFrom_4_19_L10 (k : Sg → Option (Unit × Sg)) : Nat → Sg → Int32 → Option (Unit × Sg)
  | 0, _, _ => none
  | n + 1, s, i2 =>
  if 8 ≤ i2 then (k s) else (cA (f_X1_copyTerm_4_19 s i2 i2) fun x3 s5 => (f_X1_copyFrom_4_19_L10 k n (s5) ((i2 + 1))))
def f_X1_copyFrom_4_19 (σ : Sg)  : Option (Unit × Sg) :=
  pI σ 4 0 (σ.1 19 0) fun s1 => (f_X1_copyFrom_4_19_L10 (fun (s7 : Sg) => pI s7 4 6 (s7.1 19 6) fun s8 => (xL4 s8 25 5 10 5 0 0 5 fun s10 => (some ((), s10)))) fu s1 0)
def f_X7_goBack (σ : Sg) (a1 : Int32) : Option (Int32 × Sg) :=
  cP (f_X7_imageOf σ a1) fun x1 => (if x1 = 12 then (if (σ.1 12 8) = 0 then (some ((-1000000003 : Int32), σ)) else (cA (f_X1_copyFrom_4_12 σ) fun x4 s6 => (cA (f_X7_termsChanged s6) fun x7 s9 => (some ((s9.1 4 0), s9))))) else (if x1 = 19 then (if (σ.1 19 8) = 0 then (some ((-1000000003 : Int32), σ)) else (cA (f_X1_copyFrom_4_19 σ) fun x12 s14 => (cA (f_X7_termsChanged s14) fun x15 s17 => (some ((s17.1 4 0), s17))))) else (if x1 = 0 then (some ((-1000000001 : Int32), σ)) else (none))))
def f_X8_goBack_L26 (k : Sg → Option (Int32 × Sg)) (c1 : Int32) : Nat → Sg → Int32 → Option (Int32 × Sg)
  | 0, _, _ => none
  | n + 1, s, i2 =>
  if 475 ≤ i2 then (k s) else (rI s 45 950 ((475 * c1) + i2) fun x6 => (wI s 44 475 i2 x6 fun s9 => (f_X8_goBack_L26 k c1 n (s9) ((i2 + 1)))))
def f_X8_goBack (σ : Sg) (a1 : Int32) : Option (Int32 × Sg) :=
  cP (f_X8_in σ a1 0 1) fun x1 => (if x1 = 0 then (some ((-1000000001 : Int32), σ)) else (rI σ 46 2 a1 fun x3 => (if x3 = 0 then (some ((-1000000003 : Int32), σ)) else (f_X8_goBack_L26 (fun (s13 : Sg) => rI s13 44 475 0 fun x14 => (some (x14, s13))) a1 fu σ 0))))
