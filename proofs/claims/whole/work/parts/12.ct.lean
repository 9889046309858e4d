def M_X8_endingAt : Mc := (RX8, cX8_endingAt, 1, { frames := 0, cells := 0, slots := 0, locals := 0 }, (some .int))
theorem ce_X8_endingAt : Cee M_X8_endingAt yX8_endingAt 1 := ⟨cd_yX8_endingAt, ini_RX8, ⟨by decide +kernel, by decide +kernel, by decide +kernel⟩, rfl, rfl⟩
set_option maxRecDepth 20000 in
theorem ct_X8_endingAt (Y : Yc) {σ : Sg} {a1 : Int32} {r : Int32} (h : f_X8_endingAt σ a1 = some r) : Ct M_X8_endingAt yX8_endingAt Y [.int a1] σ (some (.int r)) σ := by
  refine Ct_intro [some (.int a1)] (by decide +kernel) rfl (Nat.le_of_ble_eq_true rfl) rfl (fun X hY => ?_) ⟨rfl, rfl⟩
  subst hY
  unfold f_X8_endingAt at h
  refine V_sipush (q := 3) (v := 450) dX8_endingAt_0 rfl sipush_450 ?_
  refine V_iconst (q := 4) (v := 5) dX8_endingAt_3 rfl iconst_5 ?_
  refine V_iload_n (q := 5) dX8_endingAt_4 rfl rfl ?_
  refine V_imul (q := 6) dX8_endingAt_5 rfl ?_
  refine V_iadd (q := 7) dX8_endingAt_6 rfl ?_
  cases h
  exact V_iret rfl dX8_endingAt_7
def M_X8_ending : Mc := (RX8, cX8_ending, 4, { frames := 1, cells := 0, slots := 0, locals := 24 }, (some .int))
theorem ce_X8_ending : Cee M_X8_ending yX8_ending 0 := ⟨cd_yX8_ending, ini_RX8, ⟨by decide +kernel, by decide +kernel, by decide +kernel⟩, rfl, rfl⟩
set_option maxRecDepth 20000 in
theorem w_X8_ending_L33 {X : Xc} {σ : Sg} {r : Int32} {σr : Sg} {k : Int32 → Option (Int32 × Sg)}
    (hk : ∀ (i2 : Int32), k i2 = some (r, σr) → V X M_X8_ending (mq X (some (.int r)) σr) 71 [some (.ref (ad (xY X) 43)), none, some (.int i2), none] [] σ) :
    ∀ (n : Nat) (i2 : Int32) (i3 : Int32), f_X8_ending_L33 k σ n i2 i3 = some (r, σr) → V X M_X8_ending (mq X (some (.int r)) σr) 33 [some (.ref (ad (xY X) 43)), none, some (.int i2), some (.int i3)] [] σ := by
  intro n
  induction n with
  | zero => intro i2 i3 h; cases h
  | succ n ih =>
    intro i2 i3 h
    rw [f_X8_ending_L33] at h
    refine V_iload_n (q := 34) dX8_ending_33 rfl rfl ?_
    refine V_aload_n (q := 35) dX8_ending_34 rfl rfl ?_
    refine V_getr (k := 43) (j := 0) (q := 38) clz_7 dX8_ending_35 rfl rfl rfl (Nat.le_of_ble_eq_true rfl) fl_RX8_7 ?_
    refine V_iconst (q := 39) (v := 1) dX8_ending_38 rfl iconst_1 ?_
    obtain ⟨hi9, x8, ex10, h⟩ := rI_ok h
    refine V_iald (k := 44) (q := 40) dX8_ending_39 rfl rfl hi9 ex10 ?_
    refine V_icmp_ge (q := 71) (q2 := 43) dX8_ending_40 rfl rfl (fun hb17 => ?_) (fun hb17 => ?_)
    · replace h := it h hb17
      refine V_msk (L' := [some (.ref (ad (xY X) 43)), none, some (.int i2), none]) [true, true, true, false] rfl ?_
      exact hk (i2) h
    · replace h := ie h hb17
      refine V_iload_n (q := 44) dX8_ending_43 rfl rfl ?_
      refine V_if_eq (q := 71) (q2 := 47) dX8_ending_44 rfl rfl (fun hb16 => ?_) (fun hb16 => ?_)
      · replace h := it h hb16
        refine V_msk (L' := [some (.ref (ad (xY X) 43)), none, some (.int i2), none]) [true, true, true, false] rfl ?_
        exact hk (i2) h
      · replace h := ie h hb16
        refine V_aload_n (q := 48) dX8_ending_47 rfl rfl ?_
        refine V_iconst (q := 49) (v := 0) dX8_ending_48 rfl iconst_0 ?_
        refine V_iload_n (q := 50) dX8_ending_49 rfl rfl ?_
        obtain ⟨x11, hc12, h⟩ := cP_ok h
        refine V_cs1 (q := 53) (As := [.int i3]) (rest := [.int 0, .ref (ad (xY X) 43)]) (ct_X8_endingAt (xY X) hc12) ce_X8_endingAt st_yX8_endingAt ml_RX8_82 rfl ⟨Nat.le_of_ble_eq_true rfl, Nat.le_of_ble_eq_true rfl⟩ rfl (Nat.le_of_ble_eq_true rfl) dX8_ending_50 rfl ?_
        obtain ⟨x13, hc14, h⟩ := cP_ok h
        refine V_cv1 (k := 43) (q := 56) (As := [.int 0, .int x11]) (rest := []) (ct_X8_isSame (xY X) hc14) ce_X8_isSame clz_7 rfl im_yX8_isSame se_yX8_isSame rfl ml_RX8_66 rfl ⟨Nat.le_of_ble_eq_true rfl, Nat.le_of_ble_eq_true rfl⟩ rfl (Nat.le_of_ble_eq_true rfl) dX8_ending_53 rfl ?_
        refine V_if_ne (q := 63) (q2 := 59) dX8_ending_56 rfl rfl (fun hb15 => ?_) (fun hb15 => ?_)
        · replace h := ie h hb15
          refine V_iconst (q := 64) (v := 0) dX8_ending_63 rfl iconst_0 ?_
          refine V_istore_n (q := 65) (L' := [some (.ref (ad (xY X) 43)), none, some (.int 0), some (.int i3)]) dX8_ending_64 rfl (Nat.le_of_ble_eq_true rfl) rfl ?_
          refine V_iinc (q := 68) (v := 1) (L' := [some (.ref (ad (xY X) 43)), none, some (.int 0), some (.int (i3 + 1))]) dX8_ending_65 rfl rfl iconst_1 (Nat.le_of_ble_eq_true rfl) rfl ?_
          refine V_goto (q := 33) dX8_ending_68 rfl ?_
          exact ih (0) ((i3 + 1)) h
        · replace h := it h hb15
          refine V_iconst (q := 60) (v := 1) dX8_ending_59 rfl iconst_1 ?_
          refine V_goto (q := 64) dX8_ending_60 rfl ?_
          refine V_istore_n (q := 65) (L' := [some (.ref (ad (xY X) 43)), none, some (.int 1), some (.int i3)]) dX8_ending_64 rfl (Nat.le_of_ble_eq_true rfl) rfl ?_
          refine V_iinc (q := 68) (v := 1) (L' := [some (.ref (ad (xY X) 43)), none, some (.int 1), some (.int (i3 + 1))]) dX8_ending_65 rfl rfl iconst_1 (Nat.le_of_ble_eq_true rfl) rfl ?_
          refine V_goto (q := 33) dX8_ending_68 rfl ?_
          exact ih (1) ((i3 + 1)) h
set_option maxRecDepth 20000 in
theorem ct_X8_ending (Y : Yc) {σ : Sg}  {r : Int32} {σr : Sg} (h : f_X8_ending σ  = some (r, σr)) : Ct M_X8_ending yX8_ending Y [.ref (ad Y 43)] σ (some (.int r)) σr := by
  refine Ct_intro [some (.ref (ad Y 43)), none, none, none] (by decide +kernel) rfl (Nat.le_of_ble_eq_true rfl) rfl (fun X hY => ?_) ⟨rfl, rfl⟩
  subst hY
  unfold f_X8_ending at h
  refine V_aload_n (q := 1) dX8_ending_0 rfl rfl ?_
  obtain ⟨x1, s3, hc2, h⟩ := cA_ok h
  refine V_cv1 (k := 43) (q := 4) (As := []) (rest := []) (ct_X8_parts (xY X) hc2) ce_X8_parts clz_7 rfl im_yX8_parts se_yX8_parts rfl ml_RX8_70 rfl ⟨Nat.le_of_ble_eq_true rfl, Nat.le_of_ble_eq_true rfl⟩ rfl (Nat.le_of_ble_eq_true rfl) dX8_ending_1 rfl ?_
  refine V_istore_n (q := 5) (L' := [some (.ref (ad (xY X) 43)), some (.int x1), none, none]) dX8_ending_4 rfl (Nat.le_of_ble_eq_true rfl) rfl ?_
  refine V_aload_n (q := 6) dX8_ending_5 rfl rfl ?_
  refine V_iconst (q := 7) (v := 0) dX8_ending_6 rfl iconst_0 ?_
  obtain ⟨s4, e5, h⟩ := pI_ok h
  refine V_puti (k := 43) (j := 4) (q := 10) clz_7 .int (by decide +kernel) rfl rfl rfl dX8_ending_7 rfl rfl rfl (Nat.le_of_ble_eq_true rfl) fl_RX8_53 e5 ?_
  refine V_iload_n (q := 11) dX8_ending_10 rfl rfl ?_
  refine V_iconst (q := 12) (v := 1) dX8_ending_11 rfl iconst_1 ?_
  obtain ⟨k6, ek6, h⟩ := jn_ok h
  have hk6 : ∀ (v7 : Int32), k6 v7 = some (r, σr) → V X M_X8_ending (mq X (some (.int r)) σr) 30 [some (.ref (ad (xY X) 43)), none, none, none] [.int v7] s4 := by
    clear h
    intro v7 h
    rw [ek6] at h
    refine V_istore_n (q := 31) (L' := [some (.ref (ad (xY X) 43)), none, some (.int v7), none]) dX8_ending_30 rfl (Nat.le_of_ble_eq_true rfl) rfl ?_
    refine V_iconst (q := 32) (v := 0) dX8_ending_31 rfl iconst_0 ?_
    refine V_istore_n (q := 33) (L' := [some (.ref (ad (xY X) 43)), none, some (.int v7), some (.int 0)]) dX8_ending_32 rfl (Nat.le_of_ble_eq_true rfl) rfl ?_
    refine w_X8_ending_L33 (fun v18 h => ?_) fu (v7) (0) h
    refine V_iload_n (q := 72) dX8_ending_71 rfl rfl ?_
    refine V_if_ne (q := 78) (q2 := 75) dX8_ending_72 rfl rfl (fun hb40 => ?_) (fun hb40 => ?_)
    · replace h := ie h hb40
      refine V_aload_n (q := 79) dX8_ending_78 rfl rfl ?_
      refine V_getr (k := 43) (j := 0) (q := 82) clz_7 dX8_ending_79 rfl rfl rfl (Nat.le_of_ble_eq_true rfl) fl_RX8_7 ?_
      refine V_iconst (q := 83) (v := 1) dX8_ending_82 rfl iconst_1 ?_
      obtain ⟨hi20, x19, ex21, h⟩ := rI_ok h
      refine V_iald (k := 44) (q := 84) dX8_ending_83 rfl rfl hi20 ex21 ?_
      refine V_iconst (q := 85) (v := 5) dX8_ending_84 rfl iconst_5 ?_
      refine V_icmp_ne (q := 91) (q2 := 88) dX8_ending_85 rfl rfl (fun hb39 => ?_) (fun hb39 => ?_)
      · replace h := ie h hb39
        refine V_aload_n (q := 92) dX8_ending_91 rfl rfl ?_
        refine V_iconst (q := 93) (v := 0) dX8_ending_92 rfl iconst_0 ?_
        refine V_aload_n (q := 94) dX8_ending_93 rfl rfl ?_
        refine V_getr (k := 43) (j := 0) (q := 97) clz_7 dX8_ending_94 rfl rfl rfl (Nat.le_of_ble_eq_true rfl) fl_RX8_7 ?_
        refine V_iconst (q := 98) (v := 1) dX8_ending_97 rfl iconst_1 ?_
        obtain ⟨hi23, x22, ex24, h⟩ := rI_ok h
        refine V_iald (k := 44) (q := 99) dX8_ending_98 rfl rfl hi23 ex24 ?_
        obtain ⟨x25, hc26, h⟩ := cP_ok h
        refine V_cs1 (q := 102) (As := [.int x22]) (rest := [.int 0, .ref (ad (xY X) 43)]) (ct_X8_endingAt (xY X) hc26) ce_X8_endingAt st_yX8_endingAt ml_RX8_82 rfl ⟨Nat.le_of_ble_eq_true rfl, Nat.le_of_ble_eq_true rfl⟩ rfl (Nat.le_of_ble_eq_true rfl) dX8_ending_99 rfl ?_
        obtain ⟨x27, s29, hc28, h⟩ := cA_ok h
        refine V_cv0 (k := 43) (q := 105) (As := [.int 0, .int x25]) (rest := []) (ct_X8_writes (xY X) hc28) ce_X8_writes clz_7 rfl im_yX8_writes se_yX8_writes rfl ml_RX8_78 rfl ⟨Nat.le_of_ble_eq_true rfl, Nat.le_of_ble_eq_true rfl⟩ rfl (Nat.le_of_ble_eq_true rfl) dX8_ending_102 rfl ?_
        refine V_aload_n (q := 106) dX8_ending_105 rfl rfl ?_
        refine V_getr (k := 43) (j := 0) (q := 109) clz_7 dX8_ending_106 rfl rfl rfl (Nat.le_of_ble_eq_true rfl) fl_RX8_7 ?_
        refine V_iconst (q := 110) (v := 1) dX8_ending_109 rfl iconst_1 ?_
        refine V_dup2 (q := 111) dX8_ending_110 rfl rfl rfl ?_
        obtain ⟨hi31, x30, ex32, h⟩ := rI_ok h
        refine V_iald (k := 44) (q := 112) dX8_ending_111 rfl rfl hi31 ex32 ?_
        refine V_iconst (q := 113) (v := 1) dX8_ending_112 rfl iconst_1 ?_
        refine V_iadd (q := 114) dX8_ending_113 rfl ?_
        obtain ⟨hi35, s33, e34, h⟩ := wI_ok h
        refine V_iast (k := 44) (q := 115) dX8_ending_114 rfl rfl hi35 e34 ?_
        refine V_aload_n (q := 116) dX8_ending_115 rfl rfl ?_
        refine V_getr (k := 43) (j := 0) (q := 119) clz_7 dX8_ending_116 rfl rfl rfl (Nat.le_of_ble_eq_true rfl) fl_RX8_7 ?_
        refine V_iconst (q := 120) (v := 1) dX8_ending_119 rfl iconst_1 ?_
        obtain ⟨hi37, x36, ex38, h⟩ := rI_ok h
        refine V_iald (k := 44) (q := 121) dX8_ending_120 rfl rfl hi37 ex38 ?_
        refine V_iconst (q := 122) (v := 1) dX8_ending_121 rfl iconst_1 ?_
        refine V_isub (q := 123) dX8_ending_122 rfl ?_
        cases h
        exact V_iret rfl dX8_ending_123
      · replace h := it h hb39
        refine V_ldc (q := 90) kc_RX8_57 dX8_ending_88 rfl ?_
        cases h
        exact V_iret rfl dX8_ending_90
    · replace h := it h hb40
      refine V_ldc (q := 77) kc_RX8_77 dX8_ending_75 rfl ?_
      cases h
      exact V_iret rfl dX8_ending_77
  refine V_icmp_ne (q := 29) (q2 := 15) dX8_ending_12 rfl rfl (fun hb45 => ?_) (fun hb45 => ?_)
  · replace h := ie h hb45
    refine V_iconst (q := 30) (v := 0) dX8_ending_29 rfl iconst_0 ?_
    refine V_msk (L' := [some (.ref (ad (xY X) 43)), none, none, none]) [true, false, true, true] rfl ?_
    exact hk6 (0) h
  · replace h := it h hb45
    refine V_aload_n (q := 16) dX8_ending_15 rfl rfl ?_
    refine V_getr (k := 43) (j := 9) (q := 19) clz_7 dX8_ending_16 rfl rfl rfl (Nat.le_of_ble_eq_true rfl) fl_RX8_29 ?_
    refine V_iconst (q := 20) (v := 0) dX8_ending_19 rfl iconst_0 ?_
    obtain ⟨hi42, x41, ex43, h⟩ := rI_ok h
    refine V_iald (k := 50) (q := 21) dX8_ending_20 rfl rfl hi42 ex43 ?_
    refine V_iconst (q := 22) (v := 4) dX8_ending_21 rfl iconst_4 ?_
    refine V_icmp_gt (q := 29) (q2 := 25) dX8_ending_22 rfl rfl (fun hb44 => ?_) (fun hb44 => ?_)
    · replace h := it h hb44
      refine V_iconst (q := 30) (v := 0) dX8_ending_29 rfl iconst_0 ?_
      refine V_msk (L' := [some (.ref (ad (xY X) 43)), none, none, none]) [true, false, true, true] rfl ?_
      exact hk6 (0) h
    · replace h := ie h hb44
      refine V_iconst (q := 26) (v := 1) dX8_ending_25 rfl iconst_1 ?_
      refine V_goto (q := 30) dX8_ending_26 rfl ?_
      refine V_msk (L' := [some (.ref (ad (xY X) 43)), none, none, none]) [true, false, true, true] rfl ?_
      exact hk6 (1) h
def M_X1_isTerm : Mc := (RX1, cX1_isTerm, 2, { frames := 0, cells := 0, slots := 0, locals := 0 }, (some .boolean))
theorem ce_X1_isTerm : Cee M_X1_isTerm yX1_isTerm 1 := ⟨cd_yX1_isTerm, ini_RX1, ⟨by decide +kernel, by decide +kernel, by decide +kernel⟩, rfl, rfl⟩
set_option maxRecDepth 20000 in
theorem ct_X1_isTerm (Y : Yc) {σ : Sg} {a1 : Int32} {r : Int32} (h : f_X1_isTerm σ a1 = some r) : Ct M_X1_isTerm yX1_isTerm Y [.ref (ad Y 4), .int a1] σ (some (.int r)) σ := by
  refine Ct_intro [some (.ref (ad Y 4)), some (.int a1)] (by decide +kernel) rfl (Nat.le_of_ble_eq_true rfl) rfl (fun X hY => ?_) ⟨rfl, rfl⟩
  subst hY
  unfold f_X1_isTerm at h
  refine V_iload_n (q := 1) dX1_isTerm_0 rfl rfl ?_
  refine V_if_lt (q := 16) (q2 := 4) dX1_isTerm_1 rfl rfl (fun hb2 => ?_) (fun hb2 => ?_)
  · replace h := it h hb2
    refine V_iconst (q := 17) (v := 0) dX1_isTerm_16 rfl iconst_0 ?_
    cases h
    exact V_zret rfl rfl dX1_isTerm_17
  · replace h := ie h hb2
    refine V_iload_n (q := 5) dX1_isTerm_4 rfl rfl ?_
    refine V_aload_n (q := 6) dX1_isTerm_5 rfl rfl ?_
    refine V_geti (k := 4) (j := 0) (q := 9) clz_0 dX1_isTerm_6 rfl rfl rfl (Nat.le_of_ble_eq_true rfl) fl_RX1_31 ?_
    refine V_icmp_ge (q := 16) (q2 := 12) dX1_isTerm_9 rfl rfl (fun hb1 => ?_) (fun hb1 => ?_)
    · replace h := it h hb1
      refine V_iconst (q := 17) (v := 0) dX1_isTerm_16 rfl iconst_0 ?_
      cases h
      exact V_zret rfl rfl dX1_isTerm_17
    · replace h := ie h hb1
      refine V_iconst (q := 13) (v := 1) dX1_isTerm_12 rfl iconst_1 ?_
      refine V_goto (q := 17) dX1_isTerm_13 rfl ?_
      cases h
      exact V_zret rfl rfl dX1_isTerm_17
def M_X1_isPreferred : Mc := (RX1, cX1_isPreferred, 3, { frames := 0, cells := 0, slots := 0, locals := 0 }, (some .boolean))
theorem ce_X1_isPreferred : Cee M_X1_isPreferred yX1_isPreferred 1 := ⟨cd_yX1_isPreferred, ini_RX1, ⟨by decide +kernel, by decide +kernel, by decide +kernel⟩, rfl, rfl⟩
set_option maxRecDepth 20000 in
theorem w_X1_isPreferred_L2 {X : Xc} {σ : Sg} {c1 : Int32} {r : Int32} {k : Option Int32}
    (hk : k = some r → V X M_X1_isPreferred (mq X (some (.int r)) σ) 28 [none, none, none] [] σ) :
    ∀ (n : Nat) (i2 : Int32), f_X1_isPreferred_L2 k σ c1 n i2 = some r → V X M_X1_isPreferred (mq X (some (.int r)) σ) 2 [some (.ref (ad (xY X) 4)), some (.int c1), some (.int i2)] [] σ := by
  intro n
  induction n with
  | zero => intro i2 h; cases h
  | succ n ih =>
    intro i2 h
    rw [f_X1_isPreferred_L2] at h
    refine V_iload_n (q := 3) dX1_isPreferred_2 rfl rfl ?_
    refine V_aload_n (q := 4) dX1_isPreferred_3 rfl rfl ?_
    refine V_geti (k := 4) (j := 0) (q := 7) clz_0 dX1_isPreferred_4 rfl rfl rfl (Nat.le_of_ble_eq_true rfl) fl_RX1_31 ?_
    refine V_icmp_ge (q := 28) (q2 := 10) dX1_isPreferred_7 rfl rfl (fun hb5 => ?_) (fun hb5 => ?_)
    · replace h := it h hb5
      refine V_msk (L' := [none, none, none]) [false, false, false] rfl ?_
      exact hk  h
    · replace h := ie h hb5
      refine V_aload_n (q := 11) dX1_isPreferred_10 rfl rfl ?_
      refine V_getr (k := 4) (j := 5) (q := 14) clz_0 dX1_isPreferred_11 rfl rfl rfl (Nat.le_of_ble_eq_true rfl) fl_RX1_25 ?_
      refine V_iload_n (q := 15) dX1_isPreferred_14 rfl rfl ?_
      obtain ⟨hi2, x1, ex3, h⟩ := rI_ok h
      refine V_iald (k := 9) (q := 16) dX1_isPreferred_15 rfl rfl hi2 ex3 ?_
      refine V_iload_n (q := 17) dX1_isPreferred_16 rfl rfl ?_
      refine V_icmp_ne (q := 22) (q2 := 20) dX1_isPreferred_17 rfl rfl (fun hb4 => ?_) (fun hb4 => ?_)
      · replace h := ie h hb4
        refine V_iinc (q := 25) (v := 1) (L' := [some (.ref (ad (xY X) 4)), some (.int c1), some (.int (i2 + 1))]) dX1_isPreferred_22 rfl rfl iconst_1 (Nat.le_of_ble_eq_true rfl) rfl ?_
        refine V_goto (q := 2) dX1_isPreferred_25 rfl ?_
        exact ih ((i2 + 1)) h
      · replace h := it h hb4
        refine V_iconst (q := 21) (v := 1) dX1_isPreferred_20 rfl iconst_1 ?_
        cases h
        exact V_zret rfl rfl dX1_isPreferred_21
set_option maxRecDepth 20000 in
theorem ct_X1_isPreferred (Y : Yc) {σ : Sg} {a1 : Int32} {r : Int32} (h : f_X1_isPreferred σ a1 = some r) : Ct M_X1_isPreferred yX1_isPreferred Y [.ref (ad Y 4), .int a1] σ (some (.int r)) σ := by
  refine Ct_intro [some (.ref (ad Y 4)), some (.int a1), none] (by decide +kernel) rfl (Nat.le_of_ble_eq_true rfl) rfl (fun X hY => ?_) ⟨rfl, rfl⟩
  subst hY
  unfold f_X1_isPreferred at h
  refine V_iconst (q := 1) (v := 0) dX1_isPreferred_0 rfl iconst_0 ?_
  refine V_istore_n (q := 2) (L' := [some (.ref (ad (xY X) 4)), some (.int a1), some (.int 0)]) dX1_isPreferred_1 rfl (Nat.le_of_ble_eq_true rfl) rfl ?_
  refine w_X1_isPreferred_L2 (fun h => ?_) fu (0) h
  refine V_iconst (q := 29) (v := 0) dX1_isPreferred_28 rfl iconst_0 ?_
  cases h
  exact V_zret rfl rfl dX1_isPreferred_29
def M_X1_copyTerm : Mc := (RX1, cX1_copyTerm, 4, { frames := 1, cells := 0, slots := 0, locals := 26 }, none)
theorem ce_X1_copyTerm : Cee M_X1_copyTerm yX1_copyTerm 3 := ⟨cd_yX1_copyTerm, ini_RX1, ⟨by decide +kernel, by decide +kernel, by decide +kernel⟩, rfl, rfl⟩
set_option maxRecDepth 20000 in
theorem ct_X1_copyTerm_4_4 (Y : Yc) {σ : Sg} {a1 : Int32} {a2 : Int32} {r : Unit} {σr : Sg} (h : f_X1_copyTerm_4_4 σ a1 a2 = some (r, σr)) : Ct M_X1_copyTerm yX1_copyTerm Y [.ref (ad Y 4), .ref (ad Y 4), .int a1, .int a2] σ none σr := by
  refine Ct_intro [some (.ref (ad Y 4)), some (.ref (ad Y 4)), some (.int a1), some (.int a2)] (by decide +kernel) rfl (Nat.le_of_ble_eq_true rfl) rfl (fun X hY => ?_) ⟨rfl, rfl⟩
  subst hY
  unfold f_X1_copyTerm_4_4 at h
  refine V_aload_n (q := 1) dX1_copyTerm_0 rfl rfl ?_
  refine V_getr (k := 4) (j := 1) (q := 4) clz_0 dX1_copyTerm_1 rfl rfl rfl (Nat.le_of_ble_eq_true rfl) fl_RX1_11 ?_
  refine V_iload_n (q := 5) dX1_copyTerm_4 rfl rfl ?_
  refine V_iconst (q := 6) (v := 4) dX1_copyTerm_5 rfl iconst_4 ?_
  refine V_imul (q := 7) dX1_copyTerm_6 rfl ?_
  refine V_aload_n (q := 8) dX1_copyTerm_7 rfl rfl ?_
  refine V_getr (k := 4) (j := 1) (q := 11) clz_0 dX1_copyTerm_8 rfl rfl rfl (Nat.le_of_ble_eq_true rfl) fl_RX1_11 ?_
  refine V_iload_n (q := 12) dX1_copyTerm_11 rfl rfl ?_
  refine V_iconst (q := 13) (v := 4) dX1_copyTerm_12 rfl iconst_4 ?_
  refine V_imul (q := 14) dX1_copyTerm_13 rfl ?_
  refine V_iconst (q := 15) (v := 4) dX1_copyTerm_14 rfl iconst_4 ?_
  obtain ⟨hi3, s1, e2, h⟩ := xL4_ok h
  refine V_cpyl (k0 := 5) (k1 := 5) (q := 18) ml_RX1_42 dX1_copyTerm_15 rfl rfl rfl hi3.1 hi3.2.1 hi3.2.2.1 hi3.2.2.2.1 hi3.2.2.2.2 (Nat.le_of_ble_eq_true rfl) (Nat.le_of_ble_eq_true rfl) e2 ?_
  refine V_aload_n (q := 19) dX1_copyTerm_18 rfl rfl ?_
  refine V_getr (k := 4) (j := 2) (q := 22) clz_0 dX1_copyTerm_19 rfl rfl rfl (Nat.le_of_ble_eq_true rfl) fl_RX1_15 ?_
  refine V_iload_n (q := 23) dX1_copyTerm_22 rfl rfl ?_
  refine V_aload_n (q := 24) dX1_copyTerm_23 rfl rfl ?_
  refine V_getr (k := 4) (j := 2) (q := 27) clz_0 dX1_copyTerm_24 rfl rfl rfl (Nat.le_of_ble_eq_true rfl) fl_RX1_15 ?_
  refine V_iload_n (q := 28) dX1_copyTerm_27 rfl rfl ?_
  obtain ⟨hi5, x4, ex6, h⟩ := rI_ok h
  refine V_iald (k := 6) (q := 29) dX1_copyTerm_28 rfl rfl hi5 ex6 ?_
  obtain ⟨hi9, s7, e8, h⟩ := wI_ok h
  refine V_iast (k := 6) (q := 30) dX1_copyTerm_29 rfl rfl hi9 e8 ?_
  refine V_aload_n (q := 31) dX1_copyTerm_30 rfl rfl ?_
  refine V_getr (k := 4) (j := 3) (q := 34) clz_0 dX1_copyTerm_31 rfl rfl rfl (Nat.le_of_ble_eq_true rfl) fl_RX1_19 ?_
  refine V_iload_n (q := 35) dX1_copyTerm_34 rfl rfl ?_
  refine V_aload_n (q := 36) dX1_copyTerm_35 rfl rfl ?_
  refine V_getr (k := 4) (j := 3) (q := 39) clz_0 dX1_copyTerm_36 rfl rfl rfl (Nat.le_of_ble_eq_true rfl) fl_RX1_19 ?_
  refine V_iload_n (q := 40) dX1_copyTerm_39 rfl rfl ?_
  obtain ⟨hi11, x10, ex12, h⟩ := rI_ok h
  refine V_iald (k := 7) (q := 41) dX1_copyTerm_40 rfl rfl hi11 ex12 ?_
  obtain ⟨hi15, s13, e14, h⟩ := wI_ok h
  refine V_iast (k := 7) (q := 42) dX1_copyTerm_41 rfl rfl hi15 e14 ?_
  refine V_aload_n (q := 43) dX1_copyTerm_42 rfl rfl ?_
  refine V_getr (k := 4) (j := 4) (q := 46) clz_0 dX1_copyTerm_43 rfl rfl rfl (Nat.le_of_ble_eq_true rfl) fl_RX1_22 ?_
  refine V_iload_n (q := 47) dX1_copyTerm_46 rfl rfl ?_
  refine V_aload_n (q := 48) dX1_copyTerm_47 rfl rfl ?_
  refine V_getr (k := 4) (j := 4) (q := 51) clz_0 dX1_copyTerm_48 rfl rfl rfl (Nat.le_of_ble_eq_true rfl) fl_RX1_22 ?_
  refine V_iload_n (q := 52) dX1_copyTerm_51 rfl rfl ?_
  obtain ⟨hi17, x16, ex18, h⟩ := rI_ok h
  refine V_iald (k := 8) (q := 53) dX1_copyTerm_52 rfl rfl hi17 ex18 ?_
  obtain ⟨hi21, s19, e20, h⟩ := wI_ok h
  refine V_iast (k := 8) (q := 54) dX1_copyTerm_53 rfl rfl hi21 e20 ?_
  refine V_aload_n (q := 55) dX1_copyTerm_54 rfl rfl ?_
  refine V_getr (k := 4) (j := 5) (q := 58) clz_0 dX1_copyTerm_55 rfl rfl rfl (Nat.le_of_ble_eq_true rfl) fl_RX1_25 ?_
  refine V_iload_n (q := 59) dX1_copyTerm_58 rfl rfl ?_
  refine V_aload_n (q := 60) dX1_copyTerm_59 rfl rfl ?_
  refine V_getr (k := 4) (j := 5) (q := 63) clz_0 dX1_copyTerm_60 rfl rfl rfl (Nat.le_of_ble_eq_true rfl) fl_RX1_25 ?_
  refine V_iload_n (q := 64) dX1_copyTerm_63 rfl rfl ?_
  obtain ⟨hi23, x22, ex24, h⟩ := rI_ok h
  refine V_iald (k := 9) (q := 65) dX1_copyTerm_64 rfl rfl hi23 ex24 ?_
  obtain ⟨hi27, s25, e26, h⟩ := wI_ok h
  refine V_iast (k := 9) (q := 66) dX1_copyTerm_65 rfl rfl hi27 e26 ?_
  cases h
  exact V_vret rfl dX1_copyTerm_66
def M_X1_removeTerm : Mc := (RX1, cX1_removeTerm, 3, { frames := 2, cells := 0, slots := 0, locals := 49 }, none)
theorem ce_X1_removeTerm : Cee M_X1_removeTerm yX1_removeTerm 1 := ⟨cd_yX1_removeTerm, ini_RX1, ⟨by decide +kernel, by decide +kernel, by decide +kernel⟩, rfl, rfl⟩
set_option maxRecDepth 20000 in
theorem w_X1_removeTerm_L2 {X : Xc} {c1 : Int32} {r : Unit} {σr : Sg} {k : Sg → Option (Unit × Sg)}
    (hk : ∀ (s : Sg), k s = some (r, σr) → V X M_X1_removeTerm (mq X none σr) 27 [some (.ref (ad (xY X) 4)), some (.int c1), none] [] s) :
    ∀ (n : Nat) (s : Sg) (i2 : Int32), f_X1_removeTerm_L2 k c1 n s i2 = some (r, σr) → V X M_X1_removeTerm (mq X none σr) 2 [some (.ref (ad (xY X) 4)), some (.int c1), some (.int i2)] [] s := by
  intro n
  induction n with
  | zero => intro s i2 h; cases h
  | succ n ih =>
    intro s i2 h
    rw [f_X1_removeTerm_L2] at h
    refine V_iload_n (q := 3) dX1_removeTerm_2 rfl rfl ?_
    refine V_iconst (q := 4) (v := 1) dX1_removeTerm_3 rfl iconst_1 ?_
    refine V_iadd (q := 5) dX1_removeTerm_4 rfl ?_
    refine V_aload_n (q := 6) dX1_removeTerm_5 rfl rfl ?_
    refine V_geti (k := 4) (j := 0) (q := 9) clz_0 dX1_removeTerm_6 rfl rfl rfl (Nat.le_of_ble_eq_true rfl) fl_RX1_31 ?_
    refine V_icmp_ge (q := 27) (q2 := 12) dX1_removeTerm_9 rfl rfl (fun hb4 => ?_) (fun hb4 => ?_)
    · replace h := it h hb4
      refine V_msk (L' := [some (.ref (ad (xY X) 4)), some (.int c1), none]) [true, true, false] rfl ?_
      exact hk (s) h
    · replace h := ie h hb4
      refine V_aload_n (q := 13) dX1_removeTerm_12 rfl rfl ?_
      refine V_aload_n (q := 14) dX1_removeTerm_13 rfl rfl ?_
      refine V_iload_n (q := 15) dX1_removeTerm_14 rfl rfl ?_
      refine V_iconst (q := 16) (v := 1) dX1_removeTerm_15 rfl iconst_1 ?_
      refine V_iadd (q := 17) dX1_removeTerm_16 rfl ?_
      refine V_iload_n (q := 18) dX1_removeTerm_17 rfl rfl ?_
      obtain ⟨x1, s3, hc2, h⟩ := cA_ok h
      refine V_cv0 (k := 4) (q := 21) (As := [.ref (ad (xY X) 4), .int (i2 + 1), .int i2]) (rest := []) (ct_X1_copyTerm_4_4 (xY X) hc2) ce_X1_copyTerm clz_0 rfl im_yX1_copyTerm se_yX1_copyTerm rfl ml_RX1_35 rfl ⟨Nat.le_of_ble_eq_true rfl, Nat.le_of_ble_eq_true rfl⟩ rfl (Nat.le_of_ble_eq_true rfl) dX1_removeTerm_18 rfl ?_
      refine V_iinc (q := 24) (v := 1) (L' := [some (.ref (ad (xY X) 4)), some (.int c1), some (.int (i2 + 1))]) dX1_removeTerm_21 rfl rfl iconst_1 (Nat.le_of_ble_eq_true rfl) rfl ?_
      refine V_goto (q := 2) dX1_removeTerm_24 rfl ?_
      exact ih (s3) ((i2 + 1)) h
set_option maxRecDepth 20000 in
theorem w_X1_removeTerm_L39 {X : Xc} {c1 : Int32} {r : Unit} {σr : Sg} {k : Sg → Option (Unit × Sg)}
    (hk : ∀ (s : Sg), k s = some (r, σr) → V X M_X1_removeTerm (mq X none σr) 73 [none, none, none] [] s) :
    ∀ (n : Nat) (s : Sg) (i2 : Int32), f_X1_removeTerm_L39 k c1 n s i2 = some (r, σr) → V X M_X1_removeTerm (mq X none σr) 39 [some (.ref (ad (xY X) 4)), some (.int c1), some (.int i2)] [] s := by
  intro n
  induction n with
  | zero => intro s i2 h; cases h
  | succ n ih =>
    intro s i2 h
    rw [f_X1_removeTerm_L39] at h
    refine V_iload_n (q := 40) dX1_removeTerm_39 rfl rfl ?_
    refine V_aload_n (q := 41) dX1_removeTerm_40 rfl rfl ?_
    refine V_geti (k := 4) (j := 0) (q := 44) clz_0 dX1_removeTerm_41 rfl rfl rfl (Nat.le_of_ble_eq_true rfl) fl_RX1_31 ?_
    refine V_icmp_ge (q := 73) (q2 := 47) dX1_removeTerm_44 rfl rfl (fun hb18 => ?_) (fun hb18 => ?_)
    · replace h := it h hb18
      refine V_msk (L' := [none, none, none]) [false, false, false] rfl ?_
      exact hk (s) h
    · replace h := ie h hb18
      refine V_aload_n (q := 48) dX1_removeTerm_47 rfl rfl ?_
      refine V_getr (k := 4) (j := 5) (q := 51) clz_0 dX1_removeTerm_48 rfl rfl rfl (Nat.le_of_ble_eq_true rfl) fl_RX1_25 ?_
      refine V_iload_n (q := 52) dX1_removeTerm_51 rfl rfl ?_
      obtain ⟨hi9, x8, ex10, h⟩ := rI_ok h
      refine V_iald (k := 9) (q := 53) dX1_removeTerm_52 rfl rfl hi9 ex10 ?_
      refine V_iload_n (q := 54) dX1_removeTerm_53 rfl rfl ?_
      refine V_icmp_le (q := 67) (q2 := 57) dX1_removeTerm_54 rfl rfl (fun hb17 => ?_) (fun hb17 => ?_)
      · replace h := it h hb17
        refine V_iinc (q := 70) (v := 1) (L' := [some (.ref (ad (xY X) 4)), some (.int c1), some (.int (i2 + 1))]) dX1_removeTerm_67 rfl rfl iconst_1 (Nat.le_of_ble_eq_true rfl) rfl ?_
        refine V_goto (q := 39) dX1_removeTerm_70 rfl ?_
        exact ih (s) ((i2 + 1)) h
      · replace h := ie h hb17
        refine V_aload_n (q := 58) dX1_removeTerm_57 rfl rfl ?_
        refine V_getr (k := 4) (j := 5) (q := 61) clz_0 dX1_removeTerm_58 rfl rfl rfl (Nat.le_of_ble_eq_true rfl) fl_RX1_25 ?_
        refine V_iload_n (q := 62) dX1_removeTerm_61 rfl rfl ?_
        refine V_dup2 (q := 63) dX1_removeTerm_62 rfl rfl rfl ?_
        obtain ⟨hi12, x11, ex13, h⟩ := rI_ok h
        refine V_iald (k := 9) (q := 64) dX1_removeTerm_63 rfl rfl hi12 ex13 ?_
        refine V_iconst (q := 65) (v := 1) dX1_removeTerm_64 rfl iconst_1 ?_
        refine V_isub (q := 66) dX1_removeTerm_65 rfl ?_
        obtain ⟨hi16, s14, e15, h⟩ := wI_ok h
        refine V_iast (k := 9) (q := 67) dX1_removeTerm_66 rfl rfl hi16 e15 ?_
        refine V_iinc (q := 70) (v := 1) (L' := [some (.ref (ad (xY X) 4)), some (.int c1), some (.int (i2 + 1))]) dX1_removeTerm_67 rfl rfl iconst_1 (Nat.le_of_ble_eq_true rfl) rfl ?_
        refine V_goto (q := 39) dX1_removeTerm_70 rfl ?_
        exact ih (s14) ((i2 + 1)) h
set_option maxRecDepth 20000 in
theorem ct_X1_removeTerm (Y : Yc) {σ : Sg} {a1 : Int32} {r : Unit} {σr : Sg} (h : f_X1_removeTerm σ a1 = some (r, σr)) : Ct M_X1_removeTerm yX1_removeTerm Y [.ref (ad Y 4), .int a1] σ none σr := by
  refine Ct_intro [some (.ref (ad Y 4)), some (.int a1), none] (by decide +kernel) rfl (Nat.le_of_ble_eq_true rfl) rfl (fun X hY => ?_) ⟨rfl, rfl⟩
  subst hY
  unfold f_X1_removeTerm at h
  refine V_iload_n (q := 1) dX1_removeTerm_0 rfl rfl ?_
  refine V_istore_n (q := 2) (L' := [some (.ref (ad (xY X) 4)), some (.int a1), some (.int a1)]) dX1_removeTerm_1 rfl (Nat.le_of_ble_eq_true rfl) rfl ?_
  refine w_X1_removeTerm_L2 (fun s5 h => ?_) fu (σ) (a1) h
  refine V_aload_n (q := 28) dX1_removeTerm_27 rfl rfl ?_
  refine V_dup (q := 29) dX1_removeTerm_28 rfl rfl ?_
  refine V_geti (k := 4) (j := 0) (q := 32) clz_0 dX1_removeTerm_29 rfl rfl rfl (Nat.le_of_ble_eq_true rfl) fl_RX1_31 ?_
  refine V_iconst (q := 33) (v := 1) dX1_removeTerm_32 rfl iconst_1 ?_
  refine V_isub (q := 34) dX1_removeTerm_33 rfl ?_
  obtain ⟨s6, e7, h⟩ := pI_ok h
  refine V_puti (k := 4) (j := 0) (q := 37) clz_0 .int (by decide +kernel) rfl rfl rfl dX1_removeTerm_34 rfl rfl rfl (Nat.le_of_ble_eq_true rfl) fl_RX1_31 e7 ?_
  refine V_iconst (q := 38) (v := 0) dX1_removeTerm_37 rfl iconst_0 ?_
  refine V_istore_n (q := 39) (L' := [some (.ref (ad (xY X) 4)), some (.int a1), some (.int 0)]) dX1_removeTerm_38 rfl (Nat.le_of_ble_eq_true rfl) rfl ?_
  refine w_X1_removeTerm_L39 (fun s19 h => ?_) fu (s6) (0) h
  cases h
  exact V_vret rfl dX1_removeTerm_73
def M_X7_dropTerm : Mc := (RX7, cX7_dropTerm, 2, { frames := 3, cells := 0, slots := 0, locals := 71 }, (some .int))
theorem ce_X7_dropTerm : Cee M_X7_dropTerm yX7_dropTerm 1 := ⟨cd_yX7_dropTerm, ini_RX7, ⟨by decide +kernel, by decide +kernel, by decide +kernel⟩, rfl, rfl⟩
set_option maxRecDepth 20000 in
theorem ct_X7_dropTerm (Y : Yc) {σ : Sg} {a1 : Int32} {r : Int32} {σr : Sg} (h : f_X7_dropTerm σ a1 = some (r, σr)) : Ct M_X7_dropTerm yX7_dropTerm Y [.ref (ad Y 0), .int a1] σ (some (.int r)) σr := by
  refine Ct_intro [some (.ref (ad Y 0)), some (.int a1)] (by decide +kernel) rfl (Nat.le_of_ble_eq_true rfl) rfl (fun X hY => ?_) ⟨rfl, rfl⟩
  subst hY
  unfold f_X7_dropTerm at h
  refine V_aload_n (q := 1) dX7_dropTerm_0 rfl rfl ?_
  refine V_getr (k := 0) (j := 1) (q := 4) clz_6 dX7_dropTerm_1 rfl rfl rfl (Nat.le_of_ble_eq_true rfl) fl_RX7_19 ?_
  refine V_iload_n (q := 5) dX7_dropTerm_4 rfl rfl ?_
  obtain ⟨x1, hc2, h⟩ := cP_ok h
  refine V_cv1 (k := 4) (q := 8) (As := [.int a1]) (rest := []) (ct_X1_isTerm (xY X) hc2) ce_X1_isTerm clz_0 rfl im_yX1_isTerm se_yX1_isTerm rfl ml_RX7_111 rfl ⟨Nat.le_of_ble_eq_true rfl, Nat.le_of_ble_eq_true rfl⟩ rfl (Nat.le_of_ble_eq_true rfl) dX7_dropTerm_5 rfl ?_
  refine V_if_ne (q := 14) (q2 := 11) dX7_dropTerm_8 rfl rfl (fun hb12 => ?_) (fun hb12 => ?_)
  · replace h := ie h hb12
    refine V_aload_n (q := 15) dX7_dropTerm_14 rfl rfl ?_
    refine V_getr (k := 0) (j := 1) (q := 18) clz_6 dX7_dropTerm_15 rfl rfl rfl (Nat.le_of_ble_eq_true rfl) fl_RX7_19 ?_
    refine V_iload_n (q := 19) dX7_dropTerm_18 rfl rfl ?_
    obtain ⟨x3, hc4, h⟩ := cP_ok h
    refine V_cv1 (k := 4) (q := 22) (As := [.int a1]) (rest := []) (ct_X1_isPreferred (xY X) hc4) ce_X1_isPreferred clz_0 rfl im_yX1_isPreferred se_yX1_isPreferred rfl ml_RX7_115 rfl ⟨Nat.le_of_ble_eq_true rfl, Nat.le_of_ble_eq_true rfl⟩ rfl (Nat.le_of_ble_eq_true rfl) dX7_dropTerm_19 rfl ?_
    refine V_if_eq (q := 28) (q2 := 25) dX7_dropTerm_22 rfl rfl (fun hb11 => ?_) (fun hb11 => ?_)
    · replace h := it h hb11
      refine V_aload_n (q := 29) dX7_dropTerm_28 rfl rfl ?_
      refine V_getr (k := 0) (j := 1) (q := 32) clz_6 dX7_dropTerm_29 rfl rfl rfl (Nat.le_of_ble_eq_true rfl) fl_RX7_19 ?_
      refine V_iload_n (q := 33) dX7_dropTerm_32 rfl rfl ?_
      obtain ⟨x5, s7, hc6, h⟩ := cA_ok h
      refine V_cv0 (k := 4) (q := 36) (As := [.int a1]) (rest := []) (ct_X1_removeTerm (xY X) hc6) ce_X1_removeTerm clz_0 rfl im_yX1_removeTerm se_yX1_removeTerm rfl ml_RX7_118 rfl ⟨Nat.le_of_ble_eq_true rfl, Nat.le_of_ble_eq_true rfl⟩ rfl (Nat.le_of_ble_eq_true rfl) dX7_dropTerm_33 rfl ?_
      refine V_aload_n (q := 37) dX7_dropTerm_36 rfl rfl ?_
      obtain ⟨x8, s10, hc9, h⟩ := cA_ok h
      refine V_cv0 (k := 0) (q := 40) (As := []) (rest := []) (ct_X7_termsChanged (xY X) hc9) ce_X7_termsChanged clz_6 rfl im_yX7_termsChanged se_yX7_termsChanged rfl ml_RX7_97 rfl ⟨Nat.le_of_ble_eq_true rfl, Nat.le_of_ble_eq_true rfl⟩ rfl (Nat.le_of_ble_eq_true rfl) dX7_dropTerm_37 rfl ?_
      refine V_aload_n (q := 41) dX7_dropTerm_40 rfl rfl ?_
      refine V_getr (k := 0) (j := 1) (q := 44) clz_6 dX7_dropTerm_41 rfl rfl rfl (Nat.le_of_ble_eq_true rfl) fl_RX7_19 ?_
      refine V_geti (k := 4) (j := 0) (q := 47) clz_0 dX7_dropTerm_44 rfl rfl rfl (Nat.le_of_ble_eq_true rfl) fl_RX7_122 ?_
      cases h
      exact V_iret rfl dX7_dropTerm_47
    · replace h := ie h hb11
      refine V_ldc (q := 27) kc_RX7_92 dX7_dropTerm_25 rfl ?_
      cases h
      exact V_iret rfl dX7_dropTerm_27
  · replace h := it h hb12
    refine V_ldc (q := 13) kc_RX7_114 dX7_dropTerm_11 rfl ?_
    cases h
    exact V_iret rfl dX7_dropTerm_13
def M_X8_isTerm : Mc := (RX8, cX8_isTerm, 2, { frames := 1, cells := 0, slots := 0, locals := 22 }, (some .boolean))
theorem ce_X8_isTerm : Cee M_X8_isTerm yX8_isTerm 1 := ⟨cd_yX8_isTerm, ini_RX8, ⟨by decide +kernel, by decide +kernel, by decide +kernel⟩, rfl, rfl⟩
set_option maxRecDepth 20000 in
theorem ct_X8_isTerm (Y : Yc) {σ : Sg} {a1 : Int32} {r : Int32} (h : f_X8_isTerm σ a1 = some r) : Ct M_X8_isTerm yX8_isTerm Y [.ref (ad Y 43), .int a1] σ (some (.int r)) σ := by
  refine Ct_intro [some (.ref (ad Y 43)), some (.int a1)] (by decide +kernel) rfl (Nat.le_of_ble_eq_true rfl) rfl (fun X hY => ?_) ⟨rfl, rfl⟩
  subst hY
  unfold f_X8_isTerm at h
  refine V_iload_n (q := 1) dX8_isTerm_0 rfl rfl ?_
  refine V_iconst (q := 2) (v := 0) dX8_isTerm_1 rfl iconst_0 ?_
  refine V_aload_n (q := 3) dX8_isTerm_2 rfl rfl ?_
  refine V_getr (k := 43) (j := 0) (q := 6) clz_7 dX8_isTerm_3 rfl rfl rfl (Nat.le_of_ble_eq_true rfl) fl_RX8_7 ?_
  refine V_iconst (q := 7) (v := 0) dX8_isTerm_6 rfl iconst_0 ?_
  obtain ⟨hi2, x1, ex3, h⟩ := rI_ok h
  refine V_iald (k := 44) (q := 8) dX8_isTerm_7 rfl rfl hi2 ex3 ?_
  refine V_iconst (q := 9) (v := 1) dX8_isTerm_8 rfl iconst_1 ?_
  refine V_isub (q := 10) dX8_isTerm_9 rfl ?_
  obtain ⟨x4, hc5, h⟩ := cP_ok h
  refine V_cs1 (q := 13) (As := [.int a1, .int 0, .int (x1 - 1)]) (rest := []) (ct_X8_in (xY X) hc5) ce_X8_in st_yX8_in ml_RX8_44 rfl ⟨Nat.le_of_ble_eq_true rfl, Nat.le_of_ble_eq_true rfl⟩ rfl (Nat.le_of_ble_eq_true rfl) dX8_isTerm_10 rfl ?_
  obtain ⟨hb6, h⟩ := mH_ok h
  cases h
  exact V_zret rfl (nz01 hb6) dX8_isTerm_13
def M_X8_isPreferred : Mc := (RX8, cX8_isPreferred, 4, { frames := 1, cells := 0, slots := 0, locals := 20 }, (some .boolean))
theorem ce_X8_isPreferred : Cee M_X8_isPreferred yX8_isPreferred 1 := ⟨cd_yX8_isPreferred, ini_RX8, ⟨by decide +kernel, by decide +kernel, by decide +kernel⟩, rfl, rfl⟩
set_option maxRecDepth 20000 in
theorem w_X8_isPreferred_L4 {X : Xc} {σ : Sg} {c1 : Int32} {r : Int32} {k : Int32 → Option Int32}
    (hk : ∀ (i2 : Int32), k i2 = some r → V X M_X8_isPreferred (mq X (some (.int r)) σ) 45 [none, none, some (.int i2), none] [] σ) :
    ∀ (n : Nat) (i2 : Int32) (i3 : Int32), f_X8_isPreferred_L4 k σ c1 n i2 i3 = some r → V X M_X8_isPreferred (mq X (some (.int r)) σ) 4 [some (.ref (ad (xY X) 43)), some (.int c1), some (.int i2), some (.int i3)] [] σ := by
  intro n
  induction n with
  | zero => intro i2 i3 h; cases h
  | succ n ih =>
    intro i2 i3 h
    rw [f_X8_isPreferred_L4] at h
    refine V_iload_n (q := 5) dX8_isPreferred_4 rfl rfl ?_
    refine V_aload_n (q := 6) dX8_isPreferred_5 rfl rfl ?_
    refine V_getr (k := 43) (j := 0) (q := 9) clz_7 dX8_isPreferred_6 rfl rfl rfl (Nat.le_of_ble_eq_true rfl) fl_RX8_7 ?_
    refine V_iconst (q := 10) (v := 0) dX8_isPreferred_9 rfl iconst_0 ?_
    obtain ⟨hi2, x1, ex3, h⟩ := rI_ok h
    refine V_iald (k := 44) (q := 11) dX8_isPreferred_10 rfl rfl hi2 ex3 ?_
    refine V_icmp_ge (q := 45) (q2 := 14) dX8_isPreferred_11 rfl rfl (fun hb13 => ?_) (fun hb13 => ?_)
    · replace h := it h hb13
      refine V_msk (L' := [none, none, some (.int i2), none]) [false, false, true, false] rfl ?_
      exact hk (i2) h
    · replace h := ie h hb13
      refine V_iload_n (q := 15) dX8_isPreferred_14 rfl rfl ?_
      obtain ⟨k4, ek4, h⟩ := jn_ok h
      have hk4 : ∀ (v5 : Int32), k4 v5 = some r → V X M_X8_isPreferred (mq X (some (.int r)) σ) 33 [some (.ref (ad (xY X) 43)), some (.int c1), none, some (.int v5)] [] σ := by
        clear h
        intro v5 h
        rw [ek4] at h
        refine V_iconst (q := 34) (v := 1) dX8_isPreferred_33 rfl iconst_1 ?_
        refine V_goto (q := 38) dX8_isPreferred_34 rfl ?_
        refine V_istore_n (q := 39) (L' := [some (.ref (ad (xY X) 43)), some (.int c1), some (.int 1), some (.int v5)]) dX8_isPreferred_38 rfl (Nat.le_of_ble_eq_true rfl) rfl ?_
        refine V_iinc (q := 42) (v := 1) (L' := [some (.ref (ad (xY X) 43)), some (.int c1), some (.int 1), some (.int (v5 + 1))]) dX8_isPreferred_39 rfl rfl iconst_1 (Nat.le_of_ble_eq_true rfl) rfl ?_
        refine V_goto (q := 4) dX8_isPreferred_42 rfl ?_
        exact ih (1) ((v5 + 1)) h
      refine V_if_ne (q := 33) (q2 := 18) dX8_isPreferred_15 rfl rfl (fun hb12 => ?_) (fun hb12 => ?_)
      · replace h := ie h hb12
        refine V_msk (L' := [some (.ref (ad (xY X) 43)), some (.int c1), none, some (.int i3)]) [true, true, false, true] rfl ?_
        exact hk4 (i3) h
      · replace h := it h hb12
        refine V_aload_n (q := 19) dX8_isPreferred_18 rfl rfl ?_
        refine V_getr (k := 43) (j := 0) (q := 22) clz_7 dX8_isPreferred_19 rfl rfl rfl (Nat.le_of_ble_eq_true rfl) fl_RX8_7 ?_
        refine V_iload_n (q := 23) dX8_isPreferred_22 rfl rfl ?_
        obtain ⟨x6, hc7, h⟩ := cP_ok h
        refine V_cs1 (q := 26) (As := [.int i3]) (rest := [.ref (ad (xY X) 44)]) (ct_X8_termAt (xY X) hc7) ce_X8_termAt st_yX8_termAt ml_RX8_58 rfl ⟨Nat.le_of_ble_eq_true rfl, Nat.le_of_ble_eq_true rfl⟩ rfl (Nat.le_of_ble_eq_true rfl) dX8_isPreferred_23 rfl ?_
        refine V_iconst (q := 27) (v := 3) dX8_isPreferred_26 rfl iconst_3 ?_
        refine V_iadd (q := 28) dX8_isPreferred_27 rfl ?_
        obtain ⟨hi9, x8, ex10, h⟩ := rI_ok h
        refine V_iald (k := 44) (q := 29) dX8_isPreferred_28 rfl rfl hi9 ex10 ?_
        refine V_iload_n (q := 30) dX8_isPreferred_29 rfl rfl ?_
        refine V_icmp_ne (q := 37) (q2 := 33) dX8_isPreferred_30 rfl rfl (fun hb11 => ?_) (fun hb11 => ?_)
        · replace h := ie h hb11
          refine V_iconst (q := 38) (v := 0) dX8_isPreferred_37 rfl iconst_0 ?_
          refine V_istore_n (q := 39) (L' := [some (.ref (ad (xY X) 43)), some (.int c1), some (.int 0), some (.int i3)]) dX8_isPreferred_38 rfl (Nat.le_of_ble_eq_true rfl) rfl ?_
          refine V_iinc (q := 42) (v := 1) (L' := [some (.ref (ad (xY X) 43)), some (.int c1), some (.int 0), some (.int (i3 + 1))]) dX8_isPreferred_39 rfl rfl iconst_1 (Nat.le_of_ble_eq_true rfl) rfl ?_
          refine V_goto (q := 4) dX8_isPreferred_42 rfl ?_
          exact ih (0) ((i3 + 1)) h
        · replace h := it h hb11
          refine V_msk (L' := [some (.ref (ad (xY X) 43)), some (.int c1), none, some (.int i3)]) [true, true, false, true] rfl ?_
          exact hk4 (i3) h
set_option maxRecDepth 20000 in
theorem ct_X8_isPreferred (Y : Yc) {σ : Sg} {a1 : Int32} {r : Int32} (h : f_X8_isPreferred σ a1 = some r) : Ct M_X8_isPreferred yX8_isPreferred Y [.ref (ad Y 43), .int a1] σ (some (.int r)) σ := by
  refine Ct_intro [some (.ref (ad Y 43)), some (.int a1), none, none] (by decide +kernel) rfl (Nat.le_of_ble_eq_true rfl) rfl (fun X hY => ?_) ⟨rfl, rfl⟩
  subst hY
  unfold f_X8_isPreferred at h
  refine V_iconst (q := 1) (v := 0) dX8_isPreferred_0 rfl iconst_0 ?_
  refine V_istore_n (q := 2) (L' := [some (.ref (ad (xY X) 43)), some (.int a1), some (.int 0), none]) dX8_isPreferred_1 rfl (Nat.le_of_ble_eq_true rfl) rfl ?_
  refine V_iconst (q := 3) (v := 0) dX8_isPreferred_2 rfl iconst_0 ?_
  refine V_istore_n (q := 4) (L' := [some (.ref (ad (xY X) 43)), some (.int a1), some (.int 0), some (.int 0)]) dX8_isPreferred_3 rfl (Nat.le_of_ble_eq_true rfl) rfl ?_
  refine w_X8_isPreferred_L4 (fun v14 h => ?_) fu (0) (0) h
  refine V_iload_n (q := 46) dX8_isPreferred_45 rfl rfl ?_
  obtain ⟨hb15, h⟩ := mH_ok h
  cases h
  exact V_zret rfl (nz01 hb15) dX8_isPreferred_46
def M_X8_dropTerm : Mc := (RX8, cX8_dropTerm, 4, { frames := 2, cells := 0, slots := 0, locals := 43 }, (some .int))
theorem ce_X8_dropTerm : Cee M_X8_dropTerm yX8_dropTerm 1 := ⟨cd_yX8_dropTerm, ini_RX8, ⟨by decide +kernel, by decide +kernel, by decide +kernel⟩, rfl, rfl⟩
set_option maxRecDepth 20000 in
theorem w_X8_dropTerm_L27 {X : Xc} {c1 : Int32} {r : Int32} {σr : Sg} {k : Sg → Option (Int32 × Sg)}
    (hk : ∀ (s : Sg), k s = some (r, σr) → V X M_X8_dropTerm (mq X (some (.int r)) σr) 58 [some (.ref (ad (xY X) 43)), some (.int c1), none, none] [] s) :
    ∀ (n : Nat) (s : Sg) (i2 : Int32), f_X8_dropTerm_L27 k c1 n s i2 = some (r, σr) → V X M_X8_dropTerm (mq X (some (.int r)) σr) 27 [some (.ref (ad (xY X) 43)), some (.int c1), some (.int i2), none] [] s := by
  intro n
  induction n with
  | zero => intro s i2 h; cases h
  | succ n ih =>
    intro s i2 h
    rw [f_X8_dropTerm_L27] at h
    refine V_iload_n (q := 28) dX8_dropTerm_27 rfl rfl ?_
    refine V_bipush (q := 30) (v := 56) dX8_dropTerm_28 rfl bipush_56 ?_
    refine V_iadd (q := 31) dX8_dropTerm_30 rfl ?_
    refine V_sipush (q := 34) (v := 450) dX8_dropTerm_31 rfl sipush_450 ?_
    refine V_icmp_ge (q := 58) (q2 := 37) dX8_dropTerm_34 rfl rfl (fun hb13 => ?_) (fun hb13 => ?_)
    · replace h := it h hb13
      refine V_msk (L' := [some (.ref (ad (xY X) 43)), some (.int c1), none, none]) [true, true, false, true] rfl ?_
      exact hk (s) h
    · replace h := ie h hb13
      refine V_aload_n (q := 38) dX8_dropTerm_37 rfl rfl ?_
      refine V_getr (k := 43) (j := 0) (q := 41) clz_7 dX8_dropTerm_38 rfl rfl rfl (Nat.le_of_ble_eq_true rfl) fl_RX8_7 ?_
      refine V_iload_n (q := 42) dX8_dropTerm_41 rfl rfl ?_
      refine V_aload_n (q := 43) dX8_dropTerm_42 rfl rfl ?_
      refine V_getr (k := 43) (j := 0) (q := 46) clz_7 dX8_dropTerm_43 rfl rfl rfl (Nat.le_of_ble_eq_true rfl) fl_RX8_7 ?_
      refine V_iload_n (q := 47) dX8_dropTerm_46 rfl rfl ?_
      refine V_bipush (q := 49) (v := 56) dX8_dropTerm_47 rfl bipush_56 ?_
      refine V_iadd (q := 50) dX8_dropTerm_49 rfl ?_
      obtain ⟨hi8, x7, ex9, h⟩ := rI_ok h
      refine V_iald (k := 44) (q := 51) dX8_dropTerm_50 rfl rfl hi8 ex9 ?_
      obtain ⟨hi12, s10, e11, h⟩ := wI_ok h
      refine V_iast (k := 44) (q := 52) dX8_dropTerm_51 rfl rfl hi12 e11 ?_
      refine V_iinc (q := 55) (v := 1) (L' := [some (.ref (ad (xY X) 43)), some (.int c1), some (.int (i2 + 1)), none]) dX8_dropTerm_52 rfl rfl iconst_1 (Nat.le_of_ble_eq_true rfl) rfl ?_
      refine V_goto (q := 27) dX8_dropTerm_55 rfl ?_
      exact ih (s10) ((i2 + 1)) h
set_option maxRecDepth 20000 in
theorem w_X8_dropTerm_L70 {X : Xc} {c1 : Int32} {r : Int32} {σr : Sg} {k : Sg → Option (Int32 × Sg)}
    (hk : ∀ (s : Sg), k s = some (r, σr) → V X M_X8_dropTerm (mq X (some (.int r)) σr) 117 [some (.ref (ad (xY X) 43)), none, none, none] [] s) :
    ∀ (n : Nat) (s : Sg) (i2 : Int32), f_X8_dropTerm_L70 k c1 n s i2 = some (r, σr) → V X M_X8_dropTerm (mq X (some (.int r)) σr) 70 [some (.ref (ad (xY X) 43)), some (.int c1), some (.int i2), none] [] s := by
  intro n
  induction n with
  | zero => intro s i2 h; cases h
  | succ n ih =>
    intro s i2 h
    rw [f_X8_dropTerm_L70] at h
    refine V_iload_n (q := 71) dX8_dropTerm_70 rfl rfl ?_
    refine V_aload_n (q := 72) dX8_dropTerm_71 rfl rfl ?_
    refine V_getr (k := 43) (j := 0) (q := 75) clz_7 dX8_dropTerm_72 rfl rfl rfl (Nat.le_of_ble_eq_true rfl) fl_RX8_7 ?_
    refine V_iconst (q := 76) (v := 0) dX8_dropTerm_75 rfl iconst_0 ?_
    obtain ⟨hi22, x21, ex23, h⟩ := rI_ok h
    refine V_iald (k := 44) (q := 77) dX8_dropTerm_76 rfl rfl hi22 ex23 ?_
    refine V_icmp_ge (q := 117) (q2 := 80) dX8_dropTerm_77 rfl rfl (fun hb38 => ?_) (fun hb38 => ?_)
    · replace h := it h hb38
      refine V_msk (L' := [some (.ref (ad (xY X) 43)), none, none, none]) [true, false, false, true] rfl ?_
      exact hk (s) h
    · replace h := ie h hb38
      refine V_iload_n (q := 81) dX8_dropTerm_80 rfl rfl ?_
      obtain ⟨x24, hc25, h⟩ := cP_ok h
      refine V_cs1 (q := 84) (As := [.int i2]) (rest := []) (ct_X8_termAt (xY X) hc25) ce_X8_termAt st_yX8_termAt ml_RX8_58 rfl ⟨Nat.le_of_ble_eq_true rfl, Nat.le_of_ble_eq_true rfl⟩ rfl (Nat.le_of_ble_eq_true rfl) dX8_dropTerm_81 rfl ?_
      refine V_iconst (q := 85) (v := 3) dX8_dropTerm_84 rfl iconst_3 ?_
      refine V_iadd (q := 86) dX8_dropTerm_85 rfl ?_
      refine V_istore_n (q := 87) (L' := [some (.ref (ad (xY X) 43)), some (.int c1), some (.int i2), some (.int (x24 + 3))]) dX8_dropTerm_86 rfl (Nat.le_of_ble_eq_true rfl) rfl ?_
      refine V_aload_n (q := 88) dX8_dropTerm_87 rfl rfl ?_
      refine V_getr (k := 43) (j := 0) (q := 91) clz_7 dX8_dropTerm_88 rfl rfl rfl (Nat.le_of_ble_eq_true rfl) fl_RX8_7 ?_
      refine V_iload_n (q := 92) dX8_dropTerm_91 rfl rfl ?_
      refine V_dup2 (q := 93) dX8_dropTerm_92 rfl rfl rfl ?_
      obtain ⟨hi27, x26, ex28, h⟩ := rI_ok h
      refine V_iald (k := 44) (q := 94) dX8_dropTerm_93 rfl rfl hi27 ex28 ?_
      refine V_aload_n (q := 95) dX8_dropTerm_94 rfl rfl ?_
      refine V_getr (k := 43) (j := 0) (q := 98) clz_7 dX8_dropTerm_95 rfl rfl rfl (Nat.le_of_ble_eq_true rfl) fl_RX8_7 ?_
      refine V_iload_n (q := 99) dX8_dropTerm_98 rfl rfl ?_
      obtain ⟨hi30, x29, ex31, h⟩ := rI_ok h
      refine V_iald (k := 44) (q := 100) dX8_dropTerm_99 rfl rfl hi30 ex31 ?_
      refine V_iload_n (q := 101) dX8_dropTerm_100 rfl rfl ?_
      obtain ⟨k32, ek32, h⟩ := jn_ok h
      have hk32 : ∀ (v33 : Int32), k32 v33 = some (r, σr) → V X M_X8_dropTerm (mq X (some (.int r)) σr) 109 [some (.ref (ad (xY X) 43)), some (.int c1), some (.int i2), none] [.int v33, .int x26, .int (x24 + 3), .ref (ad (xY X) 44)] s := by
        clear h
        intro v33 h
        rw [ek32] at h
        refine V_isub (q := 110) dX8_dropTerm_109 rfl ?_
        obtain ⟨hi36, s34, e35, h⟩ := wI_ok h
        refine V_iast (k := 44) (q := 111) dX8_dropTerm_110 rfl rfl hi36 e35 ?_
        refine V_iinc (q := 114) (v := 1) (L' := [some (.ref (ad (xY X) 43)), some (.int c1), some (.int (i2 + 1)), none]) dX8_dropTerm_111 rfl rfl iconst_1 (Nat.le_of_ble_eq_true rfl) rfl ?_
        refine V_goto (q := 70) dX8_dropTerm_114 rfl ?_
        exact ih (s34) ((i2 + 1)) h
      refine V_icmp_le (q := 108) (q2 := 104) dX8_dropTerm_101 rfl rfl (fun hb37 => ?_) (fun hb37 => ?_)
      · replace h := it h hb37
        refine V_iconst (q := 109) (v := 0) dX8_dropTerm_108 rfl iconst_0 ?_
        refine V_msk (L' := [some (.ref (ad (xY X) 43)), some (.int c1), some (.int i2), none]) [true, true, true, false] rfl ?_
        exact hk32 (0) h
      · replace h := ie h hb37
        refine V_iconst (q := 105) (v := 1) dX8_dropTerm_104 rfl iconst_1 ?_
        refine V_goto (q := 109) dX8_dropTerm_105 rfl ?_
        refine V_msk (L' := [some (.ref (ad (xY X) 43)), some (.int c1), some (.int i2), none]) [true, true, true, false] rfl ?_
        exact hk32 (1) h
set_option maxRecDepth 20000 in
theorem ct_X8_dropTerm (Y : Yc) {σ : Sg} {a1 : Int32} {r : Int32} {σr : Sg} (h : f_X8_dropTerm σ a1 = some (r, σr)) : Ct M_X8_dropTerm yX8_dropTerm Y [.ref (ad Y 43), .int a1] σ (some (.int r)) σr := by
  refine Ct_intro [some (.ref (ad Y 43)), some (.int a1), none, none] (by decide +kernel) rfl (Nat.le_of_ble_eq_true rfl) rfl (fun X hY => ?_) ⟨rfl, rfl⟩
  subst hY
  unfold f_X8_dropTerm at h
  refine V_aload_n (q := 1) dX8_dropTerm_0 rfl rfl ?_
  refine V_iload_n (q := 2) dX8_dropTerm_1 rfl rfl ?_
  obtain ⟨x1, hc2, h⟩ := cP_ok h
  refine V_cv1 (k := 43) (q := 5) (As := [.int a1]) (rest := []) (ct_X8_isTerm (xY X) hc2) ce_X8_isTerm clz_7 rfl im_yX8_isTerm se_yX8_isTerm rfl ml_RX8_85 rfl ⟨Nat.le_of_ble_eq_true rfl, Nat.le_of_ble_eq_true rfl⟩ rfl (Nat.le_of_ble_eq_true rfl) dX8_dropTerm_2 rfl ?_
  refine V_if_ne (q := 11) (q2 := 8) dX8_dropTerm_5 rfl rfl (fun hb44 => ?_) (fun hb44 => ?_)
  · replace h := ie h hb44
    refine V_aload_n (q := 12) dX8_dropTerm_11 rfl rfl ?_
    refine V_iload_n (q := 13) dX8_dropTerm_12 rfl rfl ?_
    obtain ⟨x3, hc4, h⟩ := cP_ok h
    refine V_cv1 (k := 43) (q := 16) (As := [.int a1]) (rest := []) (ct_X8_isPreferred (xY X) hc4) ce_X8_isPreferred clz_7 rfl im_yX8_isPreferred se_yX8_isPreferred rfl ml_RX8_89 rfl ⟨Nat.le_of_ble_eq_true rfl, Nat.le_of_ble_eq_true rfl⟩ rfl (Nat.le_of_ble_eq_true rfl) dX8_dropTerm_13 rfl ?_
    refine V_if_eq (q := 22) (q2 := 19) dX8_dropTerm_16 rfl rfl (fun hb43 => ?_) (fun hb43 => ?_)
    · replace h := it h hb43
      refine V_iload_n (q := 23) dX8_dropTerm_22 rfl rfl ?_
      obtain ⟨x5, hc6, h⟩ := cP_ok h
      refine V_cs1 (q := 26) (As := [.int a1]) (rest := []) (ct_X8_termAt (xY X) hc6) ce_X8_termAt st_yX8_termAt ml_RX8_58 rfl ⟨Nat.le_of_ble_eq_true rfl, Nat.le_of_ble_eq_true rfl⟩ rfl (Nat.le_of_ble_eq_true rfl) dX8_dropTerm_23 rfl ?_
      refine V_istore_n (q := 27) (L' := [some (.ref (ad (xY X) 43)), some (.int a1), some (.int x5), none]) dX8_dropTerm_26 rfl (Nat.le_of_ble_eq_true rfl) rfl ?_
      refine w_X8_dropTerm_L27 (fun s14 h => ?_) fu (σ) (x5) h
      refine V_aload_n (q := 59) dX8_dropTerm_58 rfl rfl ?_
      refine V_getr (k := 43) (j := 0) (q := 62) clz_7 dX8_dropTerm_59 rfl rfl rfl (Nat.le_of_ble_eq_true rfl) fl_RX8_7 ?_
      refine V_iconst (q := 63) (v := 0) dX8_dropTerm_62 rfl iconst_0 ?_
      refine V_dup2 (q := 64) dX8_dropTerm_63 rfl rfl rfl ?_
      obtain ⟨hi16, x15, ex17, h⟩ := rI_ok h
      refine V_iald (k := 44) (q := 65) dX8_dropTerm_64 rfl rfl hi16 ex17 ?_
      refine V_iconst (q := 66) (v := 1) dX8_dropTerm_65 rfl iconst_1 ?_
      refine V_isub (q := 67) dX8_dropTerm_66 rfl ?_
      obtain ⟨hi20, s18, e19, h⟩ := wI_ok h
      refine V_iast (k := 44) (q := 68) dX8_dropTerm_67 rfl rfl hi20 e19 ?_
      refine V_iconst (q := 69) (v := 0) dX8_dropTerm_68 rfl iconst_0 ?_
      refine V_istore_n (q := 70) (L' := [some (.ref (ad (xY X) 43)), some (.int a1), some (.int 0), none]) dX8_dropTerm_69 rfl (Nat.le_of_ble_eq_true rfl) rfl ?_
      refine w_X8_dropTerm_L70 (fun s39 h => ?_) fu (s18) (0) h
      refine V_aload_n (q := 118) dX8_dropTerm_117 rfl rfl ?_
      refine V_getr (k := 43) (j := 0) (q := 121) clz_7 dX8_dropTerm_118 rfl rfl rfl (Nat.le_of_ble_eq_true rfl) fl_RX8_7 ?_
      refine V_iconst (q := 122) (v := 0) dX8_dropTerm_121 rfl iconst_0 ?_
      obtain ⟨hi41, x40, ex42, h⟩ := rI_ok h
      refine V_iald (k := 44) (q := 123) dX8_dropTerm_122 rfl rfl hi41 ex42 ?_
      cases h
      exact V_iret rfl dX8_dropTerm_123
    · replace h := ie h hb43
      refine V_ldc (q := 21) kc_RX8_77 dX8_dropTerm_19 rfl ?_
      cases h
      exact V_iret rfl dX8_dropTerm_21
  · replace h := it h hb44
    refine V_ldc (q := 10) kc_RX8_88 dX8_dropTerm_8 rfl ?_
    cases h
    exact V_iret rfl dX8_dropTerm_10
def M_X1_isEnding : Mc := (RX1, cX1_isEnding, 2, { frames := 0, cells := 0, slots := 0, locals := 0 }, (some .boolean))
theorem ce_X1_isEnding : Cee M_X1_isEnding yX1_isEnding 1 := ⟨cd_yX1_isEnding, ini_RX1, ⟨by decide +kernel, by decide +kernel, by decide +kernel⟩, rfl, rfl⟩
set_option maxRecDepth 20000 in
theorem ct_X1_isEnding (Y : Yc) {σ : Sg} {a1 : Int32} {r : Int32} (h : f_X1_isEnding σ a1 = some r) : Ct M_X1_isEnding yX1_isEnding Y [.ref (ad Y 4), .int a1] σ (some (.int r)) σ := by
  refine Ct_intro [some (.ref (ad Y 4)), some (.int a1)] (by decide +kernel) rfl (Nat.le_of_ble_eq_true rfl) rfl (fun X hY => ?_) ⟨rfl, rfl⟩
  subst hY
  unfold f_X1_isEnding at h
  refine V_iload_n (q := 1) dX1_isEnding_0 rfl rfl ?_
  refine V_if_lt (q := 16) (q2 := 4) dX1_isEnding_1 rfl rfl (fun hb2 => ?_) (fun hb2 => ?_)
  · replace h := it h hb2
    refine V_iconst (q := 17) (v := 0) dX1_isEnding_16 rfl iconst_0 ?_
    cases h
    exact V_zret rfl rfl dX1_isEnding_17
  · replace h := ie h hb2
    refine V_iload_n (q := 5) dX1_isEnding_4 rfl rfl ?_
    refine V_aload_n (q := 6) dX1_isEnding_5 rfl rfl ?_
    refine V_geti (k := 4) (j := 6) (q := 9) clz_0 dX1_isEnding_6 rfl rfl rfl (Nat.le_of_ble_eq_true rfl) fl_RX1_39 ?_
    refine V_icmp_ge (q := 16) (q2 := 12) dX1_isEnding_9 rfl rfl (fun hb1 => ?_) (fun hb1 => ?_)
    · replace h := it h hb1
      refine V_iconst (q := 17) (v := 0) dX1_isEnding_16 rfl iconst_0 ?_
      cases h
      exact V_zret rfl rfl dX1_isEnding_17
    · replace h := ie h hb1
      refine V_iconst (q := 13) (v := 1) dX1_isEnding_12 rfl iconst_1 ?_
      refine V_goto (q := 17) dX1_isEnding_13 rfl ?_
      cases h
      exact V_zret rfl rfl dX1_isEnding_17
def M_X1_removeEnding : Mc := (RX1, cX1_removeEnding, 3, { frames := 0, cells := 0, slots := 0, locals := 0 }, none)
theorem ce_X1_removeEnding : Cee M_X1_removeEnding yX1_removeEnding 1 := ⟨cd_yX1_removeEnding, ini_RX1, ⟨by decide +kernel, by decide +kernel, by decide +kernel⟩, rfl, rfl⟩
set_option maxRecDepth 20000 in
theorem w_X1_removeEnding_L2 {X : Xc} {r : Unit} {σr : Sg} {k : Sg → Option (Unit × Sg)}
    (hk : ∀ (s : Sg), k s = some (r, σr) → V X M_X1_removeEnding (mq X none σr) 32 [some (.ref (ad (xY X) 4)), none, none] [] s) :
    ∀ (n : Nat) (s : Sg) (i2 : Int32), f_X1_removeEnding_L2 k n s i2 = some (r, σr) → V X M_X1_removeEnding (mq X none σr) 2 [some (.ref (ad (xY X) 4)), none, some (.int i2)] [] s := by
  intro n
  induction n with
  | zero => intro s i2 h; cases h
  | succ n ih =>
    intro s i2 h
    rw [f_X1_removeEnding_L2] at h
    refine V_iload_n (q := 3) dX1_removeEnding_2 rfl rfl ?_
    refine V_iconst (q := 4) (v := 1) dX1_removeEnding_3 rfl iconst_1 ?_
    refine V_iadd (q := 5) dX1_removeEnding_4 rfl ?_
    refine V_aload_n (q := 6) dX1_removeEnding_5 rfl rfl ?_
    refine V_geti (k := 4) (j := 6) (q := 9) clz_0 dX1_removeEnding_6 rfl rfl rfl (Nat.le_of_ble_eq_true rfl) fl_RX1_39 ?_
    refine V_icmp_ge (q := 32) (q2 := 12) dX1_removeEnding_9 rfl rfl (fun hb7 => ?_) (fun hb7 => ?_)
    · replace h := it h hb7
      refine V_msk (L' := [some (.ref (ad (xY X) 4)), none, none]) [true, true, false] rfl ?_
      exact hk (s) h
    · replace h := ie h hb7
      refine V_aload_n (q := 13) dX1_removeEnding_12 rfl rfl ?_
      refine V_getr (k := 4) (j := 7) (q := 16) clz_0 dX1_removeEnding_13 rfl rfl rfl (Nat.le_of_ble_eq_true rfl) fl_RX1_28 ?_
      refine V_iload_n (q := 17) dX1_removeEnding_16 rfl rfl ?_
      refine V_aload_n (q := 18) dX1_removeEnding_17 rfl rfl ?_
      refine V_getr (k := 4) (j := 7) (q := 21) clz_0 dX1_removeEnding_18 rfl rfl rfl (Nat.le_of_ble_eq_true rfl) fl_RX1_28 ?_
      refine V_iload_n (q := 22) dX1_removeEnding_21 rfl rfl ?_
      refine V_iconst (q := 23) (v := 1) dX1_removeEnding_22 rfl iconst_1 ?_
      refine V_iadd (q := 24) dX1_removeEnding_23 rfl ?_
      obtain ⟨hi2, x1, ex3, h⟩ := rL_ok h
      refine V_lald (k := 10) (q := 25) dX1_removeEnding_24 rfl rfl hi2 ex3 ?_
      obtain ⟨hi6, s4, e5, h⟩ := wL_ok h
      refine V_last (k := 10) (q := 26) dX1_removeEnding_25 rfl rfl hi6 e5 ?_
      refine V_iinc (q := 29) (v := 1) (L' := [some (.ref (ad (xY X) 4)), none, some (.int (i2 + 1))]) dX1_removeEnding_26 rfl rfl iconst_1 (Nat.le_of_ble_eq_true rfl) rfl ?_
      refine V_goto (q := 2) dX1_removeEnding_29 rfl ?_
      exact ih (s4) ((i2 + 1)) h
set_option maxRecDepth 20000 in
theorem ct_X1_removeEnding (Y : Yc) {σ : Sg} {a1 : Int32} {r : Unit} {σr : Sg} (h : f_X1_removeEnding σ a1 = some (r, σr)) : Ct M_X1_removeEnding yX1_removeEnding Y [.ref (ad Y 4), .int a1] σ none σr := by
  refine Ct_intro [some (.ref (ad Y 4)), some (.int a1), none] (by decide +kernel) rfl (Nat.le_of_ble_eq_true rfl) rfl (fun X hY => ?_) ⟨rfl, rfl⟩
  subst hY
  unfold f_X1_removeEnding at h
  refine V_iload_n (q := 1) dX1_removeEnding_0 rfl rfl ?_
  refine V_istore_n (q := 2) (L' := [some (.ref (ad (xY X) 4)), some (.int a1), some (.int a1)]) dX1_removeEnding_1 rfl (Nat.le_of_ble_eq_true rfl) rfl ?_
  refine V_msk (L' := [some (.ref (ad (xY X) 4)), none, some (.int a1)]) [true, false, true] rfl ?_
  refine w_X1_removeEnding_L2 (fun s8 h => ?_) fu (σ) (a1) h
  refine V_aload_n (q := 33) dX1_removeEnding_32 rfl rfl ?_
  refine V_dup (q := 34) dX1_removeEnding_33 rfl rfl ?_
  refine V_geti (k := 4) (j := 6) (q := 37) clz_0 dX1_removeEnding_34 rfl rfl rfl (Nat.le_of_ble_eq_true rfl) fl_RX1_39 ?_
  refine V_iconst (q := 38) (v := 1) dX1_removeEnding_37 rfl iconst_1 ?_
  refine V_isub (q := 39) dX1_removeEnding_38 rfl ?_
  obtain ⟨s9, e10, h⟩ := pI_ok h
  refine V_puti (k := 4) (j := 6) (q := 42) clz_0 .int (by decide +kernel) rfl rfl rfl dX1_removeEnding_39 rfl rfl rfl (Nat.le_of_ble_eq_true rfl) fl_RX1_39 e10 ?_
  cases h
  exact V_vret rfl dX1_removeEnding_42
def M_X7_dropEnding : Mc := (RX7, cX7_dropEnding, 2, { frames := 2, cells := 0, slots := 0, locals := 40 }, (some .int))
theorem ce_X7_dropEnding : Cee M_X7_dropEnding yX7_dropEnding 1 := ⟨cd_yX7_dropEnding, ini_RX7, ⟨by decide +kernel, by decide +kernel, by decide +kernel⟩, rfl, rfl⟩
set_option maxRecDepth 20000 in
theorem ct_X7_dropEnding (Y : Yc) {σ : Sg} {a1 : Int32} {r : Int32} {σr : Sg} (h : f_X7_dropEnding σ a1 = some (r, σr)) : Ct M_X7_dropEnding yX7_dropEnding Y [.ref (ad Y 0), .int a1] σ (some (.int r)) σr := by
  refine Ct_intro [some (.ref (ad Y 0)), some (.int a1)] (by decide +kernel) rfl (Nat.le_of_ble_eq_true rfl) rfl (fun X hY => ?_) ⟨rfl, rfl⟩
  subst hY
  unfold f_X7_dropEnding at h
  refine V_aload_n (q := 1) dX7_dropEnding_0 rfl rfl ?_
  refine V_getr (k := 0) (j := 1) (q := 4) clz_6 dX7_dropEnding_1 rfl rfl rfl (Nat.le_of_ble_eq_true rfl) fl_RX7_19 ?_
  refine V_iload_n (q := 5) dX7_dropEnding_4 rfl rfl ?_
  obtain ⟨x1, hc2, h⟩ := cP_ok h
  refine V_cv1 (k := 4) (q := 8) (As := [.int a1]) (rest := []) (ct_X1_isEnding (xY X) hc2) ce_X1_isEnding clz_0 rfl im_yX1_isEnding se_yX1_isEnding rfl ml_RX7_125 rfl ⟨Nat.le_of_ble_eq_true rfl, Nat.le_of_ble_eq_true rfl⟩ rfl (Nat.le_of_ble_eq_true rfl) dX7_dropEnding_5 rfl ?_
  refine V_if_ne (q := 14) (q2 := 11) dX7_dropEnding_8 rfl rfl (fun hb9 => ?_) (fun hb9 => ?_)
  · replace h := ie h hb9
    refine V_aload_n (q := 15) dX7_dropEnding_14 rfl rfl ?_
    refine V_getr (k := 0) (j := 1) (q := 18) clz_6 dX7_dropEnding_15 rfl rfl rfl (Nat.le_of_ble_eq_true rfl) fl_RX7_19 ?_
    refine V_iload_n (q := 19) dX7_dropEnding_18 rfl rfl ?_
    obtain ⟨x3, s5, hc4, h⟩ := cA_ok h
    refine V_cv0 (k := 4) (q := 22) (As := [.int a1]) (rest := []) (ct_X1_removeEnding (xY X) hc4) ce_X1_removeEnding clz_0 rfl im_yX1_removeEnding se_yX1_removeEnding rfl ml_RX7_128 rfl ⟨Nat.le_of_ble_eq_true rfl, Nat.le_of_ble_eq_true rfl⟩ rfl (Nat.le_of_ble_eq_true rfl) dX7_dropEnding_19 rfl ?_
    refine V_aload_n (q := 23) dX7_dropEnding_22 rfl rfl ?_
    obtain ⟨x6, s8, hc7, h⟩ := cA_ok h
    refine V_cv0 (k := 0) (q := 26) (As := []) (rest := []) (ct_X7_termsChanged (xY X) hc7) ce_X7_termsChanged clz_6 rfl im_yX7_termsChanged se_yX7_termsChanged rfl ml_RX7_97 rfl ⟨Nat.le_of_ble_eq_true rfl, Nat.le_of_ble_eq_true rfl⟩ rfl (Nat.le_of_ble_eq_true rfl) dX7_dropEnding_23 rfl ?_
    refine V_aload_n (q := 27) dX7_dropEnding_26 rfl rfl ?_
    refine V_getr (k := 0) (j := 1) (q := 30) clz_6 dX7_dropEnding_27 rfl rfl rfl (Nat.le_of_ble_eq_true rfl) fl_RX7_19 ?_
    refine V_geti (k := 4) (j := 6) (q := 33) clz_0 dX7_dropEnding_30 rfl rfl rfl (Nat.le_of_ble_eq_true rfl) fl_RX7_131 ?_
    cases h
    exact V_iret rfl dX7_dropEnding_33
  · replace h := it h hb9
    refine V_ldc (q := 13) kc_RX7_114 dX7_dropEnding_11 rfl ?_
    cases h
    exact V_iret rfl dX7_dropEnding_13
def M_X8_isEnding : Mc := (RX8, cX8_isEnding, 2, { frames := 1, cells := 0, slots := 0, locals := 22 }, (some .boolean))
theorem ce_X8_isEnding : Cee M_X8_isEnding yX8_isEnding 1 := ⟨cd_yX8_isEnding, ini_RX8, ⟨by decide +kernel, by decide +kernel, by decide +kernel⟩, rfl, rfl⟩
set_option maxRecDepth 20000 in
theorem ct_X8_isEnding (Y : Yc) {σ : Sg} {a1 : Int32} {r : Int32} (h : f_X8_isEnding σ a1 = some r) : Ct M_X8_isEnding yX8_isEnding Y [.ref (ad Y 43), .int a1] σ (some (.int r)) σ := by
  refine Ct_intro [some (.ref (ad Y 43)), some (.int a1)] (by decide +kernel) rfl (Nat.le_of_ble_eq_true rfl) rfl (fun X hY => ?_) ⟨rfl, rfl⟩
  subst hY
  unfold f_X8_isEnding at h
  refine V_iload_n (q := 1) dX8_isEnding_0 rfl rfl ?_
  refine V_iconst (q := 2) (v := 0) dX8_isEnding_1 rfl iconst_0 ?_
  refine V_aload_n (q := 3) dX8_isEnding_2 rfl rfl ?_
  refine V_getr (k := 43) (j := 0) (q := 6) clz_7 dX8_isEnding_3 rfl rfl rfl (Nat.le_of_ble_eq_true rfl) fl_RX8_7 ?_
  refine V_iconst (q := 7) (v := 1) dX8_isEnding_6 rfl iconst_1 ?_
  obtain ⟨hi2, x1, ex3, h⟩ := rI_ok h
  refine V_iald (k := 44) (q := 8) dX8_isEnding_7 rfl rfl hi2 ex3 ?_
  refine V_iconst (q := 9) (v := 1) dX8_isEnding_8 rfl iconst_1 ?_
  refine V_isub (q := 10) dX8_isEnding_9 rfl ?_
  obtain ⟨x4, hc5, h⟩ := cP_ok h
  refine V_cs1 (q := 13) (As := [.int a1, .int 0, .int (x1 - 1)]) (rest := []) (ct_X8_in (xY X) hc5) ce_X8_in st_yX8_in ml_RX8_44 rfl ⟨Nat.le_of_ble_eq_true rfl, Nat.le_of_ble_eq_true rfl⟩ rfl (Nat.le_of_ble_eq_true rfl) dX8_isEnding_10 rfl ?_
  obtain ⟨hb6, h⟩ := mH_ok h
  cases h
  exact V_zret rfl (nz01 hb6) dX8_isEnding_13
def M_X8_dropEnding : Mc := (RX8, cX8_dropEnding, 3, { frames := 2, cells := 0, slots := 0, locals := 43 }, (some .int))
theorem ce_X8_dropEnding : Cee M_X8_dropEnding yX8_dropEnding 1 := ⟨cd_yX8_dropEnding, ini_RX8, ⟨by decide +kernel, by decide +kernel, by decide +kernel⟩, rfl, rfl⟩
set_option maxRecDepth 20000 in
theorem w_X8_dropEnding_L16 {X : Xc} {r : Int32} {σr : Sg} {k : Sg → Option (Int32 × Sg)}
    (hk : ∀ (s : Sg), k s = some (r, σr) → V X M_X8_dropEnding (mq X (some (.int r)) σr) 45 [some (.ref (ad (xY X) 43)), none, none] [] s) :
    ∀ (n : Nat) (s : Sg) (i2 : Int32), f_X8_dropEnding_L16 k n s i2 = some (r, σr) → V X M_X8_dropEnding (mq X (some (.int r)) σr) 16 [some (.ref (ad (xY X) 43)), none, some (.int i2)] [] s := by
  intro n
  induction n with
  | zero => intro s i2 h; cases h
  | succ n ih =>
    intro s i2 h
    rw [f_X8_dropEnding_L16] at h
    refine V_iload_n (q := 17) dX8_dropEnding_16 rfl rfl ?_
    refine V_iconst (q := 18) (v := 5) dX8_dropEnding_17 rfl iconst_5 ?_
    refine V_iadd (q := 19) dX8_dropEnding_18 rfl ?_
    refine V_sipush (q := 22) (v := 475) dX8_dropEnding_19 rfl sipush_475 ?_
    refine V_icmp_ge (q := 45) (q2 := 25) dX8_dropEnding_22 rfl rfl (fun hb11 => ?_) (fun hb11 => ?_)
    · replace h := it h hb11
      refine V_msk (L' := [some (.ref (ad (xY X) 43)), none, none]) [true, true, false] rfl ?_
      exact hk (s) h
    · replace h := ie h hb11
      refine V_aload_n (q := 26) dX8_dropEnding_25 rfl rfl ?_
      refine V_getr (k := 43) (j := 0) (q := 29) clz_7 dX8_dropEnding_26 rfl rfl rfl (Nat.le_of_ble_eq_true rfl) fl_RX8_7 ?_
      refine V_iload_n (q := 30) dX8_dropEnding_29 rfl rfl ?_
      refine V_aload_n (q := 31) dX8_dropEnding_30 rfl rfl ?_
      refine V_getr (k := 43) (j := 0) (q := 34) clz_7 dX8_dropEnding_31 rfl rfl rfl (Nat.le_of_ble_eq_true rfl) fl_RX8_7 ?_
      refine V_iload_n (q := 35) dX8_dropEnding_34 rfl rfl ?_
      refine V_iconst (q := 36) (v := 5) dX8_dropEnding_35 rfl iconst_5 ?_
      refine V_iadd (q := 37) dX8_dropEnding_36 rfl ?_
      obtain ⟨hi6, x5, ex7, h⟩ := rI_ok h
      refine V_iald (k := 44) (q := 38) dX8_dropEnding_37 rfl rfl hi6 ex7 ?_
      obtain ⟨hi10, s8, e9, h⟩ := wI_ok h
      refine V_iast (k := 44) (q := 39) dX8_dropEnding_38 rfl rfl hi10 e9 ?_
      refine V_iinc (q := 42) (v := 1) (L' := [some (.ref (ad (xY X) 43)), none, some (.int (i2 + 1))]) dX8_dropEnding_39 rfl rfl iconst_1 (Nat.le_of_ble_eq_true rfl) rfl ?_
      refine V_goto (q := 16) dX8_dropEnding_42 rfl ?_
      exact ih (s8) ((i2 + 1)) h
set_option maxRecDepth 20000 in
theorem ct_X8_dropEnding (Y : Yc) {σ : Sg} {a1 : Int32} {r : Int32} {σr : Sg} (h : f_X8_dropEnding σ a1 = some (r, σr)) : Ct M_X8_dropEnding yX8_dropEnding Y [.ref (ad Y 43), .int a1] σ (some (.int r)) σr := by
  refine Ct_intro [some (.ref (ad Y 43)), some (.int a1), none] (by decide +kernel) rfl (Nat.le_of_ble_eq_true rfl) rfl (fun X hY => ?_) ⟨rfl, rfl⟩
  subst hY
  unfold f_X8_dropEnding at h
  refine V_aload_n (q := 1) dX8_dropEnding_0 rfl rfl ?_
  refine V_iload_n (q := 2) dX8_dropEnding_1 rfl rfl ?_
  obtain ⟨x1, hc2, h⟩ := cP_ok h
  refine V_cv1 (k := 43) (q := 5) (As := [.int a1]) (rest := []) (ct_X8_isEnding (xY X) hc2) ce_X8_isEnding clz_7 rfl im_yX8_isEnding se_yX8_isEnding rfl ml_RX8_92 rfl ⟨Nat.le_of_ble_eq_true rfl, Nat.le_of_ble_eq_true rfl⟩ rfl (Nat.le_of_ble_eq_true rfl) dX8_dropEnding_2 rfl ?_
  refine V_if_ne (q := 11) (q2 := 8) dX8_dropEnding_5 rfl rfl (fun hb22 => ?_) (fun hb22 => ?_)
  · replace h := ie h hb22
    refine V_iload_n (q := 12) dX8_dropEnding_11 rfl rfl ?_
    obtain ⟨x3, hc4, h⟩ := cP_ok h
    refine V_cs1 (q := 15) (As := [.int a1]) (rest := []) (ct_X8_endingAt (xY X) hc4) ce_X8_endingAt st_yX8_endingAt ml_RX8_82 rfl ⟨Nat.le_of_ble_eq_true rfl, Nat.le_of_ble_eq_true rfl⟩ rfl (Nat.le_of_ble_eq_true rfl) dX8_dropEnding_12 rfl ?_
    refine V_istore_n (q := 16) (L' := [some (.ref (ad (xY X) 43)), some (.int a1), some (.int x3)]) dX8_dropEnding_15 rfl (Nat.le_of_ble_eq_true rfl) rfl ?_
    refine V_msk (L' := [some (.ref (ad (xY X) 43)), none, some (.int x3)]) [true, false, true] rfl ?_
    refine w_X8_dropEnding_L16 (fun s12 h => ?_) fu (σ) (x3) h
    refine V_aload_n (q := 46) dX8_dropEnding_45 rfl rfl ?_
    refine V_getr (k := 43) (j := 0) (q := 49) clz_7 dX8_dropEnding_46 rfl rfl rfl (Nat.le_of_ble_eq_true rfl) fl_RX8_7 ?_
    refine V_iconst (q := 50) (v := 1) dX8_dropEnding_49 rfl iconst_1 ?_
    refine V_dup2 (q := 51) dX8_dropEnding_50 rfl rfl rfl ?_
    obtain ⟨hi14, x13, ex15, h⟩ := rI_ok h
    refine V_iald (k := 44) (q := 52) dX8_dropEnding_51 rfl rfl hi14 ex15 ?_
    refine V_iconst (q := 53) (v := 1) dX8_dropEnding_52 rfl iconst_1 ?_
    refine V_isub (q := 54) dX8_dropEnding_53 rfl ?_
    obtain ⟨hi18, s16, e17, h⟩ := wI_ok h
    refine V_iast (k := 44) (q := 55) dX8_dropEnding_54 rfl rfl hi18 e17 ?_
    refine V_aload_n (q := 56) dX8_dropEnding_55 rfl rfl ?_
    refine V_getr (k := 43) (j := 0) (q := 59) clz_7 dX8_dropEnding_56 rfl rfl rfl (Nat.le_of_ble_eq_true rfl) fl_RX8_7 ?_
    refine V_iconst (q := 60) (v := 1) dX8_dropEnding_59 rfl iconst_1 ?_
    obtain ⟨hi20, x19, ex21, h⟩ := rI_ok h
    refine V_iald (k := 44) (q := 61) dX8_dropEnding_60 rfl rfl hi20 ex21 ?_
    cases h
    exact V_iret rfl dX8_dropEnding_61
  · replace h := it h hb22
    refine V_ldc (q := 10) kc_RX8_88 dX8_dropEnding_8 rfl ?_
    cases h
    exact V_iret rfl dX8_dropEnding_10
def M_X1_isForbidden : Mc := (RX1, cX1_isForbidden, 2, { frames := 0, cells := 0, slots := 0, locals := 0 }, (some .boolean))
theorem ce_X1_isForbidden : Cee M_X1_isForbidden yX1_isForbidden 1 := ⟨cd_yX1_isForbidden, ini_RX1, ⟨by decide +kernel, by decide +kernel, by decide +kernel⟩, rfl, rfl⟩
set_option maxRecDepth 20000 in
theorem ct_X1_isForbidden (Y : Yc) {σ : Sg} {a1 : Int32} {r : Int32} (h : f_X1_isForbidden σ a1 = some r) : Ct M_X1_isForbidden yX1_isForbidden Y [.ref (ad Y 4), .int a1] σ (some (.int r)) σ := by
  refine Ct_intro [some (.ref (ad Y 4)), some (.int a1)] (by decide +kernel) rfl (Nat.le_of_ble_eq_true rfl) rfl (fun X hY => ?_) ⟨rfl, rfl⟩
  subst hY
  unfold f_X1_isForbidden at h
  refine V_aload_n (q := 1) dX1_isForbidden_0 rfl rfl ?_
  refine V_getr (k := 4) (j := 5) (q := 4) clz_0 dX1_isForbidden_1 rfl rfl rfl (Nat.le_of_ble_eq_true rfl) fl_RX1_25 ?_
  refine V_iload_n (q := 5) dX1_isForbidden_4 rfl rfl ?_
  obtain ⟨hi2, x1, ex3, h⟩ := rI_ok h
  refine V_iald (k := 9) (q := 6) dX1_isForbidden_5 rfl rfl hi2 ex3 ?_
  refine V_iconst (q := 7) (v := (-1)) dX1_isForbidden_6 rfl iconst_m1 ?_
  refine V_icmp_eq (q := 14) (q2 := 10) dX1_isForbidden_7 rfl rfl (fun hb4 => ?_) (fun hb4 => ?_)
  · replace h := it h hb4
    refine V_iconst (q := 15) (v := 0) dX1_isForbidden_14 rfl iconst_0 ?_
    cases h
    exact V_zret rfl rfl dX1_isForbidden_15
  · replace h := ie h hb4
    refine V_iconst (q := 11) (v := 1) dX1_isForbidden_10 rfl iconst_1 ?_
    refine V_goto (q := 15) dX1_isForbidden_11 rfl ?_
    cases h
    exact V_zret rfl rfl dX1_isForbidden_15
def M_X1_forbiddenSet : Mc := (RX1, cX1_forbiddenSet, 3, { frames := 1, cells := 0, slots := 0, locals := 21 }, (some .int))
theorem ce_X1_forbiddenSet : Cee M_X1_forbiddenSet yX1_forbiddenSet 0 := ⟨cd_yX1_forbiddenSet, ini_RX1, ⟨by decide +kernel, by decide +kernel, by decide +kernel⟩, rfl, rfl⟩
set_option maxRecDepth 20000 in
theorem w_X1_forbiddenSet_L4 {X : Xc} {σ : Sg} {r : Int32} {k : Int32 → Option Int32}
    (hk : ∀ (i1 : Int32), k i1 = some r → V X M_X1_forbiddenSet (mq X (some (.int r)) σ) 32 [none, some (.int i1), none] [] σ) :
    ∀ (n : Nat) (i1 : Int32) (i2 : Int32), f_X1_forbiddenSet_L4 k σ n i1 i2 = some r → V X M_X1_forbiddenSet (mq X (some (.int r)) σ) 4 [some (.ref (ad (xY X) 4)), some (.int i1), some (.int i2)] [] σ := by
  intro n
  induction n with
  | zero => intro i1 i2 h; cases h
  | succ n ih =>
    intro i1 i2 h
    rw [f_X1_forbiddenSet_L4] at h
    refine V_iload_n (q := 5) dX1_forbiddenSet_4 rfl rfl ?_
    refine V_aload_n (q := 6) dX1_forbiddenSet_5 rfl rfl ?_
    refine V_geti (k := 4) (j := 0) (q := 9) clz_0 dX1_forbiddenSet_6 rfl rfl rfl (Nat.le_of_ble_eq_true rfl) fl_RX1_31 ?_
    refine V_icmp_ge (q := 32) (q2 := 12) dX1_forbiddenSet_9 rfl rfl (fun hb4 => ?_) (fun hb4 => ?_)
    · replace h := it h hb4
      refine V_msk (L' := [none, some (.int i1), none]) [false, true, false] rfl ?_
      exact hk (i1) h
    · replace h := ie h hb4
      refine V_aload_n (q := 13) dX1_forbiddenSet_12 rfl rfl ?_
      refine V_iload_n (q := 14) dX1_forbiddenSet_13 rfl rfl ?_
      obtain ⟨x1, hc2, h⟩ := cP_ok h
      refine V_cv1 (k := 4) (q := 17) (As := [.int i2]) (rest := []) (ct_X1_isForbidden (xY X) hc2) ce_X1_isForbidden clz_0 rfl im_yX1_isForbidden se_yX1_isForbidden rfl ml_RX1_48 rfl ⟨Nat.le_of_ble_eq_true rfl, Nat.le_of_ble_eq_true rfl⟩ rfl (Nat.le_of_ble_eq_true rfl) dX1_forbiddenSet_14 rfl ?_
      refine V_if_eq (q := 26) (q2 := 20) dX1_forbiddenSet_17 rfl rfl (fun hb3 => ?_) (fun hb3 => ?_)
      · replace h := it h hb3
        refine V_iinc (q := 29) (v := 1) (L' := [some (.ref (ad (xY X) 4)), some (.int i1), some (.int (i2 + 1))]) dX1_forbiddenSet_26 rfl rfl iconst_1 (Nat.le_of_ble_eq_true rfl) rfl ?_
        refine V_goto (q := 4) dX1_forbiddenSet_29 rfl ?_
        exact ih (i1) ((i2 + 1)) h
      · replace h := ie h hb3
        refine V_iload_n (q := 21) dX1_forbiddenSet_20 rfl rfl ?_
        refine V_iconst (q := 22) (v := 1) dX1_forbiddenSet_21 rfl iconst_1 ?_
        refine V_iload_n (q := 23) dX1_forbiddenSet_22 rfl rfl ?_
        refine V_ishl (q := 24) dX1_forbiddenSet_23 rfl ?_
        refine V_ior (q := 25) dX1_forbiddenSet_24 rfl ?_
        refine V_istore_n (q := 26) (L' := [some (.ref (ad (xY X) 4)), some (.int (i1 ||| (1 <<< (i2 &&& 31)))), some (.int i2)]) dX1_forbiddenSet_25 rfl (Nat.le_of_ble_eq_true rfl) rfl ?_
        refine V_iinc (q := 29) (v := 1) (L' := [some (.ref (ad (xY X) 4)), some (.int (i1 ||| (1 <<< (i2 &&& 31)))), some (.int (i2 + 1))]) dX1_forbiddenSet_26 rfl rfl iconst_1 (Nat.le_of_ble_eq_true rfl) rfl ?_
        refine V_goto (q := 4) dX1_forbiddenSet_29 rfl ?_
        exact ih ((i1 ||| (1 <<< (i2 &&& 31)))) ((i2 + 1)) h
set_option maxRecDepth 20000 in
theorem ct_X1_forbiddenSet (Y : Yc) {σ : Sg}  {r : Int32} (h : f_X1_forbiddenSet σ  = some r) : Ct M_X1_forbiddenSet yX1_forbiddenSet Y [.ref (ad Y 4)] σ (some (.int r)) σ := by
  refine Ct_intro [some (.ref (ad Y 4)), none, none] (by decide +kernel) rfl (Nat.le_of_ble_eq_true rfl) rfl (fun X hY => ?_) ⟨rfl, rfl⟩
  subst hY
  unfold f_X1_forbiddenSet at h
  refine V_iconst (q := 1) (v := 0) dX1_forbiddenSet_0 rfl iconst_0 ?_
  refine V_istore_n (q := 2) (L' := [some (.ref (ad (xY X) 4)), some (.int 0), none]) dX1_forbiddenSet_1 rfl (Nat.le_of_ble_eq_true rfl) rfl ?_
  refine V_iconst (q := 3) (v := 0) dX1_forbiddenSet_2 rfl iconst_0 ?_
  refine V_istore_n (q := 4) (L' := [some (.ref (ad (xY X) 4)), some (.int 0), some (.int 0)]) dX1_forbiddenSet_3 rfl (Nat.le_of_ble_eq_true rfl) rfl ?_
  refine w_X1_forbiddenSet_L4 (fun v5 h => ?_) fu (0) (0) h
  refine V_iload_n (q := 33) dX1_forbiddenSet_32 rfl rfl ?_
  cases h
  exact V_iret rfl dX1_forbiddenSet_33
def M_J6_bitCount_0f7a4 : Mc := (RJ6, cJ6_bitCount_0f7a4, 1, { frames := 0, cells := 0, slots := 0, locals := 0 }, (some .int))
theorem ce_J6_bitCount_0f7a4 : Cee M_J6_bitCount_0f7a4 yJ6_bitCount_0f7a4 1 := ⟨cd_yJ6_bitCount_0f7a4, ini_RJ6, ⟨by decide +kernel, by decide +kernel, by decide +kernel⟩, rfl, rfl⟩
set_option maxRecDepth 20000 in
theorem ct_J6_bitCount_0f7a4 (Y : Yc) {σ : Sg} {a1 : Int32} {r : Int32} (h : f_J6_bitCount_0f7a4 σ a1 = some r) : Ct M_J6_bitCount_0f7a4 yJ6_bitCount_0f7a4 Y [.int a1] σ (some (.int r)) σ := by
  refine Ct_intro [some (.int a1)] (by decide +kernel) rfl (Nat.le_of_ble_eq_true rfl) rfl (fun X hY => ?_) ⟨rfl, rfl⟩
  subst hY
  unfold f_J6_bitCount_0f7a4 at h
  refine V_iload_n (q := 1) dJ6_bitCount_0f7a4_0 rfl rfl ?_
  refine V_iload_n (q := 2) dJ6_bitCount_0f7a4_1 rfl rfl ?_
  refine V_iconst (q := 3) (v := 1) dJ6_bitCount_0f7a4_2 rfl iconst_1 ?_
  refine V_iushr (q := 4) dJ6_bitCount_0f7a4_3 rfl ?_
  refine V_ldcw (q := 7) kc_RJ6_265 dJ6_bitCount_0f7a4_4 rfl ?_
  refine V_iand (q := 8) dJ6_bitCount_0f7a4_7 rfl ?_
  refine V_isub (q := 9) dJ6_bitCount_0f7a4_8 rfl ?_
  refine V_istore_n (q := 10) (L' := [some (.int (a1 - (((a1.toUInt32 >>> (Int32.toUInt32 1 &&& Int32.toUInt32 31)).toInt32) &&& (1431655765 : Int32))))]) dJ6_bitCount_0f7a4_9 rfl (Nat.le_of_ble_eq_true rfl) rfl ?_
  refine V_iload_n (q := 11) dJ6_bitCount_0f7a4_10 rfl rfl ?_
  refine V_ldcw (q := 14) kc_RJ6_266 dJ6_bitCount_0f7a4_11 rfl ?_
  refine V_iand (q := 15) dJ6_bitCount_0f7a4_14 rfl ?_
  refine V_iload_n (q := 16) dJ6_bitCount_0f7a4_15 rfl rfl ?_
  refine V_iconst (q := 17) (v := 2) dJ6_bitCount_0f7a4_16 rfl iconst_2 ?_
  refine V_iushr (q := 18) dJ6_bitCount_0f7a4_17 rfl ?_
  refine V_ldcw (q := 21) kc_RJ6_266 dJ6_bitCount_0f7a4_18 rfl ?_
  refine V_iand (q := 22) dJ6_bitCount_0f7a4_21 rfl ?_
  refine V_iadd (q := 23) dJ6_bitCount_0f7a4_22 rfl ?_
  refine V_istore_n (q := 24) (L' := [some (.int (((a1 - (((a1.toUInt32 >>> (Int32.toUInt32 1 &&& Int32.toUInt32 31)).toInt32) &&& (1431655765 : Int32))) &&& (858993459 : Int32)) + ((((a1 - (((a1.toUInt32 >>> (Int32.toUInt32 1 &&& Int32.toUInt32 31)).toInt32) &&& (1431655765 : Int32))).toUInt32 >>> (Int32.toUInt32 2 &&& Int32.toUInt32 31)).toInt32) &&& (858993459 : Int32))))]) dJ6_bitCount_0f7a4_23 rfl (Nat.le_of_ble_eq_true rfl) rfl ?_
  refine V_iload_n (q := 25) dJ6_bitCount_0f7a4_24 rfl rfl ?_
  refine V_iload_n (q := 26) dJ6_bitCount_0f7a4_25 rfl rfl ?_
  refine V_iconst (q := 27) (v := 4) dJ6_bitCount_0f7a4_26 rfl iconst_4 ?_
  refine V_iushr (q := 28) dJ6_bitCount_0f7a4_27 rfl ?_
  refine V_iadd (q := 29) dJ6_bitCount_0f7a4_28 rfl ?_
  refine V_ldcw (q := 32) kc_RJ6_267 dJ6_bitCount_0f7a4_29 rfl ?_
  refine V_iand (q := 33) dJ6_bitCount_0f7a4_32 rfl ?_
  refine V_istore_n (q := 34) (L' := [some (.int (((((a1 - (((a1.toUInt32 >>> (Int32.toUInt32 1 &&& Int32.toUInt32 31)).toInt32) &&& (1431655765 : Int32))) &&& (858993459 : Int32)) + ((((a1 - (((a1.toUInt32 >>> (Int32.toUInt32 1 &&& Int32.toUInt32 31)).toInt32) &&& (1431655765 : Int32))).toUInt32 >>> (Int32.toUInt32 2 &&& Int32.toUInt32 31)).toInt32) &&& (858993459 : Int32))) + (((((a1 - (((a1.toUInt32 >>> (Int32.toUInt32 1 &&& Int32.toUInt32 31)).toInt32) &&& (1431655765 : Int32))) &&& (858993459 : Int32)) + ((((a1 - (((a1.toUInt32 >>> (Int32.toUInt32 1 &&& Int32.toUInt32 31)).toInt32) &&& (1431655765 : Int32))).toUInt32 >>> (Int32.toUInt32 2 &&& Int32.toUInt32 31)).toInt32) &&& (858993459 : Int32))).toUInt32 >>> (Int32.toUInt32 4 &&& Int32.toUInt32 31)).toInt32)) &&& (252645135 : Int32)))]) dJ6_bitCount_0f7a4_33 rfl (Nat.le_of_ble_eq_true rfl) rfl ?_
  refine V_iload_n (q := 35) dJ6_bitCount_0f7a4_34 rfl rfl ?_
  refine V_iload_n (q := 36) dJ6_bitCount_0f7a4_35 rfl rfl ?_
  refine V_bipush (q := 38) (v := 8) dJ6_bitCount_0f7a4_36 rfl bipush_8 ?_
  refine V_iushr (q := 39) dJ6_bitCount_0f7a4_38 rfl ?_
  refine V_iadd (q := 40) dJ6_bitCount_0f7a4_39 rfl ?_
  refine V_istore_n (q := 41) (L' := [some (.int ((((((a1 - (((a1.toUInt32 >>> (Int32.toUInt32 1 &&& Int32.toUInt32 31)).toInt32) &&& (1431655765 : Int32))) &&& (858993459 : Int32)) + ((((a1 - (((a1.toUInt32 >>> (Int32.toUInt32 1 &&& Int32.toUInt32 31)).toInt32) &&& (1431655765 : Int32))).toUInt32 >>> (Int32.toUInt32 2 &&& Int32.toUInt32 31)).toInt32) &&& (858993459 : Int32))) + (((((a1 - (((a1.toUInt32 >>> (Int32.toUInt32 1 &&& Int32.toUInt32 31)).toInt32) &&& (1431655765 : Int32))) &&& (858993459 : Int32)) + ((((a1 - (((a1.toUInt32 >>> (Int32.toUInt32 1 &&& Int32.toUInt32 31)).toInt32) &&& (1431655765 : Int32))).toUInt32 >>> (Int32.toUInt32 2 &&& Int32.toUInt32 31)).toInt32) &&& (858993459 : Int32))).toUInt32 >>> (Int32.toUInt32 4 &&& Int32.toUInt32 31)).toInt32)) &&& (252645135 : Int32)) + (((((((a1 - (((a1.toUInt32 >>> (Int32.toUInt32 1 &&& Int32.toUInt32 31)).toInt32) &&& (1431655765 : Int32))) &&& (858993459 : Int32)) + ((((a1 - (((a1.toUInt32 >>> (Int32.toUInt32 1 &&& Int32.toUInt32 31)).toInt32) &&& (1431655765 : Int32))).toUInt32 >>> (Int32.toUInt32 2 &&& Int32.toUInt32 31)).toInt32) &&& (858993459 : Int32))) + (((((a1 - (((a1.toUInt32 >>> (Int32.toUInt32 1 &&& Int32.toUInt32 31)).toInt32) &&& (1431655765 : Int32))) &&& (858993459 : Int32)) + ((((a1 - (((a1.toUInt32 >>> (Int32.toUInt32 1 &&& Int32.toUInt32 31)).toInt32) &&& (1431655765 : Int32))).toUInt32 >>> (Int32.toUInt32 2 &&& Int32.toUInt32 31)).toInt32) &&& (858993459 : Int32))).toUInt32 >>> (Int32.toUInt32 4 &&& Int32.toUInt32 31)).toInt32)) &&& (252645135 : Int32)).toUInt32 >>> (Int32.toUInt32 8 &&& Int32.toUInt32 31)).toInt32)))]) dJ6_bitCount_0f7a4_40 rfl (Nat.le_of_ble_eq_true rfl) rfl ?_
  refine V_iload_n (q := 42) dJ6_bitCount_0f7a4_41 rfl rfl ?_
  refine V_iload_n (q := 43) dJ6_bitCount_0f7a4_42 rfl rfl ?_
  refine V_bipush (q := 45) (v := 16) dJ6_bitCount_0f7a4_43 rfl bipush_16 ?_
  refine V_iushr (q := 46) dJ6_bitCount_0f7a4_45 rfl ?_
  refine V_iadd (q := 47) dJ6_bitCount_0f7a4_46 rfl ?_
  refine V_istore_n (q := 48) (L' := [some (.int (((((((a1 - (((a1.toUInt32 >>> (Int32.toUInt32 1 &&& Int32.toUInt32 31)).toInt32) &&& (1431655765 : Int32))) &&& (858993459 : Int32)) + ((((a1 - (((a1.toUInt32 >>> (Int32.toUInt32 1 &&& Int32.toUInt32 31)).toInt32) &&& (1431655765 : Int32))).toUInt32 >>> (Int32.toUInt32 2 &&& Int32.toUInt32 31)).toInt32) &&& (858993459 : Int32))) + (((((a1 - (((a1.toUInt32 >>> (Int32.toUInt32 1 &&& Int32.toUInt32 31)).toInt32) &&& (1431655765 : Int32))) &&& (858993459 : Int32)) + ((((a1 - (((a1.toUInt32 >>> (Int32.toUInt32 1 &&& Int32.toUInt32 31)).toInt32) &&& (1431655765 : Int32))).toUInt32 >>> (Int32.toUInt32 2 &&& Int32.toUInt32 31)).toInt32) &&& (858993459 : Int32))).toUInt32 >>> (Int32.toUInt32 4 &&& Int32.toUInt32 31)).toInt32)) &&& (252645135 : Int32)) + (((((((a1 - (((a1.toUInt32 >>> (Int32.toUInt32 1 &&& Int32.toUInt32 31)).toInt32) &&& (1431655765 : Int32))) &&& (858993459 : Int32)) + ((((a1 - (((a1.toUInt32 >>> (Int32.toUInt32 1 &&& Int32.toUInt32 31)).toInt32) &&& (1431655765 : Int32))).toUInt32 >>> (Int32.toUInt32 2 &&& Int32.toUInt32 31)).toInt32) &&& (858993459 : Int32))) + (((((a1 - (((a1.toUInt32 >>> (Int32.toUInt32 1 &&& Int32.toUInt32 31)).toInt32) &&& (1431655765 : Int32))) &&& (858993459 : Int32)) + ((((a1 - (((a1.toUInt32 >>> (Int32.toUInt32 1 &&& Int32.toUInt32 31)).toInt32) &&& (1431655765 : Int32))).toUInt32 >>> (Int32.toUInt32 2 &&& Int32.toUInt32 31)).toInt32) &&& (858993459 : Int32))).toUInt32 >>> (Int32.toUInt32 4 &&& Int32.toUInt32 31)).toInt32)) &&& (252645135 : Int32)).toUInt32 >>> (Int32.toUInt32 8 &&& Int32.toUInt32 31)).toInt32)) + ((((((((a1 - (((a1.toUInt32 >>> (Int32.toUInt32 1 &&& Int32.toUInt32 31)).toInt32) &&& (1431655765 : Int32))) &&& (858993459 : Int32)) + ((((a1 - (((a1.toUInt32 >>> (Int32.toUInt32 1 &&& Int32.toUInt32 31)).toInt32) &&& (1431655765 : Int32))).toUInt32 >>> (Int32.toUInt32 2 &&& Int32.toUInt32 31)).toInt32) &&& (858993459 : Int32))) + (((((a1 - (((a1.toUInt32 >>> (Int32.toUInt32 1 &&& Int32.toUInt32 31)).toInt32) &&& (1431655765 : Int32))) &&& (858993459 : Int32)) + ((((a1 - (((a1.toUInt32 >>> (Int32.toUInt32 1 &&& Int32.toUInt32 31)).toInt32) &&& (1431655765 : Int32))).toUInt32 >>> (Int32.toUInt32 2 &&& Int32.toUInt32 31)).toInt32) &&& (858993459 : Int32))).toUInt32 >>> (Int32.toUInt32 4 &&& Int32.toUInt32 31)).toInt32)) &&& (252645135 : Int32)) + (((((((a1 - (((a1.toUInt32 >>> (Int32.toUInt32 1 &&& Int32.toUInt32 31)).toInt32) &&& (1431655765 : Int32))) &&& (858993459 : Int32)) + ((((a1 - (((a1.toUInt32 >>> (Int32.toUInt32 1 &&& Int32.toUInt32 31)).toInt32) &&& (1431655765 : Int32))).toUInt32 >>> (Int32.toUInt32 2 &&& Int32.toUInt32 31)).toInt32) &&& (858993459 : Int32))) + (((((a1 - (((a1.toUInt32 >>> (Int32.toUInt32 1 &&& Int32.toUInt32 31)).toInt32) &&& (1431655765 : Int32))) &&& (858993459 : Int32)) + ((((a1 - (((a1.toUInt32 >>> (Int32.toUInt32 1 &&& Int32.toUInt32 31)).toInt32) &&& (1431655765 : Int32))).toUInt32 >>> (Int32.toUInt32 2 &&& Int32.toUInt32 31)).toInt32) &&& (858993459 : Int32))).toUInt32 >>> (Int32.toUInt32 4 &&& Int32.toUInt32 31)).toInt32)) &&& (252645135 : Int32)).toUInt32 >>> (Int32.toUInt32 8 &&& Int32.toUInt32 31)).toInt32)).toUInt32 >>> (Int32.toUInt32 16 &&& Int32.toUInt32 31)).toInt32)))]) dJ6_bitCount_0f7a4_47 rfl (Nat.le_of_ble_eq_true rfl) rfl ?_
  refine V_iload_n (q := 49) dJ6_bitCount_0f7a4_48 rfl rfl ?_
  refine V_bipush (q := 51) (v := 63) dJ6_bitCount_0f7a4_49 rfl bipush_63 ?_
  refine V_iand (q := 52) dJ6_bitCount_0f7a4_51 rfl ?_
  cases h
  exact V_iret rfl dJ6_bitCount_0f7a4_52
def M_X7_forbid : Mc := (RX7, cX7_forbid, 3, { frames := 2, cells := 0, slots := 0, locals := 43 }, (some .int))
theorem ce_X7_forbid : Cee M_X7_forbid yX7_forbid 2 := ⟨cd_yX7_forbid, ini_RX7, ⟨by decide +kernel, by decide +kernel, by decide +kernel⟩, rfl, rfl⟩
set_option maxRecDepth 20000 in
theorem ct_X7_forbid (Y : Yc) {σ : Sg} {a1 : Int32} {a2 : Int32} {r : Int32} {σr : Sg} (h : f_X7_forbid σ a1 a2 = some (r, σr)) : Ct M_X7_forbid yX7_forbid Y [.ref (ad Y 0), .int a1, .int a2] σ (some (.int r)) σr := by
  refine Ct_intro [some (.ref (ad Y 0)), some (.int a1), some (.int a2)] (by decide +kernel) rfl (Nat.le_of_ble_eq_true rfl) rfl (fun X hY => ?_) ⟨rfl, rfl⟩
  subst hY
  unfold f_X7_forbid at h
  refine V_aload_n (q := 1) dX7_forbid_0 rfl rfl ?_
  refine V_getr (k := 0) (j := 1) (q := 4) clz_6 dX7_forbid_1 rfl rfl rfl (Nat.le_of_ble_eq_true rfl) fl_RX7_19 ?_
  refine V_iload_n (q := 5) dX7_forbid_4 rfl rfl ?_
  obtain ⟨x1, hc2, h⟩ := cP_ok h
  refine V_cv1 (k := 4) (q := 8) (As := [.int a1]) (rest := []) (ct_X1_isTerm (xY X) hc2) ce_X1_isTerm clz_0 rfl im_yX1_isTerm se_yX1_isTerm rfl ml_RX7_111 rfl ⟨Nat.le_of_ble_eq_true rfl, Nat.le_of_ble_eq_true rfl⟩ rfl (Nat.le_of_ble_eq_true rfl) dX7_forbid_5 rfl ?_
  refine V_if_eq (q := 27) (q2 := 11) dX7_forbid_8 rfl rfl (fun hb23 => ?_) (fun hb23 => ?_)
  · replace h := it h hb23
    refine V_ldc (q := 29) kc_RX7_114 dX7_forbid_27 rfl ?_
    cases h
    exact V_iret rfl dX7_forbid_29
  · replace h := ie h hb23
    refine V_aload_n (q := 12) dX7_forbid_11 rfl rfl ?_
    refine V_getr (k := 0) (j := 1) (q := 15) clz_6 dX7_forbid_12 rfl rfl rfl (Nat.le_of_ble_eq_true rfl) fl_RX7_19 ?_
    refine V_iload_n (q := 16) dX7_forbid_15 rfl rfl ?_
    obtain ⟨x3, hc4, h⟩ := cP_ok h
    refine V_cv1 (k := 4) (q := 19) (As := [.int a2]) (rest := []) (ct_X1_isTerm (xY X) hc4) ce_X1_isTerm clz_0 rfl im_yX1_isTerm se_yX1_isTerm rfl ml_RX7_111 rfl ⟨Nat.le_of_ble_eq_true rfl, Nat.le_of_ble_eq_true rfl⟩ rfl (Nat.le_of_ble_eq_true rfl) dX7_forbid_16 rfl ?_
    refine V_if_eq (q := 27) (q2 := 22) dX7_forbid_19 rfl rfl (fun hb22 => ?_) (fun hb22 => ?_)
    · replace h := it h hb22
      refine V_ldc (q := 29) kc_RX7_114 dX7_forbid_27 rfl ?_
      cases h
      exact V_iret rfl dX7_forbid_29
    · replace h := ie h hb22
      refine V_iload_n (q := 23) dX7_forbid_22 rfl rfl ?_
      refine V_iload_n (q := 24) dX7_forbid_23 rfl rfl ?_
      refine V_icmp_ne (q := 30) (q2 := 27) dX7_forbid_24 rfl rfl (fun hb21 => ?_) (fun hb21 => ?_)
      · replace h := ie h hb21
        refine V_aload_n (q := 31) dX7_forbid_30 rfl rfl ?_
        refine V_getr (k := 0) (j := 1) (q := 34) clz_6 dX7_forbid_31 rfl rfl rfl (Nat.le_of_ble_eq_true rfl) fl_RX7_19 ?_
        refine V_iload_n (q := 35) dX7_forbid_34 rfl rfl ?_
        obtain ⟨x5, hc6, h⟩ := cP_ok h
        refine V_cv1 (k := 4) (q := 38) (As := [.int a1]) (rest := []) (ct_X1_isPreferred (xY X) hc6) ce_X1_isPreferred clz_0 rfl im_yX1_isPreferred se_yX1_isPreferred rfl ml_RX7_115 rfl ⟨Nat.le_of_ble_eq_true rfl, Nat.le_of_ble_eq_true rfl⟩ rfl (Nat.le_of_ble_eq_true rfl) dX7_forbid_35 rfl ?_
        refine V_if_ne (q := 52) (q2 := 41) dX7_forbid_38 rfl rfl (fun hb20 => ?_) (fun hb20 => ?_)
        · replace h := ie h hb20
          refine V_ldc (q := 54) kc_RX7_92 dX7_forbid_52 rfl ?_
          cases h
          exact V_iret rfl dX7_forbid_54
        · replace h := it h hb20
          refine V_aload_n (q := 42) dX7_forbid_41 rfl rfl ?_
          refine V_getr (k := 0) (j := 1) (q := 45) clz_6 dX7_forbid_42 rfl rfl rfl (Nat.le_of_ble_eq_true rfl) fl_RX7_19 ?_
          refine V_iload_n (q := 46) dX7_forbid_45 rfl rfl ?_
          obtain ⟨x7, hc8, h⟩ := cP_ok h
          refine V_cv1 (k := 4) (q := 49) (As := [.int a2]) (rest := []) (ct_X1_isForbidden (xY X) hc8) ce_X1_isForbidden clz_0 rfl im_yX1_isForbidden se_yX1_isForbidden rfl ml_RX7_134 rfl ⟨Nat.le_of_ble_eq_true rfl, Nat.le_of_ble_eq_true rfl⟩ rfl (Nat.le_of_ble_eq_true rfl) dX7_forbid_46 rfl ?_
          refine V_if_eq (q := 55) (q2 := 52) dX7_forbid_49 rfl rfl (fun hb19 => ?_) (fun hb19 => ?_)
          · replace h := it h hb19
            refine V_aload_n (q := 56) dX7_forbid_55 rfl rfl ?_
            refine V_getr (k := 0) (j := 1) (q := 59) clz_6 dX7_forbid_56 rfl rfl rfl (Nat.le_of_ble_eq_true rfl) fl_RX7_19 ?_
            refine V_getr (k := 4) (j := 5) (q := 62) clz_0 dX7_forbid_59 rfl rfl rfl (Nat.le_of_ble_eq_true rfl) fl_RX7_137 ?_
            refine V_iload_n (q := 63) dX7_forbid_62 rfl rfl ?_
            refine V_iload_n (q := 64) dX7_forbid_63 rfl rfl ?_
            obtain ⟨hi11, s9, e10, h⟩ := wI_ok h
            refine V_iast (k := 9) (q := 65) dX7_forbid_64 rfl rfl hi11 e10 ?_
            refine V_aload_n (q := 66) dX7_forbid_65 rfl rfl ?_
            obtain ⟨x12, s14, hc13, h⟩ := cA_ok h
            refine V_cv0 (k := 0) (q := 69) (As := []) (rest := []) (ct_X7_termsChanged (xY X) hc13) ce_X7_termsChanged clz_6 rfl im_yX7_termsChanged se_yX7_termsChanged rfl ml_RX7_97 rfl ⟨Nat.le_of_ble_eq_true rfl, Nat.le_of_ble_eq_true rfl⟩ rfl (Nat.le_of_ble_eq_true rfl) dX7_forbid_66 rfl ?_
            refine V_aload_n (q := 70) dX7_forbid_69 rfl rfl ?_
            refine V_getr (k := 0) (j := 1) (q := 73) clz_6 dX7_forbid_70 rfl rfl rfl (Nat.le_of_ble_eq_true rfl) fl_RX7_19 ?_
            obtain ⟨x15, hc16, h⟩ := cP_ok h
            refine V_cv1 (k := 4) (q := 76) (As := []) (rest := []) (ct_X1_forbiddenSet (xY X) hc16) ce_X1_forbiddenSet clz_0 rfl im_yX1_forbiddenSet se_yX1_forbiddenSet rfl ml_RX7_141 rfl ⟨Nat.le_of_ble_eq_true rfl, Nat.le_of_ble_eq_true rfl⟩ rfl (Nat.le_of_ble_eq_true rfl) dX7_forbid_73 rfl ?_
            obtain ⟨x17, hc18, h⟩ := cP_ok h
            refine V_cs1 (q := 79) (As := [.int x15]) (rest := []) (ct_J6_bitCount_0f7a4 (xY X) hc18) ce_J6_bitCount_0f7a4 st_yJ6_bitCount_0f7a4 ml_RX7_144 rfl ⟨Nat.le_of_ble_eq_true rfl, Nat.le_of_ble_eq_true rfl⟩ rfl (Nat.le_of_ble_eq_true rfl) dX7_forbid_76 rfl ?_
            cases h
            exact V_iret rfl dX7_forbid_79
          · replace h := ie h hb19
            refine V_ldc (q := 54) kc_RX7_92 dX7_forbid_52 rfl ?_
            cases h
            exact V_iret rfl dX7_forbid_54
      · replace h := it h hb21
        refine V_ldc (q := 29) kc_RX7_114 dX7_forbid_27 rfl ?_
        cases h
        exact V_iret rfl dX7_forbid_29
def M_X8_forbidden : Mc := (RX8, cX8_forbidden, 3, { frames := 1, cells := 0, slots := 0, locals := 20 }, (some .int))
theorem ce_X8_forbidden : Cee M_X8_forbidden yX8_forbidden 0 := ⟨cd_yX8_forbidden, ini_RX8, ⟨by decide +kernel, by decide +kernel, by decide +kernel⟩, rfl, rfl⟩
set_option maxRecDepth 20000 in
theorem w_X8_forbidden_L4 {X : Xc} {σ : Sg} {r : Int32} {k : Int32 → Option Int32}
    (hk : ∀ (i1 : Int32), k i1 = some r → V X M_X8_forbidden (mq X (some (.int r)) σ) 45 [none, some (.int i1), none] [] σ) :
    ∀ (n : Nat) (i1 : Int32) (i2 : Int32), f_X8_forbidden_L4 k σ n i1 i2 = some r → V X M_X8_forbidden (mq X (some (.int r)) σ) 4 [some (.ref (ad (xY X) 43)), some (.int i1), some (.int i2)] [] σ := by
  intro n
  induction n with
  | zero => intro i1 i2 h; cases h
  | succ n ih =>
    intro i1 i2 h
    rw [f_X8_forbidden_L4] at h
    refine V_iload_n (q := 5) dX8_forbidden_4 rfl rfl ?_
    refine V_aload_n (q := 6) dX8_forbidden_5 rfl rfl ?_
    refine V_getr (k := 43) (j := 0) (q := 9) clz_7 dX8_forbidden_6 rfl rfl rfl (Nat.le_of_ble_eq_true rfl) fl_RX8_7 ?_
    refine V_iconst (q := 10) (v := 0) dX8_forbidden_9 rfl iconst_0 ?_
    obtain ⟨hi2, x1, ex3, h⟩ := rI_ok h
    refine V_iald (k := 44) (q := 11) dX8_forbidden_10 rfl rfl hi2 ex3 ?_
    refine V_icmp_ge (q := 45) (q2 := 14) dX8_forbidden_11 rfl rfl (fun hb12 => ?_) (fun hb12 => ?_)
    · replace h := it h hb12
      refine V_msk (L' := [none, some (.int i1), none]) [false, true, false] rfl ?_
      exact hk (i1) h
    · replace h := ie h hb12
      refine V_iload_n (q := 15) dX8_forbidden_14 rfl rfl ?_
      refine V_aload_n (q := 16) dX8_forbidden_15 rfl rfl ?_
      refine V_getr (k := 43) (j := 0) (q := 19) clz_7 dX8_forbidden_16 rfl rfl rfl (Nat.le_of_ble_eq_true rfl) fl_RX8_7 ?_
      refine V_iload_n (q := 20) dX8_forbidden_19 rfl rfl ?_
      obtain ⟨x4, hc5, h⟩ := cP_ok h
      refine V_cs1 (q := 23) (As := [.int i2]) (rest := [.ref (ad (xY X) 44), .int i1]) (ct_X8_termAt (xY X) hc5) ce_X8_termAt st_yX8_termAt ml_RX8_58 rfl ⟨Nat.le_of_ble_eq_true rfl, Nat.le_of_ble_eq_true rfl⟩ rfl (Nat.le_of_ble_eq_true rfl) dX8_forbidden_20 rfl ?_
      refine V_iconst (q := 24) (v := 3) dX8_forbidden_23 rfl iconst_3 ?_
      refine V_iadd (q := 25) dX8_forbidden_24 rfl ?_
      obtain ⟨hi7, x6, ex8, h⟩ := rI_ok h
      refine V_iald (k := 44) (q := 26) dX8_forbidden_25 rfl rfl hi7 ex8 ?_
      refine V_iconst (q := 27) (v := (-1)) dX8_forbidden_26 rfl iconst_m1 ?_
      obtain ⟨k9, ek9, h⟩ := jn_ok h
      have hk9 : ∀ (v10 : Int32), k9 v10 = some r → V X M_X8_forbidden (mq X (some (.int r)) σ) 37 [some (.ref (ad (xY X) 43)), none, some (.int i2)] [.int v10, .int i1] σ := by
        clear h
        intro v10 h
        rw [ek9] at h
        refine V_ior (q := 38) dX8_forbidden_37 rfl ?_
        refine V_istore_n (q := 39) (L' := [some (.ref (ad (xY X) 43)), some (.int (i1 ||| v10)), some (.int i2)]) dX8_forbidden_38 rfl (Nat.le_of_ble_eq_true rfl) rfl ?_
        refine V_iinc (q := 42) (v := 1) (L' := [some (.ref (ad (xY X) 43)), some (.int (i1 ||| v10)), some (.int (i2 + 1))]) dX8_forbidden_39 rfl rfl iconst_1 (Nat.le_of_ble_eq_true rfl) rfl ?_
        refine V_goto (q := 4) dX8_forbidden_42 rfl ?_
        exact ih ((i1 ||| v10)) ((i2 + 1)) h
      refine V_icmp_eq (q := 36) (q2 := 30) dX8_forbidden_27 rfl rfl (fun hb11 => ?_) (fun hb11 => ?_)
      · replace h := it h hb11
        refine V_iconst (q := 37) (v := 0) dX8_forbidden_36 rfl iconst_0 ?_
        refine V_msk (L' := [some (.ref (ad (xY X) 43)), none, some (.int i2)]) [true, false, true] rfl ?_
        exact hk9 (0) h
      · replace h := ie h hb11
        refine V_iconst (q := 31) (v := 1) dX8_forbidden_30 rfl iconst_1 ?_
        refine V_iload_n (q := 32) dX8_forbidden_31 rfl rfl ?_
        refine V_ishl (q := 33) dX8_forbidden_32 rfl ?_
        refine V_goto (q := 37) dX8_forbidden_33 rfl ?_
        refine V_msk (L' := [some (.ref (ad (xY X) 43)), none, some (.int i2)]) [true, false, true] rfl ?_
        exact hk9 ((1 <<< (i2 &&& 31))) h
set_option maxRecDepth 20000 in
theorem ct_X8_forbidden (Y : Yc) {σ : Sg}  {r : Int32} (h : f_X8_forbidden σ  = some r) : Ct M_X8_forbidden yX8_forbidden Y [.ref (ad Y 43)] σ (some (.int r)) σ := by
  refine Ct_intro [some (.ref (ad Y 43)), none, none] (by decide +kernel) rfl (Nat.le_of_ble_eq_true rfl) rfl (fun X hY => ?_) ⟨rfl, rfl⟩
  subst hY
  unfold f_X8_forbidden at h
  refine V_iconst (q := 1) (v := 0) dX8_forbidden_0 rfl iconst_0 ?_
  refine V_istore_n (q := 2) (L' := [some (.ref (ad (xY X) 43)), some (.int 0), none]) dX8_forbidden_1 rfl (Nat.le_of_ble_eq_true rfl) rfl ?_
  refine V_iconst (q := 3) (v := 0) dX8_forbidden_2 rfl iconst_0 ?_
  refine V_istore_n (q := 4) (L' := [some (.ref (ad (xY X) 43)), some (.int 0), some (.int 0)]) dX8_forbidden_3 rfl (Nat.le_of_ble_eq_true rfl) rfl ?_
  refine w_X8_forbidden_L4 (fun v13 h => ?_) fu (0) (0) h
  refine V_iload_n (q := 46) dX8_forbidden_45 rfl rfl ?_
  cases h
  exact V_iret rfl dX8_forbidden_46
def M_X8_ones : Mc := (RX8, cX8_ones, 3, { frames := 0, cells := 0, slots := 0, locals := 0 }, (some .int))
theorem ce_X8_ones : Cee M_X8_ones yX8_ones 1 := ⟨cd_yX8_ones, ini_RX8, ⟨by decide +kernel, by decide +kernel, by decide +kernel⟩, rfl, rfl⟩
set_option maxRecDepth 20000 in
theorem w_X8_ones_L4 {X : Xc} {σ : Sg} {c0 : Int32} {r : Int32} {k : Int32 → Option Int32}
    (hk : ∀ (i1 : Int32), k i1 = some r → V X M_X8_ones (mq X (some (.int r)) σ) 24 [none, some (.int i1), none] [] σ) :
    ∀ (n : Nat) (i1 : Int32) (i2 : Int32), f_X8_ones_L4 k σ c0 n i1 i2 = some r → V X M_X8_ones (mq X (some (.int r)) σ) 4 [some (.int c0), some (.int i1), some (.int i2)] [] σ := by
  intro n
  induction n with
  | zero => intro i1 i2 h; cases h
  | succ n ih =>
    intro i1 i2 h
    rw [f_X8_ones_L4] at h
    refine V_iload_n (q := 5) dX8_ones_4 rfl rfl ?_
    refine V_bipush (q := 7) (v := 8) dX8_ones_5 rfl bipush_8 ?_
    refine V_icmp_ge (q := 24) (q2 := 10) dX8_ones_7 rfl rfl (fun hb1 => ?_) (fun hb1 => ?_)
    · replace h := it h hb1
      refine V_msk (L' := [none, some (.int i1), none]) [false, true, false] rfl ?_
      exact hk (i1) h
    · replace h := ie h hb1
      refine V_iload_n (q := 11) dX8_ones_10 rfl rfl ?_
      refine V_iload_n (q := 12) dX8_ones_11 rfl rfl ?_
      refine V_iload_n (q := 13) dX8_ones_12 rfl rfl ?_
      refine V_ishr (q := 14) dX8_ones_13 rfl ?_
      refine V_iconst (q := 15) (v := 1) dX8_ones_14 rfl iconst_1 ?_
      refine V_iand (q := 16) dX8_ones_15 rfl ?_
      refine V_iadd (q := 17) dX8_ones_16 rfl ?_
      refine V_istore_n (q := 18) (L' := [some (.int c0), some (.int (i1 + ((c0 >>> (i2 &&& 31)) &&& 1))), some (.int i2)]) dX8_ones_17 rfl (Nat.le_of_ble_eq_true rfl) rfl ?_
      refine V_iinc (q := 21) (v := 1) (L' := [some (.int c0), some (.int (i1 + ((c0 >>> (i2 &&& 31)) &&& 1))), some (.int (i2 + 1))]) dX8_ones_18 rfl rfl iconst_1 (Nat.le_of_ble_eq_true rfl) rfl ?_
      refine V_goto (q := 4) dX8_ones_21 rfl ?_
      exact ih ((i1 + ((c0 >>> (i2 &&& 31)) &&& 1))) ((i2 + 1)) h
set_option maxRecDepth 20000 in
theorem ct_X8_ones (Y : Yc) {σ : Sg} {a1 : Int32} {r : Int32} (h : f_X8_ones σ a1 = some r) : Ct M_X8_ones yX8_ones Y [.int a1] σ (some (.int r)) σ := by
  refine Ct_intro [some (.int a1), none, none] (by decide +kernel) rfl (Nat.le_of_ble_eq_true rfl) rfl (fun X hY => ?_) ⟨rfl, rfl⟩
  subst hY
  unfold f_X8_ones at h
  refine V_iconst (q := 1) (v := 0) dX8_ones_0 rfl iconst_0 ?_
  refine V_istore_n (q := 2) (L' := [some (.int a1), some (.int 0), none]) dX8_ones_1 rfl (Nat.le_of_ble_eq_true rfl) rfl ?_
  refine V_iconst (q := 3) (v := 0) dX8_ones_2 rfl iconst_0 ?_
  refine V_istore_n (q := 4) (L' := [some (.int a1), some (.int 0), some (.int 0)]) dX8_ones_3 rfl (Nat.le_of_ble_eq_true rfl) rfl ?_
  refine w_X8_ones_L4 (fun v2 h => ?_) fu (0) (0) h
  refine V_iload_n (q := 25) dX8_ones_24 rfl rfl ?_
  cases h
  exact V_iret rfl dX8_ones_25
def M_X8_forbid : Mc := (RX8, cX8_forbid, 3, { frames := 2, cells := 0, slots := 0, locals := 43 }, (some .int))
theorem ce_X8_forbid : Cee M_X8_forbid yX8_forbid 2 := ⟨cd_yX8_forbid, ini_RX8, ⟨by decide +kernel, by decide +kernel, by decide +kernel⟩, rfl, rfl⟩
set_option maxRecDepth 20000 in
theorem ct_X8_forbid (Y : Yc) {σ : Sg} {a1 : Int32} {a2 : Int32} {r : Int32} {σr : Sg} (h : f_X8_forbid σ a1 a2 = some (r, σr)) : Ct M_X8_forbid yX8_forbid Y [.ref (ad Y 43), .int a1, .int a2] σ (some (.int r)) σr := by
  refine Ct_intro [some (.ref (ad Y 43)), some (.int a1), some (.int a2)] (by decide +kernel) rfl (Nat.le_of_ble_eq_true rfl) rfl (fun X hY => ?_) ⟨rfl, rfl⟩
  subst hY
  unfold f_X8_forbid at h
  refine V_aload_n (q := 1) dX8_forbid_0 rfl rfl ?_
  refine V_iload_n (q := 2) dX8_forbid_1 rfl rfl ?_
  obtain ⟨x1, hc2, h⟩ := cP_ok h
  refine V_cv1 (k := 43) (q := 5) (As := [.int a1]) (rest := []) (ct_X8_isTerm (xY X) hc2) ce_X8_isTerm clz_7 rfl im_yX8_isTerm se_yX8_isTerm rfl ml_RX8_85 rfl ⟨Nat.le_of_ble_eq_true rfl, Nat.le_of_ble_eq_true rfl⟩ rfl (Nat.le_of_ble_eq_true rfl) dX8_forbid_2 rfl ?_
  refine V_if_eq (q := 21) (q2 := 8) dX8_forbid_5 rfl rfl (fun hb25 => ?_) (fun hb25 => ?_)
  · replace h := it h hb25
    refine V_ldc (q := 23) kc_RX8_88 dX8_forbid_21 rfl ?_
    cases h
    exact V_iret rfl dX8_forbid_23
  · replace h := ie h hb25
    refine V_aload_n (q := 9) dX8_forbid_8 rfl rfl ?_
    refine V_iload_n (q := 10) dX8_forbid_9 rfl rfl ?_
    obtain ⟨x3, hc4, h⟩ := cP_ok h
    refine V_cv1 (k := 43) (q := 13) (As := [.int a2]) (rest := []) (ct_X8_isTerm (xY X) hc4) ce_X8_isTerm clz_7 rfl im_yX8_isTerm se_yX8_isTerm rfl ml_RX8_85 rfl ⟨Nat.le_of_ble_eq_true rfl, Nat.le_of_ble_eq_true rfl⟩ rfl (Nat.le_of_ble_eq_true rfl) dX8_forbid_10 rfl ?_
    refine V_if_eq (q := 21) (q2 := 16) dX8_forbid_13 rfl rfl (fun hb24 => ?_) (fun hb24 => ?_)
    · replace h := it h hb24
      refine V_ldc (q := 23) kc_RX8_88 dX8_forbid_21 rfl ?_
      cases h
      exact V_iret rfl dX8_forbid_23
    · replace h := ie h hb24
      refine V_iload_n (q := 17) dX8_forbid_16 rfl rfl ?_
      refine V_iload_n (q := 18) dX8_forbid_17 rfl rfl ?_
      refine V_icmp_ne (q := 24) (q2 := 21) dX8_forbid_18 rfl rfl (fun hb23 => ?_) (fun hb23 => ?_)
      · replace h := ie h hb23
        refine V_aload_n (q := 25) dX8_forbid_24 rfl rfl ?_
        refine V_iload_n (q := 26) dX8_forbid_25 rfl rfl ?_
        obtain ⟨x5, hc6, h⟩ := cP_ok h
        refine V_cv1 (k := 43) (q := 29) (As := [.int a1]) (rest := []) (ct_X8_isPreferred (xY X) hc6) ce_X8_isPreferred clz_7 rfl im_yX8_isPreferred se_yX8_isPreferred rfl ml_RX8_89 rfl ⟨Nat.le_of_ble_eq_true rfl, Nat.le_of_ble_eq_true rfl⟩ rfl (Nat.le_of_ble_eq_true rfl) dX8_forbid_26 rfl ?_
        refine V_if_ne (q := 47) (q2 := 32) dX8_forbid_29 rfl rfl (fun hb22 => ?_) (fun hb22 => ?_)
        · replace h := ie h hb22
          refine V_ldc (q := 49) kc_RX8_77 dX8_forbid_47 rfl ?_
          cases h
          exact V_iret rfl dX8_forbid_49
        · replace h := it h hb22
          refine V_aload_n (q := 33) dX8_forbid_32 rfl rfl ?_
          refine V_getr (k := 43) (j := 0) (q := 36) clz_7 dX8_forbid_33 rfl rfl rfl (Nat.le_of_ble_eq_true rfl) fl_RX8_7 ?_
          refine V_iload_n (q := 37) dX8_forbid_36 rfl rfl ?_
          obtain ⟨x7, hc8, h⟩ := cP_ok h
          refine V_cs1 (q := 40) (As := [.int a2]) (rest := [.ref (ad (xY X) 44)]) (ct_X8_termAt (xY X) hc8) ce_X8_termAt st_yX8_termAt ml_RX8_58 rfl ⟨Nat.le_of_ble_eq_true rfl, Nat.le_of_ble_eq_true rfl⟩ rfl (Nat.le_of_ble_eq_true rfl) dX8_forbid_37 rfl ?_
          refine V_iconst (q := 41) (v := 3) dX8_forbid_40 rfl iconst_3 ?_
          refine V_iadd (q := 42) dX8_forbid_41 rfl ?_
          obtain ⟨hi10, x9, ex11, h⟩ := rI_ok h
          refine V_iald (k := 44) (q := 43) dX8_forbid_42 rfl rfl hi10 ex11 ?_
          refine V_iconst (q := 44) (v := (-1)) dX8_forbid_43 rfl iconst_m1 ?_
          refine V_icmp_eq (q := 50) (q2 := 47) dX8_forbid_44 rfl rfl (fun hb21 => ?_) (fun hb21 => ?_)
          · replace h := it h hb21
            refine V_aload_n (q := 51) dX8_forbid_50 rfl rfl ?_
            refine V_getr (k := 43) (j := 0) (q := 54) clz_7 dX8_forbid_51 rfl rfl rfl (Nat.le_of_ble_eq_true rfl) fl_RX8_7 ?_
            refine V_iload_n (q := 55) dX8_forbid_54 rfl rfl ?_
            obtain ⟨x12, hc13, h⟩ := cP_ok h
            refine V_cs1 (q := 58) (As := [.int a1]) (rest := [.ref (ad (xY X) 44)]) (ct_X8_termAt (xY X) hc13) ce_X8_termAt st_yX8_termAt ml_RX8_58 rfl ⟨Nat.le_of_ble_eq_true rfl, Nat.le_of_ble_eq_true rfl⟩ rfl (Nat.le_of_ble_eq_true rfl) dX8_forbid_55 rfl ?_
            refine V_iconst (q := 59) (v := 3) dX8_forbid_58 rfl iconst_3 ?_
            refine V_iadd (q := 60) dX8_forbid_59 rfl ?_
            refine V_iload_n (q := 61) dX8_forbid_60 rfl rfl ?_
            obtain ⟨hi16, s14, e15, h⟩ := wI_ok h
            refine V_iast (k := 44) (q := 62) dX8_forbid_61 rfl rfl hi16 e15 ?_
            refine V_aload_n (q := 63) dX8_forbid_62 rfl rfl ?_
            obtain ⟨x17, hc18, h⟩ := cP_ok h
            refine V_cv1 (k := 43) (q := 66) (As := []) (rest := []) (ct_X8_forbidden (xY X) hc18) ce_X8_forbidden clz_7 rfl im_yX8_forbidden se_yX8_forbidden rfl ml_RX8_95 rfl ⟨Nat.le_of_ble_eq_true rfl, Nat.le_of_ble_eq_true rfl⟩ rfl (Nat.le_of_ble_eq_true rfl) dX8_forbid_63 rfl ?_
            obtain ⟨x19, hc20, h⟩ := cP_ok h
            refine V_cs1 (q := 69) (As := [.int x17]) (rest := []) (ct_X8_ones (xY X) hc20) ce_X8_ones st_yX8_ones ml_RX8_98 rfl ⟨Nat.le_of_ble_eq_true rfl, Nat.le_of_ble_eq_true rfl⟩ rfl (Nat.le_of_ble_eq_true rfl) dX8_forbid_66 rfl ?_
            cases h
            exact V_iret rfl dX8_forbid_69
          · replace h := ie h hb21
            refine V_ldc (q := 49) kc_RX8_77 dX8_forbid_47 rfl ?_
            cases h
            exact V_iret rfl dX8_forbid_49
      · replace h := it h hb23
        refine V_ldc (q := 23) kc_RX8_88 dX8_forbid_21 rfl ?_
        cases h
        exact V_iret rfl dX8_forbid_23
def M_X7_allow : Mc := (RX7, cX7_allow, 2, { frames := 2, cells := 0, slots := 0, locals := 43 }, (some .int))
theorem ce_X7_allow : Cee M_X7_allow yX7_allow 1 := ⟨cd_yX7_allow, ini_RX7, ⟨by decide +kernel, by decide +kernel, by decide +kernel⟩, rfl, rfl⟩
set_option maxRecDepth 20000 in
theorem ct_X7_allow (Y : Yc) {σ : Sg} {a1 : Int32} {r : Int32} {σr : Sg} (h : f_X7_allow σ a1 = some (r, σr)) : Ct M_X7_allow yX7_allow Y [.ref (ad Y 0), .int a1] σ (some (.int r)) σr := by
  refine Ct_intro [some (.ref (ad Y 0)), some (.int a1)] (by decide +kernel) rfl (Nat.le_of_ble_eq_true rfl) rfl (fun X hY => ?_) ⟨rfl, rfl⟩
  subst hY
  unfold f_X7_allow at h
  refine V_aload_n (q := 1) dX7_allow_0 rfl rfl ?_
  refine V_getr (k := 0) (j := 1) (q := 4) clz_6 dX7_allow_1 rfl rfl rfl (Nat.le_of_ble_eq_true rfl) fl_RX7_19 ?_
  refine V_iload_n (q := 5) dX7_allow_4 rfl rfl ?_
  obtain ⟨x1, hc2, h⟩ := cP_ok h
  refine V_cv1 (k := 4) (q := 8) (As := [.int a1]) (rest := []) (ct_X1_isTerm (xY X) hc2) ce_X1_isTerm clz_0 rfl im_yX1_isTerm se_yX1_isTerm rfl ml_RX7_111 rfl ⟨Nat.le_of_ble_eq_true rfl, Nat.le_of_ble_eq_true rfl⟩ rfl (Nat.le_of_ble_eq_true rfl) dX7_allow_5 rfl ?_
  refine V_if_ne (q := 14) (q2 := 11) dX7_allow_8 rfl rfl (fun hb16 => ?_) (fun hb16 => ?_)
  · replace h := ie h hb16
    refine V_aload_n (q := 15) dX7_allow_14 rfl rfl ?_
    refine V_getr (k := 0) (j := 1) (q := 18) clz_6 dX7_allow_15 rfl rfl rfl (Nat.le_of_ble_eq_true rfl) fl_RX7_19 ?_
    refine V_iload_n (q := 19) dX7_allow_18 rfl rfl ?_
    obtain ⟨x3, hc4, h⟩ := cP_ok h
    refine V_cv1 (k := 4) (q := 22) (As := [.int a1]) (rest := []) (ct_X1_isForbidden (xY X) hc4) ce_X1_isForbidden clz_0 rfl im_yX1_isForbidden se_yX1_isForbidden rfl ml_RX7_134 rfl ⟨Nat.le_of_ble_eq_true rfl, Nat.le_of_ble_eq_true rfl⟩ rfl (Nat.le_of_ble_eq_true rfl) dX7_allow_19 rfl ?_
    refine V_if_ne (q := 28) (q2 := 25) dX7_allow_22 rfl rfl (fun hb15 => ?_) (fun hb15 => ?_)
    · replace h := ie h hb15
      refine V_aload_n (q := 29) dX7_allow_28 rfl rfl ?_
      refine V_getr (k := 0) (j := 1) (q := 32) clz_6 dX7_allow_29 rfl rfl rfl (Nat.le_of_ble_eq_true rfl) fl_RX7_19 ?_
      refine V_getr (k := 4) (j := 5) (q := 35) clz_0 dX7_allow_32 rfl rfl rfl (Nat.le_of_ble_eq_true rfl) fl_RX7_137 ?_
      refine V_iload_n (q := 36) dX7_allow_35 rfl rfl ?_
      refine V_iconst (q := 37) (v := (-1)) dX7_allow_36 rfl iconst_m1 ?_
      obtain ⟨hi7, s5, e6, h⟩ := wI_ok h
      refine V_iast (k := 9) (q := 38) dX7_allow_37 rfl rfl hi7 e6 ?_
      refine V_aload_n (q := 39) dX7_allow_38 rfl rfl ?_
      obtain ⟨x8, s10, hc9, h⟩ := cA_ok h
      refine V_cv0 (k := 0) (q := 42) (As := []) (rest := []) (ct_X7_termsChanged (xY X) hc9) ce_X7_termsChanged clz_6 rfl im_yX7_termsChanged se_yX7_termsChanged rfl ml_RX7_97 rfl ⟨Nat.le_of_ble_eq_true rfl, Nat.le_of_ble_eq_true rfl⟩ rfl (Nat.le_of_ble_eq_true rfl) dX7_allow_39 rfl ?_
      refine V_aload_n (q := 43) dX7_allow_42 rfl rfl ?_
      refine V_getr (k := 0) (j := 1) (q := 46) clz_6 dX7_allow_43 rfl rfl rfl (Nat.le_of_ble_eq_true rfl) fl_RX7_19 ?_
      obtain ⟨x11, hc12, h⟩ := cP_ok h
      refine V_cv1 (k := 4) (q := 49) (As := []) (rest := []) (ct_X1_forbiddenSet (xY X) hc12) ce_X1_forbiddenSet clz_0 rfl im_yX1_forbiddenSet se_yX1_forbiddenSet rfl ml_RX7_141 rfl ⟨Nat.le_of_ble_eq_true rfl, Nat.le_of_ble_eq_true rfl⟩ rfl (Nat.le_of_ble_eq_true rfl) dX7_allow_46 rfl ?_
      obtain ⟨x13, hc14, h⟩ := cP_ok h
      refine V_cs1 (q := 52) (As := [.int x11]) (rest := []) (ct_J6_bitCount_0f7a4 (xY X) hc14) ce_J6_bitCount_0f7a4 st_yJ6_bitCount_0f7a4 ml_RX7_144 rfl ⟨Nat.le_of_ble_eq_true rfl, Nat.le_of_ble_eq_true rfl⟩ rfl (Nat.le_of_ble_eq_true rfl) dX7_allow_49 rfl ?_
      cases h
      exact V_iret rfl dX7_allow_52
    · replace h := it h hb15
      refine V_ldc (q := 27) kc_RX7_92 dX7_allow_25 rfl ?_
      cases h
      exact V_iret rfl dX7_allow_27
  · replace h := it h hb16
    refine V_ldc (q := 13) kc_RX7_114 dX7_allow_11 rfl ?_
    cases h
    exact V_iret rfl dX7_allow_13
def M_X8_allow : Mc := (RX8, cX8_allow, 2, { frames := 2, cells := 0, slots := 0, locals := 43 }, (some .int))
theorem ce_X8_allow : Cee M_X8_allow yX8_allow 1 := ⟨cd_yX8_allow, ini_RX8, ⟨by decide +kernel, by decide +kernel, by decide +kernel⟩, rfl, rfl⟩
set_option maxRecDepth 20000 in
theorem ct_X8_allow (Y : Yc) {σ : Sg} {a1 : Int32} {r : Int32} {σr : Sg} (h : f_X8_allow σ a1 = some (r, σr)) : Ct M_X8_allow yX8_allow Y [.ref (ad Y 43), .int a1] σ (some (.int r)) σr := by
  refine Ct_intro [some (.ref (ad Y 43)), some (.int a1)] (by decide +kernel) rfl (Nat.le_of_ble_eq_true rfl) rfl (fun X hY => ?_) ⟨rfl, rfl⟩
  subst hY
  unfold f_X8_allow at h
  refine V_aload_n (q := 1) dX8_allow_0 rfl rfl ?_
  refine V_iload_n (q := 2) dX8_allow_1 rfl rfl ?_
  obtain ⟨x1, hc2, h⟩ := cP_ok h
  refine V_cv1 (k := 43) (q := 5) (As := [.int a1]) (rest := []) (ct_X8_isTerm (xY X) hc2) ce_X8_isTerm clz_7 rfl im_yX8_isTerm se_yX8_isTerm rfl ml_RX8_85 rfl ⟨Nat.le_of_ble_eq_true rfl, Nat.le_of_ble_eq_true rfl⟩ rfl (Nat.le_of_ble_eq_true rfl) dX8_allow_2 rfl ?_
  refine V_if_ne (q := 11) (q2 := 8) dX8_allow_5 rfl rfl (fun hb18 => ?_) (fun hb18 => ?_)
  · replace h := ie h hb18
    refine V_aload_n (q := 12) dX8_allow_11 rfl rfl ?_
    refine V_getr (k := 43) (j := 0) (q := 15) clz_7 dX8_allow_12 rfl rfl rfl (Nat.le_of_ble_eq_true rfl) fl_RX8_7 ?_
    refine V_iload_n (q := 16) dX8_allow_15 rfl rfl ?_
    obtain ⟨x3, hc4, h⟩ := cP_ok h
    refine V_cs1 (q := 19) (As := [.int a1]) (rest := [.ref (ad (xY X) 44)]) (ct_X8_termAt (xY X) hc4) ce_X8_termAt st_yX8_termAt ml_RX8_58 rfl ⟨Nat.le_of_ble_eq_true rfl, Nat.le_of_ble_eq_true rfl⟩ rfl (Nat.le_of_ble_eq_true rfl) dX8_allow_16 rfl ?_
    refine V_iconst (q := 20) (v := 3) dX8_allow_19 rfl iconst_3 ?_
    refine V_iadd (q := 21) dX8_allow_20 rfl ?_
    obtain ⟨hi6, x5, ex7, h⟩ := rI_ok h
    refine V_iald (k := 44) (q := 22) dX8_allow_21 rfl rfl hi6 ex7 ?_
    refine V_iconst (q := 23) (v := (-1)) dX8_allow_22 rfl iconst_m1 ?_
    refine V_icmp_ne (q := 29) (q2 := 26) dX8_allow_23 rfl rfl (fun hb17 => ?_) (fun hb17 => ?_)
    · replace h := ie h hb17
      refine V_aload_n (q := 30) dX8_allow_29 rfl rfl ?_
      refine V_getr (k := 43) (j := 0) (q := 33) clz_7 dX8_allow_30 rfl rfl rfl (Nat.le_of_ble_eq_true rfl) fl_RX8_7 ?_
      refine V_iload_n (q := 34) dX8_allow_33 rfl rfl ?_
      obtain ⟨x8, hc9, h⟩ := cP_ok h
      refine V_cs1 (q := 37) (As := [.int a1]) (rest := [.ref (ad (xY X) 44)]) (ct_X8_termAt (xY X) hc9) ce_X8_termAt st_yX8_termAt ml_RX8_58 rfl ⟨Nat.le_of_ble_eq_true rfl, Nat.le_of_ble_eq_true rfl⟩ rfl (Nat.le_of_ble_eq_true rfl) dX8_allow_34 rfl ?_
      refine V_iconst (q := 38) (v := 3) dX8_allow_37 rfl iconst_3 ?_
      refine V_iadd (q := 39) dX8_allow_38 rfl ?_
      refine V_iconst (q := 40) (v := (-1)) dX8_allow_39 rfl iconst_m1 ?_
      obtain ⟨hi12, s10, e11, h⟩ := wI_ok h
      refine V_iast (k := 44) (q := 41) dX8_allow_40 rfl rfl hi12 e11 ?_
      refine V_aload_n (q := 42) dX8_allow_41 rfl rfl ?_
      obtain ⟨x13, hc14, h⟩ := cP_ok h
      refine V_cv1 (k := 43) (q := 45) (As := []) (rest := []) (ct_X8_forbidden (xY X) hc14) ce_X8_forbidden clz_7 rfl im_yX8_forbidden se_yX8_forbidden rfl ml_RX8_95 rfl ⟨Nat.le_of_ble_eq_true rfl, Nat.le_of_ble_eq_true rfl⟩ rfl (Nat.le_of_ble_eq_true rfl) dX8_allow_42 rfl ?_
      obtain ⟨x15, hc16, h⟩ := cP_ok h
      refine V_cs1 (q := 48) (As := [.int x13]) (rest := []) (ct_X8_ones (xY X) hc16) ce_X8_ones st_yX8_ones ml_RX8_98 rfl ⟨Nat.le_of_ble_eq_true rfl, Nat.le_of_ble_eq_true rfl⟩ rfl (Nat.le_of_ble_eq_true rfl) dX8_allow_45 rfl ?_
      cases h
      exact V_iret rfl dX8_allow_48
    · replace h := it h hb17
      refine V_ldc (q := 28) kc_RX8_77 dX8_allow_26 rfl ?_
      cases h
      exact V_iret rfl dX8_allow_28
  · replace h := it h hb18
    refine V_ldc (q := 10) kc_RX8_88 dX8_allow_8 rfl ?_
    cases h
    exact V_iret rfl dX8_allow_10
def M_X7_change : Mc := (RX7, cX7_change, 5, { frames := 2, cells := 0, slots := 0, locals := 40 }, (some .int))
theorem ce_X7_change : Cee M_X7_change yX7_change 3 := ⟨cd_yX7_change, ini_RX7, ⟨by decide +kernel, by decide +kernel, by decide +kernel⟩, rfl, rfl⟩
set_option maxRecDepth 20000 in
theorem ct_X7_change (Y : Yc) {σ : Sg} {a1 : Int32} {a2 : Int32} {a3 : Int32} {r : Int32} {σr : Sg} (h : f_X7_change σ a1 a2 a3 = some (r, σr)) : Ct M_X7_change yX7_change Y [.ref (ad Y 0), .int a1, .int a2, .int a3] σ (some (.int r)) σr := by
  refine Ct_intro [some (.ref (ad Y 0)), some (.int a1), some (.int a2), some (.int a3), none] (by decide +kernel) rfl (Nat.le_of_ble_eq_true rfl) rfl (fun X hY => ?_) ⟨rfl, rfl⟩
  subst hY
  unfold f_X7_change at h
  refine V_aload_n (q := 1) dX7_change_0 rfl rfl ?_
  refine V_getr (k := 0) (j := 1) (q := 4) clz_6 dX7_change_1 rfl rfl rfl (Nat.le_of_ble_eq_true rfl) fl_RX7_19 ?_
  refine V_iload_n (q := 5) dX7_change_4 rfl rfl ?_
  obtain ⟨x1, hc2, h⟩ := cP_ok h
  refine V_cv1 (k := 4) (q := 8) (As := [.int a1]) (rest := []) (ct_X1_isTerm (xY X) hc2) ce_X1_isTerm clz_0 rfl im_yX1_isTerm se_yX1_isTerm rfl ml_RX7_111 rfl ⟨Nat.le_of_ble_eq_true rfl, Nat.le_of_ble_eq_true rfl⟩ rfl (Nat.le_of_ble_eq_true rfl) dX7_change_5 rfl ?_
  refine V_if_ne (q := 14) (q2 := 11) dX7_change_8 rfl rfl (fun hb31 => ?_) (fun hb31 => ?_)
  · replace h := ie h hb31
    refine V_iload_n (q := 15) dX7_change_14 rfl rfl ?_
    obtain ⟨k3, ek3, h⟩ := jn_ok h
    have hk3 : ∀ (s4 : Sg), k3 s4 = some (r, σr) → V X M_X7_change (mq X (some (.int r)) σr) 53 [some (.ref (ad (xY X) 0)), some (.int a1), some (.int a2), some (.int a3), none] [] s4 := by
      clear h
      intro s4 h
      rw [ek3] at h
      refine V_iload_n (q := 54) dX7_change_53 rfl rfl ?_
      refine V_iconst (q := 55) (v := 1) dX7_change_54 rfl iconst_1 ?_
      refine V_icmp_ne (q := 93) (q2 := 58) dX7_change_55 rfl rfl (fun hb17 => ?_) (fun hb17 => ?_)
      · replace h := ie h hb17
        refine V_ldc (q := 95) kc_RX7_65 dX7_change_93 rfl ?_
        cases h
        exact V_iret rfl dX7_change_95
      · replace h := it h hb17
        refine V_iload_n (q := 59) dX7_change_58 rfl rfl ?_
        obtain ⟨x5, hc6, h⟩ := cP_ok h
        refine V_cs1 (q := 62) (As := [.int a3]) (rest := []) (ct_X7_isBent (xY X) hc6) ce_X7_isBent st_yX7_isBent ml_RX7_77 rfl ⟨Nat.le_of_ble_eq_true rfl, Nat.le_of_ble_eq_true rfl⟩ rfl (Nat.le_of_ble_eq_true rfl) dX7_change_59 rfl ?_
        refine V_if_eq (q := 93) (q2 := 65) dX7_change_62 rfl rfl (fun hb16 => ?_) (fun hb16 => ?_)
        · replace h := it h hb16
          refine V_ldc (q := 95) kc_RX7_65 dX7_change_93 rfl ?_
          cases h
          exact V_iret rfl dX7_change_95
        · replace h := ie h hb16
          refine V_aload_n (q := 66) dX7_change_65 rfl rfl ?_
          refine V_getr (k := 0) (j := 1) (q := 69) clz_6 dX7_change_66 rfl rfl rfl (Nat.le_of_ble_eq_true rfl) fl_RX7_19 ?_
          refine V_getr (k := 4) (j := 4) (q := 72) clz_0 dX7_change_69 rfl rfl rfl (Nat.le_of_ble_eq_true rfl) fl_RX7_153 ?_
          refine V_iload_n (q := 73) dX7_change_72 rfl rfl ?_
          obtain ⟨hi8, x7, ex9, h⟩ := rI_ok h
          refine V_iald (k := 8) (q := 74) dX7_change_73 rfl rfl hi8 ex9 ?_
          refine V_istore (q := 76) (L' := [some (.ref (ad (xY X) 0)), some (.int a1), some (.int a2), some (.int a3), some (.int x7)]) dX7_change_74 rfl (Nat.le_of_ble_eq_true rfl) rfl ?_
          refine V_aload_n (q := 77) dX7_change_76 rfl rfl ?_
          refine V_getr (k := 0) (j := 1) (q := 80) clz_6 dX7_change_77 rfl rfl rfl (Nat.le_of_ble_eq_true rfl) fl_RX7_19 ?_
          refine V_getr (k := 4) (j := 4) (q := 83) clz_0 dX7_change_80 rfl rfl rfl (Nat.le_of_ble_eq_true rfl) fl_RX7_153 ?_
          refine V_iload_n (q := 84) dX7_change_83 rfl rfl ?_
          refine V_iload_n (q := 85) dX7_change_84 rfl rfl ?_
          obtain ⟨hi12, s10, e11, h⟩ := wI_ok h
          refine V_iast (k := 8) (q := 86) dX7_change_85 rfl rfl hi12 e11 ?_
          refine V_aload_n (q := 87) dX7_change_86 rfl rfl ?_
          obtain ⟨x13, s15, hc14, h⟩ := cA_ok h
          refine V_cv0 (k := 0) (q := 90) (As := []) (rest := []) (ct_X7_termsChanged (xY X) hc14) ce_X7_termsChanged clz_6 rfl im_yX7_termsChanged se_yX7_termsChanged rfl ml_RX7_97 rfl ⟨Nat.le_of_ble_eq_true rfl, Nat.le_of_ble_eq_true rfl⟩ rfl (Nat.le_of_ble_eq_true rfl) dX7_change_87 rfl ?_
          refine V_iload (q := 92) dX7_change_90 rfl rfl ?_
          cases h
          exact V_iret rfl dX7_change_92
    refine V_if_ne (q := 53) (q2 := 18) dX7_change_15 rfl rfl (fun hb30 => ?_) (fun hb30 => ?_)
    · replace h := ie h hb30
      exact hk3 (σ) h
    · replace h := it h hb30
      refine V_iload_n (q := 19) dX7_change_18 rfl rfl ?_
      obtain ⟨x18, hc19, h⟩ := cP_ok h
      refine V_cs1 (q := 22) (As := [.int a3]) (rest := []) (ct_X7_isWeight (xY X) hc19) ce_X7_isWeight st_yX7_isWeight ml_RX7_74 rfl ⟨Nat.le_of_ble_eq_true rfl, Nat.le_of_ble_eq_true rfl⟩ rfl (Nat.le_of_ble_eq_true rfl) dX7_change_19 rfl ?_
      refine V_if_eq (q := 53) (q2 := 25) dX7_change_22 rfl rfl (fun hb29 => ?_) (fun hb29 => ?_)
      · replace h := it h hb29
        exact hk3 (σ) h
      · replace h := ie h hb29
        refine V_aload_n (q := 26) dX7_change_25 rfl rfl ?_
        refine V_getr (k := 0) (j := 1) (q := 29) clz_6 dX7_change_26 rfl rfl rfl (Nat.le_of_ble_eq_true rfl) fl_RX7_19 ?_
        refine V_getr (k := 4) (j := 3) (q := 32) clz_0 dX7_change_29 rfl rfl rfl (Nat.le_of_ble_eq_true rfl) fl_RX7_150 ?_
        refine V_iload_n (q := 33) dX7_change_32 rfl rfl ?_
        obtain ⟨hi21, x20, ex22, h⟩ := rI_ok h
        refine V_iald (k := 7) (q := 34) dX7_change_33 rfl rfl hi21 ex22 ?_
        refine V_istore (q := 36) (L' := [some (.ref (ad (xY X) 0)), some (.int a1), some (.int a2), some (.int a3), some (.int x20)]) dX7_change_34 rfl (Nat.le_of_ble_eq_true rfl) rfl ?_
        refine V_aload_n (q := 37) dX7_change_36 rfl rfl ?_
        refine V_getr (k := 0) (j := 1) (q := 40) clz_6 dX7_change_37 rfl rfl rfl (Nat.le_of_ble_eq_true rfl) fl_RX7_19 ?_
        refine V_getr (k := 4) (j := 3) (q := 43) clz_0 dX7_change_40 rfl rfl rfl (Nat.le_of_ble_eq_true rfl) fl_RX7_150 ?_
        refine V_iload_n (q := 44) dX7_change_43 rfl rfl ?_
        refine V_iload_n (q := 45) dX7_change_44 rfl rfl ?_
        obtain ⟨hi25, s23, e24, h⟩ := wI_ok h
        refine V_iast (k := 7) (q := 46) dX7_change_45 rfl rfl hi25 e24 ?_
        refine V_aload_n (q := 47) dX7_change_46 rfl rfl ?_
        obtain ⟨x26, s28, hc27, h⟩ := cA_ok h
        refine V_cv0 (k := 0) (q := 50) (As := []) (rest := []) (ct_X7_termsChanged (xY X) hc27) ce_X7_termsChanged clz_6 rfl im_yX7_termsChanged se_yX7_termsChanged rfl ml_RX7_97 rfl ⟨Nat.le_of_ble_eq_true rfl, Nat.le_of_ble_eq_true rfl⟩ rfl (Nat.le_of_ble_eq_true rfl) dX7_change_47 rfl ?_
        refine V_iload (q := 52) dX7_change_50 rfl rfl ?_
        cases h
        exact V_iret rfl dX7_change_52
  · replace h := it h hb31
    refine V_ldc (q := 13) kc_RX7_114 dX7_change_11 rfl ?_
    cases h
    exact V_iret rfl dX7_change_13
def M_X8_change : Mc := (RX8, cX8_change, 7, { frames := 2, cells := 0, slots := 0, locals := 43 }, (some .int))
theorem ce_X8_change : Cee M_X8_change yX8_change 3 := ⟨cd_yX8_change, ini_RX8, ⟨by decide +kernel, by decide +kernel, by decide +kernel⟩, rfl, rfl⟩
set_option maxRecDepth 20000 in
theorem ct_X8_change (Y : Yc) {σ : Sg} {a1 : Int32} {a2 : Int32} {a3 : Int32} {r : Int32} {σr : Sg} (h : f_X8_change σ a1 a2 a3 = some (r, σr)) : Ct M_X8_change yX8_change Y [.ref (ad Y 43), .int a1, .int a2, .int a3] σ (some (.int r)) σr := by
  refine Ct_intro [some (.ref (ad Y 43)), some (.int a1), some (.int a2), some (.int a3), none, none, none] (by decide +kernel) rfl (Nat.le_of_ble_eq_true rfl) rfl (fun X hY => ?_) ⟨rfl, rfl⟩
  subst hY
  unfold f_X8_change at h
  refine V_aload_n (q := 1) dX8_change_0 rfl rfl ?_
  refine V_iload_n (q := 2) dX8_change_1 rfl rfl ?_
  obtain ⟨x1, hc2, h⟩ := cP_ok h
  refine V_cv1 (k := 43) (q := 5) (As := [.int a1]) (rest := []) (ct_X8_isTerm (xY X) hc2) ce_X8_isTerm clz_7 rfl im_yX8_isTerm se_yX8_isTerm rfl ml_RX8_85 rfl ⟨Nat.le_of_ble_eq_true rfl, Nat.le_of_ble_eq_true rfl⟩ rfl (Nat.le_of_ble_eq_true rfl) dX8_change_2 rfl ?_
  refine V_if_ne (q := 11) (q2 := 8) dX8_change_5 rfl rfl (fun hb29 => ?_) (fun hb29 => ?_)
  · replace h := ie h hb29
    refine V_iload_n (q := 12) dX8_change_11 rfl rfl ?_
    obtain ⟨k3, ek3, h⟩ := jn_ok h
    have hk3 : ∀ (v4 : Int32), k3 v4 = some (r, σr) → V X M_X8_change (mq X (some (.int r)) σr) 44 [some (.ref (ad (xY X) 43)), some (.int a1), some (.int a2), some (.int a3), none, none, none] [.int v4] σ := by
      clear h
      intro v4 h
      rw [ek3] at h
      refine V_istore (q := 46) (L' := [some (.ref (ad (xY X) 43)), some (.int a1), some (.int a2), some (.int a3), some (.int v4), none, none]) dX8_change_44 rfl (Nat.le_of_ble_eq_true rfl) rfl ?_
      refine V_iload (q := 48) dX8_change_46 rfl rfl ?_
      refine V_if_ne (q := 54) (q2 := 51) dX8_change_48 rfl rfl (fun hb16 => ?_) (fun hb16 => ?_)
      · replace h := ie h hb16
        refine V_iload_n (q := 55) dX8_change_54 rfl rfl ?_
        obtain ⟨x5, hc6, h⟩ := cP_ok h
        refine V_cs1 (q := 58) (As := [.int a1]) (rest := []) (ct_X8_termAt (xY X) hc6) ce_X8_termAt st_yX8_termAt ml_RX8_58 rfl ⟨Nat.le_of_ble_eq_true rfl, Nat.le_of_ble_eq_true rfl⟩ rfl (Nat.le_of_ble_eq_true rfl) dX8_change_55 rfl ?_
        refine V_iload_n (q := 59) dX8_change_58 rfl rfl ?_
        obtain ⟨k7, ek7, h⟩ := jn_ok h
        have hk7 : ∀ (v8 : Int32), k7 v8 = some (r, σr) → V X M_X8_change (mq X (some (.int r)) σr) 67 [some (.ref (ad (xY X) 43)), none, none, some (.int a3), none, none, none] [.int v8, .int x5] σ := by
          clear h
          intro v8 h
          rw [ek7] at h
          refine V_iadd (q := 68) dX8_change_67 rfl ?_
          refine V_istore (q := 70) (L' := [some (.ref (ad (xY X) 43)), none, none, some (.int a3), none, some (.int (x5 + v8)), none]) dX8_change_68 rfl (Nat.le_of_ble_eq_true rfl) rfl ?_
          refine V_aload_n (q := 71) dX8_change_70 rfl rfl ?_
          refine V_getr (k := 43) (j := 0) (q := 74) clz_7 dX8_change_71 rfl rfl rfl (Nat.le_of_ble_eq_true rfl) fl_RX8_7 ?_
          refine V_iload (q := 76) dX8_change_74 rfl rfl ?_
          obtain ⟨hi10, x9, ex11, h⟩ := rI_ok h
          refine V_iald (k := 44) (q := 77) dX8_change_76 rfl rfl hi10 ex11 ?_
          refine V_istore (q := 79) (L' := [some (.ref (ad (xY X) 43)), none, none, some (.int a3), none, some (.int (x5 + v8)), some (.int x9)]) dX8_change_77 rfl (Nat.le_of_ble_eq_true rfl) rfl ?_
          refine V_aload_n (q := 80) dX8_change_79 rfl rfl ?_
          refine V_getr (k := 43) (j := 0) (q := 83) clz_7 dX8_change_80 rfl rfl rfl (Nat.le_of_ble_eq_true rfl) fl_RX8_7 ?_
          refine V_iload (q := 85) dX8_change_83 rfl rfl ?_
          refine V_iload_n (q := 86) dX8_change_85 rfl rfl ?_
          obtain ⟨hi14, s12, e13, h⟩ := wI_ok h
          refine V_iast (k := 44) (q := 87) dX8_change_86 rfl rfl hi14 e13 ?_
          refine V_iload (q := 89) dX8_change_87 rfl rfl ?_
          cases h
          exact V_iret rfl dX8_change_89
        refine V_if_ne (q := 66) (q2 := 62) dX8_change_59 rfl rfl (fun hb15 => ?_) (fun hb15 => ?_)
        · replace h := ie h hb15
          refine V_iconst (q := 67) (v := 2) dX8_change_66 rfl iconst_2 ?_
          refine V_msk (L' := [some (.ref (ad (xY X) 43)), none, none, some (.int a3), none, none, none]) [true, false, false, true, false, true, true] rfl ?_
          exact hk7 (2) h
        · replace h := it h hb15
          refine V_iconst (q := 63) (v := 1) dX8_change_62 rfl iconst_1 ?_
          refine V_goto (q := 67) dX8_change_63 rfl ?_
          refine V_msk (L' := [some (.ref (ad (xY X) 43)), none, none, some (.int a3), none, none, none]) [true, false, false, true, false, true, true] rfl ?_
          exact hk7 (1) h
      · replace h := it h hb16
        refine V_ldc (q := 53) kc_RX8_52 dX8_change_51 rfl ?_
        cases h
        exact V_iret rfl dX8_change_53
    refine V_if_ne (q := 25) (q2 := 15) dX8_change_12 rfl rfl (fun hb28 => ?_) (fun hb28 => ?_)
    · replace h := ie h hb28
      refine V_iload_n (q := 26) dX8_change_25 rfl rfl ?_
      refine V_iconst (q := 27) (v := 1) dX8_change_26 rfl iconst_1 ?_
      refine V_icmp_ne (q := 43) (q2 := 30) dX8_change_27 rfl rfl (fun hb20 => ?_) (fun hb20 => ?_)
      · replace h := ie h hb20
        refine V_iconst (q := 44) (v := 0) dX8_change_43 rfl iconst_0 ?_
        exact hk3 (0) h
      · replace h := it h hb20
        refine V_iload_n (q := 31) dX8_change_30 rfl rfl ?_
        refine V_iconst (q := 32) (v := 0) dX8_change_31 rfl iconst_0 ?_
        refine V_iconst (q := 33) (v := 1) dX8_change_32 rfl iconst_1 ?_
        obtain ⟨x17, hc18, h⟩ := cP_ok h
        refine V_cs1 (q := 36) (As := [.int a3, .int 0, .int 1]) (rest := []) (ct_X8_in (xY X) hc18) ce_X8_in st_yX8_in ml_RX8_44 rfl ⟨Nat.le_of_ble_eq_true rfl, Nat.le_of_ble_eq_true rfl⟩ rfl (Nat.le_of_ble_eq_true rfl) dX8_change_33 rfl ?_
        refine V_if_eq (q := 43) (q2 := 39) dX8_change_36 rfl rfl (fun hb19 => ?_) (fun hb19 => ?_)
        · replace h := it h hb19
          refine V_iconst (q := 44) (v := 0) dX8_change_43 rfl iconst_0 ?_
          exact hk3 (0) h
        · replace h := ie h hb19
          refine V_iconst (q := 40) (v := 1) dX8_change_39 rfl iconst_1 ?_
          refine V_goto (q := 44) dX8_change_40 rfl ?_
          exact hk3 (1) h
    · replace h := it h hb28
      refine V_iload_n (q := 16) dX8_change_15 rfl rfl ?_
      refine V_iconst (q := 17) (v := 1) dX8_change_16 rfl iconst_1 ?_
      refine V_bipush (q := 19) (v := 9) dX8_change_17 rfl bipush_9 ?_
      obtain ⟨x21, hc22, h⟩ := cP_ok h
      refine V_cs1 (q := 22) (As := [.int a3, .int 1, .int 9]) (rest := []) (ct_X8_in (xY X) hc22) ce_X8_in st_yX8_in ml_RX8_44 rfl ⟨Nat.le_of_ble_eq_true rfl, Nat.le_of_ble_eq_true rfl⟩ rfl (Nat.le_of_ble_eq_true rfl) dX8_change_19 rfl ?_
      refine V_if_ne (q := 39) (q2 := 25) dX8_change_22 rfl rfl (fun hb27 => ?_) (fun hb27 => ?_)
      · replace h := ie h hb27
        refine V_iconst (q := 40) (v := 1) dX8_change_39 rfl iconst_1 ?_
        refine V_goto (q := 44) dX8_change_40 rfl ?_
        exact hk3 (1) h
      · replace h := it h hb27
        refine V_iload_n (q := 26) dX8_change_25 rfl rfl ?_
        refine V_iconst (q := 27) (v := 1) dX8_change_26 rfl iconst_1 ?_
        refine V_icmp_ne (q := 43) (q2 := 30) dX8_change_27 rfl rfl (fun hb26 => ?_) (fun hb26 => ?_)
        · replace h := ie h hb26
          refine V_iconst (q := 44) (v := 0) dX8_change_43 rfl iconst_0 ?_
          exact hk3 (0) h
        · replace h := it h hb26
          refine V_iload_n (q := 31) dX8_change_30 rfl rfl ?_
          refine V_iconst (q := 32) (v := 0) dX8_change_31 rfl iconst_0 ?_
          refine V_iconst (q := 33) (v := 1) dX8_change_32 rfl iconst_1 ?_
          obtain ⟨x23, hc24, h⟩ := cP_ok h
          refine V_cs1 (q := 36) (As := [.int a3, .int 0, .int 1]) (rest := []) (ct_X8_in (xY X) hc24) ce_X8_in st_yX8_in ml_RX8_44 rfl ⟨Nat.le_of_ble_eq_true rfl, Nat.le_of_ble_eq_true rfl⟩ rfl (Nat.le_of_ble_eq_true rfl) dX8_change_33 rfl ?_
          refine V_if_eq (q := 43) (q2 := 39) dX8_change_36 rfl rfl (fun hb25 => ?_) (fun hb25 => ?_)
          · replace h := it h hb25
            refine V_iconst (q := 44) (v := 0) dX8_change_43 rfl iconst_0 ?_
            exact hk3 (0) h
          · replace h := ie h hb25
            refine V_iconst (q := 40) (v := 1) dX8_change_39 rfl iconst_1 ?_
            refine V_goto (q := 44) dX8_change_40 rfl ?_
            exact hk3 (1) h
  · replace h := it h hb29
    refine V_ldc (q := 10) kc_RX8_88 dX8_change_8 rfl ?_
    cases h
    exact V_iret rfl dX8_change_10
