def M_X4_isLonger : Mc := (RX4, cX4_isLonger, 3, { frames := 0, cells := 0, slots := 0, locals := 0 }, (some .boolean))
theorem ce_X4_isLonger : Cee M_X4_isLonger yX4_isLonger 2 := ⟨cd_yX4_isLonger, ini_RX4, ⟨by decide +kernel, by decide +kernel, by decide +kernel⟩, rfl, rfl⟩
set_option maxRecDepth 20000 in
theorem ct_X4_isLonger (Y : Yc) {σ : Sg} {a1 : Int32} {a2 : Int32} {r : Int32} (h : f_X4_isLonger σ a1 a2 = some r) : Ct M_X4_isLonger yX4_isLonger Y [.ref (ad Y 30), .int a1, .int a2] σ (some (.int r)) σ := by
  refine Ct_intro [some (.ref (ad Y 30)), some (.int a1), some (.int a2)] (by decide +kernel) rfl (Nat.le_of_ble_eq_true rfl) rfl (fun X hY => ?_) ⟨rfl, rfl⟩
  subst hY
  unfold f_X4_isLonger at h
  refine V_aload_n (q := 1) dX4_isLonger_0 rfl rfl ?_
  refine V_getr (k := 30) (j := 0) (q := 4) clz_3 dX4_isLonger_1 rfl rfl rfl (Nat.le_of_ble_eq_true rfl) fl_RX4_9 ?_
  refine V_getr (k := 4) (j := 2) (q := 7) clz_0 dX4_isLonger_4 rfl rfl rfl (Nat.le_of_ble_eq_true rfl) fl_RX4_85 ?_
  refine V_iload_n (q := 8) dX4_isLonger_7 rfl rfl ?_
  obtain ⟨hi2, x1, ex3, h⟩ := rI_ok h
  refine V_iald (k := 6) (q := 9) dX4_isLonger_8 rfl rfl hi2 ex3 ?_
  refine V_aload_n (q := 10) dX4_isLonger_9 rfl rfl ?_
  refine V_getr (k := 30) (j := 0) (q := 13) clz_3 dX4_isLonger_10 rfl rfl rfl (Nat.le_of_ble_eq_true rfl) fl_RX4_9 ?_
  refine V_getr (k := 4) (j := 2) (q := 16) clz_0 dX4_isLonger_13 rfl rfl rfl (Nat.le_of_ble_eq_true rfl) fl_RX4_85 ?_
  refine V_iload_n (q := 17) dX4_isLonger_16 rfl rfl ?_
  obtain ⟨hi5, x4, ex6, h⟩ := rI_ok h
  refine V_iald (k := 6) (q := 18) dX4_isLonger_17 rfl rfl hi5 ex6 ?_
  refine V_icmp_eq (q := 48) (q2 := 21) dX4_isLonger_18 rfl rfl (fun hb21 => ?_) (fun hb21 => ?_)
  · replace h := it h hb21
    refine V_aload_n (q := 49) dX4_isLonger_48 rfl rfl ?_
    refine V_getr (k := 30) (j := 0) (q := 52) clz_3 dX4_isLonger_49 rfl rfl rfl (Nat.le_of_ble_eq_true rfl) fl_RX4_9 ?_
    refine V_getr (k := 4) (j := 3) (q := 55) clz_0 dX4_isLonger_52 rfl rfl rfl (Nat.le_of_ble_eq_true rfl) fl_RX4_164 ?_
    refine V_iload_n (q := 56) dX4_isLonger_55 rfl rfl ?_
    obtain ⟨hi8, x7, ex9, h⟩ := rI_ok h
    refine V_iald (k := 7) (q := 57) dX4_isLonger_56 rfl rfl hi8 ex9 ?_
    refine V_aload_n (q := 58) dX4_isLonger_57 rfl rfl ?_
    refine V_getr (k := 30) (j := 0) (q := 61) clz_3 dX4_isLonger_58 rfl rfl rfl (Nat.le_of_ble_eq_true rfl) fl_RX4_9 ?_
    refine V_getr (k := 4) (j := 3) (q := 64) clz_0 dX4_isLonger_61 rfl rfl rfl (Nat.le_of_ble_eq_true rfl) fl_RX4_164 ?_
    refine V_iload_n (q := 65) dX4_isLonger_64 rfl rfl ?_
    obtain ⟨hi11, x10, ex12, h⟩ := rI_ok h
    refine V_iald (k := 7) (q := 66) dX4_isLonger_65 rfl rfl hi11 ex12 ?_
    refine V_icmp_le (q := 73) (q2 := 69) dX4_isLonger_66 rfl rfl (fun hb13 => ?_) (fun hb13 => ?_)
    · replace h := it h hb13
      refine V_iconst (q := 74) (v := 0) dX4_isLonger_73 rfl iconst_0 ?_
      cases h
      exact V_zret rfl rfl dX4_isLonger_74
    · replace h := ie h hb13
      refine V_iconst (q := 70) (v := 1) dX4_isLonger_69 rfl iconst_1 ?_
      refine V_goto (q := 74) dX4_isLonger_70 rfl ?_
      cases h
      exact V_zret rfl rfl dX4_isLonger_74
  · replace h := ie h hb21
    refine V_aload_n (q := 22) dX4_isLonger_21 rfl rfl ?_
    refine V_getr (k := 30) (j := 0) (q := 25) clz_3 dX4_isLonger_22 rfl rfl rfl (Nat.le_of_ble_eq_true rfl) fl_RX4_9 ?_
    refine V_getr (k := 4) (j := 2) (q := 28) clz_0 dX4_isLonger_25 rfl rfl rfl (Nat.le_of_ble_eq_true rfl) fl_RX4_85 ?_
    refine V_iload_n (q := 29) dX4_isLonger_28 rfl rfl ?_
    obtain ⟨hi15, x14, ex16, h⟩ := rI_ok h
    refine V_iald (k := 6) (q := 30) dX4_isLonger_29 rfl rfl hi15 ex16 ?_
    refine V_aload_n (q := 31) dX4_isLonger_30 rfl rfl ?_
    refine V_getr (k := 30) (j := 0) (q := 34) clz_3 dX4_isLonger_31 rfl rfl rfl (Nat.le_of_ble_eq_true rfl) fl_RX4_9 ?_
    refine V_getr (k := 4) (j := 2) (q := 37) clz_0 dX4_isLonger_34 rfl rfl rfl (Nat.le_of_ble_eq_true rfl) fl_RX4_85 ?_
    refine V_iload_n (q := 38) dX4_isLonger_37 rfl rfl ?_
    obtain ⟨hi18, x17, ex19, h⟩ := rI_ok h
    refine V_iald (k := 6) (q := 39) dX4_isLonger_38 rfl rfl hi18 ex19 ?_
    refine V_icmp_le (q := 46) (q2 := 42) dX4_isLonger_39 rfl rfl (fun hb20 => ?_) (fun hb20 => ?_)
    · replace h := it h hb20
      refine V_iconst (q := 47) (v := 0) dX4_isLonger_46 rfl iconst_0 ?_
      cases h
      exact V_zret rfl rfl dX4_isLonger_47
    · replace h := ie h hb20
      refine V_iconst (q := 43) (v := 1) dX4_isLonger_42 rfl iconst_1 ?_
      refine V_goto (q := 47) dX4_isLonger_43 rfl ?_
      cases h
      exact V_zret rfl rfl dX4_isLonger_47
def M_X4_longestAt : Mc := (RX4, cX4_longestAt, 4, { frames := 1, cells := 0, slots := 0, locals := 22 }, (some .int))
theorem ce_X4_longestAt : Cee M_X4_longestAt yX4_longestAt 1 := ⟨cd_yX4_longestAt, ini_RX4, ⟨by decide +kernel, by decide +kernel, by decide +kernel⟩, rfl, rfl⟩
set_option maxRecDepth 20000 in
theorem w_X4_longestAt_L4 {X : Xc} {σ : Sg} {c1 : Int32} {r : Int32} {k : Int32 → Option Int32}
    (hk : ∀ (i2 : Int32), k i2 = some r → V X M_X4_longestAt (mq X (some (.int r)) σ) 46 [none, none, some (.int i2), none] [] σ) :
    ∀ (n : Nat) (i2 : Int32) (i3 : Int32), f_X4_longestAt_L4 k σ c1 n i2 i3 = some r → V X M_X4_longestAt (mq X (some (.int r)) σ) 4 [some (.ref (ad (xY X) 30)), some (.int c1), some (.int i2), some (.int i3)] [] σ := by
  intro n
  induction n with
  | zero => intro i2 i3 h; cases h
  | succ n ih =>
    intro i2 i3 h
    rw [f_X4_longestAt_L4] at h
    refine V_iload_n (q := 5) dX4_longestAt_4 rfl rfl ?_
    refine V_aload_n (q := 6) dX4_longestAt_5 rfl rfl ?_
    refine V_getr (k := 30) (j := 0) (q := 9) clz_3 dX4_longestAt_6 rfl rfl rfl (Nat.le_of_ble_eq_true rfl) fl_RX4_9 ?_
    refine V_geti (k := 4) (j := 0) (q := 12) clz_0 dX4_longestAt_9 rfl rfl rfl (Nat.le_of_ble_eq_true rfl) fl_RX4_82 ?_
    refine V_icmp_ge (q := 46) (q2 := 15) dX4_longestAt_12 rfl rfl (fun hb10 => ?_) (fun hb10 => ?_)
    · replace h := it h hb10
      refine V_msk (L' := [none, none, some (.int i2), none]) [false, false, true, false] rfl ?_
      exact hk (i2) h
    · replace h := ie h hb10
      refine V_aload_n (q := 16) dX4_longestAt_15 rfl rfl ?_
      refine V_iload_n (q := 17) dX4_longestAt_16 rfl rfl ?_
      refine V_iload_n (q := 18) dX4_longestAt_17 rfl rfl ?_
      obtain ⟨x1, hc2, h⟩ := cP_ok h
      refine V_cv1 (k := 30) (q := 21) (As := [.int c1, .int i3]) (rest := []) (ct_X4_isFound (xY X) hc2) ce_X4_isFound clz_3 rfl im_yX4_isFound se_yX4_isFound rfl ml_RX4_136 rfl ⟨Nat.le_of_ble_eq_true rfl, Nat.le_of_ble_eq_true rfl⟩ rfl (Nat.le_of_ble_eq_true rfl) dX4_longestAt_18 rfl ?_
      refine V_if_eq (q := 40) (q2 := 24) dX4_longestAt_21 rfl rfl (fun hb9 => ?_) (fun hb9 => ?_)
      · replace h := it h hb9
        refine V_iinc (q := 43) (v := 1) (L' := [some (.ref (ad (xY X) 30)), some (.int c1), some (.int i2), some (.int (i3 + 1))]) dX4_longestAt_40 rfl rfl iconst_1 (Nat.le_of_ble_eq_true rfl) rfl ?_
        refine V_goto (q := 4) dX4_longestAt_43 rfl ?_
        exact ih (i2) ((i3 + 1)) h
      · replace h := ie h hb9
        refine V_iload_n (q := 25) dX4_longestAt_24 rfl rfl ?_
        refine V_iconst (q := 26) (v := (-1)) dX4_longestAt_25 rfl iconst_m1 ?_
        obtain ⟨k3, ek3, h⟩ := jn_ok h
        have hk3 : ∀ (v4 : Int32), k3 v4 = some r → V X M_X4_longestAt (mq X (some (.int r)) σ) 38 [some (.ref (ad (xY X) 30)), some (.int c1), none, some (.int v4)] [] σ := by
          clear h
          intro v4 h
          rw [ek3] at h
          refine V_iload_n (q := 39) dX4_longestAt_38 rfl rfl ?_
          refine V_istore_n (q := 40) (L' := [some (.ref (ad (xY X) 30)), some (.int c1), some (.int v4), some (.int v4)]) dX4_longestAt_39 rfl (Nat.le_of_ble_eq_true rfl) rfl ?_
          refine V_iinc (q := 43) (v := 1) (L' := [some (.ref (ad (xY X) 30)), some (.int c1), some (.int v4), some (.int (v4 + 1))]) dX4_longestAt_40 rfl rfl iconst_1 (Nat.le_of_ble_eq_true rfl) rfl ?_
          refine V_goto (q := 4) dX4_longestAt_43 rfl ?_
          exact ih (v4) ((v4 + 1)) h
        refine V_icmp_eq (q := 38) (q2 := 29) dX4_longestAt_26 rfl rfl (fun hb8 => ?_) (fun hb8 => ?_)
        · replace h := it h hb8
          refine V_msk (L' := [some (.ref (ad (xY X) 30)), some (.int c1), none, some (.int i3)]) [true, true, false, true] rfl ?_
          exact hk3 (i3) h
        · replace h := ie h hb8
          refine V_aload_n (q := 30) dX4_longestAt_29 rfl rfl ?_
          refine V_iload_n (q := 31) dX4_longestAt_30 rfl rfl ?_
          refine V_iload_n (q := 32) dX4_longestAt_31 rfl rfl ?_
          obtain ⟨x5, hc6, h⟩ := cP_ok h
          refine V_cv1 (k := 30) (q := 35) (As := [.int i3, .int i2]) (rest := []) (ct_X4_isLonger (xY X) hc6) ce_X4_isLonger clz_3 rfl im_yX4_isLonger se_yX4_isLonger rfl ml_RX4_161 rfl ⟨Nat.le_of_ble_eq_true rfl, Nat.le_of_ble_eq_true rfl⟩ rfl (Nat.le_of_ble_eq_true rfl) dX4_longestAt_32 rfl ?_
          refine V_if_eq (q := 40) (q2 := 38) dX4_longestAt_35 rfl rfl (fun hb7 => ?_) (fun hb7 => ?_)
          · replace h := it h hb7
            refine V_iinc (q := 43) (v := 1) (L' := [some (.ref (ad (xY X) 30)), some (.int c1), some (.int i2), some (.int (i3 + 1))]) dX4_longestAt_40 rfl rfl iconst_1 (Nat.le_of_ble_eq_true rfl) rfl ?_
            refine V_goto (q := 4) dX4_longestAt_43 rfl ?_
            exact ih (i2) ((i3 + 1)) h
          · replace h := ie h hb7
            refine V_msk (L' := [some (.ref (ad (xY X) 30)), some (.int c1), none, some (.int i3)]) [true, true, false, true] rfl ?_
            exact hk3 (i3) h
set_option maxRecDepth 20000 in
theorem ct_X4_longestAt (Y : Yc) {σ : Sg} {a1 : Int32} {r : Int32} (h : f_X4_longestAt σ a1 = some r) : Ct M_X4_longestAt yX4_longestAt Y [.ref (ad Y 30), .int a1] σ (some (.int r)) σ := by
  refine Ct_intro [some (.ref (ad Y 30)), some (.int a1), none, none] (by decide +kernel) rfl (Nat.le_of_ble_eq_true rfl) rfl (fun X hY => ?_) ⟨rfl, rfl⟩
  subst hY
  unfold f_X4_longestAt at h
  refine V_iconst (q := 1) (v := (-1)) dX4_longestAt_0 rfl iconst_m1 ?_
  refine V_istore_n (q := 2) (L' := [some (.ref (ad (xY X) 30)), some (.int a1), some (.int (-1)), none]) dX4_longestAt_1 rfl (Nat.le_of_ble_eq_true rfl) rfl ?_
  refine V_iconst (q := 3) (v := 0) dX4_longestAt_2 rfl iconst_0 ?_
  refine V_istore_n (q := 4) (L' := [some (.ref (ad (xY X) 30)), some (.int a1), some (.int (-1)), some (.int 0)]) dX4_longestAt_3 rfl (Nat.le_of_ble_eq_true rfl) rfl ?_
  refine w_X4_longestAt_L4 (fun v11 h => ?_) fu ((-1)) (0) h
  refine V_iload_n (q := 47) dX4_longestAt_46 rfl rfl ?_
  cases h
  exact V_iret rfl dX4_longestAt_47
def M_X7_longest : Mc := (RX7, cX7_longest, 2, { frames := 6, cells := 0, slots := 0, locals := 143 }, (some .int))
theorem ce_X7_longest : Cee M_X7_longest yX7_longest 1 := ⟨cd_yX7_longest, ini_RX7, ⟨by decide +kernel, by decide +kernel, by decide +kernel⟩, rfl, rfl⟩
set_option maxRecDepth 20000 in
theorem ct_X7_longest (Y : Yc) {σ : Sg} {a1 : Int32} {r : Int32} {σr : Sg} (h : f_X7_longest σ a1 = some (r, σr)) : Ct M_X7_longest yX7_longest Y [.ref (ad Y 0), .int a1] σ (some (.int r)) σr := by
  refine Ct_intro [some (.ref (ad Y 0)), some (.int a1)] (by decide +kernel) rfl (Nat.le_of_ble_eq_true rfl) rfl (fun X hY => ?_) ⟨rfl, rfl⟩
  subst hY
  unfold f_X7_longest at h
  refine V_aload_n (q := 1) dX7_longest_0 rfl rfl ?_
  refine V_getr (k := 0) (j := 3) (q := 4) clz_6 dX7_longest_1 rfl rfl rfl (Nat.le_of_ble_eq_true rfl) fl_RX7_30 ?_
  refine V_iload_n (q := 5) dX7_longest_4 rfl rfl ?_
  obtain ⟨x1, hc2, h⟩ := cP_ok h
  refine V_cv1 (k := 26) (q := 8) (As := [.int a1]) (rest := []) (ct_X6_isWord (xY X) hc2) ce_X6_isWord clz_5 rfl im_yX6_isWord se_yX6_isWord rfl ml_RX7_206 rfl ⟨Nat.le_of_ble_eq_true rfl, Nat.le_of_ble_eq_true rfl⟩ rfl (Nat.le_of_ble_eq_true rfl) dX7_longest_5 rfl ?_
  refine V_if_ne (q := 14) (q2 := 11) dX7_longest_8 rfl rfl (fun hb8 => ?_) (fun hb8 => ?_)
  · replace h := ie h hb8
    refine V_aload_n (q := 15) dX7_longest_14 rfl rfl ?_
    obtain ⟨x3, s5, hc4, h⟩ := cA_ok h
    refine V_cv1 (k := 0) (q := 18) (As := []) (rest := []) (ct_X7_settled (xY X) hc4) ce_X7_settled clz_6 rfl im_yX7_settled se_yX7_settled rfl ml_RX7_159 rfl ⟨Nat.le_of_ble_eq_true rfl, Nat.le_of_ble_eq_true rfl⟩ rfl (Nat.le_of_ble_eq_true rfl) dX7_longest_15 rfl ?_
    refine V_iload_n (q := 19) dX7_longest_18 rfl rfl ?_
    obtain ⟨x6, hc7, h⟩ := cP_ok h
    refine V_cv1 (k := 30) (q := 22) (As := [.int a1]) (rest := []) (ct_X4_longestAt (xY X) hc7) ce_X4_longestAt clz_3 rfl im_yX4_longestAt se_yX4_longestAt rfl ml_RX7_272 rfl ⟨Nat.le_of_ble_eq_true rfl, Nat.le_of_ble_eq_true rfl⟩ rfl (Nat.le_of_ble_eq_true rfl) dX7_longest_19 rfl ?_
    cases h
    exact V_iret rfl dX7_longest_22
  · replace h := it h hb8
    refine V_ldc (q := 13) kc_RX7_114 dX7_longest_11 rfl ?_
    cases h
    exact V_iret rfl dX7_longest_13
def M_X8_longest : Mc := (RX8, cX8_longest, 7, { frames := 4, cells := 0, slots := 0, locals := 98 }, (some .int))
theorem ce_X8_longest : Cee M_X8_longest yX8_longest 1 := ⟨cd_yX8_longest, ini_RX8, ⟨by decide +kernel, by decide +kernel, by decide +kernel⟩, rfl, rfl⟩
set_option maxRecDepth 20000 in
theorem w_X8_longest_L18 {X : Xc} {σ : Sg} {c1 : Int32} {r : Int32} {k : Int32 → Option Int32}
    (hk : ∀ (i2 : Int32), k i2 = some r → V X M_X8_longest (mq X (some (.int r)) σ) 112 [none, none, some (.int i2), none, none, none, none] [] σ) :
    ∀ (n : Nat) (i2 : Int32) (i3 : Int32) (i4 : Int32), f_X8_longest_L18 k σ c1 n i2 i3 i4 = some r → V X M_X8_longest (mq X (some (.int r)) σ) 18 [some (.ref (ad (xY X) 43)), some (.int c1), some (.int i2), some (.int i3), some (.int i4), none, none] [] σ := by
  intro n
  induction n with
  | zero => intro i2 i3 i4 h; cases h
  | succ n ih =>
    intro i2 i3 i4 h
    rw [f_X8_longest_L18] at h
    refine V_iload (q := 20) dX8_longest_18 rfl rfl ?_
    refine V_aload_n (q := 21) dX8_longest_20 rfl rfl ?_
    refine V_getr (k := 43) (j := 0) (q := 24) clz_7 dX8_longest_21 rfl rfl rfl (Nat.le_of_ble_eq_true rfl) fl_RX8_7 ?_
    refine V_iconst (q := 25) (v := 0) dX8_longest_24 rfl iconst_0 ?_
    obtain ⟨hi4, x3, ex5, h⟩ := rI_ok h
    refine V_iald (k := 44) (q := 26) dX8_longest_25 rfl rfl hi4 ex5 ?_
    refine V_icmp_ge (q := 112) (q2 := 29) dX8_longest_26 rfl rfl (fun hb26 => ?_) (fun hb26 => ?_)
    · replace h := it h hb26
      refine V_msk (L' := [none, none, some (.int i2), none, none, none, none]) [false, false, true, false, false, true, true] rfl ?_
      exact hk (i2) h
    · replace h := ie h hb26
      refine V_bipush (q := 31) (v := 10) dX8_longest_29 rfl bipush_10 ?_
      refine V_aload_n (q := 32) dX8_longest_31 rfl rfl ?_
      refine V_getr (k := 43) (j := 0) (q := 35) clz_7 dX8_longest_32 rfl rfl rfl (Nat.le_of_ble_eq_true rfl) fl_RX8_7 ?_
      refine V_iload (q := 37) dX8_longest_35 rfl rfl ?_
      obtain ⟨x6, hc7, h⟩ := cP_ok h
      refine V_cs1 (q := 40) (As := [.int i4]) (rest := [.ref (ad (xY X) 44), .int 10]) (ct_X8_termAt (xY X) hc7) ce_X8_termAt st_yX8_termAt ml_RX8_58 rfl ⟨Nat.le_of_ble_eq_true rfl, Nat.le_of_ble_eq_true rfl⟩ rfl (Nat.le_of_ble_eq_true rfl) dX8_longest_37 rfl ?_
      refine V_iconst (q := 41) (v := 0) dX8_longest_40 rfl iconst_0 ?_
      refine V_iadd (q := 42) dX8_longest_41 rfl ?_
      obtain ⟨hi9, x8, ex10, h⟩ := rI_ok h
      refine V_iald (k := 44) (q := 43) dX8_longest_42 rfl rfl hi9 ex10 ?_
      refine V_imul (q := 44) dX8_longest_43 rfl ?_
      refine V_aload_n (q := 45) dX8_longest_44 rfl rfl ?_
      refine V_getr (k := 43) (j := 0) (q := 48) clz_7 dX8_longest_45 rfl rfl rfl (Nat.le_of_ble_eq_true rfl) fl_RX8_7 ?_
      refine V_iload (q := 50) dX8_longest_48 rfl rfl ?_
      obtain ⟨x11, hc12, h⟩ := cP_ok h
      refine V_cs1 (q := 53) (As := [.int i4]) (rest := [.ref (ad (xY X) 44), .int (10 * x8)]) (ct_X8_termAt (xY X) hc12) ce_X8_termAt st_yX8_termAt ml_RX8_58 rfl ⟨Nat.le_of_ble_eq_true rfl, Nat.le_of_ble_eq_true rfl⟩ rfl (Nat.le_of_ble_eq_true rfl) dX8_longest_50 rfl ?_
      refine V_iconst (q := 54) (v := 1) dX8_longest_53 rfl iconst_1 ?_
      refine V_iadd (q := 55) dX8_longest_54 rfl ?_
      obtain ⟨hi14, x13, ex15, h⟩ := rI_ok h
      refine V_iald (k := 44) (q := 56) dX8_longest_55 rfl rfl hi14 ex15 ?_
      refine V_iadd (q := 57) dX8_longest_56 rfl ?_
      refine V_istore (q := 59) (L' := [some (.ref (ad (xY X) 43)), some (.int c1), some (.int i2), some (.int i3), some (.int i4), some (.int ((10 * x8) + x13)), none]) dX8_longest_57 rfl (Nat.le_of_ble_eq_true rfl) rfl ?_
      refine V_iload (q := 61) dX8_longest_59 rfl rfl ?_
      refine V_iload_n (q := 62) dX8_longest_61 rfl rfl ?_
      obtain ⟨k16, ek16, h⟩ := jn_ok h
      have hk16 : ∀ (v17 : Int32), k16 v17 = some r → V X M_X8_longest (mq X (some (.int r)) σ) 80 [some (.ref (ad (xY X) 43)), some (.int c1), some (.int i2), some (.int i3), some (.int i4), some (.int ((10 * x8) + x13)), none] [.int v17] σ := by
        clear h
        intro v17 h
        rw [ek16] at h
        refine V_istore (q := 82) (L' := [some (.ref (ad (xY X) 43)), some (.int c1), some (.int i2), some (.int i3), some (.int i4), some (.int ((10 * x8) + x13)), some (.int v17)]) dX8_longest_80 rfl (Nat.le_of_ble_eq_true rfl) rfl ?_
        refine V_iload (q := 84) dX8_longest_82 rfl rfl ?_
        obtain ⟨k18, ek18, h⟩ := jn_ok h
        have hk18 : ∀ (v19 : Int32), k18 v19 = some r → V X M_X8_longest (mq X (some (.int r)) σ) 93 [some (.ref (ad (xY X) 43)), some (.int c1), none, some (.int i3), some (.int i4), some (.int ((10 * x8) + x13)), some (.int v17)] [.int v19] σ := by
          clear h
          intro v19 h
          rw [ek18] at h
          refine V_istore_n (q := 94) (L' := [some (.ref (ad (xY X) 43)), some (.int c1), some (.int v19), some (.int i3), some (.int i4), some (.int ((10 * x8) + x13)), some (.int v17)]) dX8_longest_93 rfl (Nat.le_of_ble_eq_true rfl) rfl ?_
          refine V_iload (q := 96) dX8_longest_94 rfl rfl ?_
          refine V_if_eq (q := 104) (q2 := 99) dX8_longest_96 rfl rfl (fun hb20 => ?_) (fun hb20 => ?_)
          · replace h := it h hb20
            refine V_iload_n (q := 105) dX8_longest_104 rfl rfl ?_
            refine V_istore_n (q := 106) (L' := [some (.ref (ad (xY X) 43)), some (.int c1), some (.int v19), some (.int i3), some (.int i4), some (.int ((10 * x8) + x13)), some (.int v17)]) dX8_longest_105 rfl (Nat.le_of_ble_eq_true rfl) rfl ?_
            refine V_iinc (q := 109) (v := 1) (L' := [some (.ref (ad (xY X) 43)), some (.int c1), some (.int v19), some (.int i3), some (.int (i4 + 1)), some (.int ((10 * x8) + x13)), some (.int v17)]) dX8_longest_106 rfl rfl iconst_1 (Nat.le_of_ble_eq_true rfl) rfl ?_
            refine V_goto (q := 18) dX8_longest_109 rfl ?_
            refine V_msk (L' := [some (.ref (ad (xY X) 43)), some (.int c1), some (.int v19), some (.int i3), some (.int (i4 + 1)), none, none]) [true, true, true, true, true, false, false] rfl ?_
            exact ih (v19) (i3) ((i4 + 1)) h
          · replace h := ie h hb20
            refine V_iload (q := 101) dX8_longest_99 rfl rfl ?_
            refine V_goto (q := 105) dX8_longest_101 rfl ?_
            refine V_istore_n (q := 106) (L' := [some (.ref (ad (xY X) 43)), some (.int c1), some (.int v19), some (.int ((10 * x8) + x13)), some (.int i4), some (.int ((10 * x8) + x13)), some (.int v17)]) dX8_longest_105 rfl (Nat.le_of_ble_eq_true rfl) rfl ?_
            refine V_iinc (q := 109) (v := 1) (L' := [some (.ref (ad (xY X) 43)), some (.int c1), some (.int v19), some (.int ((10 * x8) + x13)), some (.int (i4 + 1)), some (.int ((10 * x8) + x13)), some (.int v17)]) dX8_longest_106 rfl rfl iconst_1 (Nat.le_of_ble_eq_true rfl) rfl ?_
            refine V_goto (q := 18) dX8_longest_109 rfl ?_
            refine V_msk (L' := [some (.ref (ad (xY X) 43)), some (.int c1), some (.int v19), some (.int ((10 * x8) + x13)), some (.int (i4 + 1)), none, none]) [true, true, true, true, true, false, false] rfl ?_
            exact ih (v19) (((10 * x8) + x13)) ((i4 + 1)) h
        refine V_if_eq (q := 92) (q2 := 87) dX8_longest_84 rfl rfl (fun hb21 => ?_) (fun hb21 => ?_)
        · replace h := it h hb21
          refine V_iload_n (q := 93) dX8_longest_92 rfl rfl ?_
          refine V_msk (L' := [some (.ref (ad (xY X) 43)), some (.int c1), none, some (.int i3), some (.int i4), some (.int ((10 * x8) + x13)), some (.int v17)]) [true, true, false, true, true, true, true] rfl ?_
          exact hk18 (i2) h
        · replace h := ie h hb21
          refine V_iload (q := 89) dX8_longest_87 rfl rfl ?_
          refine V_goto (q := 93) dX8_longest_89 rfl ?_
          refine V_msk (L' := [some (.ref (ad (xY X) 43)), some (.int c1), none, some (.int i3), some (.int i4), some (.int ((10 * x8) + x13)), some (.int v17)]) [true, true, false, true, true, true, true] rfl ?_
          exact hk18 (i4) h
      refine V_icmp_le (q := 79) (q2 := 65) dX8_longest_62 rfl rfl (fun hb25 => ?_) (fun hb25 => ?_)
      · replace h := it h hb25
        refine V_iconst (q := 80) (v := 0) dX8_longest_79 rfl iconst_0 ?_
        exact hk16 (0) h
      · replace h := ie h hb25
        refine V_aload_n (q := 66) dX8_longest_65 rfl rfl ?_
        refine V_iload (q := 68) dX8_longest_66 rfl rfl ?_
        refine V_iload_n (q := 69) dX8_longest_68 rfl rfl ?_
        obtain ⟨x22, hc23, h⟩ := cP_ok h
        refine V_cv1 (k := 43) (q := 72) (As := [.int i4, .int c1]) (rest := []) (ct_X8_isFound (xY X) hc23) ce_X8_isFound clz_7 rfl im_yX8_isFound se_yX8_isFound rfl ml_RX8_107 rfl ⟨Nat.le_of_ble_eq_true rfl, Nat.le_of_ble_eq_true rfl⟩ rfl (Nat.le_of_ble_eq_true rfl) dX8_longest_69 rfl ?_
        refine V_if_eq (q := 79) (q2 := 75) dX8_longest_72 rfl rfl (fun hb24 => ?_) (fun hb24 => ?_)
        · replace h := it h hb24
          refine V_iconst (q := 80) (v := 0) dX8_longest_79 rfl iconst_0 ?_
          exact hk16 (0) h
        · replace h := ie h hb24
          refine V_iconst (q := 76) (v := 1) dX8_longest_75 rfl iconst_1 ?_
          refine V_goto (q := 80) dX8_longest_76 rfl ?_
          exact hk16 (1) h
set_option maxRecDepth 20000 in
theorem ct_X8_longest (Y : Yc) {σ : Sg} {a1 : Int32} {r : Int32} (h : f_X8_longest σ a1 = some r) : Ct M_X8_longest yX8_longest Y [.ref (ad Y 43), .int a1] σ (some (.int r)) σ := by
  refine Ct_intro [some (.ref (ad Y 43)), some (.int a1), none, none, none, none, none] (by decide +kernel) rfl (Nat.le_of_ble_eq_true rfl) rfl (fun X hY => ?_) ⟨rfl, rfl⟩
  subst hY
  unfold f_X8_longest at h
  refine V_aload_n (q := 1) dX8_longest_0 rfl rfl ?_
  refine V_iload_n (q := 2) dX8_longest_1 rfl rfl ?_
  obtain ⟨x1, hc2, h⟩ := cP_ok h
  refine V_cv1 (k := 43) (q := 5) (As := [.int a1]) (rest := []) (ct_X8_isWord (xY X) hc2) ce_X8_isWord clz_7 rfl im_yX8_isWord se_yX8_isWord rfl ml_RX8_158 rfl ⟨Nat.le_of_ble_eq_true rfl, Nat.le_of_ble_eq_true rfl⟩ rfl (Nat.le_of_ble_eq_true rfl) dX8_longest_2 rfl ?_
  refine V_if_ne (q := 11) (q2 := 8) dX8_longest_5 rfl rfl (fun hb28 => ?_) (fun hb28 => ?_)
  · replace h := ie h hb28
    refine V_iconst (q := 12) (v := (-1)) dX8_longest_11 rfl iconst_m1 ?_
    refine V_istore_n (q := 13) (L' := [some (.ref (ad (xY X) 43)), some (.int a1), some (.int (-1)), none, none, none, none]) dX8_longest_12 rfl (Nat.le_of_ble_eq_true rfl) rfl ?_
    refine V_iconst (q := 14) (v := 0) dX8_longest_13 rfl iconst_0 ?_
    refine V_istore_n (q := 15) (L' := [some (.ref (ad (xY X) 43)), some (.int a1), some (.int (-1)), some (.int 0), none, none, none]) dX8_longest_14 rfl (Nat.le_of_ble_eq_true rfl) rfl ?_
    refine V_iconst (q := 16) (v := 0) dX8_longest_15 rfl iconst_0 ?_
    refine V_istore (q := 18) (L' := [some (.ref (ad (xY X) 43)), some (.int a1), some (.int (-1)), some (.int 0), some (.int 0), none, none]) dX8_longest_16 rfl (Nat.le_of_ble_eq_true rfl) rfl ?_
    refine w_X8_longest_L18 (fun v27 h => ?_) fu ((-1)) (0) (0) h
    refine V_iload_n (q := 113) dX8_longest_112 rfl rfl ?_
    cases h
    exact V_iret rfl dX8_longest_113
  · replace h := it h hb28
    refine V_ldc (q := 10) kc_RX8_88 dX8_longest_8 rfl ?_
    cases h
    exact V_iret rfl dX8_longest_10
def M_X7_sign : Mc := (RX7, cX7_sign, 2, { frames := 6, cells := 0, slots := 0, locals := 143 }, (some .int))
theorem ce_X7_sign : Cee M_X7_sign yX7_sign 1 := ⟨cd_yX7_sign, ini_RX7, ⟨by decide +kernel, by decide +kernel, by decide +kernel⟩, rfl, rfl⟩
set_option maxRecDepth 20000 in
theorem ct_X7_sign (Y : Yc) {σ : Sg} {a1 : Int32} {r : Int32} {σr : Sg} (h : f_X7_sign σ a1 = some (r, σr)) : Ct M_X7_sign yX7_sign Y [.ref (ad Y 0), .int a1] σ (some (.int r)) σr := by
  refine Ct_intro [some (.ref (ad Y 0)), some (.int a1)] (by decide +kernel) rfl (Nat.le_of_ble_eq_true rfl) rfl (fun X hY => ?_) ⟨rfl, rfl⟩
  subst hY
  unfold f_X7_sign at h
  refine V_iload_n (q := 1) dX7_sign_0 rfl rfl ?_
  refine V_if_ge (q := 7) (q2 := 4) dX7_sign_1 rfl rfl (fun hb8 => ?_) (fun hb8 => ?_)
  · replace h := it h hb8
    refine V_iload_n (q := 8) dX7_sign_7 rfl rfl ?_
    refine V_aload_n (q := 9) dX7_sign_8 rfl rfl ?_
    obtain ⟨x1, s3, hc2, h⟩ := cA_ok h
    refine V_cv1 (k := 0) (q := 12) (As := []) (rest := [.int a1]) (ct_X7_written (xY X) hc2) ce_X7_written clz_6 rfl im_yX7_written se_yX7_written rfl ml_RX7_248 rfl ⟨Nat.le_of_ble_eq_true rfl, Nat.le_of_ble_eq_true rfl⟩ rfl (Nat.le_of_ble_eq_true rfl) dX7_sign_9 rfl ?_
    refine V_geti (k := 40) (j := 4) (q := 15) clz_2 dX7_sign_12 rfl rfl rfl (Nat.le_of_ble_eq_true rfl) fl_RX7_252 ?_
    refine V_icmp_ge (q := 30) (q2 := 18) dX7_sign_15 rfl rfl (fun hb7 => ?_) (fun hb7 => ?_)
    · replace h := it h hb7
      refine V_iconst (q := 31) (v := (-1)) dX7_sign_30 rfl iconst_m1 ?_
      cases h
      exact V_iret rfl dX7_sign_31
    · replace h := ie h hb7
      refine V_aload_n (q := 19) dX7_sign_18 rfl rfl ?_
      refine V_getr (k := 0) (j := 5) (q := 22) clz_6 dX7_sign_19 rfl rfl rfl (Nat.le_of_ble_eq_true rfl) fl_RX7_48 ?_
      refine V_getr (k := 40) (j := 3) (q := 25) clz_2 dX7_sign_22 rfl rfl rfl (Nat.le_of_ble_eq_true rfl) fl_RX7_275 ?_
      refine V_iload_n (q := 26) dX7_sign_25 rfl rfl ?_
      obtain ⟨hi5, x4, ex6, h⟩ := rI_ok h
      refine V_cald (k := 41) (q := 27) dX7_sign_26 rfl rfl hi5 ex6 ?_
      refine V_goto (q := 31) dX7_sign_27 rfl ?_
      cases h
      exact V_iret rfl dX7_sign_31
  · replace h := ie h hb8
    refine V_ldc (q := 6) kc_RX7_65 dX7_sign_4 rfl ?_
    cases h
    exact V_iret rfl dX7_sign_6
def M_X8_sign : Mc := (RX8, cX8_sign, 2, { frames := 6, cells := 0, slots := 0, locals := 153 }, (some .int))
theorem ce_X8_sign : Cee M_X8_sign yX8_sign 1 := ⟨cd_yX8_sign, ini_RX8, ⟨by decide +kernel, by decide +kernel, by decide +kernel⟩, rfl, rfl⟩
set_option maxRecDepth 20000 in
theorem ct_X8_sign (Y : Yc) {σ : Sg} {a1 : Int32} {r : Int32} {σr : Sg} (h : f_X8_sign σ a1 = some (r, σr)) : Ct M_X8_sign yX8_sign Y [.ref (ad Y 43), .int a1] σ (some (.int r)) σr := by
  refine Ct_intro [some (.ref (ad Y 43)), some (.int a1)] (by decide +kernel) rfl (Nat.le_of_ble_eq_true rfl) rfl (fun X hY => ?_) ⟨rfl, rfl⟩
  subst hY
  unfold f_X8_sign at h
  refine V_iload_n (q := 1) dX8_sign_0 rfl rfl ?_
  refine V_if_ge (q := 7) (q2 := 4) dX8_sign_1 rfl rfl (fun hb8 => ?_) (fun hb8 => ?_)
  · replace h := it h hb8
    refine V_iload_n (q := 8) dX8_sign_7 rfl rfl ?_
    refine V_aload_n (q := 9) dX8_sign_8 rfl rfl ?_
    obtain ⟨x1, s3, hc2, h⟩ := cA_ok h
    refine V_cv1 (k := 43) (q := 12) (As := []) (rest := [.int a1]) (ct_X8_mends (xY X) hc2) ce_X8_mends clz_7 rfl im_yX8_mends se_yX8_mends rfl ml_RX8_173 rfl ⟨Nat.le_of_ble_eq_true rfl, Nat.le_of_ble_eq_true rfl⟩ rfl (Nat.le_of_ble_eq_true rfl) dX8_sign_9 rfl ?_
    refine V_icmp_ge (q := 24) (q2 := 15) dX8_sign_12 rfl rfl (fun hb7 => ?_) (fun hb7 => ?_)
    · replace h := it h hb7
      refine V_iconst (q := 25) (v := (-1)) dX8_sign_24 rfl iconst_m1 ?_
      cases h
      exact V_iret rfl dX8_sign_25
    · replace h := ie h hb7
      refine V_aload_n (q := 16) dX8_sign_15 rfl rfl ?_
      refine V_getr (k := 43) (j := 13) (q := 19) clz_7 dX8_sign_16 rfl rfl rfl (Nat.le_of_ble_eq_true rfl) fl_RX8_41 ?_
      refine V_iload_n (q := 20) dX8_sign_19 rfl rfl ?_
      obtain ⟨hi5, x4, ex6, h⟩ := rI_ok h
      refine V_iald (k := 54) (q := 21) dX8_sign_20 rfl rfl hi5 ex6 ?_
      refine V_goto (q := 25) dX8_sign_21 rfl ?_
      cases h
      exact V_iret rfl dX8_sign_25
  · replace h := ie h hb8
    refine V_ldc (q := 6) kc_RX8_52 dX8_sign_4 rfl ?_
    cases h
    exact V_iret rfl dX8_sign_6
def M_X7_same : Mc := (RX7, cX7_same, 4, { frames := 1, cells := 0, slots := 0, locals := 21 }, (some .int))
theorem ce_X7_same : Cee M_X7_same yX7_same 2 := ⟨cd_yX7_same, ini_RX7, ⟨by decide +kernel, by decide +kernel, by decide +kernel⟩, rfl, rfl⟩
set_option maxRecDepth 20000 in
theorem ct_X7_same (Y : Yc) {σ : Sg} {a1 : Int32} {a2 : Int32} {r : Int32} (h : f_X7_same σ a1 a2 = some r) : Ct M_X7_same yX7_same Y [.ref (ad Y 0), .int a1, .int a2] σ (some (.int r)) σ := by
  refine Ct_intro [some (.ref (ad Y 0)), some (.int a1), some (.int a2), none] (by decide +kernel) rfl (Nat.le_of_ble_eq_true rfl) rfl (fun X hY => ?_) ⟨rfl, rfl⟩
  subst hY
  unfold f_X7_same at h
  refine V_aload_n (q := 1) dX7_same_0 rfl rfl ?_
  refine V_getr (k := 0) (j := 3) (q := 4) clz_6 dX7_same_1 rfl rfl rfl (Nat.le_of_ble_eq_true rfl) fl_RX7_30 ?_
  refine V_iload_n (q := 5) dX7_same_4 rfl rfl ?_
  obtain ⟨x1, hc2, h⟩ := cP_ok h
  refine V_cv1 (k := 26) (q := 8) (As := [.int a1]) (rest := []) (ct_X6_isWord (xY X) hc2) ce_X6_isWord clz_5 rfl im_yX6_isWord se_yX6_isWord rfl ml_RX7_206 rfl ⟨Nat.le_of_ble_eq_true rfl, Nat.le_of_ble_eq_true rfl⟩ rfl (Nat.le_of_ble_eq_true rfl) dX7_same_5 rfl ?_
  refine V_if_eq (q := 27) (q2 := 11) dX7_same_8 rfl rfl (fun hb25 => ?_) (fun hb25 => ?_)
  · replace h := it h hb25
    refine V_ldc (q := 29) kc_RX7_114 dX7_same_27 rfl ?_
    cases h
    exact V_iret rfl dX7_same_29
  · replace h := ie h hb25
    refine V_aload_n (q := 12) dX7_same_11 rfl rfl ?_
    refine V_getr (k := 0) (j := 3) (q := 15) clz_6 dX7_same_12 rfl rfl rfl (Nat.le_of_ble_eq_true rfl) fl_RX7_30 ?_
    refine V_iload_n (q := 16) dX7_same_15 rfl rfl ?_
    obtain ⟨x3, hc4, h⟩ := cP_ok h
    refine V_cv1 (k := 26) (q := 19) (As := [.int a2]) (rest := []) (ct_X6_isWord (xY X) hc4) ce_X6_isWord clz_5 rfl im_yX6_isWord se_yX6_isWord rfl ml_RX7_206 rfl ⟨Nat.le_of_ble_eq_true rfl, Nat.le_of_ble_eq_true rfl⟩ rfl (Nat.le_of_ble_eq_true rfl) dX7_same_16 rfl ?_
    refine V_if_eq (q := 27) (q2 := 22) dX7_same_19 rfl rfl (fun hb24 => ?_) (fun hb24 => ?_)
    · replace h := it h hb24
      refine V_ldc (q := 29) kc_RX7_114 dX7_same_27 rfl ?_
      cases h
      exact V_iret rfl dX7_same_29
    · replace h := ie h hb24
      refine V_iload_n (q := 23) dX7_same_22 rfl rfl ?_
      refine V_iload_n (q := 24) dX7_same_23 rfl rfl ?_
      refine V_icmp_ne (q := 30) (q2 := 27) dX7_same_24 rfl rfl (fun hb23 => ?_) (fun hb23 => ?_)
      · replace h := ie h hb23
        refine V_aload_n (q := 31) dX7_same_30 rfl rfl ?_
        refine V_getr (k := 0) (j := 3) (q := 34) clz_6 dX7_same_31 rfl rfl rfl (Nat.le_of_ble_eq_true rfl) fl_RX7_30 ?_
        refine V_getr (k := 26) (j := 1) (q := 37) clz_5 dX7_same_34 rfl rfl rfl (Nat.le_of_ble_eq_true rfl) fl_RX7_209 ?_
        refine V_iload_n (q := 38) dX7_same_37 rfl rfl ?_
        obtain ⟨hi6, x5, ex7, h⟩ := rL_ok h
        refine V_lald (k := 27) (q := 39) dX7_same_38 rfl rfl hi6 ex7 ?_
        refine V_aload_n (q := 40) dX7_same_39 rfl rfl ?_
        refine V_getr (k := 0) (j := 3) (q := 43) clz_6 dX7_same_40 rfl rfl rfl (Nat.le_of_ble_eq_true rfl) fl_RX7_30 ?_
        refine V_getr (k := 26) (j := 1) (q := 46) clz_5 dX7_same_43 rfl rfl rfl (Nat.le_of_ble_eq_true rfl) fl_RX7_209 ?_
        refine V_iload_n (q := 47) dX7_same_46 rfl rfl ?_
        obtain ⟨hi9, x8, ex10, h⟩ := rL_ok h
        refine V_lald (k := 27) (q := 48) dX7_same_47 rfl rfl hi9 ex10 ?_
        refine V_lcmp (q := 49) dX7_same_48 rfl ?_
        obtain ⟨k11, ek11, h⟩ := jn_ok h
        have hk11 : k11 = some r → V X M_X7_same (mq X (some (.int r)) σ) 80 [none, none, none, none] [] σ := by
          clear h
          intro  h
          rw [ek11] at h
          refine V_iconst (q := 81) (v := 0) dX7_same_80 rfl iconst_0 ?_
          refine V_istore_n (q := 82) (L' := [none, none, none, some (.int 0)]) dX7_same_81 rfl (Nat.le_of_ble_eq_true rfl) rfl ?_
          refine V_iload_n (q := 83) dX7_same_82 rfl rfl ?_
          refine V_if_eq (q := 90) (q2 := 86) dX7_same_83 rfl rfl (fun hb12 => ?_) (fun hb12 => ?_)
          · replace h := it h hb12
            refine V_iconst (q := 91) (v := 0) dX7_same_90 rfl iconst_0 ?_
            cases h
            exact V_iret rfl dX7_same_91
          · replace h := ie h hb12
            refine V_iconst (q := 87) (v := 1) dX7_same_86 rfl iconst_1 ?_
            refine V_goto (q := 91) dX7_same_87 rfl ?_
            cases h
            exact V_iret rfl dX7_same_91
        refine V_if_ne (q := 80) (q2 := 52) dX7_same_49 rfl rfl (fun hb22 => ?_) (fun hb22 => ?_)
        · replace h := ie h hb22
          refine V_msk (L' := [none, none, none, none]) [false, false, false, true] rfl ?_
          exact hk11  h
        · replace h := it h hb22
          refine V_aload_n (q := 53) dX7_same_52 rfl rfl ?_
          refine V_getr (k := 0) (j := 3) (q := 56) clz_6 dX7_same_53 rfl rfl rfl (Nat.le_of_ble_eq_true rfl) fl_RX7_30 ?_
          refine V_getr (k := 26) (j := 2) (q := 59) clz_5 dX7_same_56 rfl rfl rfl (Nat.le_of_ble_eq_true rfl) fl_RX7_213 ?_
          refine V_iload_n (q := 60) dX7_same_59 rfl rfl ?_
          obtain ⟨hi14, x13, ex15, h⟩ := rI_ok h
          refine V_zald (k := 28) (q := 61) dX7_same_60 rfl rfl hi14 ex15 ?_
          refine V_if_ne (q := 80) (q2 := 64) dX7_same_61 rfl rfl (fun hb21 => ?_) (fun hb21 => ?_)
          · replace h := ie h hb21
            refine V_msk (L' := [none, none, none, none]) [false, false, false, true] rfl ?_
            exact hk11  h
          · replace h := it h hb21
            refine V_aload_n (q := 65) dX7_same_64 rfl rfl ?_
            refine V_getr (k := 0) (j := 3) (q := 68) clz_6 dX7_same_65 rfl rfl rfl (Nat.le_of_ble_eq_true rfl) fl_RX7_30 ?_
            refine V_getr (k := 26) (j := 2) (q := 71) clz_5 dX7_same_68 rfl rfl rfl (Nat.le_of_ble_eq_true rfl) fl_RX7_213 ?_
            refine V_iload_n (q := 72) dX7_same_71 rfl rfl ?_
            obtain ⟨hi17, x16, ex18, h⟩ := rI_ok h
            refine V_zald (k := 28) (q := 73) dX7_same_72 rfl rfl hi17 ex18 ?_
            refine V_if_ne (q := 80) (q2 := 76) dX7_same_73 rfl rfl (fun hb20 => ?_) (fun hb20 => ?_)
            · replace h := ie h hb20
              refine V_msk (L' := [none, none, none, none]) [false, false, false, true] rfl ?_
              exact hk11  h
            · replace h := it h hb20
              refine V_iconst (q := 77) (v := 1) dX7_same_76 rfl iconst_1 ?_
              refine V_goto (q := 81) dX7_same_77 rfl ?_
              refine V_istore_n (q := 82) (L' := [some (.ref (ad (xY X) 0)), some (.int a1), some (.int a2), some (.int 1)]) dX7_same_81 rfl (Nat.le_of_ble_eq_true rfl) rfl ?_
              refine V_iload_n (q := 83) dX7_same_82 rfl rfl ?_
              refine V_if_eq (q := 90) (q2 := 86) dX7_same_83 rfl rfl (fun hb19 => ?_) (fun hb19 => ?_)
              · replace h := it h hb19
                refine V_iconst (q := 91) (v := 0) dX7_same_90 rfl iconst_0 ?_
                cases h
                exact V_iret rfl dX7_same_91
              · replace h := ie h hb19
                refine V_iconst (q := 87) (v := 1) dX7_same_86 rfl iconst_1 ?_
                refine V_goto (q := 91) dX7_same_87 rfl ?_
                cases h
                exact V_iret rfl dX7_same_91
      · replace h := it h hb23
        refine V_ldc (q := 29) kc_RX7_114 dX7_same_27 rfl ?_
        cases h
        exact V_iret rfl dX7_same_29
def M_X8_same : Mc := (RX8, cX8_same, 5, { frames := 2, cells := 0, slots := 0, locals := 43 }, (some .int))
theorem ce_X8_same : Cee M_X8_same yX8_same 2 := ⟨cd_yX8_same, ini_RX8, ⟨by decide +kernel, by decide +kernel, by decide +kernel⟩, rfl, rfl⟩
set_option maxRecDepth 20000 in
theorem w_X8_same_L82 {X : Xc} {σ : Sg} {c1 : Int32} {c2 : Int32} {r : Int32} {k : Int32 → Option Int32}
    (hk : ∀ (i3 : Int32), k i3 = some r → V X M_X8_same (mq X (some (.int r)) σ) 143 [none, none, none, some (.int i3), none] [] σ) :
    ∀ (n : Nat) (i3 : Int32) (i4 : Int32), f_X8_same_L82 k σ c1 c2 n i3 i4 = some r → V X M_X8_same (mq X (some (.int r)) σ) 82 [some (.ref (ad (xY X) 43)), some (.int c1), some (.int c2), some (.int i3), some (.int i4)] [] σ := by
  intro n
  induction n with
  | zero => intro i3 i4 h; cases h
  | succ n ih =>
    intro i3 i4 h
    rw [f_X8_same_L82] at h
    refine V_iload (q := 84) dX8_same_82 rfl rfl ?_
    refine V_aload_n (q := 85) dX8_same_84 rfl rfl ?_
    refine V_getr (k := 43) (j := 5) (q := 88) clz_7 dX8_same_85 rfl rfl rfl (Nat.le_of_ble_eq_true rfl) fl_RX8_23 ?_
    refine V_bipush (q := 90) (v := 15) dX8_same_88 rfl bipush_15 ?_
    refine V_iload_n (q := 91) dX8_same_90 rfl rfl ?_
    refine V_imul (q := 92) dX8_same_91 rfl ?_
    obtain ⟨hi13, x12, ex14, h⟩ := rI_ok h
    refine V_iald (k := 48) (q := 93) dX8_same_92 rfl rfl hi13 ex14 ?_
    refine V_icmp_ge (q := 143) (q2 := 96) dX8_same_93 rfl rfl (fun hb23 => ?_) (fun hb23 => ?_)
    · replace h := it h hb23
      refine V_msk (L' := [none, none, none, some (.int i3), none]) [false, false, false, true, false] rfl ?_
      exact hk (i3) h
    · replace h := ie h hb23
      refine V_iload_n (q := 97) dX8_same_96 rfl rfl ?_
      refine V_if_eq (q := 143) (q2 := 100) dX8_same_97 rfl rfl (fun hb22 => ?_) (fun hb22 => ?_)
      · replace h := it h hb22
        refine V_msk (L' := [none, none, none, some (.int i3), none]) [false, false, false, true, false] rfl ?_
        exact hk (i3) h
      · replace h := ie h hb22
        refine V_aload_n (q := 101) dX8_same_100 rfl rfl ?_
        refine V_getr (k := 43) (j := 5) (q := 104) clz_7 dX8_same_101 rfl rfl rfl (Nat.le_of_ble_eq_true rfl) fl_RX8_23 ?_
        refine V_bipush (q := 106) (v := 15) dX8_same_104 rfl bipush_15 ?_
        refine V_iload_n (q := 107) dX8_same_106 rfl rfl ?_
        refine V_imul (q := 108) dX8_same_107 rfl ?_
        refine V_iconst (q := 109) (v := 3) dX8_same_108 rfl iconst_3 ?_
        refine V_iadd (q := 110) dX8_same_109 rfl ?_
        refine V_iload (q := 112) dX8_same_110 rfl rfl ?_
        refine V_iadd (q := 113) dX8_same_112 rfl ?_
        obtain ⟨hi16, x15, ex17, h⟩ := rI_ok h
        refine V_iald (k := 48) (q := 114) dX8_same_113 rfl rfl hi16 ex17 ?_
        refine V_aload_n (q := 115) dX8_same_114 rfl rfl ?_
        refine V_getr (k := 43) (j := 5) (q := 118) clz_7 dX8_same_115 rfl rfl rfl (Nat.le_of_ble_eq_true rfl) fl_RX8_23 ?_
        refine V_bipush (q := 120) (v := 15) dX8_same_118 rfl bipush_15 ?_
        refine V_iload_n (q := 121) dX8_same_120 rfl rfl ?_
        refine V_imul (q := 122) dX8_same_121 rfl ?_
        refine V_iconst (q := 123) (v := 3) dX8_same_122 rfl iconst_3 ?_
        refine V_iadd (q := 124) dX8_same_123 rfl ?_
        refine V_iload (q := 126) dX8_same_124 rfl rfl ?_
        refine V_iadd (q := 127) dX8_same_126 rfl ?_
        obtain ⟨hi19, x18, ex20, h⟩ := rI_ok h
        refine V_iald (k := 48) (q := 128) dX8_same_127 rfl rfl hi19 ex20 ?_
        refine V_icmp_ne (q := 135) (q2 := 131) dX8_same_128 rfl rfl (fun hb21 => ?_) (fun hb21 => ?_)
        · replace h := ie h hb21
          refine V_iconst (q := 136) (v := 0) dX8_same_135 rfl iconst_0 ?_
          refine V_istore_n (q := 137) (L' := [some (.ref (ad (xY X) 43)), some (.int c1), some (.int c2), some (.int 0), some (.int i4)]) dX8_same_136 rfl (Nat.le_of_ble_eq_true rfl) rfl ?_
          refine V_iinc (q := 140) (v := 1) (L' := [some (.ref (ad (xY X) 43)), some (.int c1), some (.int c2), some (.int 0), some (.int (i4 + 1))]) dX8_same_137 rfl rfl iconst_1 (Nat.le_of_ble_eq_true rfl) rfl ?_
          refine V_goto (q := 82) dX8_same_140 rfl ?_
          exact ih (0) ((i4 + 1)) h
        · replace h := it h hb21
          refine V_iconst (q := 132) (v := 1) dX8_same_131 rfl iconst_1 ?_
          refine V_goto (q := 136) dX8_same_132 rfl ?_
          refine V_istore_n (q := 137) (L' := [some (.ref (ad (xY X) 43)), some (.int c1), some (.int c2), some (.int 1), some (.int i4)]) dX8_same_136 rfl (Nat.le_of_ble_eq_true rfl) rfl ?_
          refine V_iinc (q := 140) (v := 1) (L' := [some (.ref (ad (xY X) 43)), some (.int c1), some (.int c2), some (.int 1), some (.int (i4 + 1))]) dX8_same_137 rfl rfl iconst_1 (Nat.le_of_ble_eq_true rfl) rfl ?_
          refine V_goto (q := 82) dX8_same_140 rfl ?_
          exact ih (1) ((i4 + 1)) h
set_option maxRecDepth 20000 in
theorem ct_X8_same (Y : Yc) {σ : Sg} {a1 : Int32} {a2 : Int32} {r : Int32} (h : f_X8_same σ a1 a2 = some r) : Ct M_X8_same yX8_same Y [.ref (ad Y 43), .int a1, .int a2] σ (some (.int r)) σ := by
  refine Ct_intro [some (.ref (ad Y 43)), some (.int a1), some (.int a2), none, none] (by decide +kernel) rfl (Nat.le_of_ble_eq_true rfl) rfl (fun X hY => ?_) ⟨rfl, rfl⟩
  subst hY
  unfold f_X8_same at h
  refine V_aload_n (q := 1) dX8_same_0 rfl rfl ?_
  refine V_iload_n (q := 2) dX8_same_1 rfl rfl ?_
  obtain ⟨x1, hc2, h⟩ := cP_ok h
  refine V_cv1 (k := 43) (q := 5) (As := [.int a1]) (rest := []) (ct_X8_isWord (xY X) hc2) ce_X8_isWord clz_7 rfl im_yX8_isWord se_yX8_isWord rfl ml_RX8_158 rfl ⟨Nat.le_of_ble_eq_true rfl, Nat.le_of_ble_eq_true rfl⟩ rfl (Nat.le_of_ble_eq_true rfl) dX8_same_2 rfl ?_
  refine V_if_eq (q := 21) (q2 := 8) dX8_same_5 rfl rfl (fun hb39 => ?_) (fun hb39 => ?_)
  · replace h := it h hb39
    refine V_ldc (q := 23) kc_RX8_88 dX8_same_21 rfl ?_
    cases h
    exact V_iret rfl dX8_same_23
  · replace h := ie h hb39
    refine V_aload_n (q := 9) dX8_same_8 rfl rfl ?_
    refine V_iload_n (q := 10) dX8_same_9 rfl rfl ?_
    obtain ⟨x3, hc4, h⟩ := cP_ok h
    refine V_cv1 (k := 43) (q := 13) (As := [.int a2]) (rest := []) (ct_X8_isWord (xY X) hc4) ce_X8_isWord clz_7 rfl im_yX8_isWord se_yX8_isWord rfl ml_RX8_158 rfl ⟨Nat.le_of_ble_eq_true rfl, Nat.le_of_ble_eq_true rfl⟩ rfl (Nat.le_of_ble_eq_true rfl) dX8_same_10 rfl ?_
    refine V_if_eq (q := 21) (q2 := 16) dX8_same_13 rfl rfl (fun hb38 => ?_) (fun hb38 => ?_)
    · replace h := it h hb38
      refine V_ldc (q := 23) kc_RX8_88 dX8_same_21 rfl ?_
      cases h
      exact V_iret rfl dX8_same_23
    · replace h := ie h hb38
      refine V_iload_n (q := 17) dX8_same_16 rfl rfl ?_
      refine V_iload_n (q := 18) dX8_same_17 rfl rfl ?_
      refine V_icmp_ne (q := 24) (q2 := 21) dX8_same_18 rfl rfl (fun hb37 => ?_) (fun hb37 => ?_)
      · replace h := ie h hb37
        refine V_aload_n (q := 25) dX8_same_24 rfl rfl ?_
        refine V_getr (k := 43) (j := 5) (q := 28) clz_7 dX8_same_25 rfl rfl rfl (Nat.le_of_ble_eq_true rfl) fl_RX8_23 ?_
        refine V_bipush (q := 30) (v := 15) dX8_same_28 rfl bipush_15 ?_
        refine V_iload_n (q := 31) dX8_same_30 rfl rfl ?_
        refine V_imul (q := 32) dX8_same_31 rfl ?_
        obtain ⟨hi6, x5, ex7, h⟩ := rI_ok h
        refine V_iald (k := 48) (q := 33) dX8_same_32 rfl rfl hi6 ex7 ?_
        refine V_aload_n (q := 34) dX8_same_33 rfl rfl ?_
        refine V_getr (k := 43) (j := 5) (q := 37) clz_7 dX8_same_34 rfl rfl rfl (Nat.le_of_ble_eq_true rfl) fl_RX8_23 ?_
        refine V_bipush (q := 39) (v := 15) dX8_same_37 rfl bipush_15 ?_
        refine V_iload_n (q := 40) dX8_same_39 rfl rfl ?_
        refine V_imul (q := 41) dX8_same_40 rfl ?_
        obtain ⟨hi9, x8, ex10, h⟩ := rI_ok h
        refine V_iald (k := 48) (q := 42) dX8_same_41 rfl rfl hi9 ex10 ?_
        obtain ⟨k11, ek11, h⟩ := jn_ok h
        have hk11 : k11 = some r → V X M_X8_same (mq X (some (.int r)) σ) 77 [some (.ref (ad (xY X) 43)), some (.int a1), some (.int a2), none, none] [] σ := by
          clear h
          intro  h
          rw [ek11] at h
          refine V_iconst (q := 78) (v := 0) dX8_same_77 rfl iconst_0 ?_
          refine V_istore_n (q := 79) (L' := [some (.ref (ad (xY X) 43)), some (.int a1), some (.int a2), some (.int 0), none]) dX8_same_78 rfl (Nat.le_of_ble_eq_true rfl) rfl ?_
          refine V_iconst (q := 80) (v := 0) dX8_same_79 rfl iconst_0 ?_
          refine V_istore (q := 82) (L' := [some (.ref (ad (xY X) 43)), some (.int a1), some (.int a2), some (.int 0), some (.int 0)]) dX8_same_80 rfl (Nat.le_of_ble_eq_true rfl) rfl ?_
          refine w_X8_same_L82 (fun v24 h => ?_) fu (0) (0) h
          refine V_iload_n (q := 144) dX8_same_143 rfl rfl ?_
          refine V_if_eq (q := 151) (q2 := 147) dX8_same_144 rfl rfl (fun hb25 => ?_) (fun hb25 => ?_)
          · replace h := it h hb25
            refine V_iconst (q := 152) (v := 0) dX8_same_151 rfl iconst_0 ?_
            cases h
            exact V_iret rfl dX8_same_152
          · replace h := ie h hb25
            refine V_iconst (q := 148) (v := 1) dX8_same_147 rfl iconst_1 ?_
            refine V_goto (q := 152) dX8_same_148 rfl ?_
            cases h
            exact V_iret rfl dX8_same_152
        refine V_icmp_ne (q := 77) (q2 := 45) dX8_same_42 rfl rfl (fun hb36 => ?_) (fun hb36 => ?_)
        · replace h := ie h hb36
          exact hk11  h
        · replace h := it h hb36
          refine V_aload_n (q := 46) dX8_same_45 rfl rfl ?_
          refine V_getr (k := 43) (j := 5) (q := 49) clz_7 dX8_same_46 rfl rfl rfl (Nat.le_of_ble_eq_true rfl) fl_RX8_23 ?_
          refine V_bipush (q := 51) (v := 15) dX8_same_49 rfl bipush_15 ?_
          refine V_iload_n (q := 52) dX8_same_51 rfl rfl ?_
          refine V_imul (q := 53) dX8_same_52 rfl ?_
          refine V_iconst (q := 54) (v := 2) dX8_same_53 rfl iconst_2 ?_
          refine V_iadd (q := 55) dX8_same_54 rfl ?_
          obtain ⟨hi27, x26, ex28, h⟩ := rI_ok h
          refine V_iald (k := 48) (q := 56) dX8_same_55 rfl rfl hi27 ex28 ?_
          refine V_if_ne (q := 77) (q2 := 59) dX8_same_56 rfl rfl (fun hb35 => ?_) (fun hb35 => ?_)
          · replace h := ie h hb35
            exact hk11  h
          · replace h := it h hb35
            refine V_aload_n (q := 60) dX8_same_59 rfl rfl ?_
            refine V_getr (k := 43) (j := 5) (q := 63) clz_7 dX8_same_60 rfl rfl rfl (Nat.le_of_ble_eq_true rfl) fl_RX8_23 ?_
            refine V_bipush (q := 65) (v := 15) dX8_same_63 rfl bipush_15 ?_
            refine V_iload_n (q := 66) dX8_same_65 rfl rfl ?_
            refine V_imul (q := 67) dX8_same_66 rfl ?_
            refine V_iconst (q := 68) (v := 2) dX8_same_67 rfl iconst_2 ?_
            refine V_iadd (q := 69) dX8_same_68 rfl ?_
            obtain ⟨hi30, x29, ex31, h⟩ := rI_ok h
            refine V_iald (k := 48) (q := 70) dX8_same_69 rfl rfl hi30 ex31 ?_
            refine V_if_ne (q := 77) (q2 := 73) dX8_same_70 rfl rfl (fun hb34 => ?_) (fun hb34 => ?_)
            · replace h := ie h hb34
              exact hk11  h
            · replace h := it h hb34
              refine V_iconst (q := 74) (v := 1) dX8_same_73 rfl iconst_1 ?_
              refine V_goto (q := 78) dX8_same_74 rfl ?_
              refine V_istore_n (q := 79) (L' := [some (.ref (ad (xY X) 43)), some (.int a1), some (.int a2), some (.int 1), none]) dX8_same_78 rfl (Nat.le_of_ble_eq_true rfl) rfl ?_
              refine V_iconst (q := 80) (v := 0) dX8_same_79 rfl iconst_0 ?_
              refine V_istore (q := 82) (L' := [some (.ref (ad (xY X) 43)), some (.int a1), some (.int a2), some (.int 1), some (.int 0)]) dX8_same_80 rfl (Nat.le_of_ble_eq_true rfl) rfl ?_
              refine w_X8_same_L82 (fun v32 h => ?_) fu (1) (0) h
              refine V_iload_n (q := 144) dX8_same_143 rfl rfl ?_
              refine V_if_eq (q := 151) (q2 := 147) dX8_same_144 rfl rfl (fun hb33 => ?_) (fun hb33 => ?_)
              · replace h := it h hb33
                refine V_iconst (q := 152) (v := 0) dX8_same_151 rfl iconst_0 ?_
                cases h
                exact V_iret rfl dX8_same_152
              · replace h := ie h hb33
                refine V_iconst (q := 148) (v := 1) dX8_same_147 rfl iconst_1 ?_
                refine V_goto (q := 152) dX8_same_148 rfl ?_
                cases h
                exact V_iret rfl dX8_same_152
      · replace h := it h hb37
        refine V_ldc (q := 23) kc_RX8_88 dX8_same_21 rfl ?_
        cases h
        exact V_iret rfl dX8_same_23
def M_X7_imageOf : Mc := (RX7, cX7_imageOf, 2, { frames := 0, cells := 0, slots := 0, locals := 0 }, (some (.object "TermScan$Lexicon")))
theorem ce_X7_imageOf : Cee M_X7_imageOf yX7_imageOf 1 := ⟨cd_yX7_imageOf, ini_RX7, ⟨by decide +kernel, by decide +kernel, by decide +kernel⟩, rfl, rfl⟩
set_option maxRecDepth 20000 in
theorem ct_X7_imageOf (Y : Yc) {σ : Sg} {a1 : Int32} {r : Nat} (h : f_X7_imageOf σ a1 = some r) : Ct M_X7_imageOf yX7_imageOf Y [.ref (ad Y 0), .int a1] σ (some (rfv Y r)) σ := by
  refine Ct_intro [some (.ref (ad Y 0)), some (.int a1)] (by decide +kernel) rfl (Nat.le_of_ble_eq_true rfl) rfl (fun X hY => ?_) ⟨rfl, rfl⟩
  subst hY
  unfold f_X7_imageOf at h
  refine V_iload_n (q := 1) dX7_imageOf_0 rfl rfl ?_
  refine V_if_lt (q := 18) (q2 := 4) dX7_imageOf_1 rfl rfl (fun hb5 => ?_) (fun hb5 => ?_)
  · replace h := it h hb5
    refine V_null (q := 19) dX7_imageOf_18 rfl ?_
    cases h
    exact V_aret (v := rfv (xY X) 0) rfl (Or.inl rfl) dX7_imageOf_19
  · replace h := ie h hb5
    refine V_iload_n (q := 5) dX7_imageOf_4 rfl rfl ?_
    refine V_iconst (q := 6) (v := 2) dX7_imageOf_5 rfl iconst_2 ?_
    refine V_icmp_ge (q := 18) (q2 := 9) dX7_imageOf_6 rfl rfl (fun hb4 => ?_) (fun hb4 => ?_)
    · replace h := it h hb4
      refine V_null (q := 19) dX7_imageOf_18 rfl ?_
      cases h
      exact V_aret (v := rfv (xY X) 0) rfl (Or.inl rfl) dX7_imageOf_19
    · replace h := ie h hb4
      refine V_aload_n (q := 10) dX7_imageOf_9 rfl rfl ?_
      refine V_getr (k := 0) (j := 2) (q := 13) clz_6 dX7_imageOf_10 rfl rfl rfl (Nat.le_of_ble_eq_true rfl) fl_RX7_23 ?_
      refine V_iload_n (q := 14) dX7_imageOf_13 rfl rfl ?_
      obtain ⟨hi1, h⟩ := mH_ok h
      by_cases hc2 : a1 = 0
      · replace h := it h hc2
        refine V_aald (k := 11) (j := 0) (q := 15) dX7_imageOf_14 rfl rfl hi1 (by rw [hc2]; rfl) rfl ?_
        refine V_goto (q := 19) dX7_imageOf_15 rfl ?_
        cases h
        exact V_aret (v := rfv (xY X) 12) rfl (Or.inr ⟨_, rfl⟩) dX7_imageOf_19
      replace h := ie h hc2
      by_cases hc3 : a1 = 1
      · replace h := it h hc3
        refine V_aald (k := 11) (j := 1) (q := 15) dX7_imageOf_14 rfl rfl hi1 (by rw [hc3]; rfl) rfl ?_
        refine V_goto (q := 19) dX7_imageOf_15 rfl ?_
        cases h
        exact V_aret (v := rfv (xY X) 19) rfl (Or.inr ⟨_, rfl⟩) dX7_imageOf_19
      replace h := ie h hc3
      cases h
set_option maxRecDepth 20000 in
theorem ct_X1_copyTerm_12_4 (Y : Yc) {σ : Sg} {a1 : Int32} {a2 : Int32} {r : Unit} {σr : Sg} (h : f_X1_copyTerm_12_4 σ a1 a2 = some (r, σr)) : Ct M_X1_copyTerm yX1_copyTerm Y [.ref (ad Y 12), .ref (ad Y 4), .int a1, .int a2] σ none σr := by
  refine Ct_intro [some (.ref (ad Y 12)), some (.ref (ad Y 4)), some (.int a1), some (.int a2)] (by decide +kernel) rfl (Nat.le_of_ble_eq_true rfl) rfl (fun X hY => ?_) ⟨rfl, rfl⟩
  subst hY
  unfold f_X1_copyTerm_12_4 at h
  refine V_aload_n (q := 1) dX1_copyTerm_0 rfl rfl ?_
  refine V_getr (k := 4) (j := 1) (q := 4) clz_0 dX1_copyTerm_1 rfl rfl rfl (Nat.le_of_ble_eq_true rfl) fl_RX1_11 ?_
  refine V_iload_n (q := 5) dX1_copyTerm_4 rfl rfl ?_
  refine V_iconst (q := 6) (v := 4) dX1_copyTerm_5 rfl iconst_4 ?_
  refine V_imul (q := 7) dX1_copyTerm_6 rfl ?_
  refine V_aload_n (q := 8) dX1_copyTerm_7 rfl rfl ?_
  refine V_getr (k := 12) (j := 1) (q := 11) clz_0 dX1_copyTerm_8 rfl rfl rfl (Nat.le_of_ble_eq_true rfl) fl_RX1_11 ?_
  refine V_iload_n (q := 12) dX1_copyTerm_11 rfl rfl ?_
  refine V_iconst (q := 13) (v := 4) dX1_copyTerm_12 rfl iconst_4 ?_
  refine V_imul (q := 14) dX1_copyTerm_13 rfl ?_
  refine V_iconst (q := 15) (v := 4) dX1_copyTerm_14 rfl iconst_4 ?_
  obtain ⟨hi3, s1, e2, h⟩ := xL4_ok h
  refine V_cpyl (k0 := 5) (k1 := 13) (q := 18) ml_RX1_42 dX1_copyTerm_15 rfl rfl rfl hi3.1 hi3.2.1 hi3.2.2.1 hi3.2.2.2.1 hi3.2.2.2.2 (Nat.le_of_ble_eq_true rfl) (Nat.le_of_ble_eq_true rfl) e2 ?_
  refine V_aload_n (q := 19) dX1_copyTerm_18 rfl rfl ?_
  refine V_getr (k := 12) (j := 2) (q := 22) clz_0 dX1_copyTerm_19 rfl rfl rfl (Nat.le_of_ble_eq_true rfl) fl_RX1_15 ?_
  refine V_iload_n (q := 23) dX1_copyTerm_22 rfl rfl ?_
  refine V_aload_n (q := 24) dX1_copyTerm_23 rfl rfl ?_
  refine V_getr (k := 4) (j := 2) (q := 27) clz_0 dX1_copyTerm_24 rfl rfl rfl (Nat.le_of_ble_eq_true rfl) fl_RX1_15 ?_
  refine V_iload_n (q := 28) dX1_copyTerm_27 rfl rfl ?_
  obtain ⟨hi5, x4, ex6, h⟩ := rI_ok h
  refine V_iald (k := 6) (q := 29) dX1_copyTerm_28 rfl rfl hi5 ex6 ?_
  obtain ⟨hi9, s7, e8, h⟩ := wI_ok h
  refine V_iast (k := 14) (q := 30) dX1_copyTerm_29 rfl rfl hi9 e8 ?_
  refine V_aload_n (q := 31) dX1_copyTerm_30 rfl rfl ?_
  refine V_getr (k := 12) (j := 3) (q := 34) clz_0 dX1_copyTerm_31 rfl rfl rfl (Nat.le_of_ble_eq_true rfl) fl_RX1_19 ?_
  refine V_iload_n (q := 35) dX1_copyTerm_34 rfl rfl ?_
  refine V_aload_n (q := 36) dX1_copyTerm_35 rfl rfl ?_
  refine V_getr (k := 4) (j := 3) (q := 39) clz_0 dX1_copyTerm_36 rfl rfl rfl (Nat.le_of_ble_eq_true rfl) fl_RX1_19 ?_
  refine V_iload_n (q := 40) dX1_copyTerm_39 rfl rfl ?_
  obtain ⟨hi11, x10, ex12, h⟩ := rI_ok h
  refine V_iald (k := 7) (q := 41) dX1_copyTerm_40 rfl rfl hi11 ex12 ?_
  obtain ⟨hi15, s13, e14, h⟩ := wI_ok h
  refine V_iast (k := 15) (q := 42) dX1_copyTerm_41 rfl rfl hi15 e14 ?_
  refine V_aload_n (q := 43) dX1_copyTerm_42 rfl rfl ?_
  refine V_getr (k := 12) (j := 4) (q := 46) clz_0 dX1_copyTerm_43 rfl rfl rfl (Nat.le_of_ble_eq_true rfl) fl_RX1_22 ?_
  refine V_iload_n (q := 47) dX1_copyTerm_46 rfl rfl ?_
  refine V_aload_n (q := 48) dX1_copyTerm_47 rfl rfl ?_
  refine V_getr (k := 4) (j := 4) (q := 51) clz_0 dX1_copyTerm_48 rfl rfl rfl (Nat.le_of_ble_eq_true rfl) fl_RX1_22 ?_
  refine V_iload_n (q := 52) dX1_copyTerm_51 rfl rfl ?_
  obtain ⟨hi17, x16, ex18, h⟩ := rI_ok h
  refine V_iald (k := 8) (q := 53) dX1_copyTerm_52 rfl rfl hi17 ex18 ?_
  obtain ⟨hi21, s19, e20, h⟩ := wI_ok h
  refine V_iast (k := 16) (q := 54) dX1_copyTerm_53 rfl rfl hi21 e20 ?_
  refine V_aload_n (q := 55) dX1_copyTerm_54 rfl rfl ?_
  refine V_getr (k := 12) (j := 5) (q := 58) clz_0 dX1_copyTerm_55 rfl rfl rfl (Nat.le_of_ble_eq_true rfl) fl_RX1_25 ?_
  refine V_iload_n (q := 59) dX1_copyTerm_58 rfl rfl ?_
  refine V_aload_n (q := 60) dX1_copyTerm_59 rfl rfl ?_
  refine V_getr (k := 4) (j := 5) (q := 63) clz_0 dX1_copyTerm_60 rfl rfl rfl (Nat.le_of_ble_eq_true rfl) fl_RX1_25 ?_
  refine V_iload_n (q := 64) dX1_copyTerm_63 rfl rfl ?_
  obtain ⟨hi23, x22, ex24, h⟩ := rI_ok h
  refine V_iald (k := 9) (q := 65) dX1_copyTerm_64 rfl rfl hi23 ex24 ?_
  obtain ⟨hi27, s25, e26, h⟩ := wI_ok h
  refine V_iast (k := 17) (q := 66) dX1_copyTerm_65 rfl rfl hi27 e26 ?_
  cases h
  exact V_vret rfl dX1_copyTerm_66
def M_X1_copyFrom : Mc := (RX1, cX1_copyFrom, 3, { frames := 2, cells := 0, slots := 0, locals := 49 }, none)
theorem ce_X1_copyFrom : Cee M_X1_copyFrom yX1_copyFrom 1 := ⟨cd_yX1_copyFrom, ini_RX1, ⟨by decide +kernel, by decide +kernel, by decide +kernel⟩, rfl, rfl⟩
set_option maxRecDepth 20000 in
theorem w_X1_copyFrom_12_4_L10 {X : Xc} {r : Unit} {σr : Sg} {k : Sg → Option (Unit × Sg)}
    (hk : ∀ (s : Sg), k s = some (r, σr) → V X M_X1_copyFrom (mq X none σr) 29 [some (.ref (ad (xY X) 12)), some (.ref (ad (xY X) 4)), none] [] s) :
    ∀ (n : Nat) (s : Sg) (i2 : Int32), f_X1_copyFrom_12_4_L10 k n s i2 = some (r, σr) → V X M_X1_copyFrom (mq X none σr) 10 [some (.ref (ad (xY X) 12)), some (.ref (ad (xY X) 4)), some (.int i2)] [] s := by
  intro n
  induction n with
  | zero => intro s i2 h; cases h
  | succ n ih =>
    intro s i2 h
    rw [f_X1_copyFrom_12_4_L10] at h
    refine V_iload_n (q := 11) dX1_copyFrom_10 rfl rfl ?_
    refine V_bipush (q := 13) (v := 8) dX1_copyFrom_11 rfl bipush_8 ?_
    refine V_icmp_ge (q := 29) (q2 := 16) dX1_copyFrom_13 rfl rfl (fun hb6 => ?_) (fun hb6 => ?_)
    · replace h := it h hb6
      refine V_msk (L' := [some (.ref (ad (xY X) 12)), some (.ref (ad (xY X) 4)), none]) [true, true, false] rfl ?_
      exact hk (s) h
    · replace h := ie h hb6
      refine V_aload_n (q := 17) dX1_copyFrom_16 rfl rfl ?_
      refine V_aload_n (q := 18) dX1_copyFrom_17 rfl rfl ?_
      refine V_iload_n (q := 19) dX1_copyFrom_18 rfl rfl ?_
      refine V_iload_n (q := 20) dX1_copyFrom_19 rfl rfl ?_
      obtain ⟨x3, s5, hc4, h⟩ := cA_ok h
      refine V_cv0 (k := 12) (q := 23) (As := [.ref (ad (xY X) 4), .int i2, .int i2]) (rest := []) (ct_X1_copyTerm_12_4 (xY X) hc4) ce_X1_copyTerm clz_0 rfl im_yX1_copyTerm se_yX1_copyTerm rfl ml_RX1_35 rfl ⟨Nat.le_of_ble_eq_true rfl, Nat.le_of_ble_eq_true rfl⟩ rfl (Nat.le_of_ble_eq_true rfl) dX1_copyFrom_20 rfl ?_
      refine V_iinc (q := 26) (v := 1) (L' := [some (.ref (ad (xY X) 12)), some (.ref (ad (xY X) 4)), some (.int (i2 + 1))]) dX1_copyFrom_23 rfl rfl iconst_1 (Nat.le_of_ble_eq_true rfl) rfl ?_
      refine V_goto (q := 10) dX1_copyFrom_26 rfl ?_
      exact ih (s5) ((i2 + 1)) h
set_option maxRecDepth 20000 in
theorem ct_X1_copyFrom_12_4 (Y : Yc) {σ : Sg}  {r : Unit} {σr : Sg} (h : f_X1_copyFrom_12_4 σ  = some (r, σr)) : Ct M_X1_copyFrom yX1_copyFrom Y [.ref (ad Y 12), .ref (ad Y 4)] σ none σr := by
  refine Ct_intro [some (.ref (ad Y 12)), some (.ref (ad Y 4)), none] (by decide +kernel) rfl (Nat.le_of_ble_eq_true rfl) rfl (fun X hY => ?_) ⟨rfl, rfl⟩
  subst hY
  unfold f_X1_copyFrom_12_4 at h
  refine V_aload_n (q := 1) dX1_copyFrom_0 rfl rfl ?_
  refine V_aload_n (q := 2) dX1_copyFrom_1 rfl rfl ?_
  refine V_geti (k := 4) (j := 0) (q := 5) clz_0 dX1_copyFrom_2 rfl rfl rfl (Nat.le_of_ble_eq_true rfl) fl_RX1_31 ?_
  obtain ⟨s1, e2, h⟩ := pI_ok h
  refine V_puti (k := 12) (j := 0) (q := 8) clz_0 .int (by decide +kernel) rfl rfl rfl dX1_copyFrom_5 rfl rfl rfl (Nat.le_of_ble_eq_true rfl) fl_RX1_31 e2 ?_
  refine V_iconst (q := 9) (v := 0) dX1_copyFrom_8 rfl iconst_0 ?_
  refine V_istore_n (q := 10) (L' := [some (.ref (ad (xY X) 12)), some (.ref (ad (xY X) 4)), some (.int 0)]) dX1_copyFrom_9 rfl (Nat.le_of_ble_eq_true rfl) rfl ?_
  refine w_X1_copyFrom_12_4_L10 (fun s7 h => ?_) fu (s1) (0) h
  refine V_aload_n (q := 30) dX1_copyFrom_29 rfl rfl ?_
  refine V_aload_n (q := 31) dX1_copyFrom_30 rfl rfl ?_
  refine V_geti (k := 4) (j := 6) (q := 34) clz_0 dX1_copyFrom_31 rfl rfl rfl (Nat.le_of_ble_eq_true rfl) fl_RX1_39 ?_
  obtain ⟨s8, e9, h⟩ := pI_ok h
  refine V_puti (k := 12) (j := 6) (q := 37) clz_0 .int (by decide +kernel) rfl rfl rfl dX1_copyFrom_34 rfl rfl rfl (Nat.le_of_ble_eq_true rfl) fl_RX1_39 e9 ?_
  refine V_aload_n (q := 38) dX1_copyFrom_37 rfl rfl ?_
  refine V_getr (k := 4) (j := 7) (q := 41) clz_0 dX1_copyFrom_38 rfl rfl rfl (Nat.le_of_ble_eq_true rfl) fl_RX1_28 ?_
  refine V_iconst (q := 42) (v := 0) dX1_copyFrom_41 rfl iconst_0 ?_
  refine V_aload_n (q := 43) dX1_copyFrom_42 rfl rfl ?_
  refine V_getr (k := 12) (j := 7) (q := 46) clz_0 dX1_copyFrom_43 rfl rfl rfl (Nat.le_of_ble_eq_true rfl) fl_RX1_28 ?_
  refine V_iconst (q := 47) (v := 0) dX1_copyFrom_46 rfl iconst_0 ?_
  refine V_iconst (q := 48) (v := 5) dX1_copyFrom_47 rfl iconst_5 ?_
  obtain ⟨hi12, s10, e11, h⟩ := xL4_ok h
  refine V_cpyl (k0 := 10) (k1 := 18) (q := 51) ml_RX1_42 dX1_copyFrom_48 rfl rfl rfl hi12.1 hi12.2.1 hi12.2.2.1 hi12.2.2.2.1 hi12.2.2.2.2 (Nat.le_of_ble_eq_true rfl) (Nat.le_of_ble_eq_true rfl) e11 ?_
  cases h
  exact V_vret rfl dX1_copyFrom_51
set_option maxRecDepth 20000 in
theorem ct_X1_copyTerm_19_4 (Y : Yc) {σ : Sg} {a1 : Int32} {a2 : Int32} {r : Unit} {σr : Sg} (h : f_X1_copyTerm_19_4 σ a1 a2 = some (r, σr)) : Ct M_X1_copyTerm yX1_copyTerm Y [.ref (ad Y 19), .ref (ad Y 4), .int a1, .int a2] σ none σr := by
  refine Ct_intro [some (.ref (ad Y 19)), some (.ref (ad Y 4)), some (.int a1), some (.int a2)] (by decide +kernel) rfl (Nat.le_of_ble_eq_true rfl) rfl (fun X hY => ?_) ⟨rfl, rfl⟩
  subst hY
  unfold f_X1_copyTerm_19_4 at h
  refine V_aload_n (q := 1) dX1_copyTerm_0 rfl rfl ?_
  refine V_getr (k := 4) (j := 1) (q := 4) clz_0 dX1_copyTerm_1 rfl rfl rfl (Nat.le_of_ble_eq_true rfl) fl_RX1_11 ?_
  refine V_iload_n (q := 5) dX1_copyTerm_4 rfl rfl ?_
  refine V_iconst (q := 6) (v := 4) dX1_copyTerm_5 rfl iconst_4 ?_
  refine V_imul (q := 7) dX1_copyTerm_6 rfl ?_
  refine V_aload_n (q := 8) dX1_copyTerm_7 rfl rfl ?_
  refine V_getr (k := 19) (j := 1) (q := 11) clz_0 dX1_copyTerm_8 rfl rfl rfl (Nat.le_of_ble_eq_true rfl) fl_RX1_11 ?_
  refine V_iload_n (q := 12) dX1_copyTerm_11 rfl rfl ?_
  refine V_iconst (q := 13) (v := 4) dX1_copyTerm_12 rfl iconst_4 ?_
  refine V_imul (q := 14) dX1_copyTerm_13 rfl ?_
  refine V_iconst (q := 15) (v := 4) dX1_copyTerm_14 rfl iconst_4 ?_
  obtain ⟨hi3, s1, e2, h⟩ := xL4_ok h
  refine V_cpyl (k0 := 5) (k1 := 20) (q := 18) ml_RX1_42 dX1_copyTerm_15 rfl rfl rfl hi3.1 hi3.2.1 hi3.2.2.1 hi3.2.2.2.1 hi3.2.2.2.2 (Nat.le_of_ble_eq_true rfl) (Nat.le_of_ble_eq_true rfl) e2 ?_
  refine V_aload_n (q := 19) dX1_copyTerm_18 rfl rfl ?_
  refine V_getr (k := 19) (j := 2) (q := 22) clz_0 dX1_copyTerm_19 rfl rfl rfl (Nat.le_of_ble_eq_true rfl) fl_RX1_15 ?_
  refine V_iload_n (q := 23) dX1_copyTerm_22 rfl rfl ?_
  refine V_aload_n (q := 24) dX1_copyTerm_23 rfl rfl ?_
  refine V_getr (k := 4) (j := 2) (q := 27) clz_0 dX1_copyTerm_24 rfl rfl rfl (Nat.le_of_ble_eq_true rfl) fl_RX1_15 ?_
  refine V_iload_n (q := 28) dX1_copyTerm_27 rfl rfl ?_
  obtain ⟨hi5, x4, ex6, h⟩ := rI_ok h
  refine V_iald (k := 6) (q := 29) dX1_copyTerm_28 rfl rfl hi5 ex6 ?_
  obtain ⟨hi9, s7, e8, h⟩ := wI_ok h
  refine V_iast (k := 21) (q := 30) dX1_copyTerm_29 rfl rfl hi9 e8 ?_
  refine V_aload_n (q := 31) dX1_copyTerm_30 rfl rfl ?_
  refine V_getr (k := 19) (j := 3) (q := 34) clz_0 dX1_copyTerm_31 rfl rfl rfl (Nat.le_of_ble_eq_true rfl) fl_RX1_19 ?_
  refine V_iload_n (q := 35) dX1_copyTerm_34 rfl rfl ?_
  refine V_aload_n (q := 36) dX1_copyTerm_35 rfl rfl ?_
  refine V_getr (k := 4) (j := 3) (q := 39) clz_0 dX1_copyTerm_36 rfl rfl rfl (Nat.le_of_ble_eq_true rfl) fl_RX1_19 ?_
  refine V_iload_n (q := 40) dX1_copyTerm_39 rfl rfl ?_
  obtain ⟨hi11, x10, ex12, h⟩ := rI_ok h
  refine V_iald (k := 7) (q := 41) dX1_copyTerm_40 rfl rfl hi11 ex12 ?_
  obtain ⟨hi15, s13, e14, h⟩ := wI_ok h
  refine V_iast (k := 22) (q := 42) dX1_copyTerm_41 rfl rfl hi15 e14 ?_
  refine V_aload_n (q := 43) dX1_copyTerm_42 rfl rfl ?_
  refine V_getr (k := 19) (j := 4) (q := 46) clz_0 dX1_copyTerm_43 rfl rfl rfl (Nat.le_of_ble_eq_true rfl) fl_RX1_22 ?_
  refine V_iload_n (q := 47) dX1_copyTerm_46 rfl rfl ?_
  refine V_aload_n (q := 48) dX1_copyTerm_47 rfl rfl ?_
  refine V_getr (k := 4) (j := 4) (q := 51) clz_0 dX1_copyTerm_48 rfl rfl rfl (Nat.le_of_ble_eq_true rfl) fl_RX1_22 ?_
  refine V_iload_n (q := 52) dX1_copyTerm_51 rfl rfl ?_
  obtain ⟨hi17, x16, ex18, h⟩ := rI_ok h
  refine V_iald (k := 8) (q := 53) dX1_copyTerm_52 rfl rfl hi17 ex18 ?_
  obtain ⟨hi21, s19, e20, h⟩ := wI_ok h
  refine V_iast (k := 23) (q := 54) dX1_copyTerm_53 rfl rfl hi21 e20 ?_
  refine V_aload_n (q := 55) dX1_copyTerm_54 rfl rfl ?_
  refine V_getr (k := 19) (j := 5) (q := 58) clz_0 dX1_copyTerm_55 rfl rfl rfl (Nat.le_of_ble_eq_true rfl) fl_RX1_25 ?_
  refine V_iload_n (q := 59) dX1_copyTerm_58 rfl rfl ?_
  refine V_aload_n (q := 60) dX1_copyTerm_59 rfl rfl ?_
  refine V_getr (k := 4) (j := 5) (q := 63) clz_0 dX1_copyTerm_60 rfl rfl rfl (Nat.le_of_ble_eq_true rfl) fl_RX1_25 ?_
  refine V_iload_n (q := 64) dX1_copyTerm_63 rfl rfl ?_
  obtain ⟨hi23, x22, ex24, h⟩ := rI_ok h
  refine V_iald (k := 9) (q := 65) dX1_copyTerm_64 rfl rfl hi23 ex24 ?_
  obtain ⟨hi27, s25, e26, h⟩ := wI_ok h
  refine V_iast (k := 24) (q := 66) dX1_copyTerm_65 rfl rfl hi27 e26 ?_
  cases h
  exact V_vret rfl dX1_copyTerm_66
set_option maxRecDepth 20000 in
theorem w_X1_copyFrom_19_4_L10 {X : Xc} {r : Unit} {σr : Sg} {k : Sg → Option (Unit × Sg)}
    (hk : ∀ (s : Sg), k s = some (r, σr) → V X M_X1_copyFrom (mq X none σr) 29 [some (.ref (ad (xY X) 19)), some (.ref (ad (xY X) 4)), none] [] s) :
    ∀ (n : Nat) (s : Sg) (i2 : Int32), f_X1_copyFrom_19_4_L10 k n s i2 = some (r, σr) → V X M_X1_copyFrom (mq X none σr) 10 [some (.ref (ad (xY X) 19)), some (.ref (ad (xY X) 4)), some (.int i2)] [] s := by
  intro n
  induction n with
  | zero => intro s i2 h; cases h
  | succ n ih =>
    intro s i2 h
    rw [f_X1_copyFrom_19_4_L10] at h
    refine V_iload_n (q := 11) dX1_copyFrom_10 rfl rfl ?_
    refine V_bipush (q := 13) (v := 8) dX1_copyFrom_11 rfl bipush_8 ?_
    refine V_icmp_ge (q := 29) (q2 := 16) dX1_copyFrom_13 rfl rfl (fun hb6 => ?_) (fun hb6 => ?_)
    · replace h := it h hb6
      refine V_msk (L' := [some (.ref (ad (xY X) 19)), some (.ref (ad (xY X) 4)), none]) [true, true, false] rfl ?_
      exact hk (s) h
    · replace h := ie h hb6
      refine V_aload_n (q := 17) dX1_copyFrom_16 rfl rfl ?_
      refine V_aload_n (q := 18) dX1_copyFrom_17 rfl rfl ?_
      refine V_iload_n (q := 19) dX1_copyFrom_18 rfl rfl ?_
      refine V_iload_n (q := 20) dX1_copyFrom_19 rfl rfl ?_
      obtain ⟨x3, s5, hc4, h⟩ := cA_ok h
      refine V_cv0 (k := 19) (q := 23) (As := [.ref (ad (xY X) 4), .int i2, .int i2]) (rest := []) (ct_X1_copyTerm_19_4 (xY X) hc4) ce_X1_copyTerm clz_0 rfl im_yX1_copyTerm se_yX1_copyTerm rfl ml_RX1_35 rfl ⟨Nat.le_of_ble_eq_true rfl, Nat.le_of_ble_eq_true rfl⟩ rfl (Nat.le_of_ble_eq_true rfl) dX1_copyFrom_20 rfl ?_
      refine V_iinc (q := 26) (v := 1) (L' := [some (.ref (ad (xY X) 19)), some (.ref (ad (xY X) 4)), some (.int (i2 + 1))]) dX1_copyFrom_23 rfl rfl iconst_1 (Nat.le_of_ble_eq_true rfl) rfl ?_
      refine V_goto (q := 10) dX1_copyFrom_26 rfl ?_
      exact ih (s5) ((i2 + 1)) h
set_option maxRecDepth 20000 in
theorem ct_X1_copyFrom_19_4 (Y : Yc) {σ : Sg}  {r : Unit} {σr : Sg} (h : f_X1_copyFrom_19_4 σ  = some (r, σr)) : Ct M_X1_copyFrom yX1_copyFrom Y [.ref (ad Y 19), .ref (ad Y 4)] σ none σr := by
  refine Ct_intro [some (.ref (ad Y 19)), some (.ref (ad Y 4)), none] (by decide +kernel) rfl (Nat.le_of_ble_eq_true rfl) rfl (fun X hY => ?_) ⟨rfl, rfl⟩
  subst hY
  unfold f_X1_copyFrom_19_4 at h
  refine V_aload_n (q := 1) dX1_copyFrom_0 rfl rfl ?_
  refine V_aload_n (q := 2) dX1_copyFrom_1 rfl rfl ?_
  refine V_geti (k := 4) (j := 0) (q := 5) clz_0 dX1_copyFrom_2 rfl rfl rfl (Nat.le_of_ble_eq_true rfl) fl_RX1_31 ?_
  obtain ⟨s1, e2, h⟩ := pI_ok h
  refine V_puti (k := 19) (j := 0) (q := 8) clz_0 .int (by decide +kernel) rfl rfl rfl dX1_copyFrom_5 rfl rfl rfl (Nat.le_of_ble_eq_true rfl) fl_RX1_31 e2 ?_
  refine V_iconst (q := 9) (v := 0) dX1_copyFrom_8 rfl iconst_0 ?_
  refine V_istore_n (q := 10) (L' := [some (.ref (ad (xY X) 19)), some (.ref (ad (xY X) 4)), some (.int 0)]) dX1_copyFrom_9 rfl (Nat.le_of_ble_eq_true rfl) rfl ?_
  refine w_X1_copyFrom_19_4_L10 (fun s7 h => ?_) fu (s1) (0) h
  refine V_aload_n (q := 30) dX1_copyFrom_29 rfl rfl ?_
  refine V_aload_n (q := 31) dX1_copyFrom_30 rfl rfl ?_
  refine V_geti (k := 4) (j := 6) (q := 34) clz_0 dX1_copyFrom_31 rfl rfl rfl (Nat.le_of_ble_eq_true rfl) fl_RX1_39 ?_
  obtain ⟨s8, e9, h⟩ := pI_ok h
  refine V_puti (k := 19) (j := 6) (q := 37) clz_0 .int (by decide +kernel) rfl rfl rfl dX1_copyFrom_34 rfl rfl rfl (Nat.le_of_ble_eq_true rfl) fl_RX1_39 e9 ?_
  refine V_aload_n (q := 38) dX1_copyFrom_37 rfl rfl ?_
  refine V_getr (k := 4) (j := 7) (q := 41) clz_0 dX1_copyFrom_38 rfl rfl rfl (Nat.le_of_ble_eq_true rfl) fl_RX1_28 ?_
  refine V_iconst (q := 42) (v := 0) dX1_copyFrom_41 rfl iconst_0 ?_
  refine V_aload_n (q := 43) dX1_copyFrom_42 rfl rfl ?_
  refine V_getr (k := 19) (j := 7) (q := 46) clz_0 dX1_copyFrom_43 rfl rfl rfl (Nat.le_of_ble_eq_true rfl) fl_RX1_28 ?_
  refine V_iconst (q := 47) (v := 0) dX1_copyFrom_46 rfl iconst_0 ?_
  refine V_iconst (q := 48) (v := 5) dX1_copyFrom_47 rfl iconst_5 ?_
  obtain ⟨hi12, s10, e11, h⟩ := xL4_ok h
  refine V_cpyl (k0 := 10) (k1 := 25) (q := 51) ml_RX1_42 dX1_copyFrom_48 rfl rfl rfl hi12.1 hi12.2.1 hi12.2.2.1 hi12.2.2.2.1 hi12.2.2.2.2 (Nat.le_of_ble_eq_true rfl) (Nat.le_of_ble_eq_true rfl) e11 ?_
  cases h
  exact V_vret rfl dX1_copyFrom_51
def M_X7_keep : Mc := (RX7, cX7_keep, 3, { frames := 3, cells := 0, slots := 0, locals := 71 }, (some .int))
theorem ce_X7_keep : Cee M_X7_keep yX7_keep 1 := ⟨cd_yX7_keep, ini_RX7, ⟨by decide +kernel, by decide +kernel, by decide +kernel⟩, rfl, rfl⟩
set_option maxRecDepth 20000 in
theorem ct_X7_keep (Y : Yc) {σ : Sg} {a1 : Int32} {r : Int32} {σr : Sg} (h : f_X7_keep σ a1 = some (r, σr)) : Ct M_X7_keep yX7_keep Y [.ref (ad Y 0), .int a1] σ (some (.int r)) σr := by
  refine Ct_intro [some (.ref (ad Y 0)), some (.int a1), none] (by decide +kernel) rfl (Nat.le_of_ble_eq_true rfl) rfl (fun X hY => ?_) ⟨rfl, rfl⟩
  subst hY
  unfold f_X7_keep at h
  refine V_aload_n (q := 1) dX7_keep_0 rfl rfl ?_
  refine V_iload_n (q := 2) dX7_keep_1 rfl rfl ?_
  obtain ⟨x1, hc2, h⟩ := cP_ok h
  refine V_cv1 (k := 0) (q := 5) (As := [.int a1]) (rest := []) (ct_X7_imageOf (xY X) hc2) ce_X7_imageOf clz_6 rfl im_yX7_imageOf se_yX7_imageOf rfl ml_RX7_279 rfl ⟨Nat.le_of_ble_eq_true rfl, Nat.le_of_ble_eq_true rfl⟩ rfl (Nat.le_of_ble_eq_true rfl) dX7_keep_2 rfl ?_
  by_cases hb3 : x1 = 12
  · replace h := it h hb3
    subst hb3
    refine V_sg (st := [.ref (ad (xY X) 12)]) rfl ?_
    refine V_astore_n (q := 6) (L' := [some (.ref (ad (xY X) 0)), some (.int a1), some (.ref (ad (xY X) 12))]) dX7_keep_5 rfl (Nat.le_of_ble_eq_true rfl) rfl ?_
    refine V_aload_n (q := 7) dX7_keep_6 rfl rfl ?_
    refine V_ifnonnull (q := 13) dX7_keep_7 rfl ?_
    refine V_aload_n (q := 14) dX7_keep_13 rfl rfl ?_
    refine V_aload_n (q := 15) dX7_keep_14 rfl rfl ?_
    refine V_getr (k := 0) (j := 1) (q := 18) clz_6 dX7_keep_15 rfl rfl rfl (Nat.le_of_ble_eq_true rfl) fl_RX7_19 ?_
    obtain ⟨x4, s6, hc5, h⟩ := cA_ok h
    refine V_cv0 (k := 12) (q := 21) (As := [.ref (ad (xY X) 4)]) (rest := []) (ct_X1_copyFrom_12_4 (xY X) hc5) ce_X1_copyFrom clz_0 rfl im_yX1_copyFrom se_yX1_copyFrom rfl ml_RX7_283 rfl ⟨Nat.le_of_ble_eq_true rfl, Nat.le_of_ble_eq_true rfl⟩ rfl (Nat.le_of_ble_eq_true rfl) dX7_keep_18 rfl ?_
    refine V_aload_n (q := 22) dX7_keep_21 rfl rfl ?_
    refine V_iconst (q := 23) (v := 1) dX7_keep_22 rfl iconst_1 ?_
    obtain ⟨s7, e8, h⟩ := pI_ok h
    refine V_puti (k := 12) (j := 8) (q := 26) clz_0 .boolean (by decide +kernel) rfl rfl rfl dX7_keep_23 rfl rfl rfl (Nat.le_of_ble_eq_true rfl) fl_RX7_287 e8 ?_
    refine V_aload_n (q := 27) dX7_keep_26 rfl rfl ?_
    refine V_getr (k := 0) (j := 1) (q := 30) clz_6 dX7_keep_27 rfl rfl rfl (Nat.le_of_ble_eq_true rfl) fl_RX7_19 ?_
    refine V_geti (k := 4) (j := 0) (q := 33) clz_0 dX7_keep_30 rfl rfl rfl (Nat.le_of_ble_eq_true rfl) fl_RX7_122 ?_
    cases h
    exact V_iret rfl dX7_keep_33
  replace h := ie h hb3
  by_cases hb9 : x1 = 19
  · replace h := it h hb9
    subst hb9
    refine V_sg (st := [.ref (ad (xY X) 19)]) rfl ?_
    refine V_astore_n (q := 6) (L' := [some (.ref (ad (xY X) 0)), some (.int a1), some (.ref (ad (xY X) 19))]) dX7_keep_5 rfl (Nat.le_of_ble_eq_true rfl) rfl ?_
    refine V_aload_n (q := 7) dX7_keep_6 rfl rfl ?_
    refine V_ifnonnull (q := 13) dX7_keep_7 rfl ?_
    refine V_aload_n (q := 14) dX7_keep_13 rfl rfl ?_
    refine V_aload_n (q := 15) dX7_keep_14 rfl rfl ?_
    refine V_getr (k := 0) (j := 1) (q := 18) clz_6 dX7_keep_15 rfl rfl rfl (Nat.le_of_ble_eq_true rfl) fl_RX7_19 ?_
    obtain ⟨x10, s12, hc11, h⟩ := cA_ok h
    refine V_cv0 (k := 19) (q := 21) (As := [.ref (ad (xY X) 4)]) (rest := []) (ct_X1_copyFrom_19_4 (xY X) hc11) ce_X1_copyFrom clz_0 rfl im_yX1_copyFrom se_yX1_copyFrom rfl ml_RX7_283 rfl ⟨Nat.le_of_ble_eq_true rfl, Nat.le_of_ble_eq_true rfl⟩ rfl (Nat.le_of_ble_eq_true rfl) dX7_keep_18 rfl ?_
    refine V_aload_n (q := 22) dX7_keep_21 rfl rfl ?_
    refine V_iconst (q := 23) (v := 1) dX7_keep_22 rfl iconst_1 ?_
    obtain ⟨s13, e14, h⟩ := pI_ok h
    refine V_puti (k := 19) (j := 8) (q := 26) clz_0 .boolean (by decide +kernel) rfl rfl rfl dX7_keep_23 rfl rfl rfl (Nat.le_of_ble_eq_true rfl) fl_RX7_287 e14 ?_
    refine V_aload_n (q := 27) dX7_keep_26 rfl rfl ?_
    refine V_getr (k := 0) (j := 1) (q := 30) clz_6 dX7_keep_27 rfl rfl rfl (Nat.le_of_ble_eq_true rfl) fl_RX7_19 ?_
    refine V_geti (k := 4) (j := 0) (q := 33) clz_0 dX7_keep_30 rfl rfl rfl (Nat.le_of_ble_eq_true rfl) fl_RX7_122 ?_
    cases h
    exact V_iret rfl dX7_keep_33
  replace h := ie h hb9
  by_cases hb15 : x1 = 0
  · replace h := it h hb15
    subst hb15
    refine V_sg (st := [.null]) rfl ?_
    refine V_astoreN_n (q := 6) (L' := [some (.ref (ad (xY X) 0)), some (.int a1), some (.null)]) dX7_keep_5 rfl (Nat.le_of_ble_eq_true rfl) rfl ?_
    refine V_aloadN_n (q := 7) dX7_keep_6 rfl rfl ?_
    refine V_ifnonnullN (q := 10) dX7_keep_7 rfl ?_
    refine V_ldc (q := 12) kc_RX7_114 dX7_keep_10 rfl ?_
    cases h
    exact V_iret rfl dX7_keep_12
  replace h := ie h hb15
  cases h
def M_X8_keep : Mc := (RX8, cX8_keep, 3, { frames := 1, cells := 0, slots := 0, locals := 22 }, (some .int))
theorem ce_X8_keep : Cee M_X8_keep yX8_keep 1 := ⟨cd_yX8_keep, ini_RX8, ⟨by decide +kernel, by decide +kernel, by decide +kernel⟩, rfl, rfl⟩
set_option maxRecDepth 20000 in
theorem w_X8_keep_L14 {X : Xc} {c1 : Int32} {r : Int32} {σr : Sg} {k : Sg → Option (Int32 × Sg)}
    (hk : ∀ (s : Sg), k s = some (r, σr) → V X M_X8_keep (mq X (some (.int r)) σr) 45 [some (.ref (ad (xY X) 43)), some (.int c1), none] [] s) :
    ∀ (n : Nat) (s : Sg) (i2 : Int32), f_X8_keep_L14 k c1 n s i2 = some (r, σr) → V X M_X8_keep (mq X (some (.int r)) σr) 14 [some (.ref (ad (xY X) 43)), some (.int c1), some (.int i2)] [] s := by
  intro n
  induction n with
  | zero => intro s i2 h; cases h
  | succ n ih =>
    intro s i2 h
    rw [f_X8_keep_L14] at h
    refine V_iload_n (q := 15) dX8_keep_14 rfl rfl ?_
    refine V_sipush (q := 18) (v := 475) dX8_keep_15 rfl sipush_475 ?_
    refine V_icmp_ge (q := 45) (q2 := 21) dX8_keep_18 rfl rfl (fun hb9 => ?_) (fun hb9 => ?_)
    · replace h := it h hb9
      refine V_msk (L' := [some (.ref (ad (xY X) 43)), some (.int c1), none]) [true, true, false] rfl ?_
      exact hk (s) h
    · replace h := ie h hb9
      refine V_aload_n (q := 22) dX8_keep_21 rfl rfl ?_
      refine V_getr (k := 43) (j := 1) (q := 25) clz_7 dX8_keep_22 rfl rfl rfl (Nat.le_of_ble_eq_true rfl) fl_RX8_13 ?_
      refine V_sipush (q := 28) (v := 475) dX8_keep_25 rfl sipush_475 ?_
      refine V_iload_n (q := 29) dX8_keep_28 rfl rfl ?_
      refine V_imul (q := 30) dX8_keep_29 rfl ?_
      refine V_iload_n (q := 31) dX8_keep_30 rfl rfl ?_
      refine V_iadd (q := 32) dX8_keep_31 rfl ?_
      refine V_aload_n (q := 33) dX8_keep_32 rfl rfl ?_
      refine V_getr (k := 43) (j := 0) (q := 36) clz_7 dX8_keep_33 rfl rfl rfl (Nat.le_of_ble_eq_true rfl) fl_RX8_7 ?_
      refine V_iload_n (q := 37) dX8_keep_36 rfl rfl ?_
      obtain ⟨hi4, x3, ex5, h⟩ := rI_ok h
      refine V_iald (k := 44) (q := 38) dX8_keep_37 rfl rfl hi4 ex5 ?_
      obtain ⟨hi8, s6, e7, h⟩ := wI_ok h
      refine V_iast (k := 45) (q := 39) dX8_keep_38 rfl rfl hi8 e7 ?_
      refine V_iinc (q := 42) (v := 1) (L' := [some (.ref (ad (xY X) 43)), some (.int c1), some (.int (i2 + 1))]) dX8_keep_39 rfl rfl iconst_1 (Nat.le_of_ble_eq_true rfl) rfl ?_
      refine V_goto (q := 14) dX8_keep_42 rfl ?_
      exact ih (s6) ((i2 + 1)) h
set_option maxRecDepth 20000 in
theorem ct_X8_keep (Y : Yc) {σ : Sg} {a1 : Int32} {r : Int32} {σr : Sg} (h : f_X8_keep σ a1 = some (r, σr)) : Ct M_X8_keep yX8_keep Y [.ref (ad Y 43), .int a1] σ (some (.int r)) σr := by
  refine Ct_intro [some (.ref (ad Y 43)), some (.int a1), none] (by decide +kernel) rfl (Nat.le_of_ble_eq_true rfl) rfl (fun X hY => ?_) ⟨rfl, rfl⟩
  subst hY
  unfold f_X8_keep at h
  refine V_iload_n (q := 1) dX8_keep_0 rfl rfl ?_
  refine V_iconst (q := 2) (v := 0) dX8_keep_1 rfl iconst_0 ?_
  refine V_iconst (q := 3) (v := 1) dX8_keep_2 rfl iconst_1 ?_
  obtain ⟨x1, hc2, h⟩ := cP_ok h
  refine V_cs1 (q := 6) (As := [.int a1, .int 0, .int 1]) (rest := []) (ct_X8_in (xY X) hc2) ce_X8_in st_yX8_in ml_RX8_44 rfl ⟨Nat.le_of_ble_eq_true rfl, Nat.le_of_ble_eq_true rfl⟩ rfl (Nat.le_of_ble_eq_true rfl) dX8_keep_3 rfl ?_
  refine V_if_ne (q := 12) (q2 := 9) dX8_keep_6 rfl rfl (fun hb17 => ?_) (fun hb17 => ?_)
  · replace h := ie h hb17
    refine V_iconst (q := 13) (v := 0) dX8_keep_12 rfl iconst_0 ?_
    refine V_istore_n (q := 14) (L' := [some (.ref (ad (xY X) 43)), some (.int a1), some (.int 0)]) dX8_keep_13 rfl (Nat.le_of_ble_eq_true rfl) rfl ?_
    refine w_X8_keep_L14 (fun s10 h => ?_) fu (σ) (0) h
    refine V_aload_n (q := 46) dX8_keep_45 rfl rfl ?_
    refine V_getr (k := 43) (j := 2) (q := 49) clz_7 dX8_keep_46 rfl rfl rfl (Nat.le_of_ble_eq_true rfl) fl_RX8_16 ?_
    refine V_iload_n (q := 50) dX8_keep_49 rfl rfl ?_
    refine V_iconst (q := 51) (v := 1) dX8_keep_50 rfl iconst_1 ?_
    obtain ⟨hi13, s11, e12, h⟩ := wI_ok h
    refine V_zast (k := 46) (q := 52) dX8_keep_51 rfl rfl hi13 e12 ?_
    refine V_aload_n (q := 53) dX8_keep_52 rfl rfl ?_
    refine V_getr (k := 43) (j := 0) (q := 56) clz_7 dX8_keep_53 rfl rfl rfl (Nat.le_of_ble_eq_true rfl) fl_RX8_7 ?_
    refine V_iconst (q := 57) (v := 0) dX8_keep_56 rfl iconst_0 ?_
    obtain ⟨hi15, x14, ex16, h⟩ := rI_ok h
    refine V_iald (k := 44) (q := 58) dX8_keep_57 rfl rfl hi15 ex16 ?_
    cases h
    exact V_iret rfl dX8_keep_58
  · replace h := it h hb17
    refine V_ldc (q := 11) kc_RX8_88 dX8_keep_9 rfl ?_
    cases h
    exact V_iret rfl dX8_keep_11
set_option maxRecDepth 20000 in
theorem ct_X1_copyTerm_4_12 (Y : Yc) {σ : Sg} {a1 : Int32} {a2 : Int32} {r : Unit} {σr : Sg} (h : f_X1_copyTerm_4_12 σ a1 a2 = some (r, σr)) : Ct M_X1_copyTerm yX1_copyTerm Y [.ref (ad Y 4), .ref (ad Y 12), .int a1, .int a2] σ none σr := by
  refine Ct_intro [some (.ref (ad Y 4)), some (.ref (ad Y 12)), some (.int a1), some (.int a2)] (by decide +kernel) rfl (Nat.le_of_ble_eq_true rfl) rfl (fun X hY => ?_) ⟨rfl, rfl⟩
  subst hY
  unfold f_X1_copyTerm_4_12 at h
  refine V_aload_n (q := 1) dX1_copyTerm_0 rfl rfl ?_
  refine V_getr (k := 12) (j := 1) (q := 4) clz_0 dX1_copyTerm_1 rfl rfl rfl (Nat.le_of_ble_eq_true rfl) fl_RX1_11 ?_
  refine V_iload_n (q := 5) dX1_copyTerm_4 rfl rfl ?_
  refine V_iconst (q := 6) (v := 4) dX1_copyTerm_5 rfl iconst_4 ?_
  refine V_imul (q := 7) dX1_copyTerm_6 rfl ?_
  refine V_aload_n (q := 8) dX1_copyTerm_7 rfl rfl ?_
  refine V_getr (k := 4) (j := 1) (q := 11) clz_0 dX1_copyTerm_8 rfl rfl rfl (Nat.le_of_ble_eq_true rfl) fl_RX1_11 ?_
  refine V_iload_n (q := 12) dX1_copyTerm_11 rfl rfl ?_
  refine V_iconst (q := 13) (v := 4) dX1_copyTerm_12 rfl iconst_4 ?_
  refine V_imul (q := 14) dX1_copyTerm_13 rfl ?_
  refine V_iconst (q := 15) (v := 4) dX1_copyTerm_14 rfl iconst_4 ?_
  obtain ⟨hi3, s1, e2, h⟩ := xL4_ok h
  refine V_cpyl (k0 := 13) (k1 := 5) (q := 18) ml_RX1_42 dX1_copyTerm_15 rfl rfl rfl hi3.1 hi3.2.1 hi3.2.2.1 hi3.2.2.2.1 hi3.2.2.2.2 (Nat.le_of_ble_eq_true rfl) (Nat.le_of_ble_eq_true rfl) e2 ?_
  refine V_aload_n (q := 19) dX1_copyTerm_18 rfl rfl ?_
  refine V_getr (k := 4) (j := 2) (q := 22) clz_0 dX1_copyTerm_19 rfl rfl rfl (Nat.le_of_ble_eq_true rfl) fl_RX1_15 ?_
  refine V_iload_n (q := 23) dX1_copyTerm_22 rfl rfl ?_
  refine V_aload_n (q := 24) dX1_copyTerm_23 rfl rfl ?_
  refine V_getr (k := 12) (j := 2) (q := 27) clz_0 dX1_copyTerm_24 rfl rfl rfl (Nat.le_of_ble_eq_true rfl) fl_RX1_15 ?_
  refine V_iload_n (q := 28) dX1_copyTerm_27 rfl rfl ?_
  obtain ⟨hi5, x4, ex6, h⟩ := rI_ok h
  refine V_iald (k := 14) (q := 29) dX1_copyTerm_28 rfl rfl hi5 ex6 ?_
  obtain ⟨hi9, s7, e8, h⟩ := wI_ok h
  refine V_iast (k := 6) (q := 30) dX1_copyTerm_29 rfl rfl hi9 e8 ?_
  refine V_aload_n (q := 31) dX1_copyTerm_30 rfl rfl ?_
  refine V_getr (k := 4) (j := 3) (q := 34) clz_0 dX1_copyTerm_31 rfl rfl rfl (Nat.le_of_ble_eq_true rfl) fl_RX1_19 ?_
  refine V_iload_n (q := 35) dX1_copyTerm_34 rfl rfl ?_
  refine V_aload_n (q := 36) dX1_copyTerm_35 rfl rfl ?_
  refine V_getr (k := 12) (j := 3) (q := 39) clz_0 dX1_copyTerm_36 rfl rfl rfl (Nat.le_of_ble_eq_true rfl) fl_RX1_19 ?_
  refine V_iload_n (q := 40) dX1_copyTerm_39 rfl rfl ?_
  obtain ⟨hi11, x10, ex12, h⟩ := rI_ok h
  refine V_iald (k := 15) (q := 41) dX1_copyTerm_40 rfl rfl hi11 ex12 ?_
  obtain ⟨hi15, s13, e14, h⟩ := wI_ok h
  refine V_iast (k := 7) (q := 42) dX1_copyTerm_41 rfl rfl hi15 e14 ?_
  refine V_aload_n (q := 43) dX1_copyTerm_42 rfl rfl ?_
  refine V_getr (k := 4) (j := 4) (q := 46) clz_0 dX1_copyTerm_43 rfl rfl rfl (Nat.le_of_ble_eq_true rfl) fl_RX1_22 ?_
  refine V_iload_n (q := 47) dX1_copyTerm_46 rfl rfl ?_
  refine V_aload_n (q := 48) dX1_copyTerm_47 rfl rfl ?_
  refine V_getr (k := 12) (j := 4) (q := 51) clz_0 dX1_copyTerm_48 rfl rfl rfl (Nat.le_of_ble_eq_true rfl) fl_RX1_22 ?_
  refine V_iload_n (q := 52) dX1_copyTerm_51 rfl rfl ?_
  obtain ⟨hi17, x16, ex18, h⟩ := rI_ok h
  refine V_iald (k := 16) (q := 53) dX1_copyTerm_52 rfl rfl hi17 ex18 ?_
  obtain ⟨hi21, s19, e20, h⟩ := wI_ok h
  refine V_iast (k := 8) (q := 54) dX1_copyTerm_53 rfl rfl hi21 e20 ?_
  refine V_aload_n (q := 55) dX1_copyTerm_54 rfl rfl ?_
  refine V_getr (k := 4) (j := 5) (q := 58) clz_0 dX1_copyTerm_55 rfl rfl rfl (Nat.le_of_ble_eq_true rfl) fl_RX1_25 ?_
  refine V_iload_n (q := 59) dX1_copyTerm_58 rfl rfl ?_
  refine V_aload_n (q := 60) dX1_copyTerm_59 rfl rfl ?_
  refine V_getr (k := 12) (j := 5) (q := 63) clz_0 dX1_copyTerm_60 rfl rfl rfl (Nat.le_of_ble_eq_true rfl) fl_RX1_25 ?_
  refine V_iload_n (q := 64) dX1_copyTerm_63 rfl rfl ?_
  obtain ⟨hi23, x22, ex24, h⟩ := rI_ok h
  refine V_iald (k := 17) (q := 65) dX1_copyTerm_64 rfl rfl hi23 ex24 ?_
  obtain ⟨hi27, s25, e26, h⟩ := wI_ok h
  refine V_iast (k := 9) (q := 66) dX1_copyTerm_65 rfl rfl hi27 e26 ?_
  cases h
  exact V_vret rfl dX1_copyTerm_66
set_option maxRecDepth 20000 in
theorem w_X1_copyFrom_4_12_L10 {X : Xc} {r : Unit} {σr : Sg} {k : Sg → Option (Unit × Sg)}
    (hk : ∀ (s : Sg), k s = some (r, σr) → V X M_X1_copyFrom (mq X none σr) 29 [some (.ref (ad (xY X) 4)), some (.ref (ad (xY X) 12)), none] [] s) :
    ∀ (n : Nat) (s : Sg) (i2 : Int32), f_X1_copyFrom_4_12_L10 k n s i2 = some (r, σr) → V X M_X1_copyFrom (mq X none σr) 10 [some (.ref (ad (xY X) 4)), some (.ref (ad (xY X) 12)), some (.int i2)] [] s := by
  intro n
  induction n with
  | zero => intro s i2 h; cases h
  | succ n ih =>
    intro s i2 h
    rw [f_X1_copyFrom_4_12_L10] at h
    refine V_iload_n (q := 11) dX1_copyFrom_10 rfl rfl ?_
    refine V_bipush (q := 13) (v := 8) dX1_copyFrom_11 rfl bipush_8 ?_
    refine V_icmp_ge (q := 29) (q2 := 16) dX1_copyFrom_13 rfl rfl (fun hb6 => ?_) (fun hb6 => ?_)
    · replace h := it h hb6
      refine V_msk (L' := [some (.ref (ad (xY X) 4)), some (.ref (ad (xY X) 12)), none]) [true, true, false] rfl ?_
      exact hk (s) h
    · replace h := ie h hb6
      refine V_aload_n (q := 17) dX1_copyFrom_16 rfl rfl ?_
      refine V_aload_n (q := 18) dX1_copyFrom_17 rfl rfl ?_
      refine V_iload_n (q := 19) dX1_copyFrom_18 rfl rfl ?_
      refine V_iload_n (q := 20) dX1_copyFrom_19 rfl rfl ?_
      obtain ⟨x3, s5, hc4, h⟩ := cA_ok h
      refine V_cv0 (k := 4) (q := 23) (As := [.ref (ad (xY X) 12), .int i2, .int i2]) (rest := []) (ct_X1_copyTerm_4_12 (xY X) hc4) ce_X1_copyTerm clz_0 rfl im_yX1_copyTerm se_yX1_copyTerm rfl ml_RX1_35 rfl ⟨Nat.le_of_ble_eq_true rfl, Nat.le_of_ble_eq_true rfl⟩ rfl (Nat.le_of_ble_eq_true rfl) dX1_copyFrom_20 rfl ?_
      refine V_iinc (q := 26) (v := 1) (L' := [some (.ref (ad (xY X) 4)), some (.ref (ad (xY X) 12)), some (.int (i2 + 1))]) dX1_copyFrom_23 rfl rfl iconst_1 (Nat.le_of_ble_eq_true rfl) rfl ?_
      refine V_goto (q := 10) dX1_copyFrom_26 rfl ?_
      exact ih (s5) ((i2 + 1)) h
set_option maxRecDepth 20000 in
theorem ct_X1_copyFrom_4_12 (Y : Yc) {σ : Sg}  {r : Unit} {σr : Sg} (h : f_X1_copyFrom_4_12 σ  = some (r, σr)) : Ct M_X1_copyFrom yX1_copyFrom Y [.ref (ad Y 4), .ref (ad Y 12)] σ none σr := by
  refine Ct_intro [some (.ref (ad Y 4)), some (.ref (ad Y 12)), none] (by decide +kernel) rfl (Nat.le_of_ble_eq_true rfl) rfl (fun X hY => ?_) ⟨rfl, rfl⟩
  subst hY
  unfold f_X1_copyFrom_4_12 at h
  refine V_aload_n (q := 1) dX1_copyFrom_0 rfl rfl ?_
  refine V_aload_n (q := 2) dX1_copyFrom_1 rfl rfl ?_
  refine V_geti (k := 12) (j := 0) (q := 5) clz_0 dX1_copyFrom_2 rfl rfl rfl (Nat.le_of_ble_eq_true rfl) fl_RX1_31 ?_
  obtain ⟨s1, e2, h⟩ := pI_ok h
  refine V_puti (k := 4) (j := 0) (q := 8) clz_0 .int (by decide +kernel) rfl rfl rfl dX1_copyFrom_5 rfl rfl rfl (Nat.le_of_ble_eq_true rfl) fl_RX1_31 e2 ?_
  refine V_iconst (q := 9) (v := 0) dX1_copyFrom_8 rfl iconst_0 ?_
  refine V_istore_n (q := 10) (L' := [some (.ref (ad (xY X) 4)), some (.ref (ad (xY X) 12)), some (.int 0)]) dX1_copyFrom_9 rfl (Nat.le_of_ble_eq_true rfl) rfl ?_
  refine w_X1_copyFrom_4_12_L10 (fun s7 h => ?_) fu (s1) (0) h
  refine V_aload_n (q := 30) dX1_copyFrom_29 rfl rfl ?_
  refine V_aload_n (q := 31) dX1_copyFrom_30 rfl rfl ?_
  refine V_geti (k := 12) (j := 6) (q := 34) clz_0 dX1_copyFrom_31 rfl rfl rfl (Nat.le_of_ble_eq_true rfl) fl_RX1_39 ?_
  obtain ⟨s8, e9, h⟩ := pI_ok h
  refine V_puti (k := 4) (j := 6) (q := 37) clz_0 .int (by decide +kernel) rfl rfl rfl dX1_copyFrom_34 rfl rfl rfl (Nat.le_of_ble_eq_true rfl) fl_RX1_39 e9 ?_
  refine V_aload_n (q := 38) dX1_copyFrom_37 rfl rfl ?_
  refine V_getr (k := 12) (j := 7) (q := 41) clz_0 dX1_copyFrom_38 rfl rfl rfl (Nat.le_of_ble_eq_true rfl) fl_RX1_28 ?_
  refine V_iconst (q := 42) (v := 0) dX1_copyFrom_41 rfl iconst_0 ?_
  refine V_aload_n (q := 43) dX1_copyFrom_42 rfl rfl ?_
  refine V_getr (k := 4) (j := 7) (q := 46) clz_0 dX1_copyFrom_43 rfl rfl rfl (Nat.le_of_ble_eq_true rfl) fl_RX1_28 ?_
  refine V_iconst (q := 47) (v := 0) dX1_copyFrom_46 rfl iconst_0 ?_
  refine V_iconst (q := 48) (v := 5) dX1_copyFrom_47 rfl iconst_5 ?_
  obtain ⟨hi12, s10, e11, h⟩ := xL4_ok h
  refine V_cpyl (k0 := 18) (k1 := 10) (q := 51) ml_RX1_42 dX1_copyFrom_48 rfl rfl rfl hi12.1 hi12.2.1 hi12.2.2.1 hi12.2.2.2.1 hi12.2.2.2.2 (Nat.le_of_ble_eq_true rfl) (Nat.le_of_ble_eq_true rfl) e11 ?_
  cases h
  exact V_vret rfl dX1_copyFrom_51
set_option maxRecDepth 20000 in
theorem ct_X1_copyTerm_4_19 (Y : Yc) {σ : Sg} {a1 : Int32} {a2 : Int32} {r : Unit} {σr : Sg} (h : f_X1_copyTerm_4_19 σ a1 a2 = some (r, σr)) : Ct M_X1_copyTerm yX1_copyTerm Y [.ref (ad Y 4), .ref (ad Y 19), .int a1, .int a2] σ none σr := by
  refine Ct_intro [some (.ref (ad Y 4)), some (.ref (ad Y 19)), some (.int a1), some (.int a2)] (by decide +kernel) rfl (Nat.le_of_ble_eq_true rfl) rfl (fun X hY => ?_) ⟨rfl, rfl⟩
  subst hY
  unfold f_X1_copyTerm_4_19 at h
  refine V_aload_n (q := 1) dX1_copyTerm_0 rfl rfl ?_
  refine V_getr (k := 19) (j := 1) (q := 4) clz_0 dX1_copyTerm_1 rfl rfl rfl (Nat.le_of_ble_eq_true rfl) fl_RX1_11 ?_
  refine V_iload_n (q := 5) dX1_copyTerm_4 rfl rfl ?_
  refine V_iconst (q := 6) (v := 4) dX1_copyTerm_5 rfl iconst_4 ?_
  refine V_imul (q := 7) dX1_copyTerm_6 rfl ?_
  refine V_aload_n (q := 8) dX1_copyTerm_7 rfl rfl ?_
  refine V_getr (k := 4) (j := 1) (q := 11) clz_0 dX1_copyTerm_8 rfl rfl rfl (Nat.le_of_ble_eq_true rfl) fl_RX1_11 ?_
  refine V_iload_n (q := 12) dX1_copyTerm_11 rfl rfl ?_
  refine V_iconst (q := 13) (v := 4) dX1_copyTerm_12 rfl iconst_4 ?_
  refine V_imul (q := 14) dX1_copyTerm_13 rfl ?_
  refine V_iconst (q := 15) (v := 4) dX1_copyTerm_14 rfl iconst_4 ?_
  obtain ⟨hi3, s1, e2, h⟩ := xL4_ok h
  refine V_cpyl (k0 := 20) (k1 := 5) (q := 18) ml_RX1_42 dX1_copyTerm_15 rfl rfl rfl hi3.1 hi3.2.1 hi3.2.2.1 hi3.2.2.2.1 hi3.2.2.2.2 (Nat.le_of_ble_eq_true rfl) (Nat.le_of_ble_eq_true rfl) e2 ?_
  refine V_aload_n (q := 19) dX1_copyTerm_18 rfl rfl ?_
  refine V_getr (k := 4) (j := 2) (q := 22) clz_0 dX1_copyTerm_19 rfl rfl rfl (Nat.le_of_ble_eq_true rfl) fl_RX1_15 ?_
  refine V_iload_n (q := 23) dX1_copyTerm_22 rfl rfl ?_
  refine V_aload_n (q := 24) dX1_copyTerm_23 rfl rfl ?_
  refine V_getr (k := 19) (j := 2) (q := 27) clz_0 dX1_copyTerm_24 rfl rfl rfl (Nat.le_of_ble_eq_true rfl) fl_RX1_15 ?_
  refine V_iload_n (q := 28) dX1_copyTerm_27 rfl rfl ?_
  obtain ⟨hi5, x4, ex6, h⟩ := rI_ok h
  refine V_iald (k := 21) (q := 29) dX1_copyTerm_28 rfl rfl hi5 ex6 ?_
  obtain ⟨hi9, s7, e8, h⟩ := wI_ok h
  refine V_iast (k := 6) (q := 30) dX1_copyTerm_29 rfl rfl hi9 e8 ?_
  refine V_aload_n (q := 31) dX1_copyTerm_30 rfl rfl ?_
  refine V_getr (k := 4) (j := 3) (q := 34) clz_0 dX1_copyTerm_31 rfl rfl rfl (Nat.le_of_ble_eq_true rfl) fl_RX1_19 ?_
  refine V_iload_n (q := 35) dX1_copyTerm_34 rfl rfl ?_
  refine V_aload_n (q := 36) dX1_copyTerm_35 rfl rfl ?_
  refine V_getr (k := 19) (j := 3) (q := 39) clz_0 dX1_copyTerm_36 rfl rfl rfl (Nat.le_of_ble_eq_true rfl) fl_RX1_19 ?_
  refine V_iload_n (q := 40) dX1_copyTerm_39 rfl rfl ?_
  obtain ⟨hi11, x10, ex12, h⟩ := rI_ok h
  refine V_iald (k := 22) (q := 41) dX1_copyTerm_40 rfl rfl hi11 ex12 ?_
  obtain ⟨hi15, s13, e14, h⟩ := wI_ok h
  refine V_iast (k := 7) (q := 42) dX1_copyTerm_41 rfl rfl hi15 e14 ?_
  refine V_aload_n (q := 43) dX1_copyTerm_42 rfl rfl ?_
  refine V_getr (k := 4) (j := 4) (q := 46) clz_0 dX1_copyTerm_43 rfl rfl rfl (Nat.le_of_ble_eq_true rfl) fl_RX1_22 ?_
  refine V_iload_n (q := 47) dX1_copyTerm_46 rfl rfl ?_
  refine V_aload_n (q := 48) dX1_copyTerm_47 rfl rfl ?_
  refine V_getr (k := 19) (j := 4) (q := 51) clz_0 dX1_copyTerm_48 rfl rfl rfl (Nat.le_of_ble_eq_true rfl) fl_RX1_22 ?_
  refine V_iload_n (q := 52) dX1_copyTerm_51 rfl rfl ?_
  obtain ⟨hi17, x16, ex18, h⟩ := rI_ok h
  refine V_iald (k := 23) (q := 53) dX1_copyTerm_52 rfl rfl hi17 ex18 ?_
  obtain ⟨hi21, s19, e20, h⟩ := wI_ok h
  refine V_iast (k := 8) (q := 54) dX1_copyTerm_53 rfl rfl hi21 e20 ?_
  refine V_aload_n (q := 55) dX1_copyTerm_54 rfl rfl ?_
  refine V_getr (k := 4) (j := 5) (q := 58) clz_0 dX1_copyTerm_55 rfl rfl rfl (Nat.le_of_ble_eq_true rfl) fl_RX1_25 ?_
  refine V_iload_n (q := 59) dX1_copyTerm_58 rfl rfl ?_
  refine V_aload_n (q := 60) dX1_copyTerm_59 rfl rfl ?_
  refine V_getr (k := 19) (j := 5) (q := 63) clz_0 dX1_copyTerm_60 rfl rfl rfl (Nat.le_of_ble_eq_true rfl) fl_RX1_25 ?_
  refine V_iload_n (q := 64) dX1_copyTerm_63 rfl rfl ?_
  obtain ⟨hi23, x22, ex24, h⟩ := rI_ok h
  refine V_iald (k := 24) (q := 65) dX1_copyTerm_64 rfl rfl hi23 ex24 ?_
  obtain ⟨hi27, s25, e26, h⟩ := wI_ok h
  refine V_iast (k := 9) (q := 66) dX1_copyTerm_65 rfl rfl hi27 e26 ?_
  cases h
  exact V_vret rfl dX1_copyTerm_66
set_option maxRecDepth 20000 in
theorem w_X1_copyFrom_4_19_L10 {X : Xc} {r : Unit} {σr : Sg} {k : Sg → Option (Unit × Sg)}
    (hk : ∀ (s : Sg), k s = some (r, σr) → V X M_X1_copyFrom (mq X none σr) 29 [some (.ref (ad (xY X) 4)), some (.ref (ad (xY X) 19)), none] [] s) :
    ∀ (n : Nat) (s : Sg) (i2 : Int32), f_X1_copyFrom_4_19_L10 k n s i2 = some (r, σr) → V X M_X1_copyFrom (mq X none σr) 10 [some (.ref (ad (xY X) 4)), some (.ref (ad (xY X) 19)), some (.int i2)] [] s := by
  intro n
  induction n with
  | zero => intro s i2 h; cases h
  | succ n ih =>
    intro s i2 h
    rw [f_X1_copyFrom_4_19_L10] at h
    refine V_iload_n (q := 11) dX1_copyFrom_10 rfl rfl ?_
    refine V_bipush (q := 13) (v := 8) dX1_copyFrom_11 rfl bipush_8 ?_
    refine V_icmp_ge (q := 29) (q2 := 16) dX1_copyFrom_13 rfl rfl (fun hb6 => ?_) (fun hb6 => ?_)
    · replace h := it h hb6
      refine V_msk (L' := [some (.ref (ad (xY X) 4)), some (.ref (ad (xY X) 19)), none]) [true, true, false] rfl ?_
      exact hk (s) h
    · replace h := ie h hb6
      refine V_aload_n (q := 17) dX1_copyFrom_16 rfl rfl ?_
      refine V_aload_n (q := 18) dX1_copyFrom_17 rfl rfl ?_
      refine V_iload_n (q := 19) dX1_copyFrom_18 rfl rfl ?_
      refine V_iload_n (q := 20) dX1_copyFrom_19 rfl rfl ?_
      obtain ⟨x3, s5, hc4, h⟩ := cA_ok h
      refine V_cv0 (k := 4) (q := 23) (As := [.ref (ad (xY X) 19), .int i2, .int i2]) (rest := []) (ct_X1_copyTerm_4_19 (xY X) hc4) ce_X1_copyTerm clz_0 rfl im_yX1_copyTerm se_yX1_copyTerm rfl ml_RX1_35 rfl ⟨Nat.le_of_ble_eq_true rfl, Nat.le_of_ble_eq_true rfl⟩ rfl (Nat.le_of_ble_eq_true rfl) dX1_copyFrom_20 rfl ?_
      refine V_iinc (q := 26) (v := 1) (L' := [some (.ref (ad (xY X) 4)), some (.ref (ad (xY X) 19)), some (.int (i2 + 1))]) dX1_copyFrom_23 rfl rfl iconst_1 (Nat.le_of_ble_eq_true rfl) rfl ?_
      refine V_goto (q := 10) dX1_copyFrom_26 rfl ?_
      exact ih (s5) ((i2 + 1)) h
set_option maxRecDepth 20000 in
theorem ct_X1_copyFrom_4_19 (Y : Yc) {σ : Sg}  {r : Unit} {σr : Sg} (h : f_X1_copyFrom_4_19 σ  = some (r, σr)) : Ct M_X1_copyFrom yX1_copyFrom Y [.ref (ad Y 4), .ref (ad Y 19)] σ none σr := by
  refine Ct_intro [some (.ref (ad Y 4)), some (.ref (ad Y 19)), none] (by decide +kernel) rfl (Nat.le_of_ble_eq_true rfl) rfl (fun X hY => ?_) ⟨rfl, rfl⟩
  subst hY
  unfold f_X1_copyFrom_4_19 at h
  refine V_aload_n (q := 1) dX1_copyFrom_0 rfl rfl ?_
  refine V_aload_n (q := 2) dX1_copyFrom_1 rfl rfl ?_
  refine V_geti (k := 19) (j := 0) (q := 5) clz_0 dX1_copyFrom_2 rfl rfl rfl (Nat.le_of_ble_eq_true rfl) fl_RX1_31 ?_
  obtain ⟨s1, e2, h⟩ := pI_ok h
  refine V_puti (k := 4) (j := 0) (q := 8) clz_0 .int (by decide +kernel) rfl rfl rfl dX1_copyFrom_5 rfl rfl rfl (Nat.le_of_ble_eq_true rfl) fl_RX1_31 e2 ?_
  refine V_iconst (q := 9) (v := 0) dX1_copyFrom_8 rfl iconst_0 ?_
  refine V_istore_n (q := 10) (L' := [some (.ref (ad (xY X) 4)), some (.ref (ad (xY X) 19)), some (.int 0)]) dX1_copyFrom_9 rfl (Nat.le_of_ble_eq_true rfl) rfl ?_
  refine w_X1_copyFrom_4_19_L10 (fun s7 h => ?_) fu (s1) (0) h
  refine V_aload_n (q := 30) dX1_copyFrom_29 rfl rfl ?_
  refine V_aload_n (q := 31) dX1_copyFrom_30 rfl rfl ?_
  refine V_geti (k := 19) (j := 6) (q := 34) clz_0 dX1_copyFrom_31 rfl rfl rfl (Nat.le_of_ble_eq_true rfl) fl_RX1_39 ?_
  obtain ⟨s8, e9, h⟩ := pI_ok h
  refine V_puti (k := 4) (j := 6) (q := 37) clz_0 .int (by decide +kernel) rfl rfl rfl dX1_copyFrom_34 rfl rfl rfl (Nat.le_of_ble_eq_true rfl) fl_RX1_39 e9 ?_
  refine V_aload_n (q := 38) dX1_copyFrom_37 rfl rfl ?_
  refine V_getr (k := 19) (j := 7) (q := 41) clz_0 dX1_copyFrom_38 rfl rfl rfl (Nat.le_of_ble_eq_true rfl) fl_RX1_28 ?_
  refine V_iconst (q := 42) (v := 0) dX1_copyFrom_41 rfl iconst_0 ?_
  refine V_aload_n (q := 43) dX1_copyFrom_42 rfl rfl ?_
  refine V_getr (k := 4) (j := 7) (q := 46) clz_0 dX1_copyFrom_43 rfl rfl rfl (Nat.le_of_ble_eq_true rfl) fl_RX1_28 ?_
  refine V_iconst (q := 47) (v := 0) dX1_copyFrom_46 rfl iconst_0 ?_
  refine V_iconst (q := 48) (v := 5) dX1_copyFrom_47 rfl iconst_5 ?_
  obtain ⟨hi12, s10, e11, h⟩ := xL4_ok h
  refine V_cpyl (k0 := 25) (k1 := 10) (q := 51) ml_RX1_42 dX1_copyFrom_48 rfl rfl rfl hi12.1 hi12.2.1 hi12.2.2.1 hi12.2.2.2.1 hi12.2.2.2.2 (Nat.le_of_ble_eq_true rfl) (Nat.le_of_ble_eq_true rfl) e11 ?_
  cases h
  exact V_vret rfl dX1_copyFrom_51
def M_X7_goBack : Mc := (RX7, cX7_goBack, 3, { frames := 3, cells := 0, slots := 0, locals := 71 }, (some .int))
theorem ce_X7_goBack : Cee M_X7_goBack yX7_goBack 1 := ⟨cd_yX7_goBack, ini_RX7, ⟨by decide +kernel, by decide +kernel, by decide +kernel⟩, rfl, rfl⟩
set_option maxRecDepth 20000 in
theorem ct_X7_goBack (Y : Yc) {σ : Sg} {a1 : Int32} {r : Int32} {σr : Sg} (h : f_X7_goBack σ a1 = some (r, σr)) : Ct M_X7_goBack yX7_goBack Y [.ref (ad Y 0), .int a1] σ (some (.int r)) σr := by
  refine Ct_intro [some (.ref (ad Y 0)), some (.int a1), none] (by decide +kernel) rfl (Nat.le_of_ble_eq_true rfl) rfl (fun X hY => ?_) ⟨rfl, rfl⟩
  subst hY
  unfold f_X7_goBack at h
  refine V_aload_n (q := 1) dX7_goBack_0 rfl rfl ?_
  refine V_iload_n (q := 2) dX7_goBack_1 rfl rfl ?_
  obtain ⟨x1, hc2, h⟩ := cP_ok h
  refine V_cv1 (k := 0) (q := 5) (As := [.int a1]) (rest := []) (ct_X7_imageOf (xY X) hc2) ce_X7_imageOf clz_6 rfl im_yX7_imageOf se_yX7_imageOf rfl ml_RX7_279 rfl ⟨Nat.le_of_ble_eq_true rfl, Nat.le_of_ble_eq_true rfl⟩ rfl (Nat.le_of_ble_eq_true rfl) dX7_goBack_2 rfl ?_
  by_cases hb3 : x1 = 12
  · replace h := it h hb3
    subst hb3
    refine V_sg (st := [.ref (ad (xY X) 12)]) rfl ?_
    refine V_astore_n (q := 6) (L' := [some (.ref (ad (xY X) 0)), some (.int a1), some (.ref (ad (xY X) 12))]) dX7_goBack_5 rfl (Nat.le_of_ble_eq_true rfl) rfl ?_
    refine V_aload_n (q := 7) dX7_goBack_6 rfl rfl ?_
    refine V_ifnonnull (q := 13) dX7_goBack_7 rfl ?_
    refine V_aload_n (q := 14) dX7_goBack_13 rfl rfl ?_
    refine V_geti (k := 12) (j := 8) (q := 17) clz_0 dX7_goBack_14 rfl rfl rfl (Nat.le_of_ble_eq_true rfl) fl_RX7_287 ?_
    refine V_if_ne (q := 23) (q2 := 20) dX7_goBack_17 rfl rfl (fun hb10 => ?_) (fun hb10 => ?_)
    · replace h := ie h hb10
      refine V_aload_n (q := 24) dX7_goBack_23 rfl rfl ?_
      refine V_getr (k := 0) (j := 1) (q := 27) clz_6 dX7_goBack_24 rfl rfl rfl (Nat.le_of_ble_eq_true rfl) fl_RX7_19 ?_
      refine V_aload_n (q := 28) dX7_goBack_27 rfl rfl ?_
      obtain ⟨x4, s6, hc5, h⟩ := cA_ok h
      refine V_cv0 (k := 4) (q := 31) (As := [.ref (ad (xY X) 12)]) (rest := []) (ct_X1_copyFrom_4_12 (xY X) hc5) ce_X1_copyFrom clz_0 rfl im_yX1_copyFrom se_yX1_copyFrom rfl ml_RX7_283 rfl ⟨Nat.le_of_ble_eq_true rfl, Nat.le_of_ble_eq_true rfl⟩ rfl (Nat.le_of_ble_eq_true rfl) dX7_goBack_28 rfl ?_
      refine V_aload_n (q := 32) dX7_goBack_31 rfl rfl ?_
      obtain ⟨x7, s9, hc8, h⟩ := cA_ok h
      refine V_cv0 (k := 0) (q := 35) (As := []) (rest := []) (ct_X7_termsChanged (xY X) hc8) ce_X7_termsChanged clz_6 rfl im_yX7_termsChanged se_yX7_termsChanged rfl ml_RX7_97 rfl ⟨Nat.le_of_ble_eq_true rfl, Nat.le_of_ble_eq_true rfl⟩ rfl (Nat.le_of_ble_eq_true rfl) dX7_goBack_32 rfl ?_
      refine V_aload_n (q := 36) dX7_goBack_35 rfl rfl ?_
      refine V_getr (k := 0) (j := 1) (q := 39) clz_6 dX7_goBack_36 rfl rfl rfl (Nat.le_of_ble_eq_true rfl) fl_RX7_19 ?_
      refine V_geti (k := 4) (j := 0) (q := 42) clz_0 dX7_goBack_39 rfl rfl rfl (Nat.le_of_ble_eq_true rfl) fl_RX7_122 ?_
      cases h
      exact V_iret rfl dX7_goBack_42
    · replace h := it h hb10
      refine V_ldc (q := 22) kc_RX7_92 dX7_goBack_20 rfl ?_
      cases h
      exact V_iret rfl dX7_goBack_22
  replace h := ie h hb3
  by_cases hb11 : x1 = 19
  · replace h := it h hb11
    subst hb11
    refine V_sg (st := [.ref (ad (xY X) 19)]) rfl ?_
    refine V_astore_n (q := 6) (L' := [some (.ref (ad (xY X) 0)), some (.int a1), some (.ref (ad (xY X) 19))]) dX7_goBack_5 rfl (Nat.le_of_ble_eq_true rfl) rfl ?_
    refine V_aload_n (q := 7) dX7_goBack_6 rfl rfl ?_
    refine V_ifnonnull (q := 13) dX7_goBack_7 rfl ?_
    refine V_aload_n (q := 14) dX7_goBack_13 rfl rfl ?_
    refine V_geti (k := 19) (j := 8) (q := 17) clz_0 dX7_goBack_14 rfl rfl rfl (Nat.le_of_ble_eq_true rfl) fl_RX7_287 ?_
    refine V_if_ne (q := 23) (q2 := 20) dX7_goBack_17 rfl rfl (fun hb18 => ?_) (fun hb18 => ?_)
    · replace h := ie h hb18
      refine V_aload_n (q := 24) dX7_goBack_23 rfl rfl ?_
      refine V_getr (k := 0) (j := 1) (q := 27) clz_6 dX7_goBack_24 rfl rfl rfl (Nat.le_of_ble_eq_true rfl) fl_RX7_19 ?_
      refine V_aload_n (q := 28) dX7_goBack_27 rfl rfl ?_
      obtain ⟨x12, s14, hc13, h⟩ := cA_ok h
      refine V_cv0 (k := 4) (q := 31) (As := [.ref (ad (xY X) 19)]) (rest := []) (ct_X1_copyFrom_4_19 (xY X) hc13) ce_X1_copyFrom clz_0 rfl im_yX1_copyFrom se_yX1_copyFrom rfl ml_RX7_283 rfl ⟨Nat.le_of_ble_eq_true rfl, Nat.le_of_ble_eq_true rfl⟩ rfl (Nat.le_of_ble_eq_true rfl) dX7_goBack_28 rfl ?_
      refine V_aload_n (q := 32) dX7_goBack_31 rfl rfl ?_
      obtain ⟨x15, s17, hc16, h⟩ := cA_ok h
      refine V_cv0 (k := 0) (q := 35) (As := []) (rest := []) (ct_X7_termsChanged (xY X) hc16) ce_X7_termsChanged clz_6 rfl im_yX7_termsChanged se_yX7_termsChanged rfl ml_RX7_97 rfl ⟨Nat.le_of_ble_eq_true rfl, Nat.le_of_ble_eq_true rfl⟩ rfl (Nat.le_of_ble_eq_true rfl) dX7_goBack_32 rfl ?_
      refine V_aload_n (q := 36) dX7_goBack_35 rfl rfl ?_
      refine V_getr (k := 0) (j := 1) (q := 39) clz_6 dX7_goBack_36 rfl rfl rfl (Nat.le_of_ble_eq_true rfl) fl_RX7_19 ?_
      refine V_geti (k := 4) (j := 0) (q := 42) clz_0 dX7_goBack_39 rfl rfl rfl (Nat.le_of_ble_eq_true rfl) fl_RX7_122 ?_
      cases h
      exact V_iret rfl dX7_goBack_42
    · replace h := it h hb18
      refine V_ldc (q := 22) kc_RX7_92 dX7_goBack_20 rfl ?_
      cases h
      exact V_iret rfl dX7_goBack_22
  replace h := ie h hb11
  by_cases hb19 : x1 = 0
  · replace h := it h hb19
    subst hb19
    refine V_sg (st := [.null]) rfl ?_
    refine V_astoreN_n (q := 6) (L' := [some (.ref (ad (xY X) 0)), some (.int a1), some (.null)]) dX7_goBack_5 rfl (Nat.le_of_ble_eq_true rfl) rfl ?_
    refine V_aloadN_n (q := 7) dX7_goBack_6 rfl rfl ?_
    refine V_ifnonnullN (q := 10) dX7_goBack_7 rfl ?_
    refine V_ldc (q := 12) kc_RX7_114 dX7_goBack_10 rfl ?_
    cases h
    exact V_iret rfl dX7_goBack_12
  replace h := ie h hb19
  cases h
def M_X8_goBack : Mc := (RX8, cX8_goBack, 3, { frames := 1, cells := 0, slots := 0, locals := 22 }, (some .int))
theorem ce_X8_goBack : Cee M_X8_goBack yX8_goBack 1 := ⟨cd_yX8_goBack, ini_RX8, ⟨by decide +kernel, by decide +kernel, by decide +kernel⟩, rfl, rfl⟩
set_option maxRecDepth 20000 in
theorem w_X8_goBack_L26 {X : Xc} {c1 : Int32} {r : Int32} {σr : Sg} {k : Sg → Option (Int32 × Sg)}
    (hk : ∀ (s : Sg), k s = some (r, σr) → V X M_X8_goBack (mq X (some (.int r)) σr) 57 [some (.ref (ad (xY X) 43)), none, none] [] s) :
    ∀ (n : Nat) (s : Sg) (i2 : Int32), f_X8_goBack_L26 k c1 n s i2 = some (r, σr) → V X M_X8_goBack (mq X (some (.int r)) σr) 26 [some (.ref (ad (xY X) 43)), some (.int c1), some (.int i2)] [] s := by
  intro n
  induction n with
  | zero => intro s i2 h; cases h
  | succ n ih =>
    intro s i2 h
    rw [f_X8_goBack_L26] at h
    refine V_iload_n (q := 27) dX8_goBack_26 rfl rfl ?_
    refine V_sipush (q := 30) (v := 475) dX8_goBack_27 rfl sipush_475 ?_
    refine V_icmp_ge (q := 57) (q2 := 33) dX8_goBack_30 rfl rfl (fun hb12 => ?_) (fun hb12 => ?_)
    · replace h := it h hb12
      refine V_msk (L' := [some (.ref (ad (xY X) 43)), none, none]) [true, false, false] rfl ?_
      exact hk (s) h
    · replace h := ie h hb12
      refine V_aload_n (q := 34) dX8_goBack_33 rfl rfl ?_
      refine V_getr (k := 43) (j := 0) (q := 37) clz_7 dX8_goBack_34 rfl rfl rfl (Nat.le_of_ble_eq_true rfl) fl_RX8_7 ?_
      refine V_iload_n (q := 38) dX8_goBack_37 rfl rfl ?_
      refine V_aload_n (q := 39) dX8_goBack_38 rfl rfl ?_
      refine V_getr (k := 43) (j := 1) (q := 42) clz_7 dX8_goBack_39 rfl rfl rfl (Nat.le_of_ble_eq_true rfl) fl_RX8_13 ?_
      refine V_sipush (q := 45) (v := 475) dX8_goBack_42 rfl sipush_475 ?_
      refine V_iload_n (q := 46) dX8_goBack_45 rfl rfl ?_
      refine V_imul (q := 47) dX8_goBack_46 rfl ?_
      refine V_iload_n (q := 48) dX8_goBack_47 rfl rfl ?_
      refine V_iadd (q := 49) dX8_goBack_48 rfl ?_
      obtain ⟨hi7, x6, ex8, h⟩ := rI_ok h
      refine V_iald (k := 45) (q := 50) dX8_goBack_49 rfl rfl hi7 ex8 ?_
      obtain ⟨hi11, s9, e10, h⟩ := wI_ok h
      refine V_iast (k := 44) (q := 51) dX8_goBack_50 rfl rfl hi11 e10 ?_
      refine V_iinc (q := 54) (v := 1) (L' := [some (.ref (ad (xY X) 43)), some (.int c1), some (.int (i2 + 1))]) dX8_goBack_51 rfl rfl iconst_1 (Nat.le_of_ble_eq_true rfl) rfl ?_
      refine V_goto (q := 26) dX8_goBack_54 rfl ?_
      exact ih (s9) ((i2 + 1)) h
set_option maxRecDepth 20000 in
theorem ct_X8_goBack (Y : Yc) {σ : Sg} {a1 : Int32} {r : Int32} {σr : Sg} (h : f_X8_goBack σ a1 = some (r, σr)) : Ct M_X8_goBack yX8_goBack Y [.ref (ad Y 43), .int a1] σ (some (.int r)) σr := by
  refine Ct_intro [some (.ref (ad Y 43)), some (.int a1), none] (by decide +kernel) rfl (Nat.le_of_ble_eq_true rfl) rfl (fun X hY => ?_) ⟨rfl, rfl⟩
  subst hY
  unfold f_X8_goBack at h
  refine V_iload_n (q := 1) dX8_goBack_0 rfl rfl ?_
  refine V_iconst (q := 2) (v := 0) dX8_goBack_1 rfl iconst_0 ?_
  refine V_iconst (q := 3) (v := 1) dX8_goBack_2 rfl iconst_1 ?_
  obtain ⟨x1, hc2, h⟩ := cP_ok h
  refine V_cs1 (q := 6) (As := [.int a1, .int 0, .int 1]) (rest := []) (ct_X8_in (xY X) hc2) ce_X8_in st_yX8_in ml_RX8_44 rfl ⟨Nat.le_of_ble_eq_true rfl, Nat.le_of_ble_eq_true rfl⟩ rfl (Nat.le_of_ble_eq_true rfl) dX8_goBack_3 rfl ?_
  refine V_if_ne (q := 12) (q2 := 9) dX8_goBack_6 rfl rfl (fun hb18 => ?_) (fun hb18 => ?_)
  · replace h := ie h hb18
    refine V_aload_n (q := 13) dX8_goBack_12 rfl rfl ?_
    refine V_getr (k := 43) (j := 2) (q := 16) clz_7 dX8_goBack_13 rfl rfl rfl (Nat.le_of_ble_eq_true rfl) fl_RX8_16 ?_
    refine V_iload_n (q := 17) dX8_goBack_16 rfl rfl ?_
    obtain ⟨hi4, x3, ex5, h⟩ := rI_ok h
    refine V_zald (k := 46) (q := 18) dX8_goBack_17 rfl rfl hi4 ex5 ?_
    refine V_if_ne (q := 24) (q2 := 21) dX8_goBack_18 rfl rfl (fun hb17 => ?_) (fun hb17 => ?_)
    · replace h := ie h hb17
      refine V_iconst (q := 25) (v := 0) dX8_goBack_24 rfl iconst_0 ?_
      refine V_istore_n (q := 26) (L' := [some (.ref (ad (xY X) 43)), some (.int a1), some (.int 0)]) dX8_goBack_25 rfl (Nat.le_of_ble_eq_true rfl) rfl ?_
      refine w_X8_goBack_L26 (fun s13 h => ?_) fu (σ) (0) h
      refine V_aload_n (q := 58) dX8_goBack_57 rfl rfl ?_
      refine V_getr (k := 43) (j := 0) (q := 61) clz_7 dX8_goBack_58 rfl rfl rfl (Nat.le_of_ble_eq_true rfl) fl_RX8_7 ?_
      refine V_iconst (q := 62) (v := 0) dX8_goBack_61 rfl iconst_0 ?_
      obtain ⟨hi15, x14, ex16, h⟩ := rI_ok h
      refine V_iald (k := 44) (q := 63) dX8_goBack_62 rfl rfl hi15 ex16 ?_
      cases h
      exact V_iret rfl dX8_goBack_63
    · replace h := it h hb17
      refine V_ldc (q := 23) kc_RX8_77 dX8_goBack_21 rfl ?_
      cases h
      exact V_iret rfl dX8_goBack_23
  · replace h := it h hb18
    refine V_ldc (q := 11) kc_RX8_88 dX8_goBack_9 rfl ?_
    cases h
    exact V_iret rfl dX8_goBack_11
