def M_X8_isMet : Mc := (RX8, cX8_isMet, 6, { frames := 2, cells := 0, slots := 0, locals := 51 }, (some .boolean))
theorem ce_X8_isMet : Cee M_X8_isMet yX8_isMet 3 := ⟨cd_yX8_isMet, ini_RX8, ⟨by decide +kernel, by decide +kernel, by decide +kernel⟩, rfl, rfl⟩
set_option maxRecDepth 20000 in
theorem w_X8_isMet_L24 {X : Xc} {σ : Sg} {c1 : Int32} {c2 : Int32} {c3 : Int32} {r : Int32} {k : Int32 → Option Int32}
    (hk : ∀ (i4 : Int32), k i4 = some r → V X M_X8_isMet (mq X (some (.int r)) σ) 90 [none, none, none, none, some (.int i4), none] [] σ) :
    ∀ (n : Nat) (i4 : Int32) (i5 : Int32), f_X8_isMet_L24 k σ c1 c2 c3 n i4 i5 = some r → V X M_X8_isMet (mq X (some (.int r)) σ) 24 [some (.ref (ad (xY X) 43)), some (.int c1), some (.int c2), some (.int c3), some (.int i4), some (.int i5)] [] σ := by
  intro n
  induction n with
  | zero => intro i4 i5 h; cases h
  | succ n ih =>
    intro i4 i5 h
    rw [f_X8_isMet_L24] at h
    refine V_iload (q := 26) dX8_isMet_24 rfl rfl ?_
    refine V_iload_n (q := 27) dX8_isMet_26 rfl rfl ?_
    refine V_icmp_ge (q := 90) (q2 := 30) dX8_isMet_27 rfl rfl (fun hb15 => ?_) (fun hb15 => ?_)
    · replace h := it h hb15
      refine V_msk (L' := [none, none, none, none, some (.int i4), none]) [false, false, false, false, true, false] rfl ?_
      exact hk (i4) h
    · replace h := ie h hb15
      refine V_iload (q := 32) dX8_isMet_30 rfl rfl ?_
      refine V_if_eq (q := 90) (q2 := 35) dX8_isMet_32 rfl rfl (fun hb14 => ?_) (fun hb14 => ?_)
      · replace h := it h hb14
        refine V_msk (L' := [none, none, none, none, some (.int i4), none]) [false, false, false, false, true, false] rfl ?_
        exact hk (i4) h
      · replace h := ie h hb14
        refine V_aload_n (q := 36) dX8_isMet_35 rfl rfl ?_
        refine V_getr (k := 43) (j := 5) (q := 39) clz_7 dX8_isMet_36 rfl rfl rfl (Nat.le_of_ble_eq_true rfl) fl_RX8_23 ?_
        refine V_bipush (q := 41) (v := 15) dX8_isMet_39 rfl bipush_15 ?_
        refine V_iload_n (q := 42) dX8_isMet_41 rfl rfl ?_
        refine V_iload (q := 44) dX8_isMet_42 rfl rfl ?_
        refine V_iadd (q := 45) dX8_isMet_44 rfl ?_
        refine V_imul (q := 46) dX8_isMet_45 rfl ?_
        refine V_iconst (q := 47) (v := 1) dX8_isMet_46 rfl iconst_1 ?_
        refine V_iadd (q := 48) dX8_isMet_47 rfl ?_
        obtain ⟨hi3, x2, ex4, h⟩ := rI_ok h
        refine V_iald (k := 48) (q := 49) dX8_isMet_48 rfl rfl hi3 ex4 ?_
        refine V_aload_n (q := 50) dX8_isMet_49 rfl rfl ?_
        refine V_getr (k := 43) (j := 5) (q := 53) clz_7 dX8_isMet_50 rfl rfl rfl (Nat.le_of_ble_eq_true rfl) fl_RX8_23 ?_
        refine V_bipush (q := 55) (v := 15) dX8_isMet_53 rfl bipush_15 ?_
        refine V_iload_n (q := 56) dX8_isMet_55 rfl rfl ?_
        refine V_imul (q := 57) dX8_isMet_56 rfl ?_
        refine V_iconst (q := 58) (v := 1) dX8_isMet_57 rfl iconst_1 ?_
        refine V_iadd (q := 59) dX8_isMet_58 rfl ?_
        obtain ⟨hi6, x5, ex7, h⟩ := rI_ok h
        refine V_iald (k := 48) (q := 60) dX8_isMet_59 rfl rfl hi6 ex7 ?_
        obtain ⟨k8, ek8, h⟩ := jn_ok h
        have hk8 : ∀ (v9 : Int32), k8 v9 = some r → V X M_X8_isMet (mq X (some (.int r)) σ) 81 [some (.ref (ad (xY X) 43)), some (.int c1), some (.int c2), some (.int c3), none, some (.int v9)] [] σ := by
          clear h
          intro v9 h
          rw [ek8] at h
          refine V_iconst (q := 82) (v := 0) dX8_isMet_81 rfl iconst_0 ?_
          refine V_istore (q := 84) (L' := [some (.ref (ad (xY X) 43)), some (.int c1), some (.int c2), some (.int c3), some (.int 0), some (.int v9)]) dX8_isMet_82 rfl (Nat.le_of_ble_eq_true rfl) rfl ?_
          refine V_iinc (q := 87) (v := 1) (L' := [some (.ref (ad (xY X) 43)), some (.int c1), some (.int c2), some (.int c3), some (.int 0), some (.int (v9 + 1))]) dX8_isMet_84 rfl rfl iconst_1 (Nat.le_of_ble_eq_true rfl) rfl ?_
          refine V_goto (q := 24) dX8_isMet_87 rfl ?_
          exact ih (0) ((v9 + 1)) h
        refine V_icmp_ne (q := 81) (q2 := 63) dX8_isMet_60 rfl rfl (fun hb13 => ?_) (fun hb13 => ?_)
        · replace h := ie h hb13
          refine V_msk (L' := [some (.ref (ad (xY X) 43)), some (.int c1), some (.int c2), some (.int c3), none, some (.int i5)]) [true, true, true, true, false, true] rfl ?_
          exact hk8 (i5) h
        · replace h := it h hb13
          refine V_aload_n (q := 64) dX8_isMet_63 rfl rfl ?_
          refine V_iload_n (q := 65) dX8_isMet_64 rfl rfl ?_
          refine V_iload (q := 67) dX8_isMet_65 rfl rfl ?_
          refine V_iadd (q := 68) dX8_isMet_67 rfl ?_
          refine V_iload_n (q := 69) dX8_isMet_68 rfl rfl ?_
          refine V_iload (q := 71) dX8_isMet_69 rfl rfl ?_
          obtain ⟨x10, hc11, h⟩ := cP_ok h
          refine V_cv1 (k := 43) (q := 74) (As := [.int (c2 + i5), .int c1, .int i5]) (rest := []) (ct_X8_meets (xY X) hc11) ce_X8_meets clz_7 rfl im_yX8_meets se_yX8_meets rfl ml_RX8_149 rfl ⟨Nat.le_of_ble_eq_true rfl, Nat.le_of_ble_eq_true rfl⟩ rfl (Nat.le_of_ble_eq_true rfl) dX8_isMet_71 rfl ?_
          refine V_if_eq (q := 81) (q2 := 77) dX8_isMet_74 rfl rfl (fun hb12 => ?_) (fun hb12 => ?_)
          · replace h := it h hb12
            refine V_msk (L' := [some (.ref (ad (xY X) 43)), some (.int c1), some (.int c2), some (.int c3), none, some (.int i5)]) [true, true, true, true, false, true] rfl ?_
            exact hk8 (i5) h
          · replace h := ie h hb12
            refine V_iconst (q := 78) (v := 1) dX8_isMet_77 rfl iconst_1 ?_
            refine V_goto (q := 82) dX8_isMet_78 rfl ?_
            refine V_istore (q := 84) (L' := [some (.ref (ad (xY X) 43)), some (.int c1), some (.int c2), some (.int c3), some (.int 1), some (.int i5)]) dX8_isMet_82 rfl (Nat.le_of_ble_eq_true rfl) rfl ?_
            refine V_iinc (q := 87) (v := 1) (L' := [some (.ref (ad (xY X) 43)), some (.int c1), some (.int c2), some (.int c3), some (.int 1), some (.int (i5 + 1))]) dX8_isMet_84 rfl rfl iconst_1 (Nat.le_of_ble_eq_true rfl) rfl ?_
            refine V_goto (q := 24) dX8_isMet_87 rfl ?_
            exact ih (1) ((i5 + 1)) h
set_option maxRecDepth 20000 in
theorem ct_X8_isMet (Y : Yc) {σ : Sg} {a1 : Int32} {a2 : Int32} {a3 : Int32} {r : Int32} (h : f_X8_isMet σ a1 a2 a3 = some r) : Ct M_X8_isMet yX8_isMet Y [.ref (ad Y 43), .int a1, .int a2, .int a3] σ (some (.int r)) σ := by
  refine Ct_intro [some (.ref (ad Y 43)), some (.int a1), some (.int a2), some (.int a3), none, none] (by decide +kernel) rfl (Nat.le_of_ble_eq_true rfl) rfl (fun X hY => ?_) ⟨rfl, rfl⟩
  subst hY
  unfold f_X8_isMet at h
  refine V_iload_n (q := 1) dX8_isMet_0 rfl rfl ?_
  obtain ⟨k1, ek1, h⟩ := jn_ok h
  have hk1 : k1 = some r → V X M_X8_isMet (mq X (some (.int r)) σ) 18 [some (.ref (ad (xY X) 43)), some (.int a1), some (.int a2), some (.int a3), none, none] [] σ := by
    clear h
    intro  h
    rw [ek1] at h
    refine V_iconst (q := 19) (v := 0) dX8_isMet_18 rfl iconst_0 ?_
    refine V_istore (q := 21) (L' := [some (.ref (ad (xY X) 43)), some (.int a1), some (.int a2), some (.int a3), some (.int 0), none]) dX8_isMet_19 rfl (Nat.le_of_ble_eq_true rfl) rfl ?_
    refine V_iconst (q := 22) (v := 0) dX8_isMet_21 rfl iconst_0 ?_
    refine V_istore (q := 24) (L' := [some (.ref (ad (xY X) 43)), some (.int a1), some (.int a2), some (.int a3), some (.int 0), some (.int 0)]) dX8_isMet_22 rfl (Nat.le_of_ble_eq_true rfl) rfl ?_
    refine w_X8_isMet_L24 (fun v16 h => ?_) fu (0) (0) h
    refine V_iload (q := 92) dX8_isMet_90 rfl rfl ?_
    obtain ⟨hb17, h⟩ := mH_ok h
    cases h
    exact V_zret rfl (nz01 hb17) dX8_isMet_92
  refine V_if_lt (q := 18) (q2 := 4) dX8_isMet_1 rfl rfl (fun hb21 => ?_) (fun hb21 => ?_)
  · replace h := it h hb21
    exact hk1  h
  · replace h := ie h hb21
    refine V_iload_n (q := 5) dX8_isMet_4 rfl rfl ?_
    refine V_iload_n (q := 6) dX8_isMet_5 rfl rfl ?_
    refine V_iadd (q := 7) dX8_isMet_6 rfl ?_
    refine V_aload_n (q := 8) dX8_isMet_7 rfl rfl ?_
    refine V_geti (k := 43) (j := 6) (q := 11) clz_7 dX8_isMet_8 rfl rfl rfl (Nat.le_of_ble_eq_true rfl) fl_RX8_104 ?_
    refine V_icmp_gt (q := 18) (q2 := 14) dX8_isMet_11 rfl rfl (fun hb20 => ?_) (fun hb20 => ?_)
    · replace h := it h hb20
      exact hk1  h
    · replace h := ie h hb20
      refine V_iconst (q := 15) (v := 1) dX8_isMet_14 rfl iconst_1 ?_
      refine V_goto (q := 19) dX8_isMet_15 rfl ?_
      refine V_istore (q := 21) (L' := [some (.ref (ad (xY X) 43)), some (.int a1), some (.int a2), some (.int a3), some (.int 1), none]) dX8_isMet_19 rfl (Nat.le_of_ble_eq_true rfl) rfl ?_
      refine V_iconst (q := 22) (v := 0) dX8_isMet_21 rfl iconst_0 ?_
      refine V_istore (q := 24) (L' := [some (.ref (ad (xY X) 43)), some (.int a1), some (.int a2), some (.int a3), some (.int 1), some (.int 0)]) dX8_isMet_22 rfl (Nat.le_of_ble_eq_true rfl) rfl ?_
      refine w_X8_isMet_L24 (fun v18 h => ?_) fu (1) (0) h
      refine V_iload (q := 92) dX8_isMet_90 rfl rfl ?_
      obtain ⟨hb19, h⟩ := mH_ok h
      cases h
      exact V_zret rfl (nz01 hb19) dX8_isMet_92
def M_X8_isFound : Mc := (RX8, cX8_isFound, 3, { frames := 3, cells := 0, slots := 0, locals := 76 }, (some .boolean))
theorem ce_X8_isFound : Cee M_X8_isFound yX8_isFound 2 := ⟨cd_yX8_isFound, ini_RX8, ⟨by decide +kernel, by decide +kernel, by decide +kernel⟩, rfl, rfl⟩
set_option maxRecDepth 20000 in
theorem ct_X8_isFound (Y : Yc) {σ : Sg} {a1 : Int32} {a2 : Int32} {r : Int32} (h : f_X8_isFound σ a1 a2 = some r) : Ct M_X8_isFound yX8_isFound Y [.ref (ad Y 43), .int a1, .int a2] σ (some (.int r)) σ := by
  refine Ct_intro [some (.ref (ad Y 43)), some (.int a1), some (.int a2)] (by decide +kernel) rfl (Nat.le_of_ble_eq_true rfl) rfl (fun X hY => ?_) ⟨rfl, rfl⟩
  subst hY
  unfold f_X8_isFound at h
  refine V_aload_n (q := 1) dX8_isFound_0 rfl rfl ?_
  refine V_iload_n (q := 2) dX8_isFound_1 rfl rfl ?_
  refine V_iload_n (q := 3) dX8_isFound_2 rfl rfl ?_
  refine V_aload_n (q := 4) dX8_isFound_3 rfl rfl ?_
  refine V_getr (k := 43) (j := 0) (q := 7) clz_7 dX8_isFound_4 rfl rfl rfl (Nat.le_of_ble_eq_true rfl) fl_RX8_7 ?_
  refine V_iload_n (q := 8) dX8_isFound_7 rfl rfl ?_
  obtain ⟨x1, hc2, h⟩ := cP_ok h
  refine V_cs1 (q := 11) (As := [.int a1]) (rest := [.ref (ad (xY X) 44), .int a2, .int a1, .ref (ad (xY X) 43)]) (ct_X8_termAt (xY X) hc2) ce_X8_termAt st_yX8_termAt ml_RX8_58 rfl ⟨Nat.le_of_ble_eq_true rfl, Nat.le_of_ble_eq_true rfl⟩ rfl (Nat.le_of_ble_eq_true rfl) dX8_isFound_8 rfl ?_
  refine V_iconst (q := 12) (v := 0) dX8_isFound_11 rfl iconst_0 ?_
  refine V_iadd (q := 13) dX8_isFound_12 rfl ?_
  obtain ⟨hi4, x3, ex5, h⟩ := rI_ok h
  refine V_iald (k := 44) (q := 14) dX8_isFound_13 rfl rfl hi4 ex5 ?_
  obtain ⟨x6, hc7, h⟩ := cP_ok h
  refine V_cv1 (k := 43) (q := 17) (As := [.int a1, .int a2, .int x3]) (rest := []) (ct_X8_isMet (xY X) hc7) ce_X8_isMet clz_7 rfl im_yX8_isMet se_yX8_isMet rfl ml_RX8_152 rfl ⟨Nat.le_of_ble_eq_true rfl, Nat.le_of_ble_eq_true rfl⟩ rfl (Nat.le_of_ble_eq_true rfl) dX8_isFound_14 rfl ?_
  obtain ⟨hb8, h⟩ := mH_ok h
  cases h
  exact V_zret rfl (nz01 hb8) dX8_isFound_17
def M_X8_worthOf : Mc := (RX8, cX8_worthOf, 2, { frames := 1, cells := 0, slots := 0, locals := 20 }, (some .int))
theorem ce_X8_worthOf : Cee M_X8_worthOf yX8_worthOf 1 := ⟨cd_yX8_worthOf, ini_RX8, ⟨by decide +kernel, by decide +kernel, by decide +kernel⟩, rfl, rfl⟩
set_option maxRecDepth 20000 in
theorem ct_X8_worthOf (Y : Yc) {σ : Sg} {a1 : Int32} {r : Int32} (h : f_X8_worthOf σ a1 = some r) : Ct M_X8_worthOf yX8_worthOf Y [.ref (ad Y 43), .int a1] σ (some (.int r)) σ := by
  refine Ct_intro [some (.ref (ad Y 43)), some (.int a1)] (by decide +kernel) rfl (Nat.le_of_ble_eq_true rfl) rfl (fun X hY => ?_) ⟨rfl, rfl⟩
  subst hY
  unfold f_X8_worthOf at h
  refine V_aload_n (q := 1) dX8_worthOf_0 rfl rfl ?_
  refine V_getr (k := 43) (j := 0) (q := 4) clz_7 dX8_worthOf_1 rfl rfl rfl (Nat.le_of_ble_eq_true rfl) fl_RX8_7 ?_
  refine V_iload_n (q := 5) dX8_worthOf_4 rfl rfl ?_
  obtain ⟨x1, hc2, h⟩ := cP_ok h
  refine V_cs1 (q := 8) (As := [.int a1]) (rest := [.ref (ad (xY X) 44)]) (ct_X8_termAt (xY X) hc2) ce_X8_termAt st_yX8_termAt ml_RX8_58 rfl ⟨Nat.le_of_ble_eq_true rfl, Nat.le_of_ble_eq_true rfl⟩ rfl (Nat.le_of_ble_eq_true rfl) dX8_worthOf_5 rfl ?_
  refine V_iconst (q := 9) (v := 1) dX8_worthOf_8 rfl iconst_1 ?_
  refine V_iadd (q := 10) dX8_worthOf_9 rfl ?_
  obtain ⟨hi4, x3, ex5, h⟩ := rI_ok h
  refine V_iald (k := 44) (q := 11) dX8_worthOf_10 rfl rfl hi4 ex5 ?_
  refine V_aload_n (q := 12) dX8_worthOf_11 rfl rfl ?_
  refine V_getr (k := 43) (j := 0) (q := 15) clz_7 dX8_worthOf_12 rfl rfl rfl (Nat.le_of_ble_eq_true rfl) fl_RX8_7 ?_
  refine V_iload_n (q := 16) dX8_worthOf_15 rfl rfl ?_
  obtain ⟨x6, hc7, h⟩ := cP_ok h
  refine V_cs1 (q := 19) (As := [.int a1]) (rest := [.ref (ad (xY X) 44), .int x3]) (ct_X8_termAt (xY X) hc7) ce_X8_termAt st_yX8_termAt ml_RX8_58 rfl ⟨Nat.le_of_ble_eq_true rfl, Nat.le_of_ble_eq_true rfl⟩ rfl (Nat.le_of_ble_eq_true rfl) dX8_worthOf_16 rfl ?_
  refine V_iconst (q := 20) (v := 0) dX8_worthOf_19 rfl iconst_0 ?_
  refine V_iadd (q := 21) dX8_worthOf_20 rfl ?_
  obtain ⟨hi9, x8, ex10, h⟩ := rI_ok h
  refine V_iald (k := 44) (q := 22) dX8_worthOf_21 rfl rfl hi9 ex10 ?_
  refine V_imul (q := 23) dX8_worthOf_22 rfl ?_
  cases h
  exact V_iret rfl dX8_worthOf_23
def M_X8_choose : Mc := (RX8, cX8_choose, 7, { frames := 4, cells := 0, slots := 0, locals := 98 }, none)
theorem ce_X8_choose : Cee M_X8_choose yX8_choose 0 := ⟨cd_yX8_choose, ini_RX8, ⟨by decide +kernel, by decide +kernel, by decide +kernel⟩, rfl, rfl⟩
set_option maxRecDepth 20000 in
theorem w_X8_choose_L74 {X : Xc} {c1 : Int32} {c2 : Int32} {r : Unit} {σr : Sg} {k : Sg → Option (Unit × Sg)}
    (hk : ∀ (s : Sg), k s = some (r, σr) → V X M_X8_choose (mq X none σr) 231 [some (.ref (ad (xY X) 43)), some (.int c1), some (.int c2), none, none, none, none] [] s) :
    ∀ (n : Nat) (s : Sg) (i3 : Int32), f_X8_choose_L74 k c1 c2 n s i3 = some (r, σr) → V X M_X8_choose (mq X none σr) 74 [some (.ref (ad (xY X) 43)), some (.int c1), some (.int c2), some (.int i3), none, none, none] [] s := by
  intro n
  induction n with
  | zero => intro s i3 h; cases h
  | succ n ih =>
    intro s i3 h
    rw [f_X8_choose_L74] at h
    refine V_iload_n (q := 75) dX8_choose_74 rfl rfl ?_
    refine V_aload_n (q := 76) dX8_choose_75 rfl rfl ?_
    refine V_getr (k := 43) (j := 0) (q := 79) clz_7 dX8_choose_76 rfl rfl rfl (Nat.le_of_ble_eq_true rfl) fl_RX8_7 ?_
    refine V_iconst (q := 80) (v := 0) dX8_choose_79 rfl iconst_0 ?_
    obtain ⟨hi23, x22, ex24, h⟩ := rI_ok h
    refine V_iald (k := 44) (q := 81) dX8_choose_80 rfl rfl hi23 ex24 ?_
    refine V_icmp_ge (q := 231) (q2 := 84) dX8_choose_81 rfl rfl (fun hb74 => ?_) (fun hb74 => ?_)
    · replace h := it h hb74
      refine V_msk (L' := [some (.ref (ad (xY X) 43)), some (.int c1), some (.int c2), none, none, none, none]) [true, true, true, false, true, true, true] rfl ?_
      exact hk (s) h
    · replace h := ie h hb74
      refine V_aload_n (q := 85) dX8_choose_84 rfl rfl ?_
      refine V_getr (k := 43) (j := 0) (q := 88) clz_7 dX8_choose_85 rfl rfl rfl (Nat.le_of_ble_eq_true rfl) fl_RX8_7 ?_
      refine V_iload_n (q := 89) dX8_choose_88 rfl rfl ?_
      obtain ⟨x25, hc26, h⟩ := cP_ok h
      refine V_cs1 (q := 92) (As := [.int i3]) (rest := [.ref (ad (xY X) 44)]) (ct_X8_termAt (xY X) hc26) ce_X8_termAt st_yX8_termAt ml_RX8_58 rfl ⟨Nat.le_of_ble_eq_true rfl, Nat.le_of_ble_eq_true rfl⟩ rfl (Nat.le_of_ble_eq_true rfl) dX8_choose_89 rfl ?_
      refine V_iconst (q := 93) (v := 0) dX8_choose_92 rfl iconst_0 ?_
      refine V_iadd (q := 94) dX8_choose_93 rfl ?_
      obtain ⟨hi28, x27, ex29, h⟩ := rI_ok h
      refine V_iald (k := 44) (q := 95) dX8_choose_94 rfl rfl hi28 ex29 ?_
      refine V_iload_n (q := 96) dX8_choose_95 rfl rfl ?_
      refine V_icmp_ne (q := 225) (q2 := 99) dX8_choose_96 rfl rfl (fun hb73 => ?_) (fun hb73 => ?_)
      · replace h := ie h hb73
        refine V_iinc (q := 228) (v := 1) (L' := [some (.ref (ad (xY X) 43)), some (.int c1), some (.int c2), some (.int (i3 + 1)), none, none, none]) dX8_choose_225 rfl rfl iconst_1 (Nat.le_of_ble_eq_true rfl) rfl ?_
        refine V_goto (q := 74) dX8_choose_228 rfl ?_
        exact ih (s) ((i3 + 1)) h
      · replace h := it h hb73
        refine V_aload_n (q := 100) dX8_choose_99 rfl rfl ?_
        refine V_iload_n (q := 101) dX8_choose_100 rfl rfl ?_
        refine V_iload_n (q := 102) dX8_choose_101 rfl rfl ?_
        obtain ⟨x30, hc31, h⟩ := cP_ok h
        refine V_cv1 (k := 43) (q := 105) (As := [.int i3, .int c1]) (rest := []) (ct_X8_isFound (xY X) hc31) ce_X8_isFound clz_7 rfl im_yX8_isFound se_yX8_isFound rfl ml_RX8_107 rfl ⟨Nat.le_of_ble_eq_true rfl, Nat.le_of_ble_eq_true rfl⟩ rfl (Nat.le_of_ble_eq_true rfl) dX8_choose_102 rfl ?_
        refine V_if_eq (q := 225) (q2 := 108) dX8_choose_105 rfl rfl (fun hb72 => ?_) (fun hb72 => ?_)
        · replace h := it h hb72
          refine V_iinc (q := 228) (v := 1) (L' := [some (.ref (ad (xY X) 43)), some (.int c1), some (.int c2), some (.int (i3 + 1)), none, none, none]) dX8_choose_225 rfl rfl iconst_1 (Nat.le_of_ble_eq_true rfl) rfl ?_
          refine V_goto (q := 74) dX8_choose_228 rfl ?_
          exact ih (s) ((i3 + 1)) h
        · replace h := ie h hb72
          refine V_aload_n (q := 109) dX8_choose_108 rfl rfl ?_
          refine V_iload_n (q := 110) dX8_choose_109 rfl rfl ?_
          obtain ⟨x32, hc33, h⟩ := cP_ok h
          refine V_cv1 (k := 43) (q := 113) (As := [.int i3]) (rest := []) (ct_X8_worthOf (xY X) hc33) ce_X8_worthOf clz_7 rfl im_yX8_worthOf se_yX8_worthOf rfl ml_RX8_155 rfl ⟨Nat.le_of_ble_eq_true rfl, Nat.le_of_ble_eq_true rfl⟩ rfl (Nat.le_of_ble_eq_true rfl) dX8_choose_110 rfl ?_
          refine V_aload_n (q := 114) dX8_choose_113 rfl rfl ?_
          refine V_getr (k := 43) (j := 10) (q := 117) clz_7 dX8_choose_114 rfl rfl rfl (Nat.le_of_ble_eq_true rfl) fl_RX8_32 ?_
          refine V_iload_n (q := 118) dX8_choose_117 rfl rfl ?_
          refine V_iload_n (q := 119) dX8_choose_118 rfl rfl ?_
          refine V_iadd (q := 120) dX8_choose_119 rfl ?_
          obtain ⟨hi35, x34, ex36, h⟩ := rI_ok h
          refine V_iald (k := 51) (q := 121) dX8_choose_120 rfl rfl hi35 ex36 ?_
          refine V_iadd (q := 122) dX8_choose_121 rfl ?_
          refine V_istore (q := 124) (L' := [some (.ref (ad (xY X) 43)), some (.int c1), some (.int c2), some (.int i3), some (.int (x32 + x34)), none, none]) dX8_choose_122 rfl (Nat.le_of_ble_eq_true rfl) rfl ?_
          refine V_iconst (q := 125) (v := 1) dX8_choose_124 rfl iconst_1 ?_
          refine V_aload_n (q := 126) dX8_choose_125 rfl rfl ?_
          refine V_getr (k := 43) (j := 11) (q := 129) clz_7 dX8_choose_126 rfl rfl rfl (Nat.le_of_ble_eq_true rfl) fl_RX8_35 ?_
          refine V_iload_n (q := 130) dX8_choose_129 rfl rfl ?_
          refine V_iload_n (q := 131) dX8_choose_130 rfl rfl ?_
          refine V_iadd (q := 132) dX8_choose_131 rfl ?_
          obtain ⟨hi38, x37, ex39, h⟩ := rI_ok h
          refine V_iald (k := 52) (q := 133) dX8_choose_132 rfl rfl hi38 ex39 ?_
          refine V_iadd (q := 134) dX8_choose_133 rfl ?_
          refine V_istore (q := 136) (L' := [some (.ref (ad (xY X) 43)), some (.int c1), some (.int c2), some (.int i3), some (.int (x32 + x34)), some (.int (1 + x37)), none]) dX8_choose_134 rfl (Nat.le_of_ble_eq_true rfl) rfl ?_
          refine V_iload (q := 138) dX8_choose_136 rfl rfl ?_
          refine V_aload_n (q := 139) dX8_choose_138 rfl rfl ?_
          refine V_getr (k := 43) (j := 10) (q := 142) clz_7 dX8_choose_139 rfl rfl rfl (Nat.le_of_ble_eq_true rfl) fl_RX8_32 ?_
          refine V_iload_n (q := 143) dX8_choose_142 rfl rfl ?_
          obtain ⟨hi41, x40, ex42, h⟩ := rI_ok h
          refine V_iald (k := 51) (q := 144) dX8_choose_143 rfl rfl hi41 ex42 ?_
          obtain ⟨k43, ek43, h⟩ := jn_ok h
          have hk43 : ∀ (v44 : Int32), k43 v44 = some (r, σr) → V X M_X8_choose (mq X none σr) 195 [some (.ref (ad (xY X) 43)), some (.int c1), some (.int c2), some (.int i3), some (.int (x32 + x34)), some (.int (1 + x37)), none] [.int v44] s := by
            clear h
            intro v44 h
            rw [ek43] at h
            refine V_istore (q := 197) (L' := [some (.ref (ad (xY X) 43)), some (.int c1), some (.int c2), some (.int i3), some (.int (x32 + x34)), some (.int (1 + x37)), some (.int v44)]) dX8_choose_195 rfl (Nat.le_of_ble_eq_true rfl) rfl ?_
            refine V_iload (q := 199) dX8_choose_197 rfl rfl ?_
            refine V_if_eq (q := 225) (q2 := 202) dX8_choose_199 rfl rfl (fun hb54 => ?_) (fun hb54 => ?_)
            · replace h := it h hb54
              refine V_iinc (q := 228) (v := 1) (L' := [some (.ref (ad (xY X) 43)), some (.int c1), some (.int c2), some (.int (i3 + 1)), some (.int (x32 + x34)), some (.int (1 + x37)), some (.int v44)]) dX8_choose_225 rfl rfl iconst_1 (Nat.le_of_ble_eq_true rfl) rfl ?_
              refine V_goto (q := 74) dX8_choose_228 rfl ?_
              refine V_msk (L' := [some (.ref (ad (xY X) 43)), some (.int c1), some (.int c2), some (.int (i3 + 1)), none, none, none]) [true, true, true, true, false, false, false] rfl ?_
              exact ih (s) ((i3 + 1)) h
            · replace h := ie h hb54
              refine V_aload_n (q := 203) dX8_choose_202 rfl rfl ?_
              refine V_getr (k := 43) (j := 10) (q := 206) clz_7 dX8_choose_203 rfl rfl rfl (Nat.le_of_ble_eq_true rfl) fl_RX8_32 ?_
              refine V_iload_n (q := 207) dX8_choose_206 rfl rfl ?_
              refine V_iload (q := 209) dX8_choose_207 rfl rfl ?_
              obtain ⟨hi47, s45, e46, h⟩ := wI_ok h
              refine V_iast (k := 51) (q := 210) dX8_choose_209 rfl rfl hi47 e46 ?_
              refine V_aload_n (q := 211) dX8_choose_210 rfl rfl ?_
              refine V_getr (k := 43) (j := 11) (q := 214) clz_7 dX8_choose_211 rfl rfl rfl (Nat.le_of_ble_eq_true rfl) fl_RX8_35 ?_
              refine V_iload_n (q := 215) dX8_choose_214 rfl rfl ?_
              refine V_iload (q := 217) dX8_choose_215 rfl rfl ?_
              obtain ⟨hi50, s48, e49, h⟩ := wI_ok h
              refine V_iast (k := 52) (q := 218) dX8_choose_217 rfl rfl hi50 e49 ?_
              refine V_aload_n (q := 219) dX8_choose_218 rfl rfl ?_
              refine V_getr (k := 43) (j := 12) (q := 222) clz_7 dX8_choose_219 rfl rfl rfl (Nat.le_of_ble_eq_true rfl) fl_RX8_38 ?_
              refine V_iload_n (q := 223) dX8_choose_222 rfl rfl ?_
              refine V_iload_n (q := 224) dX8_choose_223 rfl rfl ?_
              obtain ⟨hi53, s51, e52, h⟩ := wI_ok h
              refine V_iast (k := 53) (q := 225) dX8_choose_224 rfl rfl hi53 e52 ?_
              refine V_iinc (q := 228) (v := 1) (L' := [some (.ref (ad (xY X) 43)), some (.int c1), some (.int c2), some (.int (i3 + 1)), some (.int (x32 + x34)), some (.int (1 + x37)), some (.int v44)]) dX8_choose_225 rfl rfl iconst_1 (Nat.le_of_ble_eq_true rfl) rfl ?_
              refine V_goto (q := 74) dX8_choose_228 rfl ?_
              refine V_msk (L' := [some (.ref (ad (xY X) 43)), some (.int c1), some (.int c2), some (.int (i3 + 1)), none, none, none]) [true, true, true, true, false, false, false] rfl ?_
              exact ih (s51) ((i3 + 1)) h
          refine V_icmp_gt (q := 190) (q2 := 147) dX8_choose_144 rfl rfl (fun hb71 => ?_) (fun hb71 => ?_)
          · replace h := it h hb71
            refine V_iconst (q := 191) (v := 1) dX8_choose_190 rfl iconst_1 ?_
            refine V_goto (q := 195) dX8_choose_191 rfl ?_
            exact hk43 (1) h
          · replace h := ie h hb71
            refine V_iload (q := 149) dX8_choose_147 rfl rfl ?_
            refine V_aload_n (q := 150) dX8_choose_149 rfl rfl ?_
            refine V_getr (k := 43) (j := 10) (q := 153) clz_7 dX8_choose_150 rfl rfl rfl (Nat.le_of_ble_eq_true rfl) fl_RX8_32 ?_
            refine V_iload_n (q := 154) dX8_choose_153 rfl rfl ?_
            obtain ⟨hi56, x55, ex57, h⟩ := rI_ok h
            refine V_iald (k := 51) (q := 155) dX8_choose_154 rfl rfl hi56 ex57 ?_
            refine V_icmp_ne (q := 194) (q2 := 158) dX8_choose_155 rfl rfl (fun hb70 => ?_) (fun hb70 => ?_)
            · replace h := ie h hb70
              refine V_iconst (q := 195) (v := 0) dX8_choose_194 rfl iconst_0 ?_
              exact hk43 (0) h
            · replace h := it h hb70
              refine V_iload (q := 160) dX8_choose_158 rfl rfl ?_
              refine V_aload_n (q := 161) dX8_choose_160 rfl rfl ?_
              refine V_getr (k := 43) (j := 11) (q := 164) clz_7 dX8_choose_161 rfl rfl rfl (Nat.le_of_ble_eq_true rfl) fl_RX8_35 ?_
              refine V_iload_n (q := 165) dX8_choose_164 rfl rfl ?_
              obtain ⟨hi59, x58, ex60, h⟩ := rI_ok h
              refine V_iald (k := 52) (q := 166) dX8_choose_165 rfl rfl hi59 ex60 ?_
              refine V_icmp_lt (q := 190) (q2 := 169) dX8_choose_166 rfl rfl (fun hb69 => ?_) (fun hb69 => ?_)
              · replace h := it h hb69
                refine V_iconst (q := 191) (v := 1) dX8_choose_190 rfl iconst_1 ?_
                refine V_goto (q := 195) dX8_choose_191 rfl ?_
                exact hk43 (1) h
              · replace h := ie h hb69
                refine V_iload (q := 171) dX8_choose_169 rfl rfl ?_
                refine V_aload_n (q := 172) dX8_choose_171 rfl rfl ?_
                refine V_getr (k := 43) (j := 11) (q := 175) clz_7 dX8_choose_172 rfl rfl rfl (Nat.le_of_ble_eq_true rfl) fl_RX8_35 ?_
                refine V_iload_n (q := 176) dX8_choose_175 rfl rfl ?_
                obtain ⟨hi62, x61, ex63, h⟩ := rI_ok h
                refine V_iald (k := 52) (q := 177) dX8_choose_176 rfl rfl hi62 ex63 ?_
                refine V_icmp_ne (q := 194) (q2 := 180) dX8_choose_177 rfl rfl (fun hb68 => ?_) (fun hb68 => ?_)
                · replace h := ie h hb68
                  refine V_iconst (q := 195) (v := 0) dX8_choose_194 rfl iconst_0 ?_
                  exact hk43 (0) h
                · replace h := it h hb68
                  refine V_aload_n (q := 181) dX8_choose_180 rfl rfl ?_
                  refine V_getr (k := 43) (j := 12) (q := 184) clz_7 dX8_choose_181 rfl rfl rfl (Nat.le_of_ble_eq_true rfl) fl_RX8_38 ?_
                  refine V_iload_n (q := 185) dX8_choose_184 rfl rfl ?_
                  obtain ⟨hi65, x64, ex66, h⟩ := rI_ok h
                  refine V_iald (k := 53) (q := 186) dX8_choose_185 rfl rfl hi65 ex66 ?_
                  refine V_iconst (q := 187) (v := (-1)) dX8_choose_186 rfl iconst_m1 ?_
                  refine V_icmp_ne (q := 194) (q2 := 190) dX8_choose_187 rfl rfl (fun hb67 => ?_) (fun hb67 => ?_)
                  · replace h := ie h hb67
                    refine V_iconst (q := 195) (v := 0) dX8_choose_194 rfl iconst_0 ?_
                    exact hk43 (0) h
                  · replace h := it h hb67
                    refine V_iconst (q := 191) (v := 1) dX8_choose_190 rfl iconst_1 ?_
                    refine V_goto (q := 195) dX8_choose_191 rfl ?_
                    exact hk43 (1) h
set_option maxRecDepth 20000 in
theorem w_X8_choose_L68 {X : Xc} {c1 : Int32} {r : Unit} {σr : Sg} {k : Sg → Option (Unit × Sg)}
    (hk : ∀ (s : Sg), k s = some (r, σr) → V X M_X8_choose (mq X none σr) 237 [some (.ref (ad (xY X) 43)), some (.int c1), none, none, none, none, none] [] s) :
    ∀ (n : Nat) (s : Sg) (i2 : Int32), f_X8_choose_L68 k c1 n s i2 = some (r, σr) → V X M_X8_choose (mq X none σr) 68 [some (.ref (ad (xY X) 43)), some (.int c1), some (.int i2), none, none, none, none] [] s := by
  intro n
  induction n with
  | zero => intro s i2 h; cases h
  | succ n ih =>
    intro s i2 h
    rw [f_X8_choose_L68] at h
    refine V_iload_n (q := 69) dX8_choose_68 rfl rfl ?_
    refine V_if_le (q := 237) (q2 := 72) dX8_choose_69 rfl rfl (fun hb76 => ?_) (fun hb76 => ?_)
    · replace h := it h hb76
      refine V_msk (L' := [some (.ref (ad (xY X) 43)), some (.int c1), none, none, none, none, none]) [true, true, false, true, true, true, true] rfl ?_
      exact hk (s) h
    · replace h := ie h hb76
      refine V_iconst (q := 73) (v := 0) dX8_choose_72 rfl iconst_0 ?_
      refine V_istore_n (q := 74) (L' := [some (.ref (ad (xY X) 43)), some (.int c1), some (.int i2), some (.int 0), none, none, none]) dX8_choose_73 rfl (Nat.le_of_ble_eq_true rfl) rfl ?_
      refine w_X8_choose_L74 (fun s75 h => ?_) fu (s) (0) h
      refine V_iinc (q := 234) (v := (-1)) (L' := [some (.ref (ad (xY X) 43)), some (.int c1), some (.int (i2 + (-1))), none, none, none, none]) dX8_choose_231 rfl rfl iconst_m1 (Nat.le_of_ble_eq_true rfl) rfl ?_
      refine V_goto (q := 68) dX8_choose_234 rfl ?_
      exact ih (s75) ((i2 + (-1))) h
set_option maxRecDepth 20000 in
theorem w_X8_choose_L27 {X : Xc} {r : Unit} {σr : Sg} {k : Sg → Option (Unit × Sg)}
    (hk : ∀ (s : Sg), k s = some (r, σr) → V X M_X8_choose (mq X none σr) 243 [some (.ref (ad (xY X) 43)), none, none, none, none, none, none] [] s) :
    ∀ (n : Nat) (s : Sg) (i1 : Int32), f_X8_choose_L27 k n s i1 = some (r, σr) → V X M_X8_choose (mq X none σr) 27 [some (.ref (ad (xY X) 43)), some (.int i1), none, none, none, none, none] [] s := by
  intro n
  induction n with
  | zero => intro s i1 h; cases h
  | succ n ih =>
    intro s i1 h
    rw [f_X8_choose_L27] at h
    refine V_iload_n (q := 28) dX8_choose_27 rfl rfl ?_
    refine V_if_lt (q := 243) (q2 := 31) dX8_choose_28 rfl rfl (fun hb78 => ?_) (fun hb78 => ?_)
    · replace h := it h hb78
      refine V_msk (L' := [some (.ref (ad (xY X) 43)), none, none, none, none, none, none]) [true, false, true, true, true, true, true] rfl ?_
      exact hk (s) h
    · replace h := ie h hb78
      refine V_aload_n (q := 32) dX8_choose_31 rfl rfl ?_
      refine V_getr (k := 43) (j := 12) (q := 35) clz_7 dX8_choose_32 rfl rfl rfl (Nat.le_of_ble_eq_true rfl) fl_RX8_38 ?_
      refine V_iload_n (q := 36) dX8_choose_35 rfl rfl ?_
      refine V_iconst (q := 37) (v := (-1)) dX8_choose_36 rfl iconst_m1 ?_
      obtain ⟨hi9, s7, e8, h⟩ := wI_ok h
      refine V_iast (k := 53) (q := 38) dX8_choose_37 rfl rfl hi9 e8 ?_
      refine V_aload_n (q := 39) dX8_choose_38 rfl rfl ?_
      refine V_getr (k := 43) (j := 10) (q := 42) clz_7 dX8_choose_39 rfl rfl rfl (Nat.le_of_ble_eq_true rfl) fl_RX8_32 ?_
      refine V_iload_n (q := 43) dX8_choose_42 rfl rfl ?_
      refine V_aload_n (q := 44) dX8_choose_43 rfl rfl ?_
      refine V_getr (k := 43) (j := 10) (q := 47) clz_7 dX8_choose_44 rfl rfl rfl (Nat.le_of_ble_eq_true rfl) fl_RX8_32 ?_
      refine V_iload_n (q := 48) dX8_choose_47 rfl rfl ?_
      refine V_iconst (q := 49) (v := 1) dX8_choose_48 rfl iconst_1 ?_
      refine V_iadd (q := 50) dX8_choose_49 rfl ?_
      obtain ⟨hi11, x10, ex12, h⟩ := rI_ok h
      refine V_iald (k := 51) (q := 51) dX8_choose_50 rfl rfl hi11 ex12 ?_
      obtain ⟨hi15, s13, e14, h⟩ := wI_ok h
      refine V_iast (k := 51) (q := 52) dX8_choose_51 rfl rfl hi15 e14 ?_
      refine V_aload_n (q := 53) dX8_choose_52 rfl rfl ?_
      refine V_getr (k := 43) (j := 11) (q := 56) clz_7 dX8_choose_53 rfl rfl rfl (Nat.le_of_ble_eq_true rfl) fl_RX8_35 ?_
      refine V_iload_n (q := 57) dX8_choose_56 rfl rfl ?_
      refine V_aload_n (q := 58) dX8_choose_57 rfl rfl ?_
      refine V_getr (k := 43) (j := 11) (q := 61) clz_7 dX8_choose_58 rfl rfl rfl (Nat.le_of_ble_eq_true rfl) fl_RX8_35 ?_
      refine V_iload_n (q := 62) dX8_choose_61 rfl rfl ?_
      refine V_iconst (q := 63) (v := 1) dX8_choose_62 rfl iconst_1 ?_
      refine V_iadd (q := 64) dX8_choose_63 rfl ?_
      obtain ⟨hi17, x16, ex18, h⟩ := rI_ok h
      refine V_iald (k := 52) (q := 65) dX8_choose_64 rfl rfl hi17 ex18 ?_
      obtain ⟨hi21, s19, e20, h⟩ := wI_ok h
      refine V_iast (k := 52) (q := 66) dX8_choose_65 rfl rfl hi21 e20 ?_
      refine V_iconst (q := 67) (v := 4) dX8_choose_66 rfl iconst_4 ?_
      refine V_istore_n (q := 68) (L' := [some (.ref (ad (xY X) 43)), some (.int i1), some (.int 4), none, none, none, none]) dX8_choose_67 rfl (Nat.le_of_ble_eq_true rfl) rfl ?_
      refine w_X8_choose_L68 (fun s77 h => ?_) fu (s19) (4) h
      refine V_iinc (q := 240) (v := (-1)) (L' := [some (.ref (ad (xY X) 43)), some (.int (i1 + (-1))), none, none, none, none, none]) dX8_choose_237 rfl rfl iconst_m1 (Nat.le_of_ble_eq_true rfl) rfl ?_
      refine V_goto (q := 27) dX8_choose_240 rfl ?_
      exact ih (s77) ((i1 + (-1))) h
set_option maxRecDepth 20000 in
theorem w_X8_choose_L286 {X : Xc} {c1 : Int32} {c2 : Int32} {r : Unit} {σr : Sg} {k : Sg → Option (Unit × Sg)}
    (hk : ∀ (s : Sg), k s = some (r, σr) → V X M_X8_choose (mq X none σr) 306 [some (.ref (ad (xY X) 43)), some (.int c1), some (.int c2), none, none, none, none] [] s) :
    ∀ (n : Nat) (s : Sg) (i3 : Int32), f_X8_choose_L286 k c1 c2 n s i3 = some (r, σr) → V X M_X8_choose (mq X none σr) 286 [some (.ref (ad (xY X) 43)), some (.int c1), some (.int c2), some (.int i3), none, none, none] [] s := by
  intro n
  induction n with
  | zero => intro s i3 h; cases h
  | succ n ih =>
    intro s i3 h
    rw [f_X8_choose_L286] at h
    refine V_iload_n (q := 287) dX8_choose_286 rfl rfl ?_
    refine V_iload_n (q := 288) dX8_choose_287 rfl rfl ?_
    refine V_icmp_ge (q := 306) (q2 := 291) dX8_choose_288 rfl rfl (fun hb88 => ?_) (fun hb88 => ?_)
    · replace h := it h hb88
      refine V_msk (L' := [some (.ref (ad (xY X) 43)), some (.int c1), some (.int c2), none, none, none, none]) [true, true, true, false, true, true, true] rfl ?_
      exact hk (s) h
    · replace h := ie h hb88
      refine V_aload_n (q := 292) dX8_choose_291 rfl rfl ?_
      refine V_getr (k := 43) (j := 12) (q := 295) clz_7 dX8_choose_292 rfl rfl rfl (Nat.le_of_ble_eq_true rfl) fl_RX8_38 ?_
      refine V_iload_n (q := 296) dX8_choose_295 rfl rfl ?_
      refine V_iload_n (q := 297) dX8_choose_296 rfl rfl ?_
      refine V_iadd (q := 298) dX8_choose_297 rfl ?_
      refine V_iconst (q := 299) (v := (-1)) dX8_choose_298 rfl iconst_m1 ?_
      obtain ⟨hi87, s85, e86, h⟩ := wI_ok h
      refine V_iast (k := 53) (q := 300) dX8_choose_299 rfl rfl hi87 e86 ?_
      refine V_iinc (q := 303) (v := 1) (L' := [some (.ref (ad (xY X) 43)), some (.int c1), some (.int c2), some (.int (i3 + 1)), none, none, none]) dX8_choose_300 rfl rfl iconst_1 (Nat.le_of_ble_eq_true rfl) rfl ?_
      refine V_goto (q := 286) dX8_choose_303 rfl ?_
      exact ih (s85) ((i3 + 1)) h
set_option maxRecDepth 20000 in
theorem w_X8_choose_L245 {X : Xc} {r : Unit} {σr : Sg} {k : Sg → Option (Unit × Sg)}
    (hk : ∀ (s : Sg), k s = some (r, σr) → V X M_X8_choose (mq X none σr) 313 [none, none, none, none, none, none, none] [] s) :
    ∀ (n : Nat) (s : Sg) (i1 : Int32), f_X8_choose_L245 k n s i1 = some (r, σr) → V X M_X8_choose (mq X none σr) 245 [some (.ref (ad (xY X) 43)), some (.int i1), none, none, none, none, none] [] s := by
  intro n
  induction n with
  | zero => intro s i1 h; cases h
  | succ n ih =>
    intro s i1 h
    rw [f_X8_choose_L245] at h
    refine V_iload_n (q := 246) dX8_choose_245 rfl rfl ?_
    refine V_aload_n (q := 247) dX8_choose_246 rfl rfl ?_
    refine V_geti (k := 43) (j := 6) (q := 250) clz_7 dX8_choose_247 rfl rfl rfl (Nat.le_of_ble_eq_true rfl) fl_RX8_104 ?_
    refine V_icmp_ge (q := 313) (q2 := 253) dX8_choose_250 rfl rfl (fun hb99 => ?_) (fun hb99 => ?_)
    · replace h := it h hb99
      refine V_msk (L' := [none, none, none, none, none, none, none]) [false, false, true, true, true, true, true] rfl ?_
      exact hk (s) h
    · replace h := ie h hb99
      refine V_aload_n (q := 254) dX8_choose_253 rfl rfl ?_
      refine V_getr (k := 43) (j := 12) (q := 257) clz_7 dX8_choose_254 rfl rfl rfl (Nat.le_of_ble_eq_true rfl) fl_RX8_38 ?_
      refine V_iload_n (q := 258) dX8_choose_257 rfl rfl ?_
      obtain ⟨hi81, x80, ex82, h⟩ := rI_ok h
      refine V_iald (k := 53) (q := 259) dX8_choose_258 rfl rfl hi81 ex82 ?_
      refine V_iconst (q := 260) (v := (-1)) dX8_choose_259 rfl iconst_m1 ?_
      obtain ⟨k83, ek83, h⟩ := jn_ok h
      have hk83 : ∀ (v84 : Int32), k83 v84 = some (r, σr) → V X M_X8_choose (mq X none σr) 283 [some (.ref (ad (xY X) 43)), some (.int i1), none, none, none, none, none] [.int v84] s := by
        clear h
        intro v84 h
        rw [ek83] at h
        refine V_istore_n (q := 284) (L' := [some (.ref (ad (xY X) 43)), some (.int i1), some (.int v84), none, none, none, none]) dX8_choose_283 rfl (Nat.le_of_ble_eq_true rfl) rfl ?_
        refine V_iconst (q := 285) (v := 1) dX8_choose_284 rfl iconst_1 ?_
        refine V_istore_n (q := 286) (L' := [some (.ref (ad (xY X) 43)), some (.int i1), some (.int v84), some (.int 1), none, none, none]) dX8_choose_285 rfl (Nat.le_of_ble_eq_true rfl) rfl ?_
        refine w_X8_choose_L286 (fun s89 h => ?_) fu (s) (1) h
        refine V_iload_n (q := 307) dX8_choose_306 rfl rfl ?_
        refine V_iload_n (q := 308) dX8_choose_307 rfl rfl ?_
        refine V_iadd (q := 309) dX8_choose_308 rfl ?_
        refine V_istore_n (q := 310) (L' := [some (.ref (ad (xY X) 43)), some (.int (i1 + v84)), some (.int v84), none, none, none, none]) dX8_choose_309 rfl (Nat.le_of_ble_eq_true rfl) rfl ?_
        refine V_goto (q := 245) dX8_choose_310 rfl ?_
        refine V_msk (L' := [some (.ref (ad (xY X) 43)), some (.int (i1 + v84)), none, none, none, none, none]) [true, true, false, true, true, true, true] rfl ?_
        exact ih (s89) ((i1 + v84)) h
      refine V_icmp_ne (q := 267) (q2 := 263) dX8_choose_260 rfl rfl (fun hb98 => ?_) (fun hb98 => ?_)
      · replace h := ie h hb98
        refine V_aload_n (q := 268) dX8_choose_267 rfl rfl ?_
        refine V_getr (k := 43) (j := 0) (q := 271) clz_7 dX8_choose_268 rfl rfl rfl (Nat.le_of_ble_eq_true rfl) fl_RX8_7 ?_
        refine V_aload_n (q := 272) dX8_choose_271 rfl rfl ?_
        refine V_getr (k := 43) (j := 12) (q := 275) clz_7 dX8_choose_272 rfl rfl rfl (Nat.le_of_ble_eq_true rfl) fl_RX8_38 ?_
        refine V_iload_n (q := 276) dX8_choose_275 rfl rfl ?_
        obtain ⟨hi91, x90, ex92, h⟩ := rI_ok h
        refine V_iald (k := 53) (q := 277) dX8_choose_276 rfl rfl hi91 ex92 ?_
        obtain ⟨x93, hc94, h⟩ := cP_ok h
        refine V_cs1 (q := 280) (As := [.int x90]) (rest := [.ref (ad (xY X) 44)]) (ct_X8_termAt (xY X) hc94) ce_X8_termAt st_yX8_termAt ml_RX8_58 rfl ⟨Nat.le_of_ble_eq_true rfl, Nat.le_of_ble_eq_true rfl⟩ rfl (Nat.le_of_ble_eq_true rfl) dX8_choose_277 rfl ?_
        refine V_iconst (q := 281) (v := 0) dX8_choose_280 rfl iconst_0 ?_
        refine V_iadd (q := 282) dX8_choose_281 rfl ?_
        obtain ⟨hi96, x95, ex97, h⟩ := rI_ok h
        refine V_iald (k := 44) (q := 283) dX8_choose_282 rfl rfl hi96 ex97 ?_
        exact hk83 (x95) h
      · replace h := it h hb98
        refine V_iconst (q := 264) (v := 1) dX8_choose_263 rfl iconst_1 ?_
        refine V_goto (q := 283) dX8_choose_264 rfl ?_
        exact hk83 (1) h
set_option maxRecDepth 20000 in
theorem ct_X8_choose (Y : Yc) {σ : Sg}  {r : Unit} {σr : Sg} (h : f_X8_choose σ  = some (r, σr)) : Ct M_X8_choose yX8_choose Y [.ref (ad Y 43)] σ none σr := by
  refine Ct_intro [some (.ref (ad Y 43)), none, none, none, none, none, none] (by decide +kernel) rfl (Nat.le_of_ble_eq_true rfl) rfl (fun X hY => ?_) ⟨rfl, rfl⟩
  subst hY
  unfold f_X8_choose at h
  refine V_aload_n (q := 1) dX8_choose_0 rfl rfl ?_
  refine V_getr (k := 43) (j := 10) (q := 4) clz_7 dX8_choose_1 rfl rfl rfl (Nat.le_of_ble_eq_true rfl) fl_RX8_32 ?_
  refine V_aload_n (q := 5) dX8_choose_4 rfl rfl ?_
  refine V_geti (k := 43) (j := 6) (q := 8) clz_7 dX8_choose_5 rfl rfl rfl (Nat.le_of_ble_eq_true rfl) fl_RX8_104 ?_
  refine V_iconst (q := 9) (v := 0) dX8_choose_8 rfl iconst_0 ?_
  obtain ⟨hi3, s1, e2, h⟩ := wI_ok h
  refine V_iast (k := 51) (q := 10) dX8_choose_9 rfl rfl hi3 e2 ?_
  refine V_aload_n (q := 11) dX8_choose_10 rfl rfl ?_
  refine V_getr (k := 43) (j := 11) (q := 14) clz_7 dX8_choose_11 rfl rfl rfl (Nat.le_of_ble_eq_true rfl) fl_RX8_35 ?_
  refine V_aload_n (q := 15) dX8_choose_14 rfl rfl ?_
  refine V_geti (k := 43) (j := 6) (q := 18) clz_7 dX8_choose_15 rfl rfl rfl (Nat.le_of_ble_eq_true rfl) fl_RX8_104 ?_
  refine V_iconst (q := 19) (v := 0) dX8_choose_18 rfl iconst_0 ?_
  obtain ⟨hi6, s4, e5, h⟩ := wI_ok h
  refine V_iast (k := 52) (q := 20) dX8_choose_19 rfl rfl hi6 e5 ?_
  refine V_aload_n (q := 21) dX8_choose_20 rfl rfl ?_
  refine V_geti (k := 43) (j := 6) (q := 24) clz_7 dX8_choose_21 rfl rfl rfl (Nat.le_of_ble_eq_true rfl) fl_RX8_104 ?_
  refine V_iconst (q := 25) (v := 1) dX8_choose_24 rfl iconst_1 ?_
  refine V_isub (q := 26) dX8_choose_25 rfl ?_
  refine V_istore_n (q := 27) (L' := [some (.ref (ad (xY X) 43)), some (.int ((s4.1 43 6) - 1)), none, none, none, none, none]) dX8_choose_26 rfl (Nat.le_of_ble_eq_true rfl) rfl ?_
  refine w_X8_choose_L27 (fun s79 h => ?_) fu (s4) (((s4.1 43 6) - 1)) h
  refine V_iconst (q := 244) (v := 0) dX8_choose_243 rfl iconst_0 ?_
  refine V_istore_n (q := 245) (L' := [some (.ref (ad (xY X) 43)), some (.int 0), none, none, none, none, none]) dX8_choose_244 rfl (Nat.le_of_ble_eq_true rfl) rfl ?_
  refine w_X8_choose_L245 (fun s100 h => ?_) fu (s79) (0) h
  cases h
  exact V_vret rfl dX8_choose_313
def M_X8_termOf : Mc := (RX8, cX8_termOf, 5, { frames := 5, cells := 0, slots := 0, locals := 124 }, (some .int))
theorem ce_X8_termOf : Cee M_X8_termOf yX8_termOf 2 := ⟨cd_yX8_termOf, ini_RX8, ⟨by decide +kernel, by decide +kernel, by decide +kernel⟩, rfl, rfl⟩
set_option maxRecDepth 20000 in
theorem w_X8_termOf_L49 {X : Xc} {σ : Sg} {c1 : Int32} {c2 : Int32} {r : Int32} {σr : Sg} {k : Int32 → Option (Int32 × Sg)}
    (hk : ∀ (i3 : Int32), k i3 = some (r, σr) → V X M_X8_termOf (mq X (some (.int r)) σr) 106 [none, none, none, some (.int i3), none] [] σ) :
    ∀ (n : Nat) (i3 : Int32) (i4 : Int32), f_X8_termOf_L49 k σ c1 c2 n i3 i4 = some (r, σr) → V X M_X8_termOf (mq X (some (.int r)) σr) 49 [some (.ref (ad (xY X) 43)), some (.int c1), some (.int c2), some (.int i3), some (.int i4)] [] σ := by
  intro n
  induction n with
  | zero => intro i3 i4 h; cases h
  | succ n ih =>
    intro i3 i4 h
    rw [f_X8_termOf_L49] at h
    refine V_iload (q := 51) dX8_termOf_49 rfl rfl ?_
    refine V_aload_n (q := 52) dX8_termOf_51 rfl rfl ?_
    refine V_geti (k := 43) (j := 6) (q := 55) clz_7 dX8_termOf_52 rfl rfl rfl (Nat.le_of_ble_eq_true rfl) fl_RX8_104 ?_
    refine V_icmp_ge (q := 106) (q2 := 58) dX8_termOf_55 rfl rfl (fun hb18 => ?_) (fun hb18 => ?_)
    · replace h := it h hb18
      refine V_msk (L' := [none, none, none, some (.int i3), none]) [false, false, false, true, false] rfl ?_
      exact hk (i3) h
    · replace h := ie h hb18
      refine V_iload_n (q := 59) dX8_termOf_58 rfl rfl ?_
      refine V_iload_n (q := 60) dX8_termOf_59 rfl rfl ?_
      refine V_iconst (q := 61) (v := 4) dX8_termOf_60 rfl iconst_4 ?_
      obtain ⟨k8, ek8, h⟩ := jn_ok h
      have hk8 : ∀ (v9 : Int32), k8 v9 = some (r, σr) → V X M_X8_termOf (mq X (some (.int r)) σr) 98 [some (.ref (ad (xY X) 43)), some (.int c1), some (.int c2), none, some (.int i4)] [.int v9, .int i3] σ := by
        clear h
        intro v9 h
        rw [ek8] at h
        refine V_iadd (q := 99) dX8_termOf_98 rfl ?_
        refine V_istore_n (q := 100) (L' := [some (.ref (ad (xY X) 43)), some (.int c1), some (.int c2), some (.int (i3 + v9)), some (.int i4)]) dX8_termOf_99 rfl (Nat.le_of_ble_eq_true rfl) rfl ?_
        refine V_iinc (q := 103) (v := 1) (L' := [some (.ref (ad (xY X) 43)), some (.int c1), some (.int c2), some (.int (i3 + v9)), some (.int (i4 + 1))]) dX8_termOf_100 rfl rfl iconst_1 (Nat.le_of_ble_eq_true rfl) rfl ?_
        refine V_goto (q := 49) dX8_termOf_103 rfl ?_
        exact ih ((i3 + v9)) ((i4 + 1)) h
      refine V_icmp_ne (q := 82) (q2 := 64) dX8_termOf_61 rfl rfl (fun hb17 => ?_) (fun hb17 => ?_)
      · replace h := ie h hb17
        refine V_aload_n (q := 83) dX8_termOf_82 rfl rfl ?_
        refine V_getr (k := 43) (j := 12) (q := 86) clz_7 dX8_termOf_83 rfl rfl rfl (Nat.le_of_ble_eq_true rfl) fl_RX8_38 ?_
        refine V_iload (q := 88) dX8_termOf_86 rfl rfl ?_
        obtain ⟨hi11, x10, ex12, h⟩ := rI_ok h
        refine V_iald (k := 53) (q := 89) dX8_termOf_88 rfl rfl hi11 ex12 ?_
        refine V_iload_n (q := 90) dX8_termOf_89 rfl rfl ?_
        refine V_icmp_ne (q := 97) (q2 := 93) dX8_termOf_90 rfl rfl (fun hb13 => ?_) (fun hb13 => ?_)
        · replace h := ie h hb13
          refine V_iconst (q := 98) (v := 0) dX8_termOf_97 rfl iconst_0 ?_
          refine V_msk (L' := [some (.ref (ad (xY X) 43)), some (.int c1), some (.int c2), none, some (.int i4)]) [true, true, true, false, true] rfl ?_
          exact hk8 (0) h
        · replace h := it h hb13
          refine V_iconst (q := 94) (v := 1) dX8_termOf_93 rfl iconst_1 ?_
          refine V_goto (q := 98) dX8_termOf_94 rfl ?_
          refine V_msk (L' := [some (.ref (ad (xY X) 43)), some (.int c1), some (.int c2), none, some (.int i4)]) [true, true, true, false, true] rfl ?_
          exact hk8 (1) h
      · replace h := it h hb17
        refine V_aload_n (q := 65) dX8_termOf_64 rfl rfl ?_
        refine V_iload_n (q := 66) dX8_termOf_65 rfl rfl ?_
        refine V_iload (q := 68) dX8_termOf_66 rfl rfl ?_
        obtain ⟨x14, hc15, h⟩ := cP_ok h
        refine V_cv1 (k := 43) (q := 71) (As := [.int c1, .int i4]) (rest := [.int i3]) (ct_X8_isFound (xY X) hc15) ce_X8_isFound clz_7 rfl im_yX8_isFound se_yX8_isFound rfl ml_RX8_107 rfl ⟨Nat.le_of_ble_eq_true rfl, Nat.le_of_ble_eq_true rfl⟩ rfl (Nat.le_of_ble_eq_true rfl) dX8_termOf_68 rfl ?_
        refine V_if_eq (q := 78) (q2 := 74) dX8_termOf_71 rfl rfl (fun hb16 => ?_) (fun hb16 => ?_)
        · replace h := it h hb16
          refine V_iconst (q := 79) (v := 0) dX8_termOf_78 rfl iconst_0 ?_
          refine V_goto (q := 98) dX8_termOf_79 rfl ?_
          refine V_msk (L' := [some (.ref (ad (xY X) 43)), some (.int c1), some (.int c2), none, some (.int i4)]) [true, true, true, false, true] rfl ?_
          exact hk8 (0) h
        · replace h := ie h hb16
          refine V_iconst (q := 75) (v := 1) dX8_termOf_74 rfl iconst_1 ?_
          refine V_goto (q := 98) dX8_termOf_75 rfl ?_
          refine V_msk (L' := [some (.ref (ad (xY X) 43)), some (.int c1), some (.int c2), none, some (.int i4)]) [true, true, true, false, true] rfl ?_
          exact hk8 (1) h
set_option maxRecDepth 20000 in
theorem ct_X8_termOf (Y : Yc) {σ : Sg} {a1 : Int32} {a2 : Int32} {r : Int32} {σr : Sg} (h : f_X8_termOf σ a1 a2 = some (r, σr)) : Ct M_X8_termOf yX8_termOf Y [.ref (ad Y 43), .int a1, .int a2] σ (some (.int r)) σr := by
  refine Ct_intro [some (.ref (ad Y 43)), some (.int a1), some (.int a2), none, none] (by decide +kernel) rfl (Nat.le_of_ble_eq_true rfl) rfl (fun X hY => ?_) ⟨rfl, rfl⟩
  subst hY
  unfold f_X8_termOf at h
  refine V_aload_n (q := 1) dX8_termOf_0 rfl rfl ?_
  refine V_iload_n (q := 2) dX8_termOf_1 rfl rfl ?_
  obtain ⟨x1, hc2, h⟩ := cP_ok h
  refine V_cv1 (k := 43) (q := 5) (As := [.int a1]) (rest := []) (ct_X8_isTerm (xY X) hc2) ce_X8_isTerm clz_7 rfl im_yX8_isTerm se_yX8_isTerm rfl ml_RX8_85 rfl ⟨Nat.le_of_ble_eq_true rfl, Nat.le_of_ble_eq_true rfl⟩ rfl (Nat.le_of_ble_eq_true rfl) dX8_termOf_2 rfl ?_
  refine V_if_ne (q := 11) (q2 := 8) dX8_termOf_5 rfl rfl (fun hb27 => ?_) (fun hb27 => ?_)
  · replace h := ie h hb27
    refine V_iload_n (q := 12) dX8_termOf_11 rfl rfl ?_
    refine V_iconst (q := 13) (v := 0) dX8_termOf_12 rfl iconst_0 ?_
    refine V_iconst (q := 14) (v := 5) dX8_termOf_13 rfl iconst_5 ?_
    obtain ⟨x3, hc4, h⟩ := cP_ok h
    refine V_cs1 (q := 17) (As := [.int a2, .int 0, .int 5]) (rest := []) (ct_X8_in (xY X) hc4) ce_X8_in st_yX8_in ml_RX8_44 rfl ⟨Nat.le_of_ble_eq_true rfl, Nat.le_of_ble_eq_true rfl⟩ rfl (Nat.le_of_ble_eq_true rfl) dX8_termOf_14 rfl ?_
    refine V_if_ne (q := 23) (q2 := 20) dX8_termOf_17 rfl rfl (fun hb26 => ?_) (fun hb26 => ?_)
    · replace h := ie h hb26
      refine V_iload_n (q := 24) dX8_termOf_23 rfl rfl ?_
      refine V_iconst (q := 25) (v := 4) dX8_termOf_24 rfl iconst_4 ?_
      refine V_icmp_ge (q := 40) (q2 := 28) dX8_termOf_25 rfl rfl (fun hb25 => ?_) (fun hb25 => ?_)
      · replace h := it h hb25
        refine V_aload_n (q := 41) dX8_termOf_40 rfl rfl ?_
        obtain ⟨x5, s7, hc6, h⟩ := cA_ok h
        refine V_cv0 (k := 43) (q := 44) (As := []) (rest := []) (ct_X8_choose (xY X) hc6) ce_X8_choose clz_7 rfl im_yX8_choose se_yX8_choose rfl ml_RX8_101 rfl ⟨Nat.le_of_ble_eq_true rfl, Nat.le_of_ble_eq_true rfl⟩ rfl (Nat.le_of_ble_eq_true rfl) dX8_termOf_41 rfl ?_
        refine V_iconst (q := 45) (v := 0) dX8_termOf_44 rfl iconst_0 ?_
        refine V_istore_n (q := 46) (L' := [some (.ref (ad (xY X) 43)), some (.int a1), some (.int a2), some (.int 0), none]) dX8_termOf_45 rfl (Nat.le_of_ble_eq_true rfl) rfl ?_
        refine V_iconst (q := 47) (v := 0) dX8_termOf_46 rfl iconst_0 ?_
        refine V_istore (q := 49) (L' := [some (.ref (ad (xY X) 43)), some (.int a1), some (.int a2), some (.int 0), some (.int 0)]) dX8_termOf_47 rfl (Nat.le_of_ble_eq_true rfl) rfl ?_
        refine w_X8_termOf_L49 (fun v19 h => ?_) fu (0) (0) h
        refine V_iload_n (q := 107) dX8_termOf_106 rfl rfl ?_
        cases h
        exact V_iret rfl dX8_termOf_107
      · replace h := ie h hb25
        refine V_aload_n (q := 29) dX8_termOf_28 rfl rfl ?_
        refine V_getr (k := 43) (j := 0) (q := 32) clz_7 dX8_termOf_29 rfl rfl rfl (Nat.le_of_ble_eq_true rfl) fl_RX8_7 ?_
        refine V_iload_n (q := 33) dX8_termOf_32 rfl rfl ?_
        obtain ⟨x20, hc21, h⟩ := cP_ok h
        refine V_cs1 (q := 36) (As := [.int a1]) (rest := [.ref (ad (xY X) 44)]) (ct_X8_termAt (xY X) hc21) ce_X8_termAt st_yX8_termAt ml_RX8_58 rfl ⟨Nat.le_of_ble_eq_true rfl, Nat.le_of_ble_eq_true rfl⟩ rfl (Nat.le_of_ble_eq_true rfl) dX8_termOf_33 rfl ?_
        refine V_iload_n (q := 37) dX8_termOf_36 rfl rfl ?_
        refine V_iadd (q := 38) dX8_termOf_37 rfl ?_
        obtain ⟨hi23, x22, ex24, h⟩ := rI_ok h
        refine V_iald (k := 44) (q := 39) dX8_termOf_38 rfl rfl hi23 ex24 ?_
        cases h
        exact V_iret rfl dX8_termOf_39
    · replace h := it h hb26
      refine V_ldc (q := 22) kc_RX8_52 dX8_termOf_20 rfl ?_
      cases h
      exact V_iret rfl dX8_termOf_22
  · replace h := it h hb27
    refine V_ldc (q := 10) kc_RX8_88 dX8_termOf_8 rfl ?_
    cases h
    exact V_iret rfl dX8_termOf_10
def M_X0_at : Mc := (RX0, cX0_at, 4, { frames := 0, cells := 0, slots := 0, locals := 0 }, (some .int))
theorem ce_X0_at : Cee M_X0_at yX0_at 2 := ⟨cd_yX0_at, ini_RX0, ⟨by decide +kernel, by decide +kernel, by decide +kernel⟩, rfl, rfl⟩
set_option maxRecDepth 20000 in
theorem ct_X0_at (Y : Yc) {σ : Sg} {a1 : Int64} {a2 : Int32} {r : Int32} (h : f_X0_at σ a1 a2 = some r) : Ct M_X0_at yX0_at Y [.long a1, .int a2] σ (some (.int r)) σ := by
  refine Ct_intro [some (.long a1), none, some (.int a2), none] (by decide +kernel) rfl (Nat.le_of_ble_eq_true rfl) rfl (fun X hY => ?_) ⟨rfl, rfl⟩
  subst hY
  unfold f_X0_at at h
  refine V_iload_n (q := 1) dX0_at_0 rfl rfl ?_
  refine V_if_lt (q := 10) (q2 := 4) dX0_at_1 rfl rfl (fun hb3 => ?_) (fun hb3 => ?_)
  · replace h := it h hb3
    refine V_iconst (q := 11) (v := (-1)) dX0_at_10 rfl iconst_m1 ?_
    cases h
    exact V_iret rfl dX0_at_11
  · replace h := ie h hb3
    refine V_iload_n (q := 5) dX0_at_4 rfl rfl ?_
    refine V_bipush (q := 7) (v := 12) dX0_at_5 rfl bipush_12 ?_
    refine V_icmp_lt (q := 12) (q2 := 10) dX0_at_7 rfl rfl (fun hb2 => ?_) (fun hb2 => ?_)
    · replace h := it h hb2
      refine V_lload_n (q := 13) dX0_at_12 rfl rfl ?_
      refine V_iconst (q := 14) (v := 5) dX0_at_13 rfl iconst_5 ?_
      refine V_iload_n (q := 15) dX0_at_14 rfl rfl ?_
      refine V_imul (q := 16) dX0_at_15 rfl ?_
      refine V_lushr (q := 17) dX0_at_16 rfl ?_
      refine V_l2i (q := 18) dX0_at_17 rfl ?_
      refine V_bipush (q := 20) (v := 31) dX0_at_18 rfl bipush_31 ?_
      refine V_iand (q := 21) dX0_at_20 rfl ?_
      refine V_istore_n (q := 22) (L' := [some (.long a1), none, some (.int a2), some (.int ((Int64.toInt32 ((Int64.toUInt64 a1 >>> ((Int32.toInt64 (5 * a2)).toUInt64 &&& Int64.toUInt64 63)).toInt64)) &&& 31))]) dX0_at_21 rfl (Nat.le_of_ble_eq_true rfl) rfl ?_
      refine V_iload_n (q := 23) dX0_at_22 rfl rfl ?_
      refine V_if_ne (q := 30) (q2 := 26) dX0_at_23 rfl rfl (fun hb1 => ?_) (fun hb1 => ?_)
      · replace h := ie h hb1
        refine V_iload_n (q := 31) dX0_at_30 rfl rfl ?_
        refine V_bipush (q := 33) (v := 96) dX0_at_31 rfl bipush_96 ?_
        refine V_iadd (q := 34) dX0_at_33 rfl ?_
        cases h
        exact V_iret rfl dX0_at_34
      · replace h := it h hb1
        refine V_iconst (q := 27) (v := (-1)) dX0_at_26 rfl iconst_m1 ?_
        refine V_goto (q := 34) dX0_at_27 rfl ?_
        cases h
        exact V_iret rfl dX0_at_34
    · replace h := ie h hb2
      refine V_iconst (q := 11) (v := (-1)) dX0_at_10 rfl iconst_m1 ?_
      cases h
      exact V_iret rfl dX0_at_11
def M_X7_letter : Mc := (RX7, cX7_letter, 5, { frames := 1, cells := 0, slots := 0, locals := 23 }, (some .int))
theorem ce_X7_letter : Cee M_X7_letter yX7_letter 3 := ⟨cd_yX7_letter, ini_RX7, ⟨by decide +kernel, by decide +kernel, by decide +kernel⟩, rfl, rfl⟩
set_option maxRecDepth 20000 in
theorem ct_X7_letter (Y : Yc) {σ : Sg} {a1 : Int32} {a2 : Int32} {a3 : Int32} {r : Int32} (h : f_X7_letter σ a1 a2 a3 = some r) : Ct M_X7_letter yX7_letter Y [.ref (ad Y 0), .int a1, .int a2, .int a3] σ (some (.int r)) σ := by
  refine Ct_intro [some (.ref (ad Y 0)), some (.int a1), some (.int a2), some (.int a3), none] (by decide +kernel) rfl (Nat.le_of_ble_eq_true rfl) rfl (fun X hY => ?_) ⟨rfl, rfl⟩
  subst hY
  unfold f_X7_letter at h
  refine V_iload_n (q := 1) dX7_letter_0 rfl rfl ?_
  refine V_iconst (q := 2) (v := (-1)) dX7_letter_1 rfl iconst_m1 ?_
  obtain ⟨k1, ek1, h⟩ := jn_ok h
  have hk1 : ∀ (v2 : Int32), k1 v2 = some r → V X M_X7_letter (mq X (some (.int r)) σ) 24 [some (.ref (ad (xY X) 0)), some (.int a1), some (.int a2), some (.int a3), none] [.int v2] σ := by
    clear h
    intro v2 h
    rw [ek1] at h
    refine V_istore (q := 26) (L' := [some (.ref (ad (xY X) 0)), some (.int a1), some (.int a2), some (.int a3), some (.int v2)]) dX7_letter_24 rfl (Nat.le_of_ble_eq_true rfl) rfl ?_
    refine V_iload (q := 28) dX7_letter_26 rfl rfl ?_
    refine V_if_ne (q := 34) (q2 := 31) dX7_letter_28 rfl rfl (fun hb19 => ?_) (fun hb19 => ?_)
    · replace h := ie h hb19
      refine V_iload_n (q := 35) dX7_letter_34 rfl rfl ?_
      refine V_if_ge (q := 41) (q2 := 38) dX7_letter_35 rfl rfl (fun hb18 => ?_) (fun hb18 => ?_)
      · replace h := it h hb18
        refine V_iload_n (q := 42) dX7_letter_41 rfl rfl ?_
        refine V_iconst (q := 43) (v := (-1)) dX7_letter_42 rfl iconst_m1 ?_
        refine V_icmp_ne (q := 60) (q2 := 46) dX7_letter_43 rfl rfl (fun hb17 => ?_) (fun hb17 => ?_)
        · replace h := ie h hb17
          refine V_iload_n (q := 61) dX7_letter_60 rfl rfl ?_
          refine V_if_lt (q := 77) (q2 := 64) dX7_letter_61 rfl rfl (fun hb11 => ?_) (fun hb11 => ?_)
          · replace h := it h hb11
            refine V_ldc (q := 79) kc_RX7_65 dX7_letter_77 rfl ?_
            cases h
            exact V_iret rfl dX7_letter_79
          · replace h := ie h hb11
            refine V_iload_n (q := 65) dX7_letter_64 rfl rfl ?_
            refine V_aload_n (q := 66) dX7_letter_65 rfl rfl ?_
            refine V_getr (k := 0) (j := 1) (q := 69) clz_6 dX7_letter_66 rfl rfl rfl (Nat.le_of_ble_eq_true rfl) fl_RX7_19 ?_
            refine V_getr (k := 4) (j := 2) (q := 72) clz_0 dX7_letter_69 rfl rfl rfl (Nat.le_of_ble_eq_true rfl) fl_RX7_156 ?_
            refine V_iload_n (q := 73) dX7_letter_72 rfl rfl ?_
            obtain ⟨hi4, x3, ex5, h⟩ := rI_ok h
            refine V_iald (k := 6) (q := 74) dX7_letter_73 rfl rfl hi4 ex5 ?_
            refine V_icmp_lt (q := 80) (q2 := 77) dX7_letter_74 rfl rfl (fun hb10 => ?_) (fun hb10 => ?_)
            · replace h := it h hb10
              refine V_aload_n (q := 81) dX7_letter_80 rfl rfl ?_
              refine V_getr (k := 0) (j := 1) (q := 84) clz_6 dX7_letter_81 rfl rfl rfl (Nat.le_of_ble_eq_true rfl) fl_RX7_19 ?_
              refine V_iload_n (q := 85) dX7_letter_84 rfl rfl ?_
              refine V_iload_n (q := 86) dX7_letter_85 rfl rfl ?_
              obtain ⟨x6, hc7, h⟩ := cP_ok h
              refine V_cv1 (k := 4) (q := 89) (As := [.int a1, .int a2]) (rest := []) (ct_X1_wordOf (xY X) hc7) ce_X1_wordOf clz_0 rfl im_yX1_wordOf se_yX1_wordOf rfl ml_RX7_176 rfl ⟨Nat.le_of_ble_eq_true rfl, Nat.le_of_ble_eq_true rfl⟩ rfl (Nat.le_of_ble_eq_true rfl) dX7_letter_86 rfl ?_
              refine V_iload_n (q := 90) dX7_letter_89 rfl rfl ?_
              obtain ⟨x8, hc9, h⟩ := cP_ok h
              refine V_cs1 (q := 93) (As := [.long x6, .int a3]) (rest := []) (ct_X0_at (xY X) hc9) ce_X0_at st_yX0_at ml_RX7_172 rfl ⟨Nat.le_of_ble_eq_true rfl, Nat.le_of_ble_eq_true rfl⟩ rfl (Nat.le_of_ble_eq_true rfl) dX7_letter_90 rfl ?_
              cases h
              exact V_iret rfl dX7_letter_93
            · replace h := ie h hb10
              refine V_ldc (q := 79) kc_RX7_65 dX7_letter_77 rfl ?_
              cases h
              exact V_iret rfl dX7_letter_79
        · replace h := it h hb17
          refine V_aload_n (q := 47) dX7_letter_46 rfl rfl ?_
          refine V_getr (k := 0) (j := 1) (q := 50) clz_6 dX7_letter_47 rfl rfl rfl (Nat.le_of_ble_eq_true rfl) fl_RX7_19 ?_
          refine V_getr (k := 4) (j := 7) (q := 53) clz_0 dX7_letter_50 rfl rfl rfl (Nat.le_of_ble_eq_true rfl) fl_RX7_169 ?_
          refine V_iload_n (q := 54) dX7_letter_53 rfl rfl ?_
          obtain ⟨hi13, x12, ex14, h⟩ := rL_ok h
          refine V_lald (k := 10) (q := 55) dX7_letter_54 rfl rfl hi13 ex14 ?_
          refine V_iload_n (q := 56) dX7_letter_55 rfl rfl ?_
          obtain ⟨x15, hc16, h⟩ := cP_ok h
          refine V_cs1 (q := 59) (As := [.long x12, .int a3]) (rest := []) (ct_X0_at (xY X) hc16) ce_X0_at st_yX0_at ml_RX7_172 rfl ⟨Nat.le_of_ble_eq_true rfl, Nat.le_of_ble_eq_true rfl⟩ rfl (Nat.le_of_ble_eq_true rfl) dX7_letter_56 rfl ?_
          cases h
          exact V_iret rfl dX7_letter_59
      · replace h := ie h hb18
        refine V_ldc (q := 40) kc_RX7_65 dX7_letter_38 rfl ?_
        cases h
        exact V_iret rfl dX7_letter_40
    · replace h := it h hb19
      refine V_ldc (q := 33) kc_RX7_114 dX7_letter_31 rfl ?_
      cases h
      exact V_iret rfl dX7_letter_33
  refine V_icmp_ne (q := 16) (q2 := 5) dX7_letter_2 rfl rfl (fun hb24 => ?_) (fun hb24 => ?_)
  · replace h := ie h hb24
    refine V_aload_n (q := 17) dX7_letter_16 rfl rfl ?_
    refine V_getr (k := 0) (j := 1) (q := 20) clz_6 dX7_letter_17 rfl rfl rfl (Nat.le_of_ble_eq_true rfl) fl_RX7_19 ?_
    refine V_iload_n (q := 21) dX7_letter_20 rfl rfl ?_
    obtain ⟨x20, hc21, h⟩ := cP_ok h
    refine V_cv1 (k := 4) (q := 24) (As := [.int a1]) (rest := []) (ct_X1_isTerm (xY X) hc21) ce_X1_isTerm clz_0 rfl im_yX1_isTerm se_yX1_isTerm rfl ml_RX7_111 rfl ⟨Nat.le_of_ble_eq_true rfl, Nat.le_of_ble_eq_true rfl⟩ rfl (Nat.le_of_ble_eq_true rfl) dX7_letter_21 rfl ?_
    exact hk1 (x20) h
  · replace h := it h hb24
    refine V_aload_n (q := 6) dX7_letter_5 rfl rfl ?_
    refine V_getr (k := 0) (j := 1) (q := 9) clz_6 dX7_letter_6 rfl rfl rfl (Nat.le_of_ble_eq_true rfl) fl_RX7_19 ?_
    refine V_iload_n (q := 10) dX7_letter_9 rfl rfl ?_
    obtain ⟨x22, hc23, h⟩ := cP_ok h
    refine V_cv1 (k := 4) (q := 13) (As := [.int a1]) (rest := []) (ct_X1_isEnding (xY X) hc23) ce_X1_isEnding clz_0 rfl im_yX1_isEnding se_yX1_isEnding rfl ml_RX7_125 rfl ⟨Nat.le_of_ble_eq_true rfl, Nat.le_of_ble_eq_true rfl⟩ rfl (Nat.le_of_ble_eq_true rfl) dX7_letter_10 rfl ?_
    refine V_goto (q := 24) dX7_letter_13 rfl ?_
    exact hk1 (x22) h
def M_X8_letter : Mc := (RX8, cX8_letter, 5, { frames := 2, cells := 0, slots := 0, locals := 43 }, (some .int))
theorem ce_X8_letter : Cee M_X8_letter yX8_letter 3 := ⟨cd_yX8_letter, ini_RX8, ⟨by decide +kernel, by decide +kernel, by decide +kernel⟩, rfl, rfl⟩
set_option maxRecDepth 20000 in
theorem ct_X8_letter (Y : Yc) {σ : Sg} {a1 : Int32} {a2 : Int32} {a3 : Int32} {r : Int32} (h : f_X8_letter σ a1 a2 a3 = some r) : Ct M_X8_letter yX8_letter Y [.ref (ad Y 43), .int a1, .int a2, .int a3] σ (some (.int r)) σ := by
  refine Ct_intro [some (.ref (ad Y 43)), some (.int a1), some (.int a2), some (.int a3), none] (by decide +kernel) rfl (Nat.le_of_ble_eq_true rfl) rfl (fun X hY => ?_) ⟨rfl, rfl⟩
  subst hY
  unfold f_X8_letter at h
  refine V_iload_n (q := 1) dX8_letter_0 rfl rfl ?_
  refine V_iconst (q := 2) (v := (-1)) dX8_letter_1 rfl iconst_m1 ?_
  obtain ⟨k1, ek1, h⟩ := jn_ok h
  have hk1 : k1 = some r → V X M_X8_letter (mq X (some (.int r)) σ) 27 [some (.ref (ad (xY X) 43)), some (.int a1), some (.int a2), some (.int a3), none] [] σ := by
    clear h
    intro  h
    rw [ek1] at h
    refine V_iload_n (q := 28) dX8_letter_27 rfl rfl ?_
    refine V_if_lt (q := 56) (q2 := 31) dX8_letter_28 rfl rfl (fun hb25 => ?_) (fun hb25 => ?_)
    · replace h := it h hb25
      refine V_ldc (q := 58) kc_RX8_52 dX8_letter_56 rfl ?_
      cases h
      exact V_iret rfl dX8_letter_58
    · replace h := ie h hb25
      refine V_iload_n (q := 32) dX8_letter_31 rfl rfl ?_
      refine V_iconst (q := 33) (v := (-1)) dX8_letter_32 rfl iconst_m1 ?_
      refine V_icmp_lt (q := 56) (q2 := 36) dX8_letter_33 rfl rfl (fun hb24 => ?_) (fun hb24 => ?_)
      · replace h := it h hb24
        refine V_ldc (q := 58) kc_RX8_52 dX8_letter_56 rfl ?_
        cases h
        exact V_iret rfl dX8_letter_58
      · replace h := ie h hb24
        refine V_iload_n (q := 37) dX8_letter_36 rfl rfl ?_
        refine V_iconst (q := 38) (v := (-1)) dX8_letter_37 rfl iconst_m1 ?_
        obtain ⟨k2, ek2, h⟩ := jn_ok h
        have hk2 : k2 = some r → V X M_X8_letter (mq X (some (.int r)) σ) 59 [some (.ref (ad (xY X) 43)), some (.int a1), some (.int a2), some (.int a3), none] [] σ := by
          clear h
          intro  h
          rw [ek2] at h
          refine V_iload_n (q := 60) dX8_letter_59 rfl rfl ?_
          refine V_iconst (q := 61) (v := (-1)) dX8_letter_60 rfl iconst_m1 ?_
          obtain ⟨k3, ek3, h⟩ := jn_ok h
          have hk3 : ∀ (v4 : Int32), k3 v4 = some r → V X M_X8_letter (mq X (some (.int r)) σ) 76 [some (.ref (ad (xY X) 43)), none, none, some (.int a3), none] [.int v4] σ := by
            clear h
            intro v4 h
            rw [ek3] at h
            refine V_istore (q := 78) (L' := [some (.ref (ad (xY X) 43)), none, none, some (.int a3), some (.int v4)]) dX8_letter_76 rfl (Nat.le_of_ble_eq_true rfl) rfl ?_
            refine V_iload_n (q := 79) dX8_letter_78 rfl rfl ?_
            refine V_aload_n (q := 80) dX8_letter_79 rfl rfl ?_
            refine V_getr (k := 43) (j := 0) (q := 83) clz_7 dX8_letter_80 rfl rfl rfl (Nat.le_of_ble_eq_true rfl) fl_RX8_7 ?_
            refine V_iload (q := 85) dX8_letter_83 rfl rfl ?_
            obtain ⟨hi6, x5, ex7, h⟩ := rI_ok h
            refine V_iald (k := 44) (q := 86) dX8_letter_85 rfl rfl hi6 ex7 ?_
            refine V_icmp_ge (q := 103) (q2 := 89) dX8_letter_86 rfl rfl (fun hb11 => ?_) (fun hb11 => ?_)
            · replace h := it h hb11
              refine V_iconst (q := 104) (v := (-1)) dX8_letter_103 rfl iconst_m1 ?_
              cases h
              exact V_iret rfl dX8_letter_104
            · replace h := ie h hb11
              refine V_aload_n (q := 90) dX8_letter_89 rfl rfl ?_
              refine V_getr (k := 43) (j := 0) (q := 93) clz_7 dX8_letter_90 rfl rfl rfl (Nat.le_of_ble_eq_true rfl) fl_RX8_7 ?_
              refine V_iload (q := 95) dX8_letter_93 rfl rfl ?_
              refine V_iconst (q := 96) (v := 1) dX8_letter_95 rfl iconst_1 ?_
              refine V_iadd (q := 97) dX8_letter_96 rfl ?_
              refine V_iload_n (q := 98) dX8_letter_97 rfl rfl ?_
              refine V_iadd (q := 99) dX8_letter_98 rfl ?_
              obtain ⟨hi9, x8, ex10, h⟩ := rI_ok h
              refine V_iald (k := 44) (q := 100) dX8_letter_99 rfl rfl hi9 ex10 ?_
              refine V_goto (q := 104) dX8_letter_100 rfl ?_
              cases h
              exact V_iret rfl dX8_letter_104
          refine V_icmp_ne (q := 71) (q2 := 64) dX8_letter_61 rfl rfl (fun hb16 => ?_) (fun hb16 => ?_)
          · replace h := ie h hb16
            refine V_iload_n (q := 72) dX8_letter_71 rfl rfl ?_
            refine V_iload_n (q := 73) dX8_letter_72 rfl rfl ?_
            obtain ⟨x12, hc13, h⟩ := cP_ok h
            refine V_cs1 (q := 76) (As := [.int a1, .int a2]) (rest := []) (ct_X8_wordAt (xY X) hc13) ce_X8_wordAt st_yX8_wordAt ml_RX8_62 rfl ⟨Nat.le_of_ble_eq_true rfl, Nat.le_of_ble_eq_true rfl⟩ rfl (Nat.le_of_ble_eq_true rfl) dX8_letter_73 rfl ?_
            refine V_msk (L' := [some (.ref (ad (xY X) 43)), none, none, some (.int a3), none]) [true, false, false, true, true] rfl ?_
            exact hk3 (x12) h
          · replace h := it h hb16
            refine V_iload_n (q := 65) dX8_letter_64 rfl rfl ?_
            obtain ⟨x14, hc15, h⟩ := cP_ok h
            refine V_cs1 (q := 68) (As := [.int a1]) (rest := []) (ct_X8_endingAt (xY X) hc15) ce_X8_endingAt st_yX8_endingAt ml_RX8_82 rfl ⟨Nat.le_of_ble_eq_true rfl, Nat.le_of_ble_eq_true rfl⟩ rfl (Nat.le_of_ble_eq_true rfl) dX8_letter_65 rfl ?_
            refine V_goto (q := 76) dX8_letter_68 rfl ?_
            refine V_msk (L' := [some (.ref (ad (xY X) 43)), none, none, some (.int a3), none]) [true, false, false, true, true] rfl ?_
            exact hk3 (x14) h
        refine V_icmp_eq (q := 59) (q2 := 41) dX8_letter_38 rfl rfl (fun hb23 => ?_) (fun hb23 => ?_)
        · replace h := it h hb23
          exact hk2  h
        · replace h := ie h hb23
          refine V_iload_n (q := 42) dX8_letter_41 rfl rfl ?_
          refine V_aload_n (q := 43) dX8_letter_42 rfl rfl ?_
          refine V_getr (k := 43) (j := 0) (q := 46) clz_7 dX8_letter_43 rfl rfl rfl (Nat.le_of_ble_eq_true rfl) fl_RX8_7 ?_
          refine V_iload_n (q := 47) dX8_letter_46 rfl rfl ?_
          obtain ⟨x17, hc18, h⟩ := cP_ok h
          refine V_cs1 (q := 50) (As := [.int a1]) (rest := [.ref (ad (xY X) 44), .int a2]) (ct_X8_termAt (xY X) hc18) ce_X8_termAt st_yX8_termAt ml_RX8_58 rfl ⟨Nat.le_of_ble_eq_true rfl, Nat.le_of_ble_eq_true rfl⟩ rfl (Nat.le_of_ble_eq_true rfl) dX8_letter_47 rfl ?_
          refine V_iconst (q := 51) (v := 0) dX8_letter_50 rfl iconst_0 ?_
          refine V_iadd (q := 52) dX8_letter_51 rfl ?_
          obtain ⟨hi20, x19, ex21, h⟩ := rI_ok h
          refine V_iald (k := 44) (q := 53) dX8_letter_52 rfl rfl hi20 ex21 ?_
          refine V_icmp_lt (q := 59) (q2 := 56) dX8_letter_53 rfl rfl (fun hb22 => ?_) (fun hb22 => ?_)
          · replace h := it h hb22
            exact hk2  h
          · replace h := ie h hb22
            refine V_ldc (q := 58) kc_RX8_52 dX8_letter_56 rfl ?_
            cases h
            exact V_iret rfl dX8_letter_58
  refine V_icmp_ne (q := 16) (q2 := 5) dX8_letter_2 rfl rfl (fun hb32 => ?_) (fun hb32 => ?_)
  · replace h := ie h hb32
    refine V_aload_n (q := 17) dX8_letter_16 rfl rfl ?_
    refine V_iload_n (q := 18) dX8_letter_17 rfl rfl ?_
    obtain ⟨x26, hc27, h⟩ := cP_ok h
    refine V_cv1 (k := 43) (q := 21) (As := [.int a1]) (rest := []) (ct_X8_isTerm (xY X) hc27) ce_X8_isTerm clz_7 rfl im_yX8_isTerm se_yX8_isTerm rfl ml_RX8_85 rfl ⟨Nat.le_of_ble_eq_true rfl, Nat.le_of_ble_eq_true rfl⟩ rfl (Nat.le_of_ble_eq_true rfl) dX8_letter_18 rfl ?_
    refine V_if_ne (q := 27) (q2 := 24) dX8_letter_21 rfl rfl (fun hb28 => ?_) (fun hb28 => ?_)
    · replace h := ie h hb28
      exact hk1  h
    · replace h := it h hb28
      refine V_ldc (q := 26) kc_RX8_88 dX8_letter_24 rfl ?_
      cases h
      exact V_iret rfl dX8_letter_26
  · replace h := it h hb32
    refine V_aload_n (q := 6) dX8_letter_5 rfl rfl ?_
    refine V_iload_n (q := 7) dX8_letter_6 rfl rfl ?_
    obtain ⟨x29, hc30, h⟩ := cP_ok h
    refine V_cv1 (k := 43) (q := 10) (As := [.int a1]) (rest := []) (ct_X8_isEnding (xY X) hc30) ce_X8_isEnding clz_7 rfl im_yX8_isEnding se_yX8_isEnding rfl ml_RX8_92 rfl ⟨Nat.le_of_ble_eq_true rfl, Nat.le_of_ble_eq_true rfl⟩ rfl (Nat.le_of_ble_eq_true rfl) dX8_letter_7 rfl ?_
    refine V_if_ne (q := 27) (q2 := 13) dX8_letter_10 rfl rfl (fun hb31 => ?_) (fun hb31 => ?_)
    · replace h := ie h hb31
      exact hk1  h
    · replace h := it h hb31
      refine V_goto (q := 24) dX8_letter_13 rfl ?_
      refine V_ldc (q := 26) kc_RX8_88 dX8_letter_24 rfl ?_
      cases h
      exact V_iret rfl dX8_letter_26
def M_X6_endWord : Mc := (RX6, cX6_endWord, 1, { frames := 0, cells := 0, slots := 0, locals := 0 }, none)
theorem ce_X6_endWord : Cee M_X6_endWord yX6_endWord 0 := ⟨cd_yX6_endWord, ini_RX6, ⟨by decide +kernel, by decide +kernel, by decide +kernel⟩, rfl, rfl⟩
set_option maxRecDepth 20000 in
theorem ct_X6_endWord (Y : Yc) {σ : Sg}  {r : Unit} {σr : Sg} (h : f_X6_endWord σ  = some (r, σr)) : Ct M_X6_endWord yX6_endWord Y [.ref (ad Y 26)] σ none σr := by
  refine Ct_intro [some (.ref (ad Y 26))] (by decide +kernel) rfl (Nat.le_of_ble_eq_true rfl) rfl (fun X hY => ?_) ⟨rfl, rfl⟩
  subst hY
  unfold f_X6_endWord at h
  refine V_aload_n (q := 1) dX6_endWord_0 rfl rfl ?_
  refine V_getl (k := 26) (j := 5) (q := 4) clz_5 dX6_endWord_1 rfl rfl rfl (Nat.le_of_ble_eq_true rfl) fl_RX6_30 ?_
  refine V_lconst (q := 5) (v := 0) dX6_endWord_4 rfl rfl ?_
  refine V_lcmp (q := 6) dX6_endWord_5 rfl ?_
  refine V_if_eq (q := 18) (q2 := 9) dX6_endWord_6 rfl rfl (fun hb17 => ?_) (fun hb17 => ?_)
  · replace h := it h hb17
    cases h
    exact V_vret rfl dX6_endWord_18
  · replace h := ie h hb17
    refine V_aload_n (q := 10) dX6_endWord_9 rfl rfl ?_
    refine V_geti (k := 26) (j := 0) (q := 13) clz_5 dX6_endWord_10 rfl rfl rfl (Nat.le_of_ble_eq_true rfl) fl_RX6_23 ?_
    refine V_bipush (q := 15) (v := 60) dX6_endWord_13 rfl bipush_60 ?_
    refine V_icmp_lt (q := 19) (q2 := 18) dX6_endWord_15 rfl rfl (fun hb16 => ?_) (fun hb16 => ?_)
    · replace h := it h hb16
      refine V_aload_n (q := 20) dX6_endWord_19 rfl rfl ?_
      refine V_getr (k := 26) (j := 1) (q := 23) clz_5 dX6_endWord_20 rfl rfl rfl (Nat.le_of_ble_eq_true rfl) fl_RX6_11 ?_
      refine V_aload_n (q := 24) dX6_endWord_23 rfl rfl ?_
      refine V_geti (k := 26) (j := 0) (q := 27) clz_5 dX6_endWord_24 rfl rfl rfl (Nat.le_of_ble_eq_true rfl) fl_RX6_23 ?_
      refine V_aload_n (q := 28) dX6_endWord_27 rfl rfl ?_
      refine V_getl (k := 26) (j := 5) (q := 31) clz_5 dX6_endWord_28 rfl rfl rfl (Nat.le_of_ble_eq_true rfl) fl_RX6_30 ?_
      obtain ⟨hi3, s1, e2, h⟩ := wL_ok h
      refine V_last (k := 27) (q := 32) dX6_endWord_31 rfl rfl hi3 e2 ?_
      refine V_aload_n (q := 33) dX6_endWord_32 rfl rfl ?_
      refine V_getr (k := 26) (j := 2) (q := 36) clz_5 dX6_endWord_33 rfl rfl rfl (Nat.le_of_ble_eq_true rfl) fl_RX6_15 ?_
      refine V_aload_n (q := 37) dX6_endWord_36 rfl rfl ?_
      refine V_geti (k := 26) (j := 0) (q := 40) clz_5 dX6_endWord_37 rfl rfl rfl (Nat.le_of_ble_eq_true rfl) fl_RX6_23 ?_
      refine V_aload_n (q := 41) dX6_endWord_40 rfl rfl ?_
      refine V_geti (k := 26) (j := 6) (q := 44) clz_5 dX6_endWord_41 rfl rfl rfl (Nat.le_of_ble_eq_true rfl) fl_RX6_34 ?_
      obtain ⟨hi6, s4, e5, h⟩ := wI_ok h
      refine V_zast (k := 28) (q := 45) dX6_endWord_44 rfl rfl hi6 e5 ?_
      refine V_aload_n (q := 46) dX6_endWord_45 rfl rfl ?_
      refine V_getr (k := 26) (j := 3) (q := 49) clz_5 dX6_endWord_46 rfl rfl rfl (Nat.le_of_ble_eq_true rfl) fl_RX6_19 ?_
      refine V_aload_n (q := 50) dX6_endWord_49 rfl rfl ?_
      refine V_geti (k := 26) (j := 0) (q := 53) clz_5 dX6_endWord_50 rfl rfl rfl (Nat.le_of_ble_eq_true rfl) fl_RX6_23 ?_
      refine V_aload_n (q := 54) dX6_endWord_53 rfl rfl ?_
      refine V_geti (k := 26) (j := 4) (q := 57) clz_5 dX6_endWord_54 rfl rfl rfl (Nat.le_of_ble_eq_true rfl) fl_RX6_27 ?_
      obtain ⟨hi9, s7, e8, h⟩ := wI_ok h
      refine V_iast (k := 29) (q := 58) dX6_endWord_57 rfl rfl hi9 e8 ?_
      refine V_aload_n (q := 59) dX6_endWord_58 rfl rfl ?_
      refine V_dup (q := 60) dX6_endWord_59 rfl rfl ?_
      refine V_geti (k := 26) (j := 0) (q := 63) clz_5 dX6_endWord_60 rfl rfl rfl (Nat.le_of_ble_eq_true rfl) fl_RX6_23 ?_
      refine V_iconst (q := 64) (v := 1) dX6_endWord_63 rfl iconst_1 ?_
      refine V_iadd (q := 65) dX6_endWord_64 rfl ?_
      obtain ⟨s10, e11, h⟩ := pI_ok h
      refine V_puti (k := 26) (j := 0) (q := 68) clz_5 .int (by decide +kernel) rfl rfl rfl dX6_endWord_65 rfl rfl rfl (Nat.le_of_ble_eq_true rfl) fl_RX6_23 e11 ?_
      refine V_aload_n (q := 69) dX6_endWord_68 rfl rfl ?_
      refine V_lconst (q := 70) (v := 0) dX6_endWord_69 rfl rfl ?_
      obtain ⟨s12, e13, h⟩ := pL_ok h
      refine V_putl (k := 26) (j := 5) (q := 73) clz_5 rfl rfl dX6_endWord_70 rfl rfl rfl (Nat.le_of_ble_eq_true rfl) fl_RX6_30 e13 ?_
      refine V_aload_n (q := 74) dX6_endWord_73 rfl rfl ?_
      refine V_iconst (q := 75) (v := 0) dX6_endWord_74 rfl iconst_0 ?_
      obtain ⟨s14, e15, h⟩ := pI_ok h
      refine V_puti (k := 26) (j := 6) (q := 78) clz_5 .boolean (by decide +kernel) rfl rfl rfl dX6_endWord_75 rfl rfl rfl (Nat.le_of_ble_eq_true rfl) fl_RX6_34 e15 ?_
      cases h
      exact V_vret rfl dX6_endWord_78
    · replace h := ie h hb16
      cases h
      exact V_vret rfl dX6_endWord_18
def M_X6_endSentence : Mc := (RX6, cX6_endSentence, 1, { frames := 0, cells := 0, slots := 0, locals := 0 }, none)
theorem ce_X6_endSentence : Cee M_X6_endSentence yX6_endSentence 0 := ⟨cd_yX6_endSentence, ini_RX6, ⟨by decide +kernel, by decide +kernel, by decide +kernel⟩, rfl, rfl⟩
set_option maxRecDepth 20000 in
theorem ct_X6_endSentence (Y : Yc) {σ : Sg}  {r : Unit} {σr : Sg} (h : f_X6_endSentence σ  = some (r, σr)) : Ct M_X6_endSentence yX6_endSentence Y [.ref (ad Y 26)] σ none σr := by
  refine Ct_intro [some (.ref (ad Y 26))] (by decide +kernel) rfl (Nat.le_of_ble_eq_true rfl) rfl (fun X hY => ?_) ⟨rfl, rfl⟩
  subst hY
  unfold f_X6_endSentence at h
  refine V_aload_n (q := 1) dX6_endSentence_0 rfl rfl ?_
  refine V_geti (k := 26) (j := 0) (q := 4) clz_5 dX6_endSentence_1 rfl rfl rfl (Nat.le_of_ble_eq_true rfl) fl_RX6_23 ?_
  refine V_if_le (q := 35) (q2 := 7) dX6_endSentence_4 rfl rfl (fun hb7 => ?_) (fun hb7 => ?_)
  · replace h := it h hb7
    cases h
    exact V_vret rfl dX6_endSentence_35
  · replace h := ie h hb7
    refine V_aload_n (q := 8) dX6_endSentence_7 rfl rfl ?_
    refine V_getr (k := 26) (j := 3) (q := 11) clz_5 dX6_endSentence_8 rfl rfl rfl (Nat.le_of_ble_eq_true rfl) fl_RX6_19 ?_
    refine V_aload_n (q := 12) dX6_endSentence_11 rfl rfl ?_
    refine V_geti (k := 26) (j := 0) (q := 15) clz_5 dX6_endSentence_12 rfl rfl rfl (Nat.le_of_ble_eq_true rfl) fl_RX6_23 ?_
    refine V_iconst (q := 16) (v := 1) dX6_endSentence_15 rfl iconst_1 ?_
    refine V_isub (q := 17) dX6_endSentence_16 rfl ?_
    obtain ⟨hi2, x1, ex3, h⟩ := rI_ok h
    refine V_iald (k := 29) (q := 18) dX6_endSentence_17 rfl rfl hi2 ex3 ?_
    refine V_aload_n (q := 19) dX6_endSentence_18 rfl rfl ?_
    refine V_geti (k := 26) (j := 4) (q := 22) clz_5 dX6_endSentence_19 rfl rfl rfl (Nat.le_of_ble_eq_true rfl) fl_RX6_27 ?_
    refine V_icmp_ne (q := 35) (q2 := 25) dX6_endSentence_22 rfl rfl (fun hb6 => ?_) (fun hb6 => ?_)
    · replace h := ie h hb6
      cases h
      exact V_vret rfl dX6_endSentence_35
    · replace h := it h hb6
      refine V_aload_n (q := 26) dX6_endSentence_25 rfl rfl ?_
      refine V_dup (q := 27) dX6_endSentence_26 rfl rfl ?_
      refine V_geti (k := 26) (j := 4) (q := 30) clz_5 dX6_endSentence_27 rfl rfl rfl (Nat.le_of_ble_eq_true rfl) fl_RX6_27 ?_
      refine V_iconst (q := 31) (v := 1) dX6_endSentence_30 rfl iconst_1 ?_
      refine V_iadd (q := 32) dX6_endSentence_31 rfl ?_
      obtain ⟨s4, e5, h⟩ := pI_ok h
      refine V_puti (k := 26) (j := 4) (q := 35) clz_5 .int (by decide +kernel) rfl rfl rfl dX6_endSentence_32 rfl rfl rfl (Nat.le_of_ble_eq_true rfl) fl_RX6_27 e5 ?_
      cases h
      exact V_vret rfl dX6_endSentence_35
def M_X6_addLetter : Mc := (RX6, cX6_addLetter, 3, { frames := 1, cells := 0, slots := 0, locals := 23 }, none)
theorem ce_X6_addLetter : Cee M_X6_addLetter yX6_addLetter 1 := ⟨cd_yX6_addLetter, ini_RX6, ⟨by decide +kernel, by decide +kernel, by decide +kernel⟩, rfl, rfl⟩
set_option maxRecDepth 20000 in
theorem ct_X6_addLetter (Y : Yc) {σ : Sg} {a1 : Int32} {r : Unit} {σr : Sg} (h : f_X6_addLetter σ a1 = some (r, σr)) : Ct M_X6_addLetter yX6_addLetter Y [.ref (ad Y 26), .int a1] σ none σr := by
  refine Ct_intro [some (.ref (ad Y 26)), some (.int a1), none] (by decide +kernel) rfl (Nat.le_of_ble_eq_true rfl) rfl (fun X hY => ?_) ⟨rfl, rfl⟩
  subst hY
  unfold f_X6_addLetter at h
  refine V_aload_n (q := 1) dX6_addLetter_0 rfl rfl ?_
  refine V_getl (k := 26) (j := 5) (q := 4) clz_5 dX6_addLetter_1 rfl rfl rfl (Nat.le_of_ble_eq_true rfl) fl_RX6_30 ?_
  obtain ⟨x1, hc2, h⟩ := cP_ok h
  refine V_cs1 (q := 7) (As := [.long (σ.2 26 5)]) (rest := []) (ct_X0_sizeOf (xY X) hc2) ce_X0_sizeOf st_yX0_sizeOf ml_RX6_54 rfl ⟨Nat.le_of_ble_eq_true rfl, Nat.le_of_ble_eq_true rfl⟩ rfl (Nat.le_of_ble_eq_true rfl) dX6_addLetter_4 rfl ?_
  refine V_istore_n (q := 8) (L' := [some (.ref (ad (xY X) 26)), some (.int a1), some (.int x1)]) dX6_addLetter_7 rfl (Nat.le_of_ble_eq_true rfl) rfl ?_
  refine V_iload_n (q := 9) dX6_addLetter_8 rfl rfl ?_
  refine V_bipush (q := 11) (v := 12) dX6_addLetter_9 rfl bipush_12 ?_
  refine V_icmp_ge (q := 30) (q2 := 14) dX6_addLetter_11 rfl rfl (fun hb9 => ?_) (fun hb9 => ?_)
  · replace h := it h hb9
    refine V_aload_n (q := 31) dX6_addLetter_30 rfl rfl ?_
    refine V_iconst (q := 32) (v := 1) dX6_addLetter_31 rfl iconst_1 ?_
    obtain ⟨s3, e4, h⟩ := pI_ok h
    refine V_puti (k := 26) (j := 6) (q := 35) clz_5 .boolean (by decide +kernel) rfl rfl rfl dX6_addLetter_32 rfl rfl rfl (Nat.le_of_ble_eq_true rfl) fl_RX6_34 e4 ?_
    cases h
    exact V_vret rfl dX6_addLetter_35
  · replace h := ie h hb9
    refine V_aload_n (q := 15) dX6_addLetter_14 rfl rfl ?_
    refine V_aload_n (q := 16) dX6_addLetter_15 rfl rfl ?_
    refine V_getl (k := 26) (j := 5) (q := 19) clz_5 dX6_addLetter_16 rfl rfl rfl (Nat.le_of_ble_eq_true rfl) fl_RX6_30 ?_
    refine V_iload_n (q := 20) dX6_addLetter_19 rfl rfl ?_
    refine V_iload_n (q := 21) dX6_addLetter_20 rfl rfl ?_
    obtain ⟨x5, hc6, h⟩ := cP_ok h
    refine V_cs1 (q := 24) (As := [.long (σ.2 26 5), .int x1, .int a1]) (rest := [.ref (ad (xY X) 26)]) (ct_X0_with (xY X) hc6) ce_X0_with st_yX0_with ml_RX6_62 rfl ⟨Nat.le_of_ble_eq_true rfl, Nat.le_of_ble_eq_true rfl⟩ rfl (Nat.le_of_ble_eq_true rfl) dX6_addLetter_21 rfl ?_
    obtain ⟨s7, e8, h⟩ := pL_ok h
    refine V_putl (k := 26) (j := 5) (q := 27) clz_5 rfl rfl dX6_addLetter_24 rfl rfl rfl (Nat.le_of_ble_eq_true rfl) fl_RX6_30 e8 ?_
    refine V_goto (q := 35) dX6_addLetter_27 rfl ?_
    cases h
    exact V_vret rfl dX6_addLetter_35
def M_X6_take : Mc := (RX6, cX6_take, 2, { frames := 2, cells := 0, slots := 0, locals := 45 }, none)
theorem ce_X6_take : Cee M_X6_take yX6_take 1 := ⟨cd_yX6_take, ini_RX6, ⟨by decide +kernel, by decide +kernel, by decide +kernel⟩, rfl, rfl⟩
set_option maxRecDepth 20000 in
theorem ct_X6_take (Y : Yc) {σ : Sg} {a1 : Int32} {r : Unit} {σr : Sg} (h : f_X6_take σ a1 = some (r, σr)) : Ct M_X6_take yX6_take Y [.ref (ad Y 26), .int a1] σ none σr := by
  refine Ct_intro [some (.ref (ad Y 26)), some (.int a1)] (by decide +kernel) rfl (Nat.le_of_ble_eq_true rfl) rfl (fun X hY => ?_) ⟨rfl, rfl⟩
  subst hY
  unfold f_X6_take at h
  refine V_iload_n (q := 1) dX6_take_0 rfl rfl ?_
  obtain ⟨x1, hc2, h⟩ := cP_ok h
  refine V_cs1 (q := 4) (As := [.int a1]) (rest := []) (ct_X0_isLetter (xY X) hc2) ce_X0_isLetter st_yX0_isLetter ml_RX6_38 rfl ⟨Nat.le_of_ble_eq_true rfl, Nat.le_of_ble_eq_true rfl⟩ rfl (Nat.le_of_ble_eq_true rfl) dX6_take_1 rfl ?_
  refine V_if_eq (q := 15) (q2 := 7) dX6_take_4 rfl rfl (fun hb13 => ?_) (fun hb13 => ?_)
  · replace h := it h hb13
    refine V_aload_n (q := 16) dX6_take_15 rfl rfl ?_
    obtain ⟨x3, s5, hc4, h⟩ := cA_ok h
    refine V_cv0 (k := 26) (q := 19) (As := []) (rest := []) (ct_X6_endWord (xY X) hc4) ce_X6_endWord clz_5 rfl im_yX6_endWord se_yX6_endWord rfl ml_RX6_48 rfl ⟨Nat.le_of_ble_eq_true rfl, Nat.le_of_ble_eq_true rfl⟩ rfl (Nat.le_of_ble_eq_true rfl) dX6_take_16 rfl ?_
    refine V_iload_n (q := 20) dX6_take_19 rfl rfl ?_
    refine V_bipush (q := 22) (v := 46) dX6_take_20 rfl bipush_46 ?_
    refine V_icmp_ne (q := 29) (q2 := 25) dX6_take_22 rfl rfl (fun hb9 => ?_) (fun hb9 => ?_)
    · replace h := ie h hb9
      cases h
      exact V_vret rfl dX6_take_29
    · replace h := it h hb9
      refine V_aload_n (q := 26) dX6_take_25 rfl rfl ?_
      obtain ⟨x6, s8, hc7, h⟩ := cA_ok h
      refine V_cv0 (k := 26) (q := 29) (As := []) (rest := []) (ct_X6_endSentence (xY X) hc7) ce_X6_endSentence clz_5 rfl im_yX6_endSentence se_yX6_endSentence rfl ml_RX6_51 rfl ⟨Nat.le_of_ble_eq_true rfl, Nat.le_of_ble_eq_true rfl⟩ rfl (Nat.le_of_ble_eq_true rfl) dX6_take_26 rfl ?_
      cases h
      exact V_vret rfl dX6_take_29
  · replace h := ie h hb13
    refine V_aload_n (q := 8) dX6_take_7 rfl rfl ?_
    refine V_iload_n (q := 9) dX6_take_8 rfl rfl ?_
    obtain ⟨x10, s12, hc11, h⟩ := cA_ok h
    refine V_cv0 (k := 26) (q := 12) (As := [.int a1]) (rest := []) (ct_X6_addLetter (xY X) hc11) ce_X6_addLetter clz_5 rfl im_yX6_addLetter se_yX6_addLetter rfl ml_RX6_44 rfl ⟨Nat.le_of_ble_eq_true rfl, Nat.le_of_ble_eq_true rfl⟩ rfl (Nat.le_of_ble_eq_true rfl) dX6_take_9 rfl ?_
    refine V_goto (q := 29) dX6_take_12 rfl ?_
    cases h
    exact V_vret rfl dX6_take_29
def M_X4_unsettle : Mc := (RX4, cX4_unsettle, 1, { frames := 0, cells := 0, slots := 0, locals := 0 }, none)
theorem ce_X4_unsettle : Cee M_X4_unsettle yX4_unsettle 0 := ⟨cd_yX4_unsettle, ini_RX4, ⟨by decide +kernel, by decide +kernel, by decide +kernel⟩, rfl, rfl⟩
set_option maxRecDepth 20000 in
theorem ct_X4_unsettle (Y : Yc) {σ : Sg}  {r : Unit} {σr : Sg} (h : f_X4_unsettle σ  = some (r, σr)) : Ct M_X4_unsettle yX4_unsettle Y [.ref (ad Y 30)] σ none σr := by
  refine Ct_intro [some (.ref (ad Y 30))] (by decide +kernel) rfl (Nat.le_of_ble_eq_true rfl) rfl (fun X hY => ?_) ⟨rfl, rfl⟩
  subst hY
  unfold f_X4_unsettle at h
  refine V_aload_n (q := 1) dX4_unsettle_0 rfl rfl ?_
  refine V_iconst (q := 2) (v := 0) dX4_unsettle_1 rfl iconst_0 ?_
  obtain ⟨s1, e2, h⟩ := pI_ok h
  refine V_puti (k := 30) (j := 3) (q := 5) clz_3 .boolean (by decide +kernel) rfl rfl rfl dX4_unsettle_2 rfl rfl rfl (Nat.le_of_ble_eq_true rfl) fl_RX4_56 e2 ?_
  cases h
  exact V_vret rfl dX4_unsettle_5
def M_X7_textChanged : Mc := (RX7, cX7_textChanged, 1, { frames := 1, cells := 0, slots := 0, locals := 20 }, none)
theorem ce_X7_textChanged : Cee M_X7_textChanged yX7_textChanged 0 := ⟨cd_yX7_textChanged, ini_RX7, ⟨by decide +kernel, by decide +kernel, by decide +kernel⟩, rfl, rfl⟩
set_option maxRecDepth 20000 in
theorem ct_X7_textChanged (Y : Yc) {σ : Sg}  {r : Unit} {σr : Sg} (h : f_X7_textChanged σ  = some (r, σr)) : Ct M_X7_textChanged yX7_textChanged Y [.ref (ad Y 0)] σ none σr := by
  refine Ct_intro [some (.ref (ad Y 0))] (by decide +kernel) rfl (Nat.le_of_ble_eq_true rfl) rfl (fun X hY => ?_) ⟨rfl, rfl⟩
  subst hY
  unfold f_X7_textChanged at h
  refine V_aload_n (q := 1) dX7_textChanged_0 rfl rfl ?_
  refine V_getr (k := 0) (j := 4) (q := 4) clz_6 dX7_textChanged_1 rfl rfl rfl (Nat.le_of_ble_eq_true rfl) fl_RX7_39 ?_
  obtain ⟨x1, s3, hc2, h⟩ := cA_ok h
  refine V_cv0 (k := 30) (q := 7) (As := []) (rest := []) (ct_X4_unsettle (xY X) hc2) ce_X4_unsettle clz_3 rfl im_yX4_unsettle se_yX4_unsettle rfl ml_RX7_292 rfl ⟨Nat.le_of_ble_eq_true rfl, Nat.le_of_ble_eq_true rfl⟩ rfl (Nat.le_of_ble_eq_true rfl) dX7_textChanged_4 rfl ?_
  refine V_aload_n (q := 8) dX7_textChanged_7 rfl rfl ?_
  refine V_getr (k := 0) (j := 5) (q := 11) clz_6 dX7_textChanged_8 rfl rfl rfl (Nat.le_of_ble_eq_true rfl) fl_RX7_48 ?_
  obtain ⟨x4, s6, hc5, h⟩ := cA_ok h
  refine V_cv0 (k := 40) (q := 14) (As := []) (rest := []) (ct_X3_forget (xY X) hc5) ce_X3_forget clz_2 rfl im_yX3_forget se_yX3_forget rfl ml_RX7_291 rfl ⟨Nat.le_of_ble_eq_true rfl, Nat.le_of_ble_eq_true rfl⟩ rfl (Nat.le_of_ble_eq_true rfl) dX7_textChanged_11 rfl ?_
  cases h
  exact V_vret rfl dX7_textChanged_14
def M_X6_hasRoom : Mc := (RX6, cX6_hasRoom, 1, { frames := 0, cells := 0, slots := 0, locals := 0 }, (some .boolean))
theorem ce_X6_hasRoom : Cee M_X6_hasRoom yX6_hasRoom 0 := ⟨cd_yX6_hasRoom, ini_RX6, ⟨by decide +kernel, by decide +kernel, by decide +kernel⟩, rfl, rfl⟩
set_option maxRecDepth 20000 in
theorem ct_X6_hasRoom (Y : Yc) {σ : Sg}  {r : Int32} (h : f_X6_hasRoom σ  = some r) : Ct M_X6_hasRoom yX6_hasRoom Y [.ref (ad Y 26)] σ (some (.int r)) σ := by
  refine Ct_intro [some (.ref (ad Y 26))] (by decide +kernel) rfl (Nat.le_of_ble_eq_true rfl) rfl (fun X hY => ?_) ⟨rfl, rfl⟩
  subst hY
  unfold f_X6_hasRoom at h
  refine V_aload_n (q := 1) dX6_hasRoom_0 rfl rfl ?_
  refine V_geti (k := 26) (j := 0) (q := 4) clz_5 dX6_hasRoom_1 rfl rfl rfl (Nat.le_of_ble_eq_true rfl) fl_RX6_23 ?_
  refine V_bipush (q := 6) (v := 60) dX6_hasRoom_4 rfl bipush_60 ?_
  refine V_icmp_ge (q := 13) (q2 := 9) dX6_hasRoom_6 rfl rfl (fun hb1 => ?_) (fun hb1 => ?_)
  · replace h := it h hb1
    refine V_iconst (q := 14) (v := 0) dX6_hasRoom_13 rfl iconst_0 ?_
    cases h
    exact V_zret rfl rfl dX6_hasRoom_14
  · replace h := ie h hb1
    refine V_iconst (q := 10) (v := 1) dX6_hasRoom_9 rfl iconst_1 ?_
    refine V_goto (q := 14) dX6_hasRoom_10 rfl ?_
    cases h
    exact V_zret rfl rfl dX6_hasRoom_14
def M_X7_read : Mc := (RX7, cX7_read, 2, { frames := 3, cells := 0, slots := 0, locals := 66 }, (some .int))
theorem ce_X7_read : Cee M_X7_read yX7_read 1 := ⟨cd_yX7_read, ini_RX7, ⟨by decide +kernel, by decide +kernel, by decide +kernel⟩, rfl, rfl⟩
set_option maxRecDepth 20000 in
theorem ct_X7_read (Y : Yc) {σ : Sg} {a1 : Int32} {r : Int32} {σr : Sg} (h : f_X7_read σ a1 = some (r, σr)) : Ct M_X7_read yX7_read Y [.ref (ad Y 0), .int a1] σ (some (.int r)) σr := by
  refine Ct_intro [some (.ref (ad Y 0)), some (.int a1)] (by decide +kernel) rfl (Nat.le_of_ble_eq_true rfl) rfl (fun X hY => ?_) ⟨rfl, rfl⟩
  subst hY
  unfold f_X7_read at h
  refine V_iload_n (q := 1) dX7_read_0 rfl rfl ?_
  refine V_if_lt (q := 11) (q2 := 4) dX7_read_1 rfl rfl (fun hb15 => ?_) (fun hb15 => ?_)
  · replace h := it h hb15
    refine V_ldc (q := 13) kc_RX7_65 dX7_read_11 rfl ?_
    cases h
    exact V_iret rfl dX7_read_13
  · replace h := ie h hb15
    refine V_iload_n (q := 5) dX7_read_4 rfl rfl ?_
    refine V_sipush (q := 8) (v := 255) dX7_read_5 rfl sipush_255 ?_
    refine V_icmp_le (q := 14) (q2 := 11) dX7_read_8 rfl rfl (fun hb14 => ?_) (fun hb14 => ?_)
    · replace h := it h hb14
      refine V_iload_n (q := 15) dX7_read_14 rfl rfl ?_
      obtain ⟨x1, hc2, h⟩ := cP_ok h
      refine V_cs1 (q := 18) (As := [.int a1]) (rest := []) (ct_X0_isLetter (xY X) hc2) ce_X0_isLetter st_yX0_isLetter ml_RX7_59 rfl ⟨Nat.le_of_ble_eq_true rfl, Nat.le_of_ble_eq_true rfl⟩ rfl (Nat.le_of_ble_eq_true rfl) dX7_read_15 rfl ?_
      obtain ⟨k3, ek3, h⟩ := jn_ok h
      have hk3 : k3 = some (r, σr) → V X M_X7_read (mq X (some (.int r)) σr) 34 [some (.ref (ad (xY X) 0)), some (.int a1)] [] σ := by
        clear h
        intro  h
        rw [ek3] at h
        refine V_aload_n (q := 35) dX7_read_34 rfl rfl ?_
        refine V_getr (k := 0) (j := 3) (q := 38) clz_6 dX7_read_35 rfl rfl rfl (Nat.le_of_ble_eq_true rfl) fl_RX7_30 ?_
        refine V_iload_n (q := 39) dX7_read_38 rfl rfl ?_
        obtain ⟨x4, s6, hc5, h⟩ := cA_ok h
        refine V_cv0 (k := 26) (q := 42) (As := [.int a1]) (rest := []) (ct_X6_take (xY X) hc5) ce_X6_take clz_5 rfl im_yX6_take se_yX6_take rfl ml_RX7_184 rfl ⟨Nat.le_of_ble_eq_true rfl, Nat.le_of_ble_eq_true rfl⟩ rfl (Nat.le_of_ble_eq_true rfl) dX7_read_39 rfl ?_
        refine V_aload_n (q := 43) dX7_read_42 rfl rfl ?_
        obtain ⟨x7, s9, hc8, h⟩ := cA_ok h
        refine V_cv0 (k := 0) (q := 46) (As := []) (rest := []) (ct_X7_textChanged (xY X) hc8) ce_X7_textChanged clz_6 rfl im_yX7_textChanged se_yX7_textChanged rfl ml_RX7_187 rfl ⟨Nat.le_of_ble_eq_true rfl, Nat.le_of_ble_eq_true rfl⟩ rfl (Nat.le_of_ble_eq_true rfl) dX7_read_43 rfl ?_
        refine V_aload_n (q := 47) dX7_read_46 rfl rfl ?_
        refine V_getr (k := 0) (j := 3) (q := 50) clz_6 dX7_read_47 rfl rfl rfl (Nat.le_of_ble_eq_true rfl) fl_RX7_30 ?_
        refine V_geti (k := 26) (j := 0) (q := 53) clz_5 dX7_read_50 rfl rfl rfl (Nat.le_of_ble_eq_true rfl) fl_RX7_190 ?_
        cases h
        exact V_iret rfl dX7_read_53
      refine V_if_eq (q := 34) (q2 := 21) dX7_read_18 rfl rfl (fun hb13 => ?_) (fun hb13 => ?_)
      · replace h := it h hb13
        exact hk3  h
      · replace h := ie h hb13
        refine V_aload_n (q := 22) dX7_read_21 rfl rfl ?_
        refine V_getr (k := 0) (j := 3) (q := 25) clz_6 dX7_read_22 rfl rfl rfl (Nat.le_of_ble_eq_true rfl) fl_RX7_30 ?_
        obtain ⟨x10, hc11, h⟩ := cP_ok h
        refine V_cv1 (k := 26) (q := 28) (As := []) (rest := []) (ct_X6_hasRoom (xY X) hc11) ce_X6_hasRoom clz_5 rfl im_yX6_hasRoom se_yX6_hasRoom rfl ml_RX7_180 rfl ⟨Nat.le_of_ble_eq_true rfl, Nat.le_of_ble_eq_true rfl⟩ rfl (Nat.le_of_ble_eq_true rfl) dX7_read_25 rfl ?_
        refine V_if_ne (q := 34) (q2 := 31) dX7_read_28 rfl rfl (fun hb12 => ?_) (fun hb12 => ?_)
        · replace h := ie h hb12
          exact hk3  h
        · replace h := it h hb12
          refine V_ldc (q := 33) kc_RX7_73 dX7_read_31 rfl ?_
          cases h
          exact V_iret rfl dX7_read_33
    · replace h := ie h hb14
      refine V_ldc (q := 13) kc_RX7_65 dX7_read_11 rfl ?_
      cases h
      exact V_iret rfl dX7_read_13
def M_X8_clears : Mc := (RX8, cX8_clears, 3, { frames := 0, cells := 0, slots := 0, locals := 0 }, none)
theorem ce_X8_clears : Cee M_X8_clears yX8_clears 1 := ⟨cd_yX8_clears, ini_RX8, ⟨by decide +kernel, by decide +kernel, by decide +kernel⟩, rfl, rfl⟩
set_option maxRecDepth 20000 in
theorem w_X8_clears_L2 {X : Xc} {c1 : Int32} {r : Unit} {σr : Sg} {k : Sg → Option (Unit × Sg)}
    (hk : ∀ (s : Sg), k s = some (r, σr) → V X M_X8_clears (mq X none σr) 26 [none, none, none] [] s) :
    ∀ (n : Nat) (s : Sg) (i2 : Int32), f_X8_clears_L2 k c1 n s i2 = some (r, σr) → V X M_X8_clears (mq X none σr) 2 [some (.ref (ad (xY X) 43)), some (.int c1), some (.int i2)] [] s := by
  intro n
  induction n with
  | zero => intro s i2 h; cases h
  | succ n ih =>
    intro s i2 h
    rw [f_X8_clears_L2] at h
    refine V_iload_n (q := 3) dX8_clears_2 rfl rfl ?_
    refine V_bipush (q := 5) (v := 15) dX8_clears_3 rfl bipush_15 ?_
    refine V_icmp_ge (q := 26) (q2 := 8) dX8_clears_5 rfl rfl (fun hb4 => ?_) (fun hb4 => ?_)
    · replace h := it h hb4
      refine V_msk (L' := [none, none, none]) [false, false, false] rfl ?_
      exact hk (s) h
    · replace h := ie h hb4
      refine V_aload_n (q := 9) dX8_clears_8 rfl rfl ?_
      refine V_getr (k := 43) (j := 5) (q := 12) clz_7 dX8_clears_9 rfl rfl rfl (Nat.le_of_ble_eq_true rfl) fl_RX8_23 ?_
      refine V_bipush (q := 14) (v := 15) dX8_clears_12 rfl bipush_15 ?_
      refine V_iload_n (q := 15) dX8_clears_14 rfl rfl ?_
      refine V_imul (q := 16) dX8_clears_15 rfl ?_
      refine V_iload_n (q := 17) dX8_clears_16 rfl rfl ?_
      refine V_iadd (q := 18) dX8_clears_17 rfl ?_
      refine V_iconst (q := 19) (v := 0) dX8_clears_18 rfl iconst_0 ?_
      obtain ⟨hi3, s1, e2, h⟩ := wI_ok h
      refine V_iast (k := 48) (q := 20) dX8_clears_19 rfl rfl hi3 e2 ?_
      refine V_iinc (q := 23) (v := 1) (L' := [some (.ref (ad (xY X) 43)), some (.int c1), some (.int (i2 + 1))]) dX8_clears_20 rfl rfl iconst_1 (Nat.le_of_ble_eq_true rfl) rfl ?_
      refine V_goto (q := 2) dX8_clears_23 rfl ?_
      exact ih (s1) ((i2 + 1)) h
set_option maxRecDepth 20000 in
theorem ct_X8_clears (Y : Yc) {σ : Sg} {a1 : Int32} {r : Unit} {σr : Sg} (h : f_X8_clears σ a1 = some (r, σr)) : Ct M_X8_clears yX8_clears Y [.ref (ad Y 43), .int a1] σ none σr := by
  refine Ct_intro [some (.ref (ad Y 43)), some (.int a1), none] (by decide +kernel) rfl (Nat.le_of_ble_eq_true rfl) rfl (fun X hY => ?_) ⟨rfl, rfl⟩
  subst hY
  unfold f_X8_clears at h
  refine V_iconst (q := 1) (v := 0) dX8_clears_0 rfl iconst_0 ?_
  refine V_istore_n (q := 2) (L' := [some (.ref (ad (xY X) 43)), some (.int a1), some (.int 0)]) dX8_clears_1 rfl (Nat.le_of_ble_eq_true rfl) rfl ?_
  refine w_X8_clears_L2 (fun s5 h => ?_) fu (σ) (0) h
  cases h
  exact V_vret rfl dX8_clears_26
def M_X8_ends : Mc := (RX8, cX8_ends, 1, { frames := 1, cells := 0, slots := 0, locals := 22 }, none)
theorem ce_X8_ends : Cee M_X8_ends yX8_ends 0 := ⟨cd_yX8_ends, ini_RX8, ⟨by decide +kernel, by decide +kernel, by decide +kernel⟩, rfl, rfl⟩
set_option maxRecDepth 20000 in
theorem ct_X8_ends (Y : Yc) {σ : Sg}  {r : Unit} {σr : Sg} (h : f_X8_ends σ  = some (r, σr)) : Ct M_X8_ends yX8_ends Y [.ref (ad Y 43)] σ none σr := by
  refine Ct_intro [some (.ref (ad Y 43))] (by decide +kernel) rfl (Nat.le_of_ble_eq_true rfl) rfl (fun X hY => ?_) ⟨rfl, rfl⟩
  subst hY
  unfold f_X8_ends at h
  refine V_aload_n (q := 1) dX8_ends_0 rfl rfl ?_
  refine V_geti (k := 43) (j := 6) (q := 4) clz_7 dX8_ends_1 rfl rfl rfl (Nat.le_of_ble_eq_true rfl) fl_RX8_104 ?_
  refine V_bipush (q := 6) (v := 60) dX8_ends_4 rfl bipush_60 ?_
  refine V_icmp_ge (q := 60) (q2 := 9) dX8_ends_6 rfl rfl (fun hb13 => ?_) (fun hb13 => ?_)
  · replace h := it h hb13
    cases h
    exact V_vret rfl dX8_ends_60
  · replace h := ie h hb13
    refine V_aload_n (q := 10) dX8_ends_9 rfl rfl ?_
    refine V_getr (k := 43) (j := 5) (q := 13) clz_7 dX8_ends_10 rfl rfl rfl (Nat.le_of_ble_eq_true rfl) fl_RX8_23 ?_
    refine V_bipush (q := 15) (v := 15) dX8_ends_13 rfl bipush_15 ?_
    refine V_aload_n (q := 16) dX8_ends_15 rfl rfl ?_
    refine V_geti (k := 43) (j := 6) (q := 19) clz_7 dX8_ends_16 rfl rfl rfl (Nat.le_of_ble_eq_true rfl) fl_RX8_104 ?_
    refine V_imul (q := 20) dX8_ends_19 rfl ?_
    obtain ⟨hi2, x1, ex3, h⟩ := rI_ok h
    refine V_iald (k := 48) (q := 21) dX8_ends_20 rfl rfl hi2 ex3 ?_
    refine V_if_le (q := 60) (q2 := 24) dX8_ends_21 rfl rfl (fun hb12 => ?_) (fun hb12 => ?_)
    · replace h := it h hb12
      cases h
      exact V_vret rfl dX8_ends_60
    · replace h := ie h hb12
      refine V_aload_n (q := 25) dX8_ends_24 rfl rfl ?_
      refine V_getr (k := 43) (j := 5) (q := 28) clz_7 dX8_ends_25 rfl rfl rfl (Nat.le_of_ble_eq_true rfl) fl_RX8_23 ?_
      refine V_bipush (q := 30) (v := 15) dX8_ends_28 rfl bipush_15 ?_
      refine V_aload_n (q := 31) dX8_ends_30 rfl rfl ?_
      refine V_geti (k := 43) (j := 6) (q := 34) clz_7 dX8_ends_31 rfl rfl rfl (Nat.le_of_ble_eq_true rfl) fl_RX8_104 ?_
      refine V_imul (q := 35) dX8_ends_34 rfl ?_
      refine V_iconst (q := 36) (v := 1) dX8_ends_35 rfl iconst_1 ?_
      refine V_iadd (q := 37) dX8_ends_36 rfl ?_
      refine V_aload_n (q := 38) dX8_ends_37 rfl rfl ?_
      refine V_geti (k := 43) (j := 7) (q := 41) clz_7 dX8_ends_38 rfl rfl rfl (Nat.le_of_ble_eq_true rfl) fl_RX8_110 ?_
      obtain ⟨hi6, s4, e5, h⟩ := wI_ok h
      refine V_iast (k := 48) (q := 42) dX8_ends_41 rfl rfl hi6 e5 ?_
      refine V_aload_n (q := 43) dX8_ends_42 rfl rfl ?_
      refine V_dup (q := 44) dX8_ends_43 rfl rfl ?_
      refine V_geti (k := 43) (j := 6) (q := 47) clz_7 dX8_ends_44 rfl rfl rfl (Nat.le_of_ble_eq_true rfl) fl_RX8_104 ?_
      refine V_iconst (q := 48) (v := 1) dX8_ends_47 rfl iconst_1 ?_
      refine V_iadd (q := 49) dX8_ends_48 rfl ?_
      obtain ⟨s7, e8, h⟩ := pI_ok h
      refine V_puti (k := 43) (j := 6) (q := 52) clz_7 .int (by decide +kernel) rfl rfl rfl dX8_ends_49 rfl rfl rfl (Nat.le_of_ble_eq_true rfl) fl_RX8_104 e8 ?_
      refine V_aload_n (q := 53) dX8_ends_52 rfl rfl ?_
      refine V_aload_n (q := 54) dX8_ends_53 rfl rfl ?_
      refine V_geti (k := 43) (j := 6) (q := 57) clz_7 dX8_ends_54 rfl rfl rfl (Nat.le_of_ble_eq_true rfl) fl_RX8_104 ?_
      obtain ⟨x9, s11, hc10, h⟩ := cA_ok h
      refine V_cv0 (k := 43) (q := 60) (As := [.int (s7.1 43 6)]) (rest := []) (ct_X8_clears (xY X) hc10) ce_X8_clears clz_7 rfl im_yX8_clears se_yX8_clears rfl ml_RX8_113 rfl ⟨Nat.le_of_ble_eq_true rfl, Nat.le_of_ble_eq_true rfl⟩ rfl (Nat.le_of_ble_eq_true rfl) dX8_ends_57 rfl ?_
      cases h
      exact V_vret rfl dX8_ends_60
def M_X8_hasWord : Mc := (RX8, cX8_hasWord, 1, { frames := 0, cells := 0, slots := 0, locals := 0 }, (some .boolean))
theorem ce_X8_hasWord : Cee M_X8_hasWord yX8_hasWord 0 := ⟨cd_yX8_hasWord, ini_RX8, ⟨by decide +kernel, by decide +kernel, by decide +kernel⟩, rfl, rfl⟩
set_option maxRecDepth 20000 in
theorem ct_X8_hasWord (Y : Yc) {σ : Sg}  {r : Int32} (h : f_X8_hasWord σ  = some r) : Ct M_X8_hasWord yX8_hasWord Y [.ref (ad Y 43)] σ (some (.int r)) σ := by
  refine Ct_intro [some (.ref (ad Y 43))] (by decide +kernel) rfl (Nat.le_of_ble_eq_true rfl) rfl (fun X hY => ?_) ⟨rfl, rfl⟩
  subst hY
  unfold f_X8_hasWord at h
  refine V_aload_n (q := 1) dX8_hasWord_0 rfl rfl ?_
  refine V_geti (k := 43) (j := 6) (q := 4) clz_7 dX8_hasWord_1 rfl rfl rfl (Nat.le_of_ble_eq_true rfl) fl_RX8_104 ?_
  refine V_if_le (q := 34) (q2 := 7) dX8_hasWord_4 rfl rfl (fun hb5 => ?_) (fun hb5 => ?_)
  · replace h := it h hb5
    refine V_iconst (q := 35) (v := 0) dX8_hasWord_34 rfl iconst_0 ?_
    cases h
    exact V_zret rfl rfl dX8_hasWord_35
  · replace h := ie h hb5
    refine V_aload_n (q := 8) dX8_hasWord_7 rfl rfl ?_
    refine V_getr (k := 43) (j := 5) (q := 11) clz_7 dX8_hasWord_8 rfl rfl rfl (Nat.le_of_ble_eq_true rfl) fl_RX8_23 ?_
    refine V_bipush (q := 13) (v := 15) dX8_hasWord_11 rfl bipush_15 ?_
    refine V_aload_n (q := 14) dX8_hasWord_13 rfl rfl ?_
    refine V_geti (k := 43) (j := 6) (q := 17) clz_7 dX8_hasWord_14 rfl rfl rfl (Nat.le_of_ble_eq_true rfl) fl_RX8_104 ?_
    refine V_iconst (q := 18) (v := 1) dX8_hasWord_17 rfl iconst_1 ?_
    refine V_isub (q := 19) dX8_hasWord_18 rfl ?_
    refine V_imul (q := 20) dX8_hasWord_19 rfl ?_
    refine V_iconst (q := 21) (v := 1) dX8_hasWord_20 rfl iconst_1 ?_
    refine V_iadd (q := 22) dX8_hasWord_21 rfl ?_
    obtain ⟨hi2, x1, ex3, h⟩ := rI_ok h
    refine V_iald (k := 48) (q := 23) dX8_hasWord_22 rfl rfl hi2 ex3 ?_
    refine V_aload_n (q := 24) dX8_hasWord_23 rfl rfl ?_
    refine V_geti (k := 43) (j := 7) (q := 27) clz_7 dX8_hasWord_24 rfl rfl rfl (Nat.le_of_ble_eq_true rfl) fl_RX8_110 ?_
    refine V_icmp_ne (q := 34) (q2 := 30) dX8_hasWord_27 rfl rfl (fun hb4 => ?_) (fun hb4 => ?_)
    · replace h := ie h hb4
      refine V_iconst (q := 35) (v := 0) dX8_hasWord_34 rfl iconst_0 ?_
      cases h
      exact V_zret rfl rfl dX8_hasWord_35
    · replace h := it h hb4
      refine V_iconst (q := 31) (v := 1) dX8_hasWord_30 rfl iconst_1 ?_
      refine V_goto (q := 35) dX8_hasWord_31 rfl ?_
      cases h
      exact V_zret rfl rfl dX8_hasWord_35
def M_X8_comes : Mc := (RX8, cX8_comes, 3, { frames := 2, cells := 0, slots := 0, locals := 42 }, none)
theorem ce_X8_comes : Cee M_X8_comes yX8_comes 1 := ⟨cd_yX8_comes, ini_RX8, ⟨by decide +kernel, by decide +kernel, by decide +kernel⟩, rfl, rfl⟩
set_option maxRecDepth 20000 in
theorem ct_X8_comes (Y : Yc) {σ : Sg} {a1 : Int32} {r : Unit} {σr : Sg} (h : f_X8_comes σ a1 = some (r, σr)) : Ct M_X8_comes yX8_comes Y [.ref (ad Y 43), .int a1] σ none σr := by
  refine Ct_intro [some (.ref (ad Y 43)), some (.int a1), none] (by decide +kernel) rfl (Nat.le_of_ble_eq_true rfl) rfl (fun X hY => ?_) ⟨rfl, rfl⟩
  subst hY
  unfold f_X8_comes at h
  refine V_iload_n (q := 1) dX8_comes_0 rfl rfl ?_
  obtain ⟨x1, hc2, h⟩ := cP_ok h
  refine V_cs1 (q := 4) (As := [.int a1]) (rest := []) (ct_X8_isLetter (xY X) hc2) ce_X8_isLetter st_yX8_isLetter ml_RX8_48 rfl ⟨Nat.le_of_ble_eq_true rfl, Nat.le_of_ble_eq_true rfl⟩ rfl (Nat.le_of_ble_eq_true rfl) dX8_comes_1 rfl ?_
  refine V_if_eq (q := 67) (q2 := 7) dX8_comes_4 rfl rfl (fun hb33 => ?_) (fun hb33 => ?_)
  · replace h := it h hb33
    refine V_aload_n (q := 68) dX8_comes_67 rfl rfl ?_
    obtain ⟨x3, s5, hc4, h⟩ := cA_ok h
    refine V_cv0 (k := 43) (q := 71) (As := []) (rest := []) (ct_X8_ends (xY X) hc4) ce_X8_ends clz_7 rfl im_yX8_ends se_yX8_ends rfl ml_RX8_117 rfl ⟨Nat.le_of_ble_eq_true rfl, Nat.le_of_ble_eq_true rfl⟩ rfl (Nat.le_of_ble_eq_true rfl) dX8_comes_68 rfl ?_
    refine V_aload_n (q := 72) dX8_comes_71 rfl rfl ?_
    refine V_dup (q := 73) dX8_comes_72 rfl rfl ?_
    refine V_geti (k := 43) (j := 7) (q := 76) clz_7 dX8_comes_73 rfl rfl rfl (Nat.le_of_ble_eq_true rfl) fl_RX8_110 ?_
    refine V_iload_n (q := 77) dX8_comes_76 rfl rfl ?_
    refine V_bipush (q := 79) (v := 46) dX8_comes_77 rfl bipush_46 ?_
    obtain ⟨k6, ek6, h⟩ := jn_ok h
    have hk6 : ∀ (v7 : Int32), k6 v7 = some (r, σr) → V X M_X8_comes (mq X none σr) 94 [none, none, none] [.int v7, .int (s5.1 43 7), .ref (ad (xY X) 43)] s5 := by
      clear h
      intro v7 h
      rw [ek6] at h
      refine V_iadd (q := 95) dX8_comes_94 rfl ?_
      obtain ⟨s8, e9, h⟩ := pI_ok h
      refine V_puti (k := 43) (j := 7) (q := 98) clz_7 .int (by decide +kernel) rfl rfl rfl dX8_comes_95 rfl rfl rfl (Nat.le_of_ble_eq_true rfl) fl_RX8_110 e9 ?_
      cases h
      exact V_vret rfl dX8_comes_98
    refine V_icmp_ne (q := 93) (q2 := 82) dX8_comes_79 rfl rfl (fun hb13 => ?_) (fun hb13 => ?_)
    · replace h := ie h hb13
      refine V_iconst (q := 94) (v := 0) dX8_comes_93 rfl iconst_0 ?_
      refine V_msk (L' := [none, none, none]) [false, false, true] rfl ?_
      exact hk6 (0) h
    · replace h := it h hb13
      refine V_aload_n (q := 83) dX8_comes_82 rfl rfl ?_
      obtain ⟨x10, hc11, h⟩ := cP_ok h
      refine V_cv1 (k := 43) (q := 86) (As := []) (rest := [.int (s5.1 43 7), .ref (ad (xY X) 43)]) (ct_X8_hasWord (xY X) hc11) ce_X8_hasWord clz_7 rfl im_yX8_hasWord se_yX8_hasWord rfl ml_RX8_120 rfl ⟨Nat.le_of_ble_eq_true rfl, Nat.le_of_ble_eq_true rfl⟩ rfl (Nat.le_of_ble_eq_true rfl) dX8_comes_83 rfl ?_
      refine V_if_eq (q := 93) (q2 := 89) dX8_comes_86 rfl rfl (fun hb12 => ?_) (fun hb12 => ?_)
      · replace h := it h hb12
        refine V_iconst (q := 94) (v := 0) dX8_comes_93 rfl iconst_0 ?_
        refine V_msk (L' := [none, none, none]) [false, false, true] rfl ?_
        exact hk6 (0) h
      · replace h := ie h hb12
        refine V_iconst (q := 90) (v := 1) dX8_comes_89 rfl iconst_1 ?_
        refine V_goto (q := 94) dX8_comes_90 rfl ?_
        refine V_msk (L' := [none, none, none]) [false, false, true] rfl ?_
        exact hk6 (1) h
  · replace h := ie h hb33
    refine V_bipush (q := 9) (v := 15) dX8_comes_7 rfl bipush_15 ?_
    refine V_aload_n (q := 10) dX8_comes_9 rfl rfl ?_
    refine V_geti (k := 43) (j := 6) (q := 13) clz_7 dX8_comes_10 rfl rfl rfl (Nat.le_of_ble_eq_true rfl) fl_RX8_104 ?_
    refine V_imul (q := 14) dX8_comes_13 rfl ?_
    refine V_istore_n (q := 15) (L' := [some (.ref (ad (xY X) 43)), some (.int a1), some (.int (15 * (σ.1 43 6)))]) dX8_comes_14 rfl (Nat.le_of_ble_eq_true rfl) rfl ?_
    refine V_aload_n (q := 16) dX8_comes_15 rfl rfl ?_
    refine V_getr (k := 43) (j := 5) (q := 19) clz_7 dX8_comes_16 rfl rfl rfl (Nat.le_of_ble_eq_true rfl) fl_RX8_23 ?_
    refine V_iload_n (q := 20) dX8_comes_19 rfl rfl ?_
    obtain ⟨hi15, x14, ex16, h⟩ := rI_ok h
    refine V_iald (k := 48) (q := 21) dX8_comes_20 rfl rfl hi15 ex16 ?_
    refine V_bipush (q := 23) (v := 12) dX8_comes_21 rfl bipush_12 ?_
    refine V_icmp_ne (q := 38) (q2 := 26) dX8_comes_23 rfl rfl (fun hb32 => ?_) (fun hb32 => ?_)
    · replace h := ie h hb32
      refine V_aload_n (q := 39) dX8_comes_38 rfl rfl ?_
      refine V_getr (k := 43) (j := 5) (q := 42) clz_7 dX8_comes_39 rfl rfl rfl (Nat.le_of_ble_eq_true rfl) fl_RX8_23 ?_
      refine V_iload_n (q := 43) dX8_comes_42 rfl rfl ?_
      refine V_iconst (q := 44) (v := 3) dX8_comes_43 rfl iconst_3 ?_
      refine V_iadd (q := 45) dX8_comes_44 rfl ?_
      refine V_aload_n (q := 46) dX8_comes_45 rfl rfl ?_
      refine V_getr (k := 43) (j := 5) (q := 49) clz_7 dX8_comes_46 rfl rfl rfl (Nat.le_of_ble_eq_true rfl) fl_RX8_23 ?_
      refine V_iload_n (q := 50) dX8_comes_49 rfl rfl ?_
      obtain ⟨hi18, x17, ex19, h⟩ := rI_ok h
      refine V_iald (k := 48) (q := 51) dX8_comes_50 rfl rfl hi18 ex19 ?_
      refine V_iadd (q := 52) dX8_comes_51 rfl ?_
      refine V_iload_n (q := 53) dX8_comes_52 rfl rfl ?_
      obtain ⟨hi22, s20, e21, h⟩ := wI_ok h
      refine V_iast (k := 48) (q := 54) dX8_comes_53 rfl rfl hi22 e21 ?_
      refine V_aload_n (q := 55) dX8_comes_54 rfl rfl ?_
      refine V_getr (k := 43) (j := 5) (q := 58) clz_7 dX8_comes_55 rfl rfl rfl (Nat.le_of_ble_eq_true rfl) fl_RX8_23 ?_
      refine V_iload_n (q := 59) dX8_comes_58 rfl rfl ?_
      refine V_dup2 (q := 60) dX8_comes_59 rfl rfl rfl ?_
      obtain ⟨hi24, x23, ex25, h⟩ := rI_ok h
      refine V_iald (k := 48) (q := 61) dX8_comes_60 rfl rfl hi24 ex25 ?_
      refine V_iconst (q := 62) (v := 1) dX8_comes_61 rfl iconst_1 ?_
      refine V_iadd (q := 63) dX8_comes_62 rfl ?_
      obtain ⟨hi28, s26, e27, h⟩ := wI_ok h
      refine V_iast (k := 48) (q := 64) dX8_comes_63 rfl rfl hi28 e27 ?_
      refine V_goto (q := 98) dX8_comes_64 rfl ?_
      cases h
      exact V_vret rfl dX8_comes_98
    · replace h := it h hb32
      refine V_aload_n (q := 27) dX8_comes_26 rfl rfl ?_
      refine V_getr (k := 43) (j := 5) (q := 30) clz_7 dX8_comes_27 rfl rfl rfl (Nat.le_of_ble_eq_true rfl) fl_RX8_23 ?_
      refine V_iload_n (q := 31) dX8_comes_30 rfl rfl ?_
      refine V_iconst (q := 32) (v := 2) dX8_comes_31 rfl iconst_2 ?_
      refine V_iadd (q := 33) dX8_comes_32 rfl ?_
      refine V_iconst (q := 34) (v := 1) dX8_comes_33 rfl iconst_1 ?_
      obtain ⟨hi31, s29, e30, h⟩ := wI_ok h
      refine V_iast (k := 48) (q := 35) dX8_comes_34 rfl rfl hi31 e30 ?_
      refine V_goto (q := 64) dX8_comes_35 rfl ?_
      refine V_goto (q := 98) dX8_comes_64 rfl ?_
      cases h
      exact V_vret rfl dX8_comes_98
def M_X8_read : Mc := (RX8, cX8_read, 2, { frames := 3, cells := 0, slots := 0, locals := 64 }, (some .int))
theorem ce_X8_read : Cee M_X8_read yX8_read 1 := ⟨cd_yX8_read, ini_RX8, ⟨by decide +kernel, by decide +kernel, by decide +kernel⟩, rfl, rfl⟩
set_option maxRecDepth 20000 in
theorem ct_X8_read (Y : Yc) {σ : Sg} {a1 : Int32} {r : Int32} {σr : Sg} (h : f_X8_read σ a1 = some (r, σr)) : Ct M_X8_read yX8_read Y [.ref (ad Y 43), .int a1] σ (some (.int r)) σr := by
  refine Ct_intro [some (.ref (ad Y 43)), some (.int a1)] (by decide +kernel) rfl (Nat.le_of_ble_eq_true rfl) rfl (fun X hY => ?_) ⟨rfl, rfl⟩
  subst hY
  unfold f_X8_read at h
  refine V_iload_n (q := 1) dX8_read_0 rfl rfl ?_
  refine V_iconst (q := 2) (v := 0) dX8_read_1 rfl iconst_0 ?_
  refine V_sipush (q := 5) (v := 255) dX8_read_2 rfl sipush_255 ?_
  obtain ⟨x1, hc2, h⟩ := cP_ok h
  refine V_cs1 (q := 8) (As := [.int a1, .int 0, .int 255]) (rest := []) (ct_X8_in (xY X) hc2) ce_X8_in st_yX8_in ml_RX8_44 rfl ⟨Nat.le_of_ble_eq_true rfl, Nat.le_of_ble_eq_true rfl⟩ rfl (Nat.le_of_ble_eq_true rfl) dX8_read_5 rfl ?_
  refine V_if_ne (q := 14) (q2 := 11) dX8_read_8 rfl rfl (fun hb11 => ?_) (fun hb11 => ?_)
  · replace h := ie h hb11
    refine V_iload_n (q := 15) dX8_read_14 rfl rfl ?_
    obtain ⟨x3, hc4, h⟩ := cP_ok h
    refine V_cs1 (q := 18) (As := [.int a1]) (rest := []) (ct_X8_isLetter (xY X) hc4) ce_X8_isLetter st_yX8_isLetter ml_RX8_48 rfl ⟨Nat.le_of_ble_eq_true rfl, Nat.le_of_ble_eq_true rfl⟩ rfl (Nat.le_of_ble_eq_true rfl) dX8_read_15 rfl ?_
    obtain ⟨k5, ek5, h⟩ := jn_ok h
    have hk5 : k5 = some (r, σr) → V X M_X8_read (mq X (some (.int r)) σr) 33 [some (.ref (ad (xY X) 43)), some (.int a1)] [] σ := by
      clear h
      intro  h
      rw [ek5] at h
      refine V_aload_n (q := 34) dX8_read_33 rfl rfl ?_
      refine V_iload_n (q := 35) dX8_read_34 rfl rfl ?_
      obtain ⟨x6, s8, hc7, h⟩ := cA_ok h
      refine V_cv0 (k := 43) (q := 38) (As := [.int a1]) (rest := []) (ct_X8_comes (xY X) hc7) ce_X8_comes clz_7 rfl im_yX8_comes se_yX8_comes rfl ml_RX8_124 rfl ⟨Nat.le_of_ble_eq_true rfl, Nat.le_of_ble_eq_true rfl⟩ rfl (Nat.le_of_ble_eq_true rfl) dX8_read_35 rfl ?_
      refine V_aload_n (q := 39) dX8_read_38 rfl rfl ?_
      refine V_geti (k := 43) (j := 6) (q := 42) clz_7 dX8_read_39 rfl rfl rfl (Nat.le_of_ble_eq_true rfl) fl_RX8_104 ?_
      cases h
      exact V_iret rfl dX8_read_42
    refine V_if_eq (q := 33) (q2 := 21) dX8_read_18 rfl rfl (fun hb10 => ?_) (fun hb10 => ?_)
    · replace h := it h hb10
      exact hk5  h
    · replace h := ie h hb10
      refine V_aload_n (q := 22) dX8_read_21 rfl rfl ?_
      refine V_geti (k := 43) (j := 6) (q := 25) clz_7 dX8_read_22 rfl rfl rfl (Nat.le_of_ble_eq_true rfl) fl_RX8_104 ?_
      refine V_bipush (q := 27) (v := 60) dX8_read_25 rfl bipush_60 ?_
      refine V_icmp_ne (q := 33) (q2 := 30) dX8_read_27 rfl rfl (fun hb9 => ?_) (fun hb9 => ?_)
      · replace h := ie h hb9
        exact hk5  h
      · replace h := it h hb9
        refine V_ldc (q := 32) kc_RX8_57 dX8_read_30 rfl ?_
        cases h
        exact V_iret rfl dX8_read_32
  · replace h := it h hb11
    refine V_ldc (q := 13) kc_RX8_52 dX8_read_11 rfl ?_
    cases h
    exact V_iret rfl dX8_read_13
def M_X6_clear : Mc := (RX6, cX6_clear, 1, { frames := 0, cells := 0, slots := 0, locals := 0 }, none)
theorem ce_X6_clear : Cee M_X6_clear yX6_clear 0 := ⟨cd_yX6_clear, ini_RX6, ⟨by decide +kernel, by decide +kernel, by decide +kernel⟩, rfl, rfl⟩
set_option maxRecDepth 20000 in
theorem ct_X6_clear (Y : Yc) {σ : Sg}  {r : Unit} {σr : Sg} (h : f_X6_clear σ  = some (r, σr)) : Ct M_X6_clear yX6_clear Y [.ref (ad Y 26)] σ none σr := by
  refine Ct_intro [some (.ref (ad Y 26))] (by decide +kernel) rfl (Nat.le_of_ble_eq_true rfl) rfl (fun X hY => ?_) ⟨rfl, rfl⟩
  subst hY
  unfold f_X6_clear at h
  refine V_aload_n (q := 1) dX6_clear_0 rfl rfl ?_
  refine V_iconst (q := 2) (v := 0) dX6_clear_1 rfl iconst_0 ?_
  obtain ⟨s1, e2, h⟩ := pI_ok h
  refine V_puti (k := 26) (j := 0) (q := 5) clz_5 .int (by decide +kernel) rfl rfl rfl dX6_clear_2 rfl rfl rfl (Nat.le_of_ble_eq_true rfl) fl_RX6_23 e2 ?_
  refine V_aload_n (q := 6) dX6_clear_5 rfl rfl ?_
  refine V_iconst (q := 7) (v := 0) dX6_clear_6 rfl iconst_0 ?_
  obtain ⟨s3, e4, h⟩ := pI_ok h
  refine V_puti (k := 26) (j := 4) (q := 10) clz_5 .int (by decide +kernel) rfl rfl rfl dX6_clear_7 rfl rfl rfl (Nat.le_of_ble_eq_true rfl) fl_RX6_27 e4 ?_
  refine V_aload_n (q := 11) dX6_clear_10 rfl rfl ?_
  refine V_lconst (q := 12) (v := 0) dX6_clear_11 rfl rfl ?_
  obtain ⟨s5, e6, h⟩ := pL_ok h
  refine V_putl (k := 26) (j := 5) (q := 15) clz_5 rfl rfl dX6_clear_12 rfl rfl rfl (Nat.le_of_ble_eq_true rfl) fl_RX6_30 e6 ?_
  refine V_aload_n (q := 16) dX6_clear_15 rfl rfl ?_
  refine V_iconst (q := 17) (v := 0) dX6_clear_16 rfl iconst_0 ?_
  obtain ⟨s7, e8, h⟩ := pI_ok h
  refine V_puti (k := 26) (j := 6) (q := 20) clz_5 .boolean (by decide +kernel) rfl rfl rfl dX6_clear_17 rfl rfl rfl (Nat.le_of_ble_eq_true rfl) fl_RX6_34 e8 ?_
  cases h
  exact V_vret rfl dX6_clear_20
def M_X7_wipe : Mc := (RX7, cX7_wipe, 2, { frames := 2, cells := 0, slots := 0, locals := 40 }, (some .int))
theorem ce_X7_wipe : Cee M_X7_wipe yX7_wipe 0 := ⟨cd_yX7_wipe, ini_RX7, ⟨by decide +kernel, by decide +kernel, by decide +kernel⟩, rfl, rfl⟩
set_option maxRecDepth 20000 in
theorem ct_X7_wipe (Y : Yc) {σ : Sg}  {r : Int32} {σr : Sg} (h : f_X7_wipe σ  = some (r, σr)) : Ct M_X7_wipe yX7_wipe Y [.ref (ad Y 0)] σ (some (.int r)) σr := by
  refine Ct_intro [some (.ref (ad Y 0)), none] (by decide +kernel) rfl (Nat.le_of_ble_eq_true rfl) rfl (fun X hY => ?_) ⟨rfl, rfl⟩
  subst hY
  unfold f_X7_wipe at h
  refine V_aload_n (q := 1) dX7_wipe_0 rfl rfl ?_
  refine V_getr (k := 0) (j := 3) (q := 4) clz_6 dX7_wipe_1 rfl rfl rfl (Nat.le_of_ble_eq_true rfl) fl_RX7_30 ?_
  refine V_geti (k := 26) (j := 0) (q := 7) clz_5 dX7_wipe_4 rfl rfl rfl (Nat.le_of_ble_eq_true rfl) fl_RX7_190 ?_
  refine V_istore_n (q := 8) (L' := [some (.ref (ad (xY X) 0)), some (.int (σ.1 26 0))]) dX7_wipe_7 rfl (Nat.le_of_ble_eq_true rfl) rfl ?_
  refine V_aload_n (q := 9) dX7_wipe_8 rfl rfl ?_
  refine V_getr (k := 0) (j := 3) (q := 12) clz_6 dX7_wipe_9 rfl rfl rfl (Nat.le_of_ble_eq_true rfl) fl_RX7_30 ?_
  obtain ⟨x1, s3, hc2, h⟩ := cA_ok h
  refine V_cv0 (k := 26) (q := 15) (As := []) (rest := []) (ct_X6_clear (xY X) hc2) ce_X6_clear clz_5 rfl im_yX6_clear se_yX6_clear rfl ml_RX7_193 rfl ⟨Nat.le_of_ble_eq_true rfl, Nat.le_of_ble_eq_true rfl⟩ rfl (Nat.le_of_ble_eq_true rfl) dX7_wipe_12 rfl ?_
  refine V_aload_n (q := 16) dX7_wipe_15 rfl rfl ?_
  refine V_getr (k := 0) (j := 4) (q := 19) clz_6 dX7_wipe_16 rfl rfl rfl (Nat.le_of_ble_eq_true rfl) fl_RX7_39 ?_
  obtain ⟨x4, s6, hc5, h⟩ := cA_ok h
  refine V_cv0 (k := 30) (q := 22) (As := []) (rest := []) (ct_X4_forget (xY X) hc5) ce_X4_forget clz_3 rfl im_yX4_forget se_yX4_forget rfl ml_RX7_196 rfl ⟨Nat.le_of_ble_eq_true rfl, Nat.le_of_ble_eq_true rfl⟩ rfl (Nat.le_of_ble_eq_true rfl) dX7_wipe_19 rfl ?_
  refine V_aload_n (q := 23) dX7_wipe_22 rfl rfl ?_
  obtain ⟨x7, s9, hc8, h⟩ := cA_ok h
  refine V_cv0 (k := 0) (q := 26) (As := []) (rest := []) (ct_X7_textChanged (xY X) hc8) ce_X7_textChanged clz_6 rfl im_yX7_textChanged se_yX7_textChanged rfl ml_RX7_187 rfl ⟨Nat.le_of_ble_eq_true rfl, Nat.le_of_ble_eq_true rfl⟩ rfl (Nat.le_of_ble_eq_true rfl) dX7_wipe_23 rfl ?_
  refine V_iload_n (q := 27) dX7_wipe_26 rfl rfl ?_
  cases h
  exact V_iret rfl dX7_wipe_27
def M_X8_wipe : Mc := (RX8, cX8_wipe, 2, { frames := 1, cells := 0, slots := 0, locals := 22 }, (some .int))
theorem ce_X8_wipe : Cee M_X8_wipe yX8_wipe 0 := ⟨cd_yX8_wipe, ini_RX8, ⟨by decide +kernel, by decide +kernel, by decide +kernel⟩, rfl, rfl⟩
set_option maxRecDepth 20000 in
theorem ct_X8_wipe (Y : Yc) {σ : Sg}  {r : Int32} {σr : Sg} (h : f_X8_wipe σ  = some (r, σr)) : Ct M_X8_wipe yX8_wipe Y [.ref (ad Y 43)] σ (some (.int r)) σr := by
  refine Ct_intro [some (.ref (ad Y 43)), none] (by decide +kernel) rfl (Nat.le_of_ble_eq_true rfl) rfl (fun X hY => ?_) ⟨rfl, rfl⟩
  subst hY
  unfold f_X8_wipe at h
  refine V_aload_n (q := 1) dX8_wipe_0 rfl rfl ?_
  refine V_geti (k := 43) (j := 6) (q := 4) clz_7 dX8_wipe_1 rfl rfl rfl (Nat.le_of_ble_eq_true rfl) fl_RX8_104 ?_
  refine V_istore_n (q := 5) (L' := [some (.ref (ad (xY X) 43)), some (.int (σ.1 43 6))]) dX8_wipe_4 rfl (Nat.le_of_ble_eq_true rfl) rfl ?_
  refine V_aload_n (q := 6) dX8_wipe_5 rfl rfl ?_
  refine V_iconst (q := 7) (v := 0) dX8_wipe_6 rfl iconst_0 ?_
  obtain ⟨s1, e2, h⟩ := pI_ok h
  refine V_puti (k := 43) (j := 6) (q := 10) clz_7 .int (by decide +kernel) rfl rfl rfl dX8_wipe_7 rfl rfl rfl (Nat.le_of_ble_eq_true rfl) fl_RX8_104 e2 ?_
  refine V_aload_n (q := 11) dX8_wipe_10 rfl rfl ?_
  refine V_iconst (q := 12) (v := 0) dX8_wipe_11 rfl iconst_0 ?_
  obtain ⟨s3, e4, h⟩ := pI_ok h
  refine V_puti (k := 43) (j := 7) (q := 15) clz_7 .int (by decide +kernel) rfl rfl rfl dX8_wipe_12 rfl rfl rfl (Nat.le_of_ble_eq_true rfl) fl_RX8_110 e4 ?_
  refine V_aload_n (q := 16) dX8_wipe_15 rfl rfl ?_
  refine V_iconst (q := 17) (v := 0) dX8_wipe_16 rfl iconst_0 ?_
  obtain ⟨x5, s7, hc6, h⟩ := cA_ok h
  refine V_cv0 (k := 43) (q := 20) (As := [.int 0]) (rest := []) (ct_X8_clears (xY X) hc6) ce_X8_clears clz_7 rfl im_yX8_clears se_yX8_clears rfl ml_RX8_113 rfl ⟨Nat.le_of_ble_eq_true rfl, Nat.le_of_ble_eq_true rfl⟩ rfl (Nat.le_of_ble_eq_true rfl) dX8_wipe_17 rfl ?_
  refine V_iload_n (q := 21) dX8_wipe_20 rfl rfl ?_
  cases h
  exact V_iret rfl dX8_wipe_21
def M_X2_start : Mc := (RX2, cX2_start, 2, { frames := 0, cells := 0, slots := 0, locals := 0 }, none)
theorem ce_X2_start : Cee M_X2_start yX2_start 1 := ⟨cd_yX2_start, ini_RX2, ⟨by decide +kernel, by decide +kernel, by decide +kernel⟩, rfl, rfl⟩
set_option maxRecDepth 20000 in
theorem ct_X2_start (Y : Yc) {σ : Sg} {a1 : Int32} {r : Unit} {σr : Sg} (h : f_X2_start σ a1 = some (r, σr)) : Ct M_X2_start yX2_start Y [.ref (ad Y 42), .int a1] σ none σr := by
  refine Ct_intro [some (.ref (ad Y 42)), some (.int a1)] (by decide +kernel) rfl (Nat.le_of_ble_eq_true rfl) rfl (fun X hY => ?_) ⟨rfl, rfl⟩
  subst hY
  unfold f_X2_start at h
  refine V_aload_n (q := 1) dX2_start_0 rfl rfl ?_
  refine V_iload_n (q := 2) dX2_start_1 rfl rfl ?_
  refine V_i2l (q := 3) dX2_start_2 rfl ?_
  obtain ⟨s1, e2, h⟩ := pL_ok h
  refine V_putl (k := 42) (j := 0) (q := 6) clz_1 rfl rfl dX2_start_3 rfl rfl rfl (Nat.le_of_ble_eq_true rfl) fl_RX2_7 e2 ?_
  cases h
  exact V_vret rfl dX2_start_6
def M_X2_below : Mc := (RX2, cX2_below, 2, { frames := 0, cells := 0, slots := 0, locals := 0 }, (some .int))
theorem ce_X2_below : Cee M_X2_below yX2_below 1 := ⟨cd_yX2_below, ini_RX2, ⟨by decide +kernel, by decide +kernel, by decide +kernel⟩, rfl, rfl⟩
set_option maxRecDepth 20000 in
theorem ct_X2_below (Y : Yc) {σ : Sg} {a1 : Int32} {r : Int32} {σr : Sg} (h : f_X2_below σ a1 = some (r, σr)) : Ct M_X2_below yX2_below Y [.ref (ad Y 42), .int a1] σ (some (.int r)) σr := by
  refine Ct_intro [some (.ref (ad Y 42)), some (.int a1)] (by decide +kernel) rfl (Nat.le_of_ble_eq_true rfl) rfl (fun X hY => ?_) ⟨rfl, rfl⟩
  subst hY
  unfold f_X2_below at h
  refine V_aload_n (q := 1) dX2_below_0 rfl rfl ?_
  refine V_aload_n (q := 2) dX2_below_1 rfl rfl ?_
  refine V_getl (k := 42) (j := 0) (q := 5) clz_1 dX2_below_2 rfl rfl rfl (Nat.le_of_ble_eq_true rfl) fl_RX2_7 ?_
  refine V_ldc2 (q := 8) kl_RX2_13 dX2_below_5 rfl ?_
  refine V_lmul (q := 9) dX2_below_8 rfl ?_
  refine V_ldc2 (q := 12) kl_RX2_15 dX2_below_9 rfl ?_
  refine V_lrem (q := 13) dX2_below_12 rfl (by decide) ?_
  obtain ⟨s1, e2, h⟩ := pL_ok h
  refine V_putl (k := 42) (j := 0) (q := 16) clz_1 rfl rfl dX2_below_13 rfl rfl rfl (Nat.le_of_ble_eq_true rfl) fl_RX2_7 e2 ?_
  refine V_iload_n (q := 17) dX2_below_16 rfl rfl ?_
  refine V_if_le (q := 31) (q2 := 20) dX2_below_17 rfl rfl (fun hb4 => ?_) (fun hb4 => ?_)
  · replace h := it h hb4
    refine V_iconst (q := 32) (v := 0) dX2_below_31 rfl iconst_0 ?_
    cases h
    exact V_iret rfl dX2_below_32
  · replace h := ie h hb4
    refine V_aload_n (q := 21) dX2_below_20 rfl rfl ?_
    refine V_getl (k := 42) (j := 0) (q := 24) clz_1 dX2_below_21 rfl rfl rfl (Nat.le_of_ble_eq_true rfl) fl_RX2_7 ?_
    refine V_iload_n (q := 25) dX2_below_24 rfl rfl ?_
    refine V_i2l (q := 26) dX2_below_25 rfl ?_
    obtain ⟨hz3, h⟩ := mH_ok h
    refine V_lrem (q := 27) dX2_below_26 rfl hz3 ?_
    refine V_l2i (q := 28) dX2_below_27 rfl ?_
    refine V_goto (q := 32) dX2_below_28 rfl ?_
    cases h
    exact V_iret rfl dX2_below_32
def M_X6_takeLetters : Mc := (RX6, cX6_takeLetters, 5, { frames := 2, cells := 0, slots := 0, locals := 45 }, none)
theorem ce_X6_takeLetters : Cee M_X6_takeLetters yX6_takeLetters 1 := ⟨cd_yX6_takeLetters, ini_RX6, ⟨by decide +kernel, by decide +kernel, by decide +kernel⟩, rfl, rfl⟩
set_option maxRecDepth 20000 in
theorem w_X6_takeLetters_L8 {X : Xc} {c1 : Int64} {c3 : Int32} {r : Unit} {σr : Sg} {k : Sg → Option (Unit × Sg)}
    (hk : ∀ (s : Sg), k s = some (r, σr) → V X M_X6_takeLetters (mq X none σr) 30 [none, none, none, none, none] [] s) :
    ∀ (n : Nat) (s : Sg) (i4 : Int32), f_X6_takeLetters_L8 k c1 c3 n s i4 = some (r, σr) → V X M_X6_takeLetters (mq X none σr) 8 [some (.ref (ad (xY X) 26)), some (.long c1), none, some (.int c3), some (.int i4)] [] s := by
  intro n
  induction n with
  | zero => intro s i4 h; cases h
  | succ n ih =>
    intro s i4 h
    rw [f_X6_takeLetters_L8] at h
    refine V_iload (q := 10) dX6_takeLetters_8 rfl rfl ?_
    refine V_iload_n (q := 11) dX6_takeLetters_10 rfl rfl ?_
    refine V_icmp_ge (q := 30) (q2 := 14) dX6_takeLetters_11 rfl rfl (fun hb8 => ?_) (fun hb8 => ?_)
    · replace h := it h hb8
      refine V_msk (L' := [none, none, none, none, none]) [false, false, true, false, false] rfl ?_
      exact hk (s) h
    · replace h := ie h hb8
      refine V_aload_n (q := 15) dX6_takeLetters_14 rfl rfl ?_
      refine V_lload_n (q := 16) dX6_takeLetters_15 rfl rfl ?_
      refine V_iload (q := 18) dX6_takeLetters_16 rfl rfl ?_
      obtain ⟨x3, hc4, h⟩ := cP_ok h
      refine V_cs1 (q := 21) (As := [.long c1, .int i4]) (rest := [.ref (ad (xY X) 26)]) (ct_X0_at (xY X) hc4) ce_X0_at st_yX0_at ml_RX6_58 rfl ⟨Nat.le_of_ble_eq_true rfl, Nat.le_of_ble_eq_true rfl⟩ rfl (Nat.le_of_ble_eq_true rfl) dX6_takeLetters_18 rfl ?_
      obtain ⟨x5, s7, hc6, h⟩ := cA_ok h
      refine V_cv0 (k := 26) (q := 24) (As := [.int x3]) (rest := []) (ct_X6_addLetter (xY X) hc6) ce_X6_addLetter clz_5 rfl im_yX6_addLetter se_yX6_addLetter rfl ml_RX6_44 rfl ⟨Nat.le_of_ble_eq_true rfl, Nat.le_of_ble_eq_true rfl⟩ rfl (Nat.le_of_ble_eq_true rfl) dX6_takeLetters_21 rfl ?_
      refine V_iinc (q := 27) (v := 1) (L' := [some (.ref (ad (xY X) 26)), some (.long c1), none, some (.int c3), some (.int (i4 + 1))]) dX6_takeLetters_24 rfl rfl iconst_1 (Nat.le_of_ble_eq_true rfl) rfl ?_
      refine V_goto (q := 8) dX6_takeLetters_27 rfl ?_
      exact ih (s7) ((i4 + 1)) h
set_option maxRecDepth 20000 in
theorem ct_X6_takeLetters (Y : Yc) {σ : Sg} {a1 : Int64} {r : Unit} {σr : Sg} (h : f_X6_takeLetters σ a1 = some (r, σr)) : Ct M_X6_takeLetters yX6_takeLetters Y [.ref (ad Y 26), .long a1] σ none σr := by
  refine Ct_intro [some (.ref (ad Y 26)), some (.long a1), none, none, none] (by decide +kernel) rfl (Nat.le_of_ble_eq_true rfl) rfl (fun X hY => ?_) ⟨rfl, rfl⟩
  subst hY
  unfold f_X6_takeLetters at h
  refine V_lload_n (q := 1) dX6_takeLetters_0 rfl rfl ?_
  obtain ⟨x1, hc2, h⟩ := cP_ok h
  refine V_cs1 (q := 4) (As := [.long a1]) (rest := []) (ct_X0_sizeOf (xY X) hc2) ce_X0_sizeOf st_yX0_sizeOf ml_RX6_54 rfl ⟨Nat.le_of_ble_eq_true rfl, Nat.le_of_ble_eq_true rfl⟩ rfl (Nat.le_of_ble_eq_true rfl) dX6_takeLetters_1 rfl ?_
  refine V_istore_n (q := 5) (L' := [some (.ref (ad (xY X) 26)), some (.long a1), none, some (.int x1), none]) dX6_takeLetters_4 rfl (Nat.le_of_ble_eq_true rfl) rfl ?_
  refine V_iconst (q := 6) (v := 0) dX6_takeLetters_5 rfl iconst_0 ?_
  refine V_istore (q := 8) (L' := [some (.ref (ad (xY X) 26)), some (.long a1), none, some (.int x1), some (.int 0)]) dX6_takeLetters_6 rfl (Nat.le_of_ble_eq_true rfl) rfl ?_
  refine w_X6_takeLetters_L8 (fun s9 h => ?_) fu (σ) (0) h
  cases h
  exact V_vret rfl dX6_takeLetters_30
