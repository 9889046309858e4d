def M_X3_write : Mc := (RX3, cX3_write, 3, { frames := 3, cells := 0, slots := 0, locals := 69 }, none)
theorem ce_X3_write : Cee M_X3_write yX3_write 0 := ⟨cd_yX3_write, ini_RX3, ⟨by decide +kernel, by decide +kernel, by decide +kernel⟩, rfl, rfl⟩
set_option maxRecDepth 20000 in
theorem w_X3_write_L15 {X : Xc} {r : Unit} {σr : Sg} {k : Sg → Option (Unit × Sg)}
    (hk : ∀ (s : Sg), k s = some (r, σr) → V X M_X3_write (mq X none σr) 105 [some (.ref (ad (xY X) 40)), none, none] [] s) :
    ∀ (n : Nat) (s : Sg) (i1 : Int32), f_X3_write_L15 k n s i1 = some (r, σr) → V X M_X3_write (mq X none σr) 15 [some (.ref (ad (xY X) 40)), some (.int i1), none] [] s := by
  intro n
  induction n with
  | zero => intro s i1 h; cases h
  | succ n ih =>
    intro s i1 h
    rw [f_X3_write_L15] at h
    refine V_iload_n (q := 16) dX3_write_15 rfl rfl ?_
    refine V_aload_n (q := 17) dX3_write_16 rfl rfl ?_
    refine V_getr (k := 40) (j := 1) (q := 20) clz_2 dX3_write_17 rfl rfl rfl (Nat.le_of_ble_eq_true rfl) fl_RX3_19 ?_
    refine V_geti (k := 26) (j := 0) (q := 23) clz_5 dX3_write_20 rfl rfl rfl (Nat.le_of_ble_eq_true rfl) fl_RX3_39 ?_
    refine V_icmp_ge (q := 105) (q2 := 26) dX3_write_23 rfl rfl (fun hb30 => ?_) (fun hb30 => ?_)
    · replace h := it h hb30
      refine V_msk (L' := [some (.ref (ad (xY X) 40)), none, none]) [true, false, true] rfl ?_
      exact hk (s) h
    · replace h := ie h hb30
      refine V_aload_n (q := 27) dX3_write_26 rfl rfl ?_
      refine V_getr (k := 40) (j := 2) (q := 30) clz_2 dX3_write_27 rfl rfl rfl (Nat.le_of_ble_eq_true rfl) fl_RX3_23 ?_
      refine V_iload_n (q := 31) dX3_write_30 rfl rfl ?_
      obtain ⟨x3, hc4, h⟩ := cP_ok h
      refine V_cv1 (k := 30) (q := 34) (As := [.int i1]) (rest := []) (ct_X4_insteadOver (xY X) hc4) ce_X4_insteadOver clz_3 rfl im_yX4_insteadOver se_yX4_insteadOver rfl ml_RX3_42 rfl ⟨Nat.le_of_ble_eq_true rfl, Nat.le_of_ble_eq_true rfl⟩ rfl (Nat.le_of_ble_eq_true rfl) dX3_write_31 rfl ?_
      refine V_istore_n (q := 35) (L' := [some (.ref (ad (xY X) 40)), some (.int i1), some (.int x3)]) dX3_write_34 rfl (Nat.le_of_ble_eq_true rfl) rfl ?_
      refine V_iload_n (q := 36) dX3_write_35 rfl rfl ?_
      refine V_iconst (q := 37) (v := (-1)) dX3_write_36 rfl iconst_m1 ?_
      obtain ⟨k5, ek5, h⟩ := jn_ok h
      have hk5 : ∀ (s6 : Sg), k5 s6 = some (r, σr) → V X M_X3_write (mq X none σr) 82 [some (.ref (ad (xY X) 40)), some (.int i1), none] [] s6 := by
        clear h
        intro s6 h
        rw [ek5] at h
        refine V_aload_n (q := 83) dX3_write_82 rfl rfl ?_
        refine V_getr (k := 40) (j := 1) (q := 86) clz_2 dX3_write_83 rfl rfl rfl (Nat.le_of_ble_eq_true rfl) fl_RX3_19 ?_
        refine V_iload_n (q := 87) dX3_write_86 rfl rfl ?_
        obtain ⟨x7, hc8, h⟩ := cP_ok h
        refine V_cv1 (k := 26) (q := 90) (As := [.int i1]) (rest := []) (ct_X6_endsSentence (xY X) hc8) ce_X6_endsSentence clz_5 rfl im_yX6_endsSentence se_yX6_endsSentence rfl ml_RX3_67 rfl ⟨Nat.le_of_ble_eq_true rfl, Nat.le_of_ble_eq_true rfl⟩ rfl (Nat.le_of_ble_eq_true rfl) dX3_write_87 rfl ?_
        refine V_if_eq (q := 99) (q2 := 93) dX3_write_90 rfl rfl (fun hb12 => ?_) (fun hb12 => ?_)
        · replace h := it h hb12
          refine V_iinc (q := 102) (v := 1) (L' := [some (.ref (ad (xY X) 40)), some (.int (i1 + 1)), none]) dX3_write_99 rfl rfl iconst_1 (Nat.le_of_ble_eq_true rfl) rfl ?_
          refine V_goto (q := 15) dX3_write_102 rfl ?_
          exact ih (s6) ((i1 + 1)) h
        · replace h := ie h hb12
          refine V_aload_n (q := 94) dX3_write_93 rfl rfl ?_
          refine V_bipush (q := 96) (v := 46) dX3_write_94 rfl bipush_46 ?_
          obtain ⟨x9, s11, hc10, h⟩ := cA_ok h
          refine V_cv0 (k := 40) (q := 99) (As := [.int 46]) (rest := []) (ct_X3_addSign (xY X) hc10) ce_X3_addSign clz_2 rfl im_yX3_addSign se_yX3_addSign rfl ml_RX3_71 rfl ⟨Nat.le_of_ble_eq_true rfl, Nat.le_of_ble_eq_true rfl⟩ rfl (Nat.le_of_ble_eq_true rfl) dX3_write_96 rfl ?_
          refine V_iinc (q := 102) (v := 1) (L' := [some (.ref (ad (xY X) 40)), some (.int (i1 + 1)), none]) dX3_write_99 rfl rfl iconst_1 (Nat.le_of_ble_eq_true rfl) rfl ?_
          refine V_goto (q := 15) dX3_write_102 rfl ?_
          exact ih (s11) ((i1 + 1)) h
      refine V_icmp_ne (q := 56) (q2 := 40) dX3_write_37 rfl rfl (fun hb29 => ?_) (fun hb29 => ?_)
      · replace h := ie h hb29
        refine V_aload_n (q := 57) dX3_write_56 rfl rfl ?_
        refine V_getr (k := 40) (j := 2) (q := 60) clz_2 dX3_write_57 rfl rfl rfl (Nat.le_of_ble_eq_true rfl) fl_RX3_23 ?_
        refine V_getr (k := 30) (j := 12) (q := 63) clz_3 dX3_write_60 rfl rfl rfl (Nat.le_of_ble_eq_true rfl) fl_RX3_56 ?_
        refine V_aload_n (q := 64) dX3_write_63 rfl rfl ?_
        refine V_getr (k := 40) (j := 2) (q := 67) clz_2 dX3_write_64 rfl rfl rfl (Nat.le_of_ble_eq_true rfl) fl_RX3_23 ?_
        refine V_getr (k := 30) (j := 14) (q := 70) clz_3 dX3_write_67 rfl rfl rfl (Nat.le_of_ble_eq_true rfl) fl_RX3_60 ?_
        refine V_iload_n (q := 71) dX3_write_70 rfl rfl ?_
        obtain ⟨hi14, x13, ex15, h⟩ := rI_ok h
        refine V_iald (k := 39) (q := 72) dX3_write_71 rfl rfl hi14 ex15 ?_
        obtain ⟨hi17, x16, ex18, h⟩ := rI_ok h
        refine V_iald (k := 37) (q := 73) dX3_write_72 rfl rfl hi17 ex18 ?_
        refine V_iload_n (q := 74) dX3_write_73 rfl rfl ?_
        refine V_icmp_ne (q := 82) (q2 := 77) dX3_write_74 rfl rfl (fun hb22 => ?_) (fun hb22 => ?_)
        · replace h := ie h hb22
          refine V_msk (L' := [some (.ref (ad (xY X) 40)), some (.int i1), none]) [true, true, false] rfl ?_
          exact hk5 (s) h
        · replace h := it h hb22
          refine V_aload_n (q := 78) dX3_write_77 rfl rfl ?_
          refine V_iload_n (q := 79) dX3_write_78 rfl rfl ?_
          obtain ⟨x19, s21, hc20, h⟩ := cA_ok h
          refine V_cv0 (k := 40) (q := 82) (As := [.int x3]) (rest := []) (ct_X3_addWordsOf (xY X) hc20) ce_X3_addWordsOf clz_2 rfl im_yX3_addWordsOf se_yX3_addWordsOf rfl ml_RX3_63 rfl ⟨Nat.le_of_ble_eq_true rfl, Nat.le_of_ble_eq_true rfl⟩ rfl (Nat.le_of_ble_eq_true rfl) dX3_write_79 rfl ?_
          refine V_msk (L' := [some (.ref (ad (xY X) 40)), some (.int i1), none]) [true, true, false] rfl ?_
          exact hk5 (s21) h
      · replace h := it h hb29
        refine V_aload_n (q := 41) dX3_write_40 rfl rfl ?_
        refine V_aload_n (q := 42) dX3_write_41 rfl rfl ?_
        refine V_getr (k := 40) (j := 1) (q := 45) clz_2 dX3_write_42 rfl rfl rfl (Nat.le_of_ble_eq_true rfl) fl_RX3_19 ?_
        refine V_getr (k := 26) (j := 1) (q := 48) clz_5 dX3_write_45 rfl rfl rfl (Nat.le_of_ble_eq_true rfl) fl_RX3_48 ?_
        refine V_iload_n (q := 49) dX3_write_48 rfl rfl ?_
        obtain ⟨hi24, x23, ex25, h⟩ := rL_ok h
        refine V_lald (k := 27) (q := 50) dX3_write_49 rfl rfl hi24 ex25 ?_
        obtain ⟨x26, s28, hc27, h⟩ := cA_ok h
        refine V_cv0 (k := 40) (q := 53) (As := [.long x23]) (rest := []) (ct_X3_addWord (xY X) hc27) ce_X3_addWord clz_2 rfl im_yX3_addWord se_yX3_addWord rfl ml_RX3_52 rfl ⟨Nat.le_of_ble_eq_true rfl, Nat.le_of_ble_eq_true rfl⟩ rfl (Nat.le_of_ble_eq_true rfl) dX3_write_50 rfl ?_
        refine V_goto (q := 82) dX3_write_53 rfl ?_
        refine V_msk (L' := [some (.ref (ad (xY X) 40)), some (.int i1), none]) [true, true, false] rfl ?_
        exact hk5 (s28) h
set_option maxRecDepth 20000 in
theorem ct_X3_write (Y : Yc) {σ : Sg}  {r : Unit} {σr : Sg} (h : f_X3_write σ  = some (r, σr)) : Ct M_X3_write yX3_write Y [.ref (ad Y 40)] σ none σr := by
  refine Ct_intro [some (.ref (ad Y 40)), none, none] (by decide +kernel) rfl (Nat.le_of_ble_eq_true rfl) rfl (fun X hY => ?_) ⟨rfl, rfl⟩
  subst hY
  unfold f_X3_write at h
  refine V_aload_n (q := 1) dX3_write_0 rfl rfl ?_
  refine V_geti (k := 40) (j := 5) (q := 4) clz_2 dX3_write_1 rfl rfl rfl (Nat.le_of_ble_eq_true rfl) fl_RX3_31 ?_
  refine V_if_eq (q := 8) (q2 := 7) dX3_write_4 rfl rfl (fun hb34 => ?_) (fun hb34 => ?_)
  · replace h := it h hb34
    refine V_aload_n (q := 9) dX3_write_8 rfl rfl ?_
    refine V_iconst (q := 10) (v := 0) dX3_write_9 rfl iconst_0 ?_
    obtain ⟨s1, e2, h⟩ := pI_ok h
    refine V_puti (k := 40) (j := 4) (q := 13) clz_2 .int (by decide +kernel) rfl rfl rfl dX3_write_10 rfl rfl rfl (Nat.le_of_ble_eq_true rfl) fl_RX3_35 e2 ?_
    refine V_iconst (q := 14) (v := 0) dX3_write_13 rfl iconst_0 ?_
    refine V_istore_n (q := 15) (L' := [some (.ref (ad (xY X) 40)), some (.int 0), none]) dX3_write_14 rfl (Nat.le_of_ble_eq_true rfl) rfl ?_
    refine w_X3_write_L15 (fun s31 h => ?_) fu (s1) (0) h
    refine V_aload_n (q := 106) dX3_write_105 rfl rfl ?_
    refine V_iconst (q := 107) (v := 1) dX3_write_106 rfl iconst_1 ?_
    obtain ⟨s32, e33, h⟩ := pI_ok h
    refine V_puti (k := 40) (j := 5) (q := 110) clz_2 .boolean (by decide +kernel) rfl rfl rfl dX3_write_107 rfl rfl rfl (Nat.le_of_ble_eq_true rfl) fl_RX3_31 e33 ?_
    cases h
    exact V_vret rfl dX3_write_110
  · replace h := ie h hb34
    cases h
    exact V_vret rfl dX3_write_7
def M_X7_written : Mc := (RX7, cX7_written, 1, { frames := 5, cells := 0, slots := 0, locals := 123 }, (some (.object "TermScan$Mended")))
theorem ce_X7_written : Cee M_X7_written yX7_written 0 := ⟨cd_yX7_written, ini_RX7, ⟨by decide +kernel, by decide +kernel, by decide +kernel⟩, rfl, rfl⟩
set_option maxRecDepth 20000 in
theorem ct_X7_written (Y : Yc) {σ : Sg}  {r : Unit} {σr : Sg} (h : f_X7_written σ  = some (r, σr)) : Ct M_X7_written yX7_written Y [.ref (ad Y 0)] σ (some (.ref (ad Y 40))) σr := by
  refine Ct_intro [some (.ref (ad Y 0))] (by decide +kernel) rfl (Nat.le_of_ble_eq_true rfl) rfl (fun X hY => ?_) ⟨rfl, rfl⟩
  subst hY
  unfold f_X7_written at h
  refine V_aload_n (q := 1) dX7_written_0 rfl rfl ?_
  refine V_getr (k := 0) (j := 4) (q := 4) clz_6 dX7_written_1 rfl rfl rfl (Nat.le_of_ble_eq_true rfl) fl_RX7_39 ?_
  obtain ⟨x1, s3, hc2, h⟩ := cA_ok h
  refine V_cv0 (k := 30) (q := 7) (As := []) (rest := []) (ct_X4_settle (xY X) hc2) ce_X4_settle clz_3 rfl im_yX4_settle se_yX4_settle rfl ml_RX7_295 rfl ⟨Nat.le_of_ble_eq_true rfl, Nat.le_of_ble_eq_true rfl⟩ rfl (Nat.le_of_ble_eq_true rfl) dX7_written_4 rfl ?_
  refine V_aload_n (q := 8) dX7_written_7 rfl rfl ?_
  refine V_getr (k := 0) (j := 5) (q := 11) clz_6 dX7_written_8 rfl rfl rfl (Nat.le_of_ble_eq_true rfl) fl_RX7_48 ?_
  obtain ⟨x4, s6, hc5, h⟩ := cA_ok h
  refine V_cv0 (k := 40) (q := 14) (As := []) (rest := []) (ct_X3_write (xY X) hc5) ce_X3_write clz_2 rfl im_yX3_write se_yX3_write rfl ml_RX7_298 rfl ⟨Nat.le_of_ble_eq_true rfl, Nat.le_of_ble_eq_true rfl⟩ rfl (Nat.le_of_ble_eq_true rfl) dX7_written_11 rfl ?_
  refine V_aload_n (q := 15) dX7_written_14 rfl rfl ?_
  refine V_getr (k := 0) (j := 5) (q := 18) clz_6 dX7_written_15 rfl rfl rfl (Nat.le_of_ble_eq_true rfl) fl_RX7_48 ?_
  cases h
  exact V_aret rfl (Or.inr ⟨_, rfl⟩) dX7_written_18
def M_X7_told : Mc := (RX7, cX7_told, 2, { frames := 6, cells := 0, slots := 0, locals := 143 }, (some .int))
theorem ce_X7_told : Cee M_X7_told yX7_told 1 := ⟨cd_yX7_told, ini_RX7, ⟨by decide +kernel, by decide +kernel, by decide +kernel⟩, rfl, rfl⟩
set_option maxRecDepth 20000 in
theorem ct_X7_told (Y : Yc) {σ : Sg} {a1 : Int32} {r : Int32} {σr : Sg} (h : f_X7_told σ a1 = some (r, σr)) : Ct M_X7_told yX7_told Y [.ref (ad Y 0), .int a1] σ (some (.int r)) σr := by
  refine Ct_intro [some (.ref (ad Y 0)), some (.int a1)] (by decide +kernel) rfl (Nat.le_of_ble_eq_true rfl) rfl (fun X hY => ?_) ⟨rfl, rfl⟩
  subst hY
  unfold f_X7_told at h
  refine V_iload_n (q := 1) dX7_told_0 rfl rfl ?_
  by_cases hb1 : a1 = 0
  · replace h := it h hb1
    refine V_tsIn (q := 68) 0 hb1 dX7_told_1 (by decide) (by decide) rfl rfl ?_
    refine V_aload_n (q := 69) dX7_told_68 rfl rfl ?_
    refine V_getr (k := 0) (j := 1) (q := 72) clz_6 dX7_told_69 rfl rfl rfl (Nat.le_of_ble_eq_true rfl) fl_RX7_19 ?_
    refine V_geti (k := 4) (j := 0) (q := 75) clz_0 dX7_told_72 rfl rfl rfl (Nat.le_of_ble_eq_true rfl) fl_RX7_122 ?_
    cases h
    exact V_iret rfl dX7_told_75
  replace h := ie h hb1
  by_cases hb2 : a1 = 1
  · replace h := it h hb2
    refine V_tsIn (q := 76) 1 hb2 dX7_told_1 (by decide) (by decide) rfl rfl ?_
    refine V_aload_n (q := 77) dX7_told_76 rfl rfl ?_
    refine V_getr (k := 0) (j := 1) (q := 80) clz_6 dX7_told_77 rfl rfl rfl (Nat.le_of_ble_eq_true rfl) fl_RX7_19 ?_
    refine V_geti (k := 4) (j := 6) (q := 83) clz_0 dX7_told_80 rfl rfl rfl (Nat.le_of_ble_eq_true rfl) fl_RX7_131 ?_
    cases h
    exact V_iret rfl dX7_told_83
  replace h := ie h hb2
  by_cases hb3 : a1 = 2
  · replace h := it h hb3
    refine V_tsIn (q := 84) 2 hb3 dX7_told_1 (by decide) (by decide) rfl rfl ?_
    refine V_aload_n (q := 85) dX7_told_84 rfl rfl ?_
    refine V_getr (k := 0) (j := 0) (q := 88) clz_6 dX7_told_85 rfl rfl rfl (Nat.le_of_ble_eq_true rfl) fl_RX7_10 ?_
    refine V_geti (k := 1) (j := 1) (q := 91) clz_4 dX7_told_88 rfl rfl rfl (Nat.le_of_ble_eq_true rfl) fl_RX7_69 ?_
    cases h
    exact V_iret rfl dX7_told_91
  replace h := ie h hb3
  by_cases hb4 : a1 = 3
  · replace h := it h hb4
    refine V_tsIn (q := 92) 3 hb4 dX7_told_1 (by decide) (by decide) rfl rfl ?_
    refine V_aload_n (q := 93) dX7_told_92 rfl rfl ?_
    refine V_getr (k := 0) (j := 3) (q := 96) clz_6 dX7_told_93 rfl rfl rfl (Nat.le_of_ble_eq_true rfl) fl_RX7_30 ?_
    refine V_geti (k := 26) (j := 0) (q := 99) clz_5 dX7_told_96 rfl rfl rfl (Nat.le_of_ble_eq_true rfl) fl_RX7_190 ?_
    cases h
    exact V_iret rfl dX7_told_99
  replace h := ie h hb4
  by_cases hb5 : a1 = 4
  · replace h := it h hb5
    refine V_tsIn (q := 100) 4 hb5 dX7_told_1 (by decide) (by decide) rfl rfl ?_
    refine V_aload_n (q := 101) dX7_told_100 rfl rfl ?_
    refine V_getr (k := 0) (j := 3) (q := 104) clz_6 dX7_told_101 rfl rfl rfl (Nat.le_of_ble_eq_true rfl) fl_RX7_30 ?_
    refine V_geti (k := 26) (j := 4) (q := 107) clz_5 dX7_told_104 rfl rfl rfl (Nat.le_of_ble_eq_true rfl) fl_RX7_226 ?_
    cases h
    exact V_iret rfl dX7_told_107
  replace h := ie h hb5
  by_cases hb6 : a1 = 5
  · replace h := it h hb6
    refine V_tsIn (q := 108) 5 hb6 dX7_told_1 (by decide) (by decide) rfl rfl ?_
    refine V_aload_n (q := 109) dX7_told_108 rfl rfl ?_
    refine V_getr (k := 0) (j := 3) (q := 112) clz_6 dX7_told_109 rfl rfl rfl (Nat.le_of_ble_eq_true rfl) fl_RX7_30 ?_
    refine V_getl (k := 26) (j := 5) (q := 115) clz_5 dX7_told_112 rfl rfl rfl (Nat.le_of_ble_eq_true rfl) fl_RX7_229 ?_
    obtain ⟨x7, hc8, h⟩ := cP_ok h
    refine V_cs1 (q := 118) (As := [.long (σ.2 26 5)]) (rest := []) (ct_X0_sizeOf (xY X) hc8) ce_X0_sizeOf st_yX0_sizeOf ml_RX7_100 rfl ⟨Nat.le_of_ble_eq_true rfl, Nat.le_of_ble_eq_true rfl⟩ rfl (Nat.le_of_ble_eq_true rfl) dX7_told_115 rfl ?_
    cases h
    exact V_iret rfl dX7_told_118
  replace h := ie h hb6
  by_cases hb9 : a1 = 6
  · replace h := it h hb9
    refine V_tsIn (q := 119) 6 hb9 dX7_told_1 (by decide) (by decide) rfl rfl ?_
    refine V_aload_n (q := 120) dX7_told_119 rfl rfl ?_
    obtain ⟨x10, s12, hc11, h⟩ := cA_ok h
    refine V_cv1 (k := 0) (q := 123) (As := []) (rest := []) (ct_X7_settled (xY X) hc11) ce_X7_settled clz_6 rfl im_yX7_settled se_yX7_settled rfl ml_RX7_159 rfl ⟨Nat.le_of_ble_eq_true rfl, Nat.le_of_ble_eq_true rfl⟩ rfl (Nat.le_of_ble_eq_true rfl) dX7_told_120 rfl ?_
    obtain ⟨x13, hc14, h⟩ := cP_ok h
    refine V_cv1 (k := 30) (q := 126) (As := []) (rest := []) (ct_X4_foundCount (xY X) hc14) ce_X4_foundCount clz_3 rfl im_yX4_foundCount se_yX4_foundCount rfl ml_RX7_233 rfl ⟨Nat.le_of_ble_eq_true rfl, Nat.le_of_ble_eq_true rfl⟩ rfl (Nat.le_of_ble_eq_true rfl) dX7_told_123 rfl ?_
    cases h
    exact V_iret rfl dX7_told_126
  replace h := ie h hb9
  by_cases hb15 : a1 = 7
  · replace h := it h hb15
    refine V_tsIn (q := 127) 7 hb15 dX7_told_1 (by decide) (by decide) rfl rfl ?_
    refine V_aload_n (q := 128) dX7_told_127 rfl rfl ?_
    obtain ⟨x16, s18, hc17, h⟩ := cA_ok h
    refine V_cv1 (k := 0) (q := 131) (As := []) (rest := []) (ct_X7_settled (xY X) hc17) ce_X7_settled clz_6 rfl im_yX7_settled se_yX7_settled rfl ml_RX7_159 rfl ⟨Nat.le_of_ble_eq_true rfl, Nat.le_of_ble_eq_true rfl⟩ rfl (Nat.le_of_ble_eq_true rfl) dX7_told_128 rfl ?_
    refine V_geti (k := 30) (j := 11) (q := 134) clz_3 dX7_told_131 rfl rfl rfl (Nat.le_of_ble_eq_true rfl) fl_RX7_236 ?_
    cases h
    exact V_iret rfl dX7_told_134
  replace h := ie h hb15
  by_cases hb19 : a1 = 8
  · replace h := it h hb19
    refine V_tsIn (q := 135) 8 hb19 dX7_told_1 (by decide) (by decide) rfl rfl ?_
    refine V_aload_n (q := 136) dX7_told_135 rfl rfl ?_
    obtain ⟨x20, s22, hc21, h⟩ := cA_ok h
    refine V_cv1 (k := 0) (q := 139) (As := []) (rest := []) (ct_X7_settled (xY X) hc21) ce_X7_settled clz_6 rfl im_yX7_settled se_yX7_settled rfl ml_RX7_159 rfl ⟨Nat.le_of_ble_eq_true rfl, Nat.le_of_ble_eq_true rfl⟩ rfl (Nat.le_of_ble_eq_true rfl) dX7_told_136 rfl ?_
    refine V_getr (k := 30) (j := 8) (q := 142) clz_3 dX7_told_139 rfl rfl rfl (Nat.le_of_ble_eq_true rfl) fl_RX7_239 ?_
    refine V_iconst (q := 143) (v := 0) dX7_told_142 rfl iconst_0 ?_
    obtain ⟨hi24, x23, ex25, h⟩ := rI_ok h
    refine V_iald (k := 34) (q := 144) dX7_told_143 rfl rfl hi24 ex25 ?_
    cases h
    exact V_iret rfl dX7_told_144
  replace h := ie h hb19
  by_cases hb26 : a1 = 9
  · replace h := it h hb26
    refine V_tsIn (q := 145) 9 hb26 dX7_told_1 (by decide) (by decide) rfl rfl ?_
    refine V_aload_n (q := 146) dX7_told_145 rfl rfl ?_
    obtain ⟨x27, s29, hc28, h⟩ := cA_ok h
    refine V_cv1 (k := 0) (q := 149) (As := []) (rest := []) (ct_X7_settled (xY X) hc28) ce_X7_settled clz_6 rfl im_yX7_settled se_yX7_settled rfl ml_RX7_159 rfl ⟨Nat.le_of_ble_eq_true rfl, Nat.le_of_ble_eq_true rfl⟩ rfl (Nat.le_of_ble_eq_true rfl) dX7_told_146 rfl ?_
    obtain ⟨x30, hc31, h⟩ := cP_ok h
    refine V_cv1 (k := 30) (q := 152) (As := []) (rest := []) (ct_X4_wordsChosen (xY X) hc31) ce_X4_wordsChosen clz_3 rfl im_yX4_wordsChosen se_yX4_wordsChosen rfl ml_RX7_242 rfl ⟨Nat.le_of_ble_eq_true rfl, Nat.le_of_ble_eq_true rfl⟩ rfl (Nat.le_of_ble_eq_true rfl) dX7_told_149 rfl ?_
    cases h
    exact V_iret rfl dX7_told_152
  replace h := ie h hb26
  by_cases hb32 : a1 = 10
  · replace h := it h hb32
    refine V_tsIn (q := 153) 10 hb32 dX7_told_1 (by decide) (by decide) rfl rfl ?_
    refine V_aload_n (q := 154) dX7_told_153 rfl rfl ?_
    obtain ⟨x33, s35, hc34, h⟩ := cA_ok h
    refine V_cv1 (k := 0) (q := 157) (As := []) (rest := []) (ct_X7_settled (xY X) hc34) ce_X7_settled clz_6 rfl im_yX7_settled se_yX7_settled rfl ml_RX7_159 rfl ⟨Nat.le_of_ble_eq_true rfl, Nat.le_of_ble_eq_true rfl⟩ rfl (Nat.le_of_ble_eq_true rfl) dX7_told_154 rfl ?_
    obtain ⟨x36, hc37, h⟩ := cP_ok h
    refine V_cv1 (k := 30) (q := 160) (As := []) (rest := []) (ct_X4_insteadCount (xY X) hc37) ce_X4_insteadCount clz_3 rfl im_yX4_insteadCount se_yX4_insteadCount rfl ml_RX7_245 rfl ⟨Nat.le_of_ble_eq_true rfl, Nat.le_of_ble_eq_true rfl⟩ rfl (Nat.le_of_ble_eq_true rfl) dX7_told_157 rfl ?_
    cases h
    exact V_iret rfl dX7_told_160
  replace h := ie h hb32
  by_cases hb38 : a1 = 11
  · replace h := it h hb38
    refine V_tsIn (q := 161) 11 hb38 dX7_told_1 (by decide) (by decide) rfl rfl ?_
    refine V_aload_n (q := 162) dX7_told_161 rfl rfl ?_
    obtain ⟨x39, s41, hc40, h⟩ := cA_ok h
    refine V_cv1 (k := 0) (q := 165) (As := []) (rest := []) (ct_X7_written (xY X) hc40) ce_X7_written clz_6 rfl im_yX7_written se_yX7_written rfl ml_RX7_248 rfl ⟨Nat.le_of_ble_eq_true rfl, Nat.le_of_ble_eq_true rfl⟩ rfl (Nat.le_of_ble_eq_true rfl) dX7_told_162 rfl ?_
    refine V_geti (k := 40) (j := 4) (q := 168) clz_2 dX7_told_165 rfl rfl rfl (Nat.le_of_ble_eq_true rfl) fl_RX7_252 ?_
    cases h
    exact V_iret rfl dX7_told_168
  replace h := ie h hb38
  by_cases hb42 : a1 = 12
  · replace h := it h hb42
    refine V_tsIn (q := 169) 12 hb42 dX7_told_1 (by decide) (by decide) rfl rfl ?_
    refine V_aload_n (q := 170) dX7_told_169 rfl rfl ?_
    refine V_getr (k := 0) (j := 1) (q := 173) clz_6 dX7_told_170 rfl rfl rfl (Nat.le_of_ble_eq_true rfl) fl_RX7_19 ?_
    obtain ⟨x43, hc44, h⟩ := cP_ok h
    refine V_cv1 (k := 4) (q := 176) (As := []) (rest := []) (ct_X1_forbiddenSet (xY X) hc44) ce_X1_forbiddenSet clz_0 rfl im_yX1_forbiddenSet se_yX1_forbiddenSet rfl ml_RX7_141 rfl ⟨Nat.le_of_ble_eq_true rfl, Nat.le_of_ble_eq_true rfl⟩ rfl (Nat.le_of_ble_eq_true rfl) dX7_told_173 rfl ?_
    cases h
    exact V_iret rfl dX7_told_176
  replace h := ie h hb42
  refine V_tsOut (q := 177) 12 ⟨hb42, hb38, hb32, hb26, hb19, hb15, hb9, hb6, hb5, hb4, hb3, hb2, hb1, trivial⟩ (by decide) rfl rfl dX7_told_1 rfl ?_
  refine V_ldc (q := 179) kc_RX7_65 dX7_told_177 rfl ?_
  cases h
  exact V_iret rfl dX7_told_179
def M_X8_counts : Mc := (RX8, cX8_counts, 7, { frames := 5, cells := 0, slots := 0, locals := 124 }, (some .int))
theorem ce_X8_counts : Cee M_X8_counts yX8_counts 1 := ⟨cd_yX8_counts, ini_RX8, ⟨by decide +kernel, by decide +kernel, by decide +kernel⟩, rfl, rfl⟩
set_option maxRecDepth 20000 in
theorem w_X8_counts_L19 {X : Xc} {σ : Sg} {c1 : Int32} {c3 : Int32} {r : Int32} {σr : Sg} {k : Int32 → Option (Int32 × Sg)}
    (hk : ∀ (i2 : Int32), k i2 = some (r, σr) → V X M_X8_counts (mq X (some (.int r)) σr) 134 [some (.ref (ad (xY X) 43)), some (.int c1), some (.int i2), some (.int c3), none, none, none] [] σ) :
    ∀ (n : Nat) (i2 : Int32) (i4 : Int32), f_X8_counts_L19 k σ c1 c3 n i2 i4 = some (r, σr) → V X M_X8_counts (mq X (some (.int r)) σr) 19 [some (.ref (ad (xY X) 43)), some (.int c1), some (.int i2), some (.int c3), some (.int i4), none, none] [] σ := by
  intro n
  induction n with
  | zero => intro i2 i4 h; cases h
  | succ n ih =>
    intro i2 i4 h
    rw [f_X8_counts_L19] at h
    refine V_iload (q := 21) dX8_counts_19 rfl rfl ?_
    refine V_aload_n (q := 22) dX8_counts_21 rfl rfl ?_
    refine V_getr (k := 43) (j := 0) (q := 25) clz_7 dX8_counts_22 rfl rfl rfl (Nat.le_of_ble_eq_true rfl) fl_RX8_7 ?_
    refine V_iconst (q := 26) (v := 0) dX8_counts_25 rfl iconst_0 ?_
    obtain ⟨hi5, x4, ex6, h⟩ := rI_ok h
    refine V_iald (k := 44) (q := 27) dX8_counts_26 rfl rfl hi5 ex6 ?_
    refine V_icmp_ge (q := 134) (q2 := 30) dX8_counts_27 rfl rfl (fun hb35 => ?_) (fun hb35 => ?_)
    · replace h := it h hb35
      refine V_msk (L' := [some (.ref (ad (xY X) 43)), some (.int c1), some (.int i2), some (.int c3), none, none, none]) [true, true, true, true, false, true, true] rfl ?_
      exact hk (i2) h
    · replace h := ie h hb35
      refine V_aload_n (q := 31) dX8_counts_30 rfl rfl ?_
      refine V_getr (k := 43) (j := 12) (q := 34) clz_7 dX8_counts_31 rfl rfl rfl (Nat.le_of_ble_eq_true rfl) fl_RX8_38 ?_
      refine V_iload_n (q := 35) dX8_counts_34 rfl rfl ?_
      obtain ⟨hi8, x7, ex9, h⟩ := rI_ok h
      refine V_iald (k := 53) (q := 36) dX8_counts_35 rfl rfl hi8 ex9 ?_
      refine V_iload (q := 38) dX8_counts_36 rfl rfl ?_
      obtain ⟨k10, ek10, h⟩ := jn_ok h
      have hk10 : ∀ (v11 : Int32), k10 v11 = some (r, σr) → V X M_X8_counts (mq X (some (.int r)) σr) 46 [some (.ref (ad (xY X) 43)), some (.int c1), some (.int i2), some (.int c3), some (.int i4), none, none] [.int v11] σ := by
        clear h
        intro v11 h
        rw [ek10] at h
        refine V_istore (q := 48) (L' := [some (.ref (ad (xY X) 43)), some (.int c1), some (.int i2), some (.int c3), some (.int i4), some (.int v11), none]) dX8_counts_46 rfl (Nat.le_of_ble_eq_true rfl) rfl ?_
        refine V_iload_n (q := 49) dX8_counts_48 rfl rfl ?_
        obtain ⟨k12, ek12, h⟩ := jn_ok h
        have hk12 : ∀ (v13 : Int32), k12 v13 = some (r, σr) → V X M_X8_counts (mq X (some (.int r)) σr) 93 [some (.ref (ad (xY X) 43)), some (.int c1), some (.int i2), some (.int c3), some (.int i4), none, none] [.int v13] σ := by
          clear h
          intro v13 h
          rw [ek12] at h
          refine V_istore (q := 95) (L' := [some (.ref (ad (xY X) 43)), some (.int c1), some (.int i2), some (.int c3), some (.int i4), none, some (.int v13)]) dX8_counts_93 rfl (Nat.le_of_ble_eq_true rfl) rfl ?_
          refine V_iload_n (q := 96) dX8_counts_95 rfl rfl ?_
          refine V_iload (q := 98) dX8_counts_96 rfl rfl ?_
          obtain ⟨k14, ek14, h⟩ := jn_ok h
          have hk14 : ∀ (v15 : Int32), k14 v15 = some (r, σr) → V X M_X8_counts (mq X (some (.int r)) σr) 126 [some (.ref (ad (xY X) 43)), some (.int c1), none, some (.int c3), some (.int i4), none, none] [.int v15, .int i2] σ := by
            clear h
            intro v15 h
            rw [ek14] at h
            refine V_iadd (q := 127) dX8_counts_126 rfl ?_
            refine V_istore_n (q := 128) (L' := [some (.ref (ad (xY X) 43)), some (.int c1), some (.int (i2 + v15)), some (.int c3), some (.int i4), none, none]) dX8_counts_127 rfl (Nat.le_of_ble_eq_true rfl) rfl ?_
            refine V_iinc (q := 131) (v := 1) (L' := [some (.ref (ad (xY X) 43)), some (.int c1), some (.int (i2 + v15)), some (.int c3), some (.int (i4 + 1)), none, none]) dX8_counts_128 rfl rfl iconst_1 (Nat.le_of_ble_eq_true rfl) rfl ?_
            refine V_goto (q := 19) dX8_counts_131 rfl ?_
            exact ih ((i2 + v15)) ((i4 + 1)) h
          refine V_if_ne (q := 105) (q2 := 101) dX8_counts_98 rfl rfl (fun hb22 => ?_) (fun hb22 => ?_)
          · replace h := ie h hb22
            refine V_iload_n (q := 106) dX8_counts_105 rfl rfl ?_
            refine V_iconst (q := 107) (v := 2) dX8_counts_106 rfl iconst_2 ?_
            refine V_icmp_ne (q := 125) (q2 := 110) dX8_counts_107 rfl rfl (fun hb21 => ?_) (fun hb21 => ?_)
            · replace h := ie h hb21
              refine V_iconst (q := 126) (v := 1) dX8_counts_125 rfl iconst_1 ?_
              refine V_msk (L' := [some (.ref (ad (xY X) 43)), some (.int c1), none, some (.int c3), some (.int i4), none, none]) [true, true, false, true, true, true, false] rfl ?_
              exact hk14 (1) h
            · replace h := it h hb21
              refine V_aload_n (q := 111) dX8_counts_110 rfl rfl ?_
              refine V_getr (k := 43) (j := 0) (q := 114) clz_7 dX8_counts_111 rfl rfl rfl (Nat.le_of_ble_eq_true rfl) fl_RX8_7 ?_
              refine V_iload (q := 116) dX8_counts_114 rfl rfl ?_
              obtain ⟨x16, hc17, h⟩ := cP_ok h
              refine V_cs1 (q := 119) (As := [.int i4]) (rest := [.ref (ad (xY X) 44), .int i2]) (ct_X8_termAt (xY X) hc17) ce_X8_termAt st_yX8_termAt ml_RX8_58 rfl ⟨Nat.le_of_ble_eq_true rfl, Nat.le_of_ble_eq_true rfl⟩ rfl (Nat.le_of_ble_eq_true rfl) dX8_counts_116 rfl ?_
              refine V_iconst (q := 120) (v := 0) dX8_counts_119 rfl iconst_0 ?_
              refine V_iadd (q := 121) dX8_counts_120 rfl ?_
              obtain ⟨hi19, x18, ex20, h⟩ := rI_ok h
              refine V_iald (k := 44) (q := 122) dX8_counts_121 rfl rfl hi19 ex20 ?_
              refine V_goto (q := 126) dX8_counts_122 rfl ?_
              refine V_msk (L' := [some (.ref (ad (xY X) 43)), some (.int c1), none, some (.int c3), some (.int i4), none, none]) [true, true, false, true, true, true, false] rfl ?_
              exact hk14 (x18) h
          · replace h := it h hb22
            refine V_iconst (q := 102) (v := 0) dX8_counts_101 rfl iconst_0 ?_
            refine V_goto (q := 126) dX8_counts_102 rfl ?_
            refine V_msk (L' := [some (.ref (ad (xY X) 43)), some (.int c1), none, some (.int c3), some (.int i4), none, none]) [true, true, false, true, true, true, false] rfl ?_
            exact hk14 (0) h
        refine V_if_ne (q := 62) (q2 := 52) dX8_counts_49 rfl rfl (fun hb33 => ?_) (fun hb33 => ?_)
        · replace h := ie h hb33
          refine V_iload (q := 64) dX8_counts_62 rfl rfl ?_
          refine V_if_eq (q := 92) (q2 := 67) dX8_counts_64 rfl rfl (fun hb30 => ?_) (fun hb30 => ?_)
          · replace h := it h hb30
            refine V_iconst (q := 93) (v := 0) dX8_counts_92 rfl iconst_0 ?_
            refine V_msk (L' := [some (.ref (ad (xY X) 43)), some (.int c1), some (.int i2), some (.int c3), some (.int i4), none, none]) [true, true, true, true, true, false, true] rfl ?_
            exact hk12 (0) h
          · replace h := ie h hb30
            refine V_iload_n (q := 68) dX8_counts_67 rfl rfl ?_
            refine V_iconst (q := 69) (v := 3) dX8_counts_68 rfl iconst_3 ?_
            refine V_icmp_lt (q := 88) (q2 := 72) dX8_counts_69 rfl rfl (fun hb29 => ?_) (fun hb29 => ?_)
            · replace h := it h hb29
              refine V_iconst (q := 89) (v := 1) dX8_counts_88 rfl iconst_1 ?_
              refine V_goto (q := 93) dX8_counts_89 rfl ?_
              refine V_msk (L' := [some (.ref (ad (xY X) 43)), some (.int c1), some (.int i2), some (.int c3), some (.int i4), none, none]) [true, true, true, true, true, false, true] rfl ?_
              exact hk12 (1) h
            · replace h := ie h hb29
              refine V_aload_n (q := 73) dX8_counts_72 rfl rfl ?_
              refine V_getr (k := 43) (j := 0) (q := 76) clz_7 dX8_counts_73 rfl rfl rfl (Nat.le_of_ble_eq_true rfl) fl_RX8_7 ?_
              refine V_iload (q := 78) dX8_counts_76 rfl rfl ?_
              obtain ⟨x23, hc24, h⟩ := cP_ok h
              refine V_cs1 (q := 81) (As := [.int i4]) (rest := [.ref (ad (xY X) 44)]) (ct_X8_termAt (xY X) hc24) ce_X8_termAt st_yX8_termAt ml_RX8_58 rfl ⟨Nat.le_of_ble_eq_true rfl, Nat.le_of_ble_eq_true rfl⟩ rfl (Nat.le_of_ble_eq_true rfl) dX8_counts_78 rfl ?_
              refine V_iconst (q := 82) (v := 3) dX8_counts_81 rfl iconst_3 ?_
              refine V_iadd (q := 83) dX8_counts_82 rfl ?_
              obtain ⟨hi26, x25, ex27, h⟩ := rI_ok h
              refine V_iald (k := 44) (q := 84) dX8_counts_83 rfl rfl hi26 ex27 ?_
              refine V_iconst (q := 85) (v := (-1)) dX8_counts_84 rfl iconst_m1 ?_
              refine V_icmp_eq (q := 92) (q2 := 88) dX8_counts_85 rfl rfl (fun hb28 => ?_) (fun hb28 => ?_)
              · replace h := it h hb28
                refine V_iconst (q := 93) (v := 0) dX8_counts_92 rfl iconst_0 ?_
                refine V_msk (L' := [some (.ref (ad (xY X) 43)), some (.int c1), some (.int i2), some (.int c3), some (.int i4), none, none]) [true, true, true, true, true, false, true] rfl ?_
                exact hk12 (0) h
              · replace h := ie h hb28
                refine V_iconst (q := 89) (v := 1) dX8_counts_88 rfl iconst_1 ?_
                refine V_goto (q := 93) dX8_counts_89 rfl ?_
                refine V_msk (L' := [some (.ref (ad (xY X) 43)), some (.int c1), some (.int i2), some (.int c3), some (.int i4), none, none]) [true, true, true, true, true, false, true] rfl ?_
                exact hk12 (1) h
        · replace h := it h hb33
          refine V_aload_n (q := 53) dX8_counts_52 rfl rfl ?_
          refine V_iload (q := 55) dX8_counts_53 rfl rfl ?_
          refine V_iload_n (q := 56) dX8_counts_55 rfl rfl ?_
          obtain ⟨x31, hc32, h⟩ := cP_ok h
          refine V_cv1 (k := 43) (q := 59) (As := [.int i4, .int c3]) (rest := []) (ct_X8_isFound (xY X) hc32) ce_X8_isFound clz_7 rfl im_yX8_isFound se_yX8_isFound rfl ml_RX8_107 rfl ⟨Nat.le_of_ble_eq_true rfl, Nat.le_of_ble_eq_true rfl⟩ rfl (Nat.le_of_ble_eq_true rfl) dX8_counts_56 rfl ?_
          refine V_goto (q := 93) dX8_counts_59 rfl ?_
          refine V_msk (L' := [some (.ref (ad (xY X) 43)), some (.int c1), some (.int i2), some (.int c3), some (.int i4), none, none]) [true, true, true, true, true, false, true] rfl ?_
          exact hk12 (x31) h
      refine V_icmp_ne (q := 45) (q2 := 41) dX8_counts_38 rfl rfl (fun hb34 => ?_) (fun hb34 => ?_)
      · replace h := ie h hb34
        refine V_iconst (q := 46) (v := 0) dX8_counts_45 rfl iconst_0 ?_
        exact hk10 (0) h
      · replace h := it h hb34
        refine V_iconst (q := 42) (v := 1) dX8_counts_41 rfl iconst_1 ?_
        refine V_goto (q := 46) dX8_counts_42 rfl ?_
        exact hk10 (1) h
set_option maxRecDepth 20000 in
theorem w_X8_counts_L8 {X : Xc} {σ : Sg} {c1 : Int32} {r : Int32} {σr : Sg} {k : Int32 → Option (Int32 × Sg)}
    (hk : ∀ (i2 : Int32), k i2 = some (r, σr) → V X M_X8_counts (mq X (some (.int r)) σr) 140 [none, none, some (.int i2), none, none, none, none] [] σ) :
    ∀ (n : Nat) (i2 : Int32) (i3 : Int32), f_X8_counts_L8 k σ c1 n i2 i3 = some (r, σr) → V X M_X8_counts (mq X (some (.int r)) σr) 8 [some (.ref (ad (xY X) 43)), some (.int c1), some (.int i2), some (.int i3), none, none, none] [] σ := by
  intro n
  induction n with
  | zero => intro i2 i3 h; cases h
  | succ n ih =>
    intro i2 i3 h
    rw [f_X8_counts_L8] at h
    refine V_iload_n (q := 9) dX8_counts_8 rfl rfl ?_
    refine V_aload_n (q := 10) dX8_counts_9 rfl rfl ?_
    refine V_geti (k := 43) (j := 6) (q := 13) clz_7 dX8_counts_10 rfl rfl rfl (Nat.le_of_ble_eq_true rfl) fl_RX8_104 ?_
    refine V_icmp_ge (q := 140) (q2 := 16) dX8_counts_13 rfl rfl (fun hb37 => ?_) (fun hb37 => ?_)
    · replace h := it h hb37
      refine V_msk (L' := [none, none, some (.int i2), none, none, none, none]) [false, false, true, false, true, true, true] rfl ?_
      exact hk (i2) h
    · replace h := ie h hb37
      refine V_iconst (q := 17) (v := 0) dX8_counts_16 rfl iconst_0 ?_
      refine V_istore (q := 19) (L' := [some (.ref (ad (xY X) 43)), some (.int c1), some (.int i2), some (.int i3), some (.int 0), none, none]) dX8_counts_17 rfl (Nat.le_of_ble_eq_true rfl) rfl ?_
      refine w_X8_counts_L19 (fun v36 h => ?_) fu (i2) (0) h
      refine V_iinc (q := 137) (v := 1) (L' := [some (.ref (ad (xY X) 43)), some (.int c1), some (.int v36), some (.int (i3 + 1)), none, none, none]) dX8_counts_134 rfl rfl iconst_1 (Nat.le_of_ble_eq_true rfl) rfl ?_
      refine V_goto (q := 8) dX8_counts_137 rfl ?_
      exact ih (v36) ((i3 + 1)) h
set_option maxRecDepth 20000 in
theorem ct_X8_counts (Y : Yc) {σ : Sg} {a1 : Int32} {r : Int32} {σr : Sg} (h : f_X8_counts σ a1 = some (r, σr)) : Ct M_X8_counts yX8_counts Y [.ref (ad Y 43), .int a1] σ (some (.int r)) σr := by
  refine Ct_intro [some (.ref (ad Y 43)), some (.int a1), none, none, none, none, none] (by decide +kernel) rfl (Nat.le_of_ble_eq_true rfl) rfl (fun X hY => ?_) ⟨rfl, rfl⟩
  subst hY
  unfold f_X8_counts at h
  refine V_aload_n (q := 1) dX8_counts_0 rfl rfl ?_
  obtain ⟨x1, s3, hc2, h⟩ := cA_ok h
  refine V_cv0 (k := 43) (q := 4) (As := []) (rest := []) (ct_X8_choose (xY X) hc2) ce_X8_choose clz_7 rfl im_yX8_choose se_yX8_choose rfl ml_RX8_101 rfl ⟨Nat.le_of_ble_eq_true rfl, Nat.le_of_ble_eq_true rfl⟩ rfl (Nat.le_of_ble_eq_true rfl) dX8_counts_1 rfl ?_
  refine V_iconst (q := 5) (v := 0) dX8_counts_4 rfl iconst_0 ?_
  refine V_istore_n (q := 6) (L' := [some (.ref (ad (xY X) 43)), some (.int a1), some (.int 0), none, none, none, none]) dX8_counts_5 rfl (Nat.le_of_ble_eq_true rfl) rfl ?_
  refine V_iconst (q := 7) (v := 0) dX8_counts_6 rfl iconst_0 ?_
  refine V_istore_n (q := 8) (L' := [some (.ref (ad (xY X) 43)), some (.int a1), some (.int 0), some (.int 0), none, none, none]) dX8_counts_7 rfl (Nat.le_of_ble_eq_true rfl) rfl ?_
  refine w_X8_counts_L8 (fun v38 h => ?_) fu (0) (0) h
  refine V_iload_n (q := 141) dX8_counts_140 rfl rfl ?_
  cases h
  exact V_iret rfl dX8_counts_141
def M_X8_mends : Mc := (RX8, cX8_mends, 10, { frames := 5, cells := 0, slots := 0, locals := 124 }, (some .int))
theorem ce_X8_mends : Cee M_X8_mends yX8_mends 0 := ⟨cd_yX8_mends, ini_RX8, ⟨by decide +kernel, by decide +kernel, by decide +kernel⟩, rfl, rfl⟩
set_option maxRecDepth 20000 in
theorem w_X8_mends_L154 {X : Xc} {c2 : Int32} {c4 : Int32} {c5 : Int32} {c6 : Int32} {c7 : Int32} {c8 : Int32} {r : Int32} {σr : Sg} {k : Sg → Int32 → Option (Int32 × Sg)}
    (hk : ∀ (s : Sg) (i1 : Int32), k s i1 = some (r, σr) → V X M_X8_mends (mq X (some (.int r)) σr) 216 [some (.ref (ad (xY X) 43)), some (.int i1), some (.int c2), none, some (.int c4), some (.int c5), some (.int c6), some (.int c7), none, none] [] s) :
    ∀ (n : Nat) (s : Sg) (i1 : Int32) (i9 : Int32), f_X8_mends_L154 k c2 c4 c5 c6 c7 c8 n s i1 i9 = some (r, σr) → V X M_X8_mends (mq X (some (.int r)) σr) 154 [some (.ref (ad (xY X) 43)), some (.int i1), some (.int c2), none, some (.int c4), some (.int c5), some (.int c6), some (.int c7), some (.int c8), some (.int i9)] [] s := by
  intro n
  induction n with
  | zero => intro s i1 i9 h; cases h
  | succ n ih =>
    intro s i1 i9 h
    rw [f_X8_mends_L154] at h
    refine V_iload (q := 156) dX8_mends_154 rfl rfl ?_
    refine V_iload (q := 158) dX8_mends_156 rfl rfl ?_
    refine V_icmp_ge (q := 216) (q2 := 161) dX8_mends_158 rfl rfl (fun hb32 => ?_) (fun hb32 => ?_)
    · replace h := it h hb32
      refine V_msk (L' := [some (.ref (ad (xY X) 43)), some (.int i1), some (.int c2), none, some (.int c4), some (.int c5), some (.int c6), some (.int c7), none, none]) [true, true, true, true, true, true, true, true, false, false] rfl ?_
      exact hk (s) (i1) h
    · replace h := ie h hb32
      refine V_aload_n (q := 162) dX8_mends_161 rfl rfl ?_
      refine V_getr (k := 43) (j := 13) (q := 165) clz_7 dX8_mends_162 rfl rfl rfl (Nat.le_of_ble_eq_true rfl) fl_RX8_41 ?_
      refine V_iload_n (q := 166) dX8_mends_165 rfl rfl ?_
      refine V_iload (q := 168) dX8_mends_166 rfl rfl ?_
      refine V_iconst (q := 169) (v := (-1)) dX8_mends_168 rfl iconst_m1 ?_
      obtain ⟨k18, ek18, h⟩ := jn_ok h
      have hk18 : ∀ (v19 : Int32), k18 v19 = some (r, σr) → V X M_X8_mends (mq X (some (.int r)) σr) 206 [some (.ref (ad (xY X) 43)), some (.int i1), some (.int c2), none, some (.int c4), some (.int c5), some (.int c6), some (.int c7), some (.int c8), some (.int i9)] [.int v19, .int i1, .ref (ad (xY X) 54)] s := by
        clear h
        intro v19 h
        rw [ek18] at h
        obtain ⟨hi22, s20, e21, h⟩ := wI_ok h
        refine V_iast (k := 54) (q := 207) dX8_mends_206 rfl rfl hi22 e21 ?_
        refine V_iinc (q := 210) (v := 1) (L' := [some (.ref (ad (xY X) 43)), some (.int (i1 + 1)), some (.int c2), none, some (.int c4), some (.int c5), some (.int c6), some (.int c7), some (.int c8), some (.int i9)]) dX8_mends_207 rfl rfl iconst_1 (Nat.le_of_ble_eq_true rfl) rfl ?_
        refine V_iinc (q := 213) (v := 1) (L' := [some (.ref (ad (xY X) 43)), some (.int (i1 + 1)), some (.int c2), none, some (.int c4), some (.int c5), some (.int c6), some (.int c7), some (.int c8), some (.int (i9 + 1))]) dX8_mends_210 rfl rfl iconst_1 (Nat.le_of_ble_eq_true rfl) rfl ?_
        refine V_goto (q := 154) dX8_mends_213 rfl ?_
        exact ih (s20) ((i1 + 1)) ((i9 + 1)) h
      refine V_icmp_ne (q := 189) (q2 := 172) dX8_mends_169 rfl rfl (fun hb31 => ?_) (fun hb31 => ?_)
      · replace h := ie h hb31
        refine V_aload_n (q := 190) dX8_mends_189 rfl rfl ?_
        refine V_getr (k := 43) (j := 0) (q := 193) clz_7 dX8_mends_190 rfl rfl rfl (Nat.le_of_ble_eq_true rfl) fl_RX8_7 ?_
        refine V_iload (q := 195) dX8_mends_193 rfl rfl ?_
        refine V_iload (q := 197) dX8_mends_195 rfl rfl ?_
        obtain ⟨x23, hc24, h⟩ := cP_ok h
        refine V_cs1 (q := 200) (As := [.int c4, .int c7]) (rest := [.ref (ad (xY X) 44), .int i1, .ref (ad (xY X) 54)]) (ct_X8_wordAt (xY X) hc24) ce_X8_wordAt st_yX8_wordAt ml_RX8_62 rfl ⟨Nat.le_of_ble_eq_true rfl, Nat.le_of_ble_eq_true rfl⟩ rfl (Nat.le_of_ble_eq_true rfl) dX8_mends_197 rfl ?_
        refine V_iconst (q := 201) (v := 1) dX8_mends_200 rfl iconst_1 ?_
        refine V_iadd (q := 202) dX8_mends_201 rfl ?_
        refine V_iload (q := 204) dX8_mends_202 rfl rfl ?_
        refine V_iadd (q := 205) dX8_mends_204 rfl ?_
        obtain ⟨hi26, x25, ex27, h⟩ := rI_ok h
        refine V_iald (k := 44) (q := 206) dX8_mends_205 rfl rfl hi26 ex27 ?_
        exact hk18 (x25) h
      · replace h := it h hb31
        refine V_aload_n (q := 173) dX8_mends_172 rfl rfl ?_
        refine V_getr (k := 43) (j := 5) (q := 176) clz_7 dX8_mends_173 rfl rfl rfl (Nat.le_of_ble_eq_true rfl) fl_RX8_23 ?_
        refine V_bipush (q := 178) (v := 15) dX8_mends_176 rfl bipush_15 ?_
        refine V_iload_n (q := 179) dX8_mends_178 rfl rfl ?_
        refine V_imul (q := 180) dX8_mends_179 rfl ?_
        refine V_iconst (q := 181) (v := 3) dX8_mends_180 rfl iconst_3 ?_
        refine V_iadd (q := 182) dX8_mends_181 rfl ?_
        refine V_iload (q := 184) dX8_mends_182 rfl rfl ?_
        refine V_iadd (q := 185) dX8_mends_184 rfl ?_
        obtain ⟨hi29, x28, ex30, h⟩ := rI_ok h
        refine V_iald (k := 48) (q := 186) dX8_mends_185 rfl rfl hi29 ex30 ?_
        refine V_goto (q := 206) dX8_mends_186 rfl ?_
        exact hk18 (x28) h
set_option maxRecDepth 20000 in
theorem w_X8_mends_L97 {X : Xc} {c2 : Int32} {c4 : Int32} {c5 : Int32} {c6 : Int32} {r : Int32} {σr : Sg} {k : Sg → Int32 → Option (Int32 × Sg)}
    (hk : ∀ (s : Sg) (i1 : Int32), k s i1 = some (r, σr) → V X M_X8_mends (mq X (some (.int r)) σr) 222 [some (.ref (ad (xY X) 43)), some (.int i1), none, none, none, some (.int c5), none, none, none, none] [] s) :
    ∀ (n : Nat) (s : Sg) (i1 : Int32) (i7 : Int32), f_X8_mends_L97 k c2 c4 c5 c6 n s i1 i7 = some (r, σr) → V X M_X8_mends (mq X (some (.int r)) σr) 97 [some (.ref (ad (xY X) 43)), some (.int i1), some (.int c2), none, some (.int c4), some (.int c5), some (.int c6), some (.int i7), none, none] [] s := by
  intro n
  induction n with
  | zero => intro s i1 i7 h; cases h
  | succ n ih =>
    intro s i1 i7 h
    rw [f_X8_mends_L97] at h
    refine V_iload (q := 99) dX8_mends_97 rfl rfl ?_
    refine V_iload (q := 101) dX8_mends_99 rfl rfl ?_
    refine V_icmp_ge (q := 222) (q2 := 104) dX8_mends_101 rfl rfl (fun hb48 => ?_) (fun hb48 => ?_)
    · replace h := it h hb48
      refine V_msk (L' := [some (.ref (ad (xY X) 43)), some (.int i1), none, none, none, some (.int c5), none, none, none, none]) [true, true, false, true, false, true, false, false, true, true] rfl ?_
      exact hk (s) (i1) h
    · replace h := ie h hb48
      refine V_iload_n (q := 105) dX8_mends_104 rfl rfl ?_
      obtain ⟨k13, ek13, h⟩ := jn_ok h
      have hk13 : ∀ (s14 : Sg) (v15 : Int32), k13 s14 v15 = some (r, σr) → V X M_X8_mends (mq X (some (.int r)) σr) 119 [some (.ref (ad (xY X) 43)), some (.int v15), some (.int c2), none, some (.int c4), some (.int c5), some (.int c6), some (.int i7), none, none] [] s14 := by
        clear h
        intro s14 v15 h
        rw [ek13] at h
        refine V_iload (q := 121) dX8_mends_119 rfl rfl ?_
        refine V_iconst (q := 122) (v := (-1)) dX8_mends_121 rfl iconst_m1 ?_
        obtain ⟨k16, ek16, h⟩ := jn_ok h
        have hk16 : ∀ (v17 : Int32), k16 v17 = some (r, σr) → V X M_X8_mends (mq X (some (.int r)) σr) 149 [some (.ref (ad (xY X) 43)), some (.int v15), some (.int c2), none, some (.int c4), some (.int c5), some (.int c6), some (.int i7), none, none] [.int v17] s14 := by
          clear h
          intro v17 h
          rw [ek16] at h
          refine V_istore (q := 151) (L' := [some (.ref (ad (xY X) 43)), some (.int v15), some (.int c2), none, some (.int c4), some (.int c5), some (.int c6), some (.int i7), some (.int v17), none]) dX8_mends_149 rfl (Nat.le_of_ble_eq_true rfl) rfl ?_
          refine V_iconst (q := 152) (v := 0) dX8_mends_151 rfl iconst_0 ?_
          refine V_istore (q := 154) (L' := [some (.ref (ad (xY X) 43)), some (.int v15), some (.int c2), none, some (.int c4), some (.int c5), some (.int c6), some (.int i7), some (.int v17), some (.int 0)]) dX8_mends_152 rfl (Nat.le_of_ble_eq_true rfl) rfl ?_
          refine w_X8_mends_L154 (fun s33 v34 h => ?_) fu (s14) (v15) (0) h
          refine V_iinc (q := 219) (v := 1) (L' := [some (.ref (ad (xY X) 43)), some (.int v34), some (.int c2), none, some (.int c4), some (.int c5), some (.int c6), some (.int (i7 + 1)), none, none]) dX8_mends_216 rfl rfl iconst_1 (Nat.le_of_ble_eq_true rfl) rfl ?_
          refine V_goto (q := 97) dX8_mends_219 rfl ?_
          exact ih (s33) (v34) ((i7 + 1)) h
        refine V_icmp_ne (q := 137) (q2 := 125) dX8_mends_122 rfl rfl (fun hb43 => ?_) (fun hb43 => ?_)
        · replace h := ie h hb43
          refine V_aload_n (q := 138) dX8_mends_137 rfl rfl ?_
          refine V_getr (k := 43) (j := 0) (q := 141) clz_7 dX8_mends_138 rfl rfl rfl (Nat.le_of_ble_eq_true rfl) fl_RX8_7 ?_
          refine V_iload (q := 143) dX8_mends_141 rfl rfl ?_
          refine V_iload (q := 145) dX8_mends_143 rfl rfl ?_
          obtain ⟨x35, hc36, h⟩ := cP_ok h
          refine V_cs1 (q := 148) (As := [.int c4, .int i7]) (rest := [.ref (ad (xY X) 44)]) (ct_X8_wordAt (xY X) hc36) ce_X8_wordAt st_yX8_wordAt ml_RX8_62 rfl ⟨Nat.le_of_ble_eq_true rfl, Nat.le_of_ble_eq_true rfl⟩ rfl (Nat.le_of_ble_eq_true rfl) dX8_mends_145 rfl ?_
          obtain ⟨hi38, x37, ex39, h⟩ := rI_ok h
          refine V_iald (k := 44) (q := 149) dX8_mends_148 rfl rfl hi38 ex39 ?_
          exact hk16 (x37) h
        · replace h := it h hb43
          refine V_aload_n (q := 126) dX8_mends_125 rfl rfl ?_
          refine V_getr (k := 43) (j := 5) (q := 129) clz_7 dX8_mends_126 rfl rfl rfl (Nat.le_of_ble_eq_true rfl) fl_RX8_23 ?_
          refine V_bipush (q := 131) (v := 15) dX8_mends_129 rfl bipush_15 ?_
          refine V_iload_n (q := 132) dX8_mends_131 rfl rfl ?_
          refine V_imul (q := 133) dX8_mends_132 rfl ?_
          obtain ⟨hi41, x40, ex42, h⟩ := rI_ok h
          refine V_iald (k := 48) (q := 134) dX8_mends_133 rfl rfl hi41 ex42 ?_
          refine V_goto (q := 149) dX8_mends_134 rfl ?_
          exact hk16 (x40) h
      refine V_if_le (q := 119) (q2 := 108) dX8_mends_105 rfl rfl (fun hb47 => ?_) (fun hb47 => ?_)
      · replace h := it h hb47
        exact hk13 (s) (i1) h
      · replace h := ie h hb47
        refine V_aload_n (q := 109) dX8_mends_108 rfl rfl ?_
        refine V_getr (k := 43) (j := 13) (q := 112) clz_7 dX8_mends_109 rfl rfl rfl (Nat.le_of_ble_eq_true rfl) fl_RX8_41 ?_
        refine V_iload_n (q := 113) dX8_mends_112 rfl rfl ?_
        refine V_bipush (q := 115) (v := 32) dX8_mends_113 rfl bipush_32 ?_
        obtain ⟨hi46, s44, e45, h⟩ := wI_ok h
        refine V_iast (k := 54) (q := 116) dX8_mends_115 rfl rfl hi46 e45 ?_
        refine V_iinc (q := 119) (v := 1) (L' := [some (.ref (ad (xY X) 43)), some (.int (i1 + 1)), some (.int c2), none, some (.int c4), some (.int c5), some (.int c6), some (.int i7), none, none]) dX8_mends_116 rfl rfl iconst_1 (Nat.le_of_ble_eq_true rfl) rfl ?_
        exact hk13 (s44) ((i1 + 1)) h
set_option maxRecDepth 20000 in
theorem w_X8_mends_L8 {X : Xc} {r : Int32} {σr : Sg} {k : Sg → Int32 → Option (Int32 × Sg)}
    (hk : ∀ (s : Sg) (i1 : Int32), k s i1 = some (r, σr) → V X M_X8_mends (mq X (some (.int r)) σr) 302 [none, some (.int i1), none, none, none, none, none, none, none, none] [] s) :
    ∀ (n : Nat) (s : Sg) (i1 : Int32) (i2 : Int32), f_X8_mends_L8 k n s i1 i2 = some (r, σr) → V X M_X8_mends (mq X (some (.int r)) σr) 8 [some (.ref (ad (xY X) 43)), some (.int i1), some (.int i2), none, none, none, none, none, none, none] [] s := by
  intro n
  induction n with
  | zero => intro s i1 i2 h; cases h
  | succ n ih =>
    intro s i1 i2 h
    rw [f_X8_mends_L8] at h
    refine V_iload_n (q := 9) dX8_mends_8 rfl rfl ?_
    refine V_aload_n (q := 10) dX8_mends_9 rfl rfl ?_
    refine V_geti (k := 43) (j := 6) (q := 13) clz_7 dX8_mends_10 rfl rfl rfl (Nat.le_of_ble_eq_true rfl) fl_RX8_104 ?_
    refine V_icmp_ge (q := 302) (q2 := 16) dX8_mends_13 rfl rfl (fun hb84 => ?_) (fun hb84 => ?_)
    · replace h := it h hb84
      refine V_msk (L' := [none, some (.int i1), none, none, none, none, none, none, none, none]) [false, true, false, true, true, true, true, true, true, true] rfl ?_
      exact hk (s) (i1) h
    · replace h := ie h hb84
      refine V_aload_n (q := 17) dX8_mends_16 rfl rfl ?_
      refine V_getr (k := 43) (j := 12) (q := 20) clz_7 dX8_mends_17 rfl rfl rfl (Nat.le_of_ble_eq_true rfl) fl_RX8_38 ?_
      refine V_iload_n (q := 21) dX8_mends_20 rfl rfl ?_
      obtain ⟨hi5, x4, ex6, h⟩ := rI_ok h
      refine V_iald (k := 53) (q := 22) dX8_mends_21 rfl rfl hi5 ex6 ?_
      refine V_istore_n (q := 23) (L' := [some (.ref (ad (xY X) 43)), some (.int i1), some (.int i2), some (.int x4), none, none, none, none, none, none]) dX8_mends_22 rfl (Nat.le_of_ble_eq_true rfl) rfl ?_
      refine V_iload_n (q := 24) dX8_mends_23 rfl rfl ?_
      refine V_iconst (q := 25) (v := (-1)) dX8_mends_24 rfl iconst_m1 ?_
      obtain ⟨k7, ek7, h⟩ := jn_ok h
      have hk7 : ∀ (v8 : Int32), k7 v8 = some (r, σr) → V X M_X8_mends (mq X (some (.int r)) σr) 43 [some (.ref (ad (xY X) 43)), some (.int i1), some (.int i2), some (.int x4), none, none, none, none, none, none] [.int v8] s := by
        clear h
        intro v8 h
        rw [ek7] at h
        refine V_istore (q := 45) (L' := [some (.ref (ad (xY X) 43)), some (.int i1), some (.int i2), some (.int x4), some (.int v8), none, none, none, none, none]) dX8_mends_43 rfl (Nat.le_of_ble_eq_true rfl) rfl ?_
        refine V_iload_n (q := 46) dX8_mends_45 rfl rfl ?_
        refine V_iload (q := 48) dX8_mends_46 rfl rfl ?_
        refine V_iconst (q := 49) (v := (-1)) dX8_mends_48 rfl iconst_m1 ?_
        obtain ⟨k9, ek9, h⟩ := jn_ok h
        have hk9 : ∀ (v10 : Int32), k9 v10 = some (r, σr) → V X M_X8_mends (mq X (some (.int r)) σr) 67 [some (.ref (ad (xY X) 43)), some (.int i1), some (.int i2), none, some (.int v8), none, none, none, none, none] [.int v10, .int i2] s := by
          clear h
          intro v10 h
          rw [ek9] at h
          refine V_iadd (q := 68) dX8_mends_67 rfl ?_
          refine V_istore (q := 70) (L' := [some (.ref (ad (xY X) 43)), some (.int i1), some (.int i2), none, some (.int v8), some (.int (i2 + v10)), none, none, none, none]) dX8_mends_68 rfl (Nat.le_of_ble_eq_true rfl) rfl ?_
          refine V_iload (q := 72) dX8_mends_70 rfl rfl ?_
          refine V_iconst (q := 73) (v := (-1)) dX8_mends_72 rfl iconst_m1 ?_
          obtain ⟨k11, ek11, h⟩ := jn_ok h
          have hk11 : ∀ (v12 : Int32), k11 v12 = some (r, σr) → V X M_X8_mends (mq X (some (.int r)) σr) 92 [some (.ref (ad (xY X) 43)), some (.int i1), some (.int i2), none, some (.int v8), some (.int (i2 + v10)), none, none, none, none] [.int v12] s := by
            clear h
            intro v12 h
            rw [ek11] at h
            refine V_istore (q := 94) (L' := [some (.ref (ad (xY X) 43)), some (.int i1), some (.int i2), none, some (.int v8), some (.int (i2 + v10)), some (.int v12), none, none, none]) dX8_mends_92 rfl (Nat.le_of_ble_eq_true rfl) rfl ?_
            refine V_iconst (q := 95) (v := 0) dX8_mends_94 rfl iconst_0 ?_
            refine V_istore (q := 97) (L' := [some (.ref (ad (xY X) 43)), some (.int i1), some (.int i2), none, some (.int v8), some (.int (i2 + v10)), some (.int v12), some (.int 0), none, none]) dX8_mends_95 rfl (Nat.le_of_ble_eq_true rfl) rfl ?_
            refine w_X8_mends_L97 (fun s49 v50 h => ?_) fu (s) (i1) (0) h
            refine V_aload_n (q := 223) dX8_mends_222 rfl rfl ?_
            refine V_getr (k := 43) (j := 5) (q := 226) clz_7 dX8_mends_223 rfl rfl rfl (Nat.le_of_ble_eq_true rfl) fl_RX8_23 ?_
            refine V_bipush (q := 228) (v := 15) dX8_mends_226 rfl bipush_15 ?_
            refine V_iload (q := 230) dX8_mends_228 rfl rfl ?_
            refine V_iconst (q := 231) (v := 1) dX8_mends_230 rfl iconst_1 ?_
            refine V_isub (q := 232) dX8_mends_231 rfl ?_
            refine V_imul (q := 233) dX8_mends_232 rfl ?_
            refine V_iconst (q := 234) (v := 1) dX8_mends_233 rfl iconst_1 ?_
            refine V_iadd (q := 235) dX8_mends_234 rfl ?_
            obtain ⟨hi52, x51, ex53, h⟩ := rI_ok h
            refine V_iald (k := 48) (q := 236) dX8_mends_235 rfl rfl hi52 ex53 ?_
            refine V_istore (q := 238) (L' := [some (.ref (ad (xY X) 43)), some (.int v50), none, none, none, some (.int (i2 + v10)), none, some (.int x51), none, none]) dX8_mends_236 rfl (Nat.le_of_ble_eq_true rfl) rfl ?_
            refine V_iload (q := 240) dX8_mends_238 rfl rfl ?_
            refine V_aload_n (q := 241) dX8_mends_240 rfl rfl ?_
            refine V_geti (k := 43) (j := 6) (q := 244) clz_7 dX8_mends_241 rfl rfl rfl (Nat.le_of_ble_eq_true rfl) fl_RX8_104 ?_
            obtain ⟨k54, ek54, h⟩ := jn_ok h
            have hk54 : ∀ (v55 : Int32), k54 v55 = some (r, σr) → V X M_X8_mends (mq X (some (.int r)) σr) 269 [some (.ref (ad (xY X) 43)), some (.int v50), none, none, none, some (.int (i2 + v10)), none, some (.int x51), none, none] [.int v55] s49 := by
              clear h
              intro v55 h
              rw [ek54] at h
              refine V_istore (q := 271) (L' := [some (.ref (ad (xY X) 43)), some (.int v50), none, none, none, some (.int (i2 + v10)), none, some (.int x51), some (.int v55), none]) dX8_mends_269 rfl (Nat.le_of_ble_eq_true rfl) rfl ?_
              refine V_iload (q := 273) dX8_mends_271 rfl rfl ?_
              refine V_if_eq (q := 296) (q2 := 276) dX8_mends_273 rfl rfl (fun hb60 => ?_) (fun hb60 => ?_)
              · replace h := it h hb60
                refine V_iload (q := 298) dX8_mends_296 rfl rfl ?_
                refine V_istore_n (q := 299) (L' := [some (.ref (ad (xY X) 43)), some (.int v50), some (.int (i2 + v10)), none, none, some (.int (i2 + v10)), none, some (.int x51), some (.int v55), none]) dX8_mends_298 rfl (Nat.le_of_ble_eq_true rfl) rfl ?_
                refine V_goto (q := 8) dX8_mends_299 rfl ?_
                refine V_msk (L' := [some (.ref (ad (xY X) 43)), some (.int v50), some (.int (i2 + v10)), none, none, none, none, none, none, none]) [true, true, true, true, true, false, true, false, false, true] rfl ?_
                exact ih (s49) (v50) ((i2 + v10)) h
              · replace h := ie h hb60
                refine V_iload (q := 278) dX8_mends_276 rfl rfl ?_
                refine V_aload_n (q := 279) dX8_mends_278 rfl rfl ?_
                refine V_geti (k := 43) (j := 7) (q := 282) clz_7 dX8_mends_279 rfl rfl rfl (Nat.le_of_ble_eq_true rfl) fl_RX8_110 ?_
                refine V_icmp_ge (q := 296) (q2 := 285) dX8_mends_282 rfl rfl (fun hb59 => ?_) (fun hb59 => ?_)
                · replace h := it h hb59
                  refine V_iload (q := 298) dX8_mends_296 rfl rfl ?_
                  refine V_istore_n (q := 299) (L' := [some (.ref (ad (xY X) 43)), some (.int v50), some (.int (i2 + v10)), none, none, some (.int (i2 + v10)), none, some (.int x51), some (.int v55), none]) dX8_mends_298 rfl (Nat.le_of_ble_eq_true rfl) rfl ?_
                  refine V_goto (q := 8) dX8_mends_299 rfl ?_
                  refine V_msk (L' := [some (.ref (ad (xY X) 43)), some (.int v50), some (.int (i2 + v10)), none, none, none, none, none, none, none]) [true, true, true, true, true, false, true, false, false, true] rfl ?_
                  exact ih (s49) (v50) ((i2 + v10)) h
                · replace h := ie h hb59
                  refine V_aload_n (q := 286) dX8_mends_285 rfl rfl ?_
                  refine V_getr (k := 43) (j := 13) (q := 289) clz_7 dX8_mends_286 rfl rfl rfl (Nat.le_of_ble_eq_true rfl) fl_RX8_41 ?_
                  refine V_iload_n (q := 290) dX8_mends_289 rfl rfl ?_
                  refine V_bipush (q := 292) (v := 46) dX8_mends_290 rfl bipush_46 ?_
                  obtain ⟨hi58, s56, e57, h⟩ := wI_ok h
                  refine V_iast (k := 54) (q := 293) dX8_mends_292 rfl rfl hi58 e57 ?_
                  refine V_iinc (q := 296) (v := 1) (L' := [some (.ref (ad (xY X) 43)), some (.int (v50 + 1)), none, none, none, some (.int (i2 + v10)), none, some (.int x51), some (.int v55), none]) dX8_mends_293 rfl rfl iconst_1 (Nat.le_of_ble_eq_true rfl) rfl ?_
                  refine V_iload (q := 298) dX8_mends_296 rfl rfl ?_
                  refine V_istore_n (q := 299) (L' := [some (.ref (ad (xY X) 43)), some (.int (v50 + 1)), some (.int (i2 + v10)), none, none, some (.int (i2 + v10)), none, some (.int x51), some (.int v55), none]) dX8_mends_298 rfl (Nat.le_of_ble_eq_true rfl) rfl ?_
                  refine V_goto (q := 8) dX8_mends_299 rfl ?_
                  refine V_msk (L' := [some (.ref (ad (xY X) 43)), some (.int (v50 + 1)), some (.int (i2 + v10)), none, none, none, none, none, none, none]) [true, true, true, true, true, false, true, false, false, true] rfl ?_
                  exact ih (s56) ((v50 + 1)) ((i2 + v10)) h
            refine V_icmp_eq (q := 264) (q2 := 247) dX8_mends_244 rfl rfl (fun hb65 => ?_) (fun hb65 => ?_)
            · replace h := it h hb65
              refine V_iconst (q := 265) (v := 1) dX8_mends_264 rfl iconst_1 ?_
              refine V_goto (q := 269) dX8_mends_265 rfl ?_
              exact hk54 (1) h
            · replace h := ie h hb65
              refine V_aload_n (q := 248) dX8_mends_247 rfl rfl ?_
              refine V_getr (k := 43) (j := 5) (q := 251) clz_7 dX8_mends_248 rfl rfl rfl (Nat.le_of_ble_eq_true rfl) fl_RX8_23 ?_
              refine V_bipush (q := 253) (v := 15) dX8_mends_251 rfl bipush_15 ?_
              refine V_iload (q := 255) dX8_mends_253 rfl rfl ?_
              refine V_imul (q := 256) dX8_mends_255 rfl ?_
              refine V_iconst (q := 257) (v := 1) dX8_mends_256 rfl iconst_1 ?_
              refine V_iadd (q := 258) dX8_mends_257 rfl ?_
              obtain ⟨hi62, x61, ex63, h⟩ := rI_ok h
              refine V_iald (k := 48) (q := 259) dX8_mends_258 rfl rfl hi62 ex63 ?_
              refine V_iload (q := 261) dX8_mends_259 rfl rfl ?_
              refine V_icmp_eq (q := 268) (q2 := 264) dX8_mends_261 rfl rfl (fun hb64 => ?_) (fun hb64 => ?_)
              · replace h := it h hb64
                refine V_iconst (q := 269) (v := 0) dX8_mends_268 rfl iconst_0 ?_
                exact hk54 (0) h
              · replace h := ie h hb64
                refine V_iconst (q := 265) (v := 1) dX8_mends_264 rfl iconst_1 ?_
                refine V_goto (q := 269) dX8_mends_265 rfl ?_
                exact hk54 (1) h
          refine V_icmp_ne (q := 80) (q2 := 76) dX8_mends_73 rfl rfl (fun hb71 => ?_) (fun hb71 => ?_)
          · replace h := ie h hb71
            refine V_aload_n (q := 81) dX8_mends_80 rfl rfl ?_
            refine V_getr (k := 43) (j := 0) (q := 84) clz_7 dX8_mends_81 rfl rfl rfl (Nat.le_of_ble_eq_true rfl) fl_RX8_7 ?_
            refine V_iload (q := 86) dX8_mends_84 rfl rfl ?_
            obtain ⟨x66, hc67, h⟩ := cP_ok h
            refine V_cs1 (q := 89) (As := [.int v8]) (rest := [.ref (ad (xY X) 44)]) (ct_X8_termAt (xY X) hc67) ce_X8_termAt st_yX8_termAt ml_RX8_58 rfl ⟨Nat.le_of_ble_eq_true rfl, Nat.le_of_ble_eq_true rfl⟩ rfl (Nat.le_of_ble_eq_true rfl) dX8_mends_86 rfl ?_
            refine V_iconst (q := 90) (v := 0) dX8_mends_89 rfl iconst_0 ?_
            refine V_iadd (q := 91) dX8_mends_90 rfl ?_
            obtain ⟨hi69, x68, ex70, h⟩ := rI_ok h
            refine V_iald (k := 44) (q := 92) dX8_mends_91 rfl rfl hi69 ex70 ?_
            exact hk11 (x68) h
          · replace h := it h hb71
            refine V_iconst (q := 77) (v := 1) dX8_mends_76 rfl iconst_1 ?_
            refine V_goto (q := 92) dX8_mends_77 rfl ?_
            exact hk11 (1) h
        refine V_icmp_ne (q := 56) (q2 := 52) dX8_mends_49 rfl rfl (fun hb77 => ?_) (fun hb77 => ?_)
        · replace h := ie h hb77
          refine V_aload_n (q := 57) dX8_mends_56 rfl rfl ?_
          refine V_getr (k := 43) (j := 0) (q := 60) clz_7 dX8_mends_57 rfl rfl rfl (Nat.le_of_ble_eq_true rfl) fl_RX8_7 ?_
          refine V_iload_n (q := 61) dX8_mends_60 rfl rfl ?_
          obtain ⟨x72, hc73, h⟩ := cP_ok h
          refine V_cs1 (q := 64) (As := [.int x4]) (rest := [.ref (ad (xY X) 44), .int i2]) (ct_X8_termAt (xY X) hc73) ce_X8_termAt st_yX8_termAt ml_RX8_58 rfl ⟨Nat.le_of_ble_eq_true rfl, Nat.le_of_ble_eq_true rfl⟩ rfl (Nat.le_of_ble_eq_true rfl) dX8_mends_61 rfl ?_
          refine V_iconst (q := 65) (v := 0) dX8_mends_64 rfl iconst_0 ?_
          refine V_iadd (q := 66) dX8_mends_65 rfl ?_
          obtain ⟨hi75, x74, ex76, h⟩ := rI_ok h
          refine V_iald (k := 44) (q := 67) dX8_mends_66 rfl rfl hi75 ex76 ?_
          refine V_msk (L' := [some (.ref (ad (xY X) 43)), some (.int i1), some (.int i2), none, some (.int v8), none, none, none, none, none]) [true, true, true, false, true, true, true, true, true, true] rfl ?_
          exact hk9 (x74) h
        · replace h := it h hb77
          refine V_iconst (q := 53) (v := 1) dX8_mends_52 rfl iconst_1 ?_
          refine V_goto (q := 67) dX8_mends_53 rfl ?_
          refine V_msk (L' := [some (.ref (ad (xY X) 43)), some (.int i1), some (.int i2), none, some (.int v8), none, none, none, none, none]) [true, true, true, false, true, true, true, true, true, true] rfl ?_
          exact hk9 (1) h
      refine V_icmp_ne (q := 32) (q2 := 28) dX8_mends_25 rfl rfl (fun hb83 => ?_) (fun hb83 => ?_)
      · replace h := ie h hb83
        refine V_aload_n (q := 33) dX8_mends_32 rfl rfl ?_
        refine V_getr (k := 43) (j := 0) (q := 36) clz_7 dX8_mends_33 rfl rfl rfl (Nat.le_of_ble_eq_true rfl) fl_RX8_7 ?_
        refine V_iload_n (q := 37) dX8_mends_36 rfl rfl ?_
        obtain ⟨x78, hc79, h⟩ := cP_ok h
        refine V_cs1 (q := 40) (As := [.int x4]) (rest := [.ref (ad (xY X) 44)]) (ct_X8_termAt (xY X) hc79) ce_X8_termAt st_yX8_termAt ml_RX8_58 rfl ⟨Nat.le_of_ble_eq_true rfl, Nat.le_of_ble_eq_true rfl⟩ rfl (Nat.le_of_ble_eq_true rfl) dX8_mends_37 rfl ?_
        refine V_iconst (q := 41) (v := 3) dX8_mends_40 rfl iconst_3 ?_
        refine V_iadd (q := 42) dX8_mends_41 rfl ?_
        obtain ⟨hi81, x80, ex82, h⟩ := rI_ok h
        refine V_iald (k := 44) (q := 43) dX8_mends_42 rfl rfl hi81 ex82 ?_
        exact hk7 (x80) h
      · replace h := it h hb83
        refine V_iconst (q := 29) (v := (-1)) dX8_mends_28 rfl iconst_m1 ?_
        refine V_goto (q := 43) dX8_mends_29 rfl ?_
        exact hk7 ((-1)) h
set_option maxRecDepth 20000 in
theorem ct_X8_mends (Y : Yc) {σ : Sg}  {r : Int32} {σr : Sg} (h : f_X8_mends σ  = some (r, σr)) : Ct M_X8_mends yX8_mends Y [.ref (ad Y 43)] σ (some (.int r)) σr := by
  refine Ct_intro [some (.ref (ad Y 43)), none, none, none, none, none, none, none, none, none] (by decide +kernel) rfl (Nat.le_of_ble_eq_true rfl) rfl (fun X hY => ?_) ⟨rfl, rfl⟩
  subst hY
  unfold f_X8_mends at h
  refine V_aload_n (q := 1) dX8_mends_0 rfl rfl ?_
  obtain ⟨x1, s3, hc2, h⟩ := cA_ok h
  refine V_cv0 (k := 43) (q := 4) (As := []) (rest := []) (ct_X8_choose (xY X) hc2) ce_X8_choose clz_7 rfl im_yX8_choose se_yX8_choose rfl ml_RX8_101 rfl ⟨Nat.le_of_ble_eq_true rfl, Nat.le_of_ble_eq_true rfl⟩ rfl (Nat.le_of_ble_eq_true rfl) dX8_mends_1 rfl ?_
  refine V_iconst (q := 5) (v := 0) dX8_mends_4 rfl iconst_0 ?_
  refine V_istore_n (q := 6) (L' := [some (.ref (ad (xY X) 43)), some (.int 0), none, none, none, none, none, none, none, none]) dX8_mends_5 rfl (Nat.le_of_ble_eq_true rfl) rfl ?_
  refine V_iconst (q := 7) (v := 0) dX8_mends_6 rfl iconst_0 ?_
  refine V_istore_n (q := 8) (L' := [some (.ref (ad (xY X) 43)), some (.int 0), some (.int 0), none, none, none, none, none, none, none]) dX8_mends_7 rfl (Nat.le_of_ble_eq_true rfl) rfl ?_
  refine w_X8_mends_L8 (fun s85 v86 h => ?_) fu (s3) (0) (0) h
  refine V_iload_n (q := 303) dX8_mends_302 rfl rfl ?_
  cases h
  exact V_iret rfl dX8_mends_303
def M_X8_told : Mc := (RX8, cX8_told, 2, { frames := 6, cells := 0, slots := 0, locals := 153 }, (some .int))
theorem ce_X8_told : Cee M_X8_told yX8_told 1 := ⟨cd_yX8_told, ini_RX8, ⟨by decide +kernel, by decide +kernel, by decide +kernel⟩, rfl, rfl⟩
set_option maxRecDepth 20000 in
theorem ct_X8_told (Y : Yc) {σ : Sg} {a1 : Int32} {r : Int32} {σr : Sg} (h : f_X8_told σ a1 = some (r, σr)) : Ct M_X8_told yX8_told Y [.ref (ad Y 43), .int a1] σ (some (.int r)) σr := by
  refine Ct_intro [some (.ref (ad Y 43)), some (.int a1)] (by decide +kernel) rfl (Nat.le_of_ble_eq_true rfl) rfl (fun X hY => ?_) ⟨rfl, rfl⟩
  subst hY
  unfold f_X8_told at h
  refine V_iload_n (q := 1) dX8_told_0 rfl rfl ?_
  by_cases hb1 : a1 = 0
  · replace h := it h hb1
    refine V_tsIn (q := 68) 0 hb1 dX8_told_1 (by decide) (by decide) rfl rfl ?_
    refine V_aload_n (q := 69) dX8_told_68 rfl rfl ?_
    refine V_getr (k := 43) (j := 0) (q := 72) clz_7 dX8_told_69 rfl rfl rfl (Nat.le_of_ble_eq_true rfl) fl_RX8_7 ?_
    refine V_iconst (q := 73) (v := 0) dX8_told_72 rfl iconst_0 ?_
    obtain ⟨hi3, x2, ex4, h⟩ := rI_ok h
    refine V_iald (k := 44) (q := 74) dX8_told_73 rfl rfl hi3 ex4 ?_
    cases h
    exact V_iret rfl dX8_told_74
  replace h := ie h hb1
  by_cases hb5 : a1 = 1
  · replace h := it h hb5
    refine V_tsIn (q := 75) 1 hb5 dX8_told_1 (by decide) (by decide) rfl rfl ?_
    refine V_aload_n (q := 76) dX8_told_75 rfl rfl ?_
    refine V_getr (k := 43) (j := 0) (q := 79) clz_7 dX8_told_76 rfl rfl rfl (Nat.le_of_ble_eq_true rfl) fl_RX8_7 ?_
    refine V_iconst (q := 80) (v := 1) dX8_told_79 rfl iconst_1 ?_
    obtain ⟨hi7, x6, ex8, h⟩ := rI_ok h
    refine V_iald (k := 44) (q := 81) dX8_told_80 rfl rfl hi7 ex8 ?_
    cases h
    exact V_iret rfl dX8_told_81
  replace h := ie h hb5
  by_cases hb9 : a1 = 2
  · replace h := it h hb9
    refine V_tsIn (q := 82) 2 hb9 dX8_told_1 (by decide) (by decide) rfl rfl ?_
    refine V_aload_n (q := 83) dX8_told_82 rfl rfl ?_
    refine V_geti (k := 43) (j := 4) (q := 86) clz_7 dX8_told_83 rfl rfl rfl (Nat.le_of_ble_eq_true rfl) fl_RX8_53 ?_
    cases h
    exact V_iret rfl dX8_told_86
  replace h := ie h hb9
  by_cases hb10 : a1 = 3
  · replace h := it h hb10
    refine V_tsIn (q := 87) 3 hb10 dX8_told_1 (by decide) (by decide) rfl rfl ?_
    refine V_aload_n (q := 88) dX8_told_87 rfl rfl ?_
    refine V_geti (k := 43) (j := 6) (q := 91) clz_7 dX8_told_88 rfl rfl rfl (Nat.le_of_ble_eq_true rfl) fl_RX8_104 ?_
    cases h
    exact V_iret rfl dX8_told_91
  replace h := ie h hb10
  by_cases hb11 : a1 = 4
  · replace h := it h hb11
    refine V_tsIn (q := 92) 4 hb11 dX8_told_1 (by decide) (by decide) rfl rfl ?_
    refine V_aload_n (q := 93) dX8_told_92 rfl rfl ?_
    refine V_geti (k := 43) (j := 7) (q := 96) clz_7 dX8_told_93 rfl rfl rfl (Nat.le_of_ble_eq_true rfl) fl_RX8_110 ?_
    cases h
    exact V_iret rfl dX8_told_96
  replace h := ie h hb11
  by_cases hb12 : a1 = 5
  · replace h := it h hb12
    refine V_tsIn (q := 97) 5 hb12 dX8_told_1 (by decide) (by decide) rfl rfl ?_
    refine V_aload_n (q := 98) dX8_told_97 rfl rfl ?_
    refine V_geti (k := 43) (j := 6) (q := 101) clz_7 dX8_told_98 rfl rfl rfl (Nat.le_of_ble_eq_true rfl) fl_RX8_104 ?_
    refine V_bipush (q := 103) (v := 60) dX8_told_101 rfl bipush_60 ?_
    refine V_icmp_ge (q := 121) (q2 := 106) dX8_told_103 rfl rfl (fun hb16 => ?_) (fun hb16 => ?_)
    · replace h := it h hb16
      refine V_iconst (q := 122) (v := 0) dX8_told_121 rfl iconst_0 ?_
      cases h
      exact V_iret rfl dX8_told_122
    · replace h := ie h hb16
      refine V_aload_n (q := 107) dX8_told_106 rfl rfl ?_
      refine V_getr (k := 43) (j := 5) (q := 110) clz_7 dX8_told_107 rfl rfl rfl (Nat.le_of_ble_eq_true rfl) fl_RX8_23 ?_
      refine V_bipush (q := 112) (v := 15) dX8_told_110 rfl bipush_15 ?_
      refine V_aload_n (q := 113) dX8_told_112 rfl rfl ?_
      refine V_geti (k := 43) (j := 6) (q := 116) clz_7 dX8_told_113 rfl rfl rfl (Nat.le_of_ble_eq_true rfl) fl_RX8_104 ?_
      refine V_imul (q := 117) dX8_told_116 rfl ?_
      obtain ⟨hi14, x13, ex15, h⟩ := rI_ok h
      refine V_iald (k := 48) (q := 118) dX8_told_117 rfl rfl hi14 ex15 ?_
      refine V_goto (q := 122) dX8_told_118 rfl ?_
      cases h
      exact V_iret rfl dX8_told_122
  replace h := ie h hb12
  by_cases hb17 : a1 = 6
  · replace h := it h hb17
    refine V_tsIn (q := 123) 6 hb17 dX8_told_1 (by decide) (by decide) rfl rfl ?_
    refine V_aload_n (q := 124) dX8_told_123 rfl rfl ?_
    refine V_iconst (q := 125) (v := 0) dX8_told_124 rfl iconst_0 ?_
    obtain ⟨x18, s20, hc19, h⟩ := cA_ok h
    refine V_cv1 (k := 43) (q := 128) (As := [.int 0]) (rest := []) (ct_X8_counts (xY X) hc19) ce_X8_counts clz_7 rfl im_yX8_counts se_yX8_counts rfl ml_RX8_170 rfl ⟨Nat.le_of_ble_eq_true rfl, Nat.le_of_ble_eq_true rfl⟩ rfl (Nat.le_of_ble_eq_true rfl) dX8_told_125 rfl ?_
    cases h
    exact V_iret rfl dX8_told_128
  replace h := ie h hb17
  by_cases hb21 : a1 = 7
  · replace h := it h hb21
    refine V_tsIn (q := 129) 7 hb21 dX8_told_1 (by decide) (by decide) rfl rfl ?_
    refine V_aload_n (q := 130) dX8_told_129 rfl rfl ?_
    refine V_iconst (q := 131) (v := 1) dX8_told_130 rfl iconst_1 ?_
    obtain ⟨x22, s24, hc23, h⟩ := cA_ok h
    refine V_cv1 (k := 43) (q := 134) (As := [.int 1]) (rest := []) (ct_X8_counts (xY X) hc23) ce_X8_counts clz_7 rfl im_yX8_counts se_yX8_counts rfl ml_RX8_170 rfl ⟨Nat.le_of_ble_eq_true rfl, Nat.le_of_ble_eq_true rfl⟩ rfl (Nat.le_of_ble_eq_true rfl) dX8_told_131 rfl ?_
    cases h
    exact V_iret rfl dX8_told_134
  replace h := ie h hb21
  by_cases hb25 : a1 = 8
  · replace h := it h hb25
    refine V_tsIn (q := 135) 8 hb25 dX8_told_1 (by decide) (by decide) rfl rfl ?_
    refine V_aload_n (q := 136) dX8_told_135 rfl rfl ?_
    obtain ⟨x26, s28, hc27, h⟩ := cA_ok h
    refine V_cv0 (k := 43) (q := 139) (As := []) (rest := []) (ct_X8_choose (xY X) hc27) ce_X8_choose clz_7 rfl im_yX8_choose se_yX8_choose rfl ml_RX8_101 rfl ⟨Nat.le_of_ble_eq_true rfl, Nat.le_of_ble_eq_true rfl⟩ rfl (Nat.le_of_ble_eq_true rfl) dX8_told_136 rfl ?_
    refine V_aload_n (q := 140) dX8_told_139 rfl rfl ?_
    refine V_getr (k := 43) (j := 10) (q := 143) clz_7 dX8_told_140 rfl rfl rfl (Nat.le_of_ble_eq_true rfl) fl_RX8_32 ?_
    refine V_iconst (q := 144) (v := 0) dX8_told_143 rfl iconst_0 ?_
    obtain ⟨hi30, x29, ex31, h⟩ := rI_ok h
    refine V_iald (k := 51) (q := 145) dX8_told_144 rfl rfl hi30 ex31 ?_
    cases h
    exact V_iret rfl dX8_told_145
  replace h := ie h hb25
  by_cases hb32 : a1 = 9
  · replace h := it h hb32
    refine V_tsIn (q := 146) 9 hb32 dX8_told_1 (by decide) (by decide) rfl rfl ?_
    refine V_aload_n (q := 147) dX8_told_146 rfl rfl ?_
    refine V_iconst (q := 148) (v := 2) dX8_told_147 rfl iconst_2 ?_
    obtain ⟨x33, s35, hc34, h⟩ := cA_ok h
    refine V_cv1 (k := 43) (q := 151) (As := [.int 2]) (rest := []) (ct_X8_counts (xY X) hc34) ce_X8_counts clz_7 rfl im_yX8_counts se_yX8_counts rfl ml_RX8_170 rfl ⟨Nat.le_of_ble_eq_true rfl, Nat.le_of_ble_eq_true rfl⟩ rfl (Nat.le_of_ble_eq_true rfl) dX8_told_148 rfl ?_
    cases h
    exact V_iret rfl dX8_told_151
  replace h := ie h hb32
  by_cases hb36 : a1 = 10
  · replace h := it h hb36
    refine V_tsIn (q := 152) 10 hb36 dX8_told_1 (by decide) (by decide) rfl rfl ?_
    refine V_aload_n (q := 153) dX8_told_152 rfl rfl ?_
    refine V_iconst (q := 154) (v := 3) dX8_told_153 rfl iconst_3 ?_
    obtain ⟨x37, s39, hc38, h⟩ := cA_ok h
    refine V_cv1 (k := 43) (q := 157) (As := [.int 3]) (rest := []) (ct_X8_counts (xY X) hc38) ce_X8_counts clz_7 rfl im_yX8_counts se_yX8_counts rfl ml_RX8_170 rfl ⟨Nat.le_of_ble_eq_true rfl, Nat.le_of_ble_eq_true rfl⟩ rfl (Nat.le_of_ble_eq_true rfl) dX8_told_154 rfl ?_
    cases h
    exact V_iret rfl dX8_told_157
  replace h := ie h hb36
  by_cases hb40 : a1 = 11
  · replace h := it h hb40
    refine V_tsIn (q := 158) 11 hb40 dX8_told_1 (by decide) (by decide) rfl rfl ?_
    refine V_aload_n (q := 159) dX8_told_158 rfl rfl ?_
    obtain ⟨x41, s43, hc42, h⟩ := cA_ok h
    refine V_cv1 (k := 43) (q := 162) (As := []) (rest := []) (ct_X8_mends (xY X) hc42) ce_X8_mends clz_7 rfl im_yX8_mends se_yX8_mends rfl ml_RX8_173 rfl ⟨Nat.le_of_ble_eq_true rfl, Nat.le_of_ble_eq_true rfl⟩ rfl (Nat.le_of_ble_eq_true rfl) dX8_told_159 rfl ?_
    cases h
    exact V_iret rfl dX8_told_162
  replace h := ie h hb40
  by_cases hb44 : a1 = 12
  · replace h := it h hb44
    refine V_tsIn (q := 163) 12 hb44 dX8_told_1 (by decide) (by decide) rfl rfl ?_
    refine V_aload_n (q := 164) dX8_told_163 rfl rfl ?_
    obtain ⟨x45, hc46, h⟩ := cP_ok h
    refine V_cv1 (k := 43) (q := 167) (As := []) (rest := []) (ct_X8_forbidden (xY X) hc46) ce_X8_forbidden clz_7 rfl im_yX8_forbidden se_yX8_forbidden rfl ml_RX8_95 rfl ⟨Nat.le_of_ble_eq_true rfl, Nat.le_of_ble_eq_true rfl⟩ rfl (Nat.le_of_ble_eq_true rfl) dX8_told_164 rfl ?_
    cases h
    exact V_iret rfl dX8_told_167
  replace h := ie h hb44
  refine V_tsOut (q := 168) 12 ⟨hb44, hb40, hb36, hb32, hb25, hb21, hb17, hb12, hb11, hb10, hb9, hb5, hb1, trivial⟩ (by decide) rfl rfl dX8_told_1 rfl ?_
  refine V_ldc (q := 170) kc_RX8_52 dX8_told_168 rfl ?_
  cases h
  exact V_iret rfl dX8_told_170
def M_X4_foundAt : Mc := (RX4, cX4_foundAt, 4, { frames := 1, cells := 0, slots := 0, locals := 20 }, (some .int))
theorem ce_X4_foundAt : Cee M_X4_foundAt yX4_foundAt 1 := ⟨cd_yX4_foundAt, ini_RX4, ⟨by decide +kernel, by decide +kernel, by decide +kernel⟩, rfl, rfl⟩
set_option maxRecDepth 20000 in
theorem w_X4_foundAt_L4 {X : Xc} {σ : Sg} {c1 : Int32} {r : Int32} {k : Option Int32}
    (hk : k = some r → V X M_X4_foundAt (mq X (some (.int r)) σ) 40 [none, none, none, none] [] σ) :
    ∀ (n : Nat) (i2 : Int32) (i3 : Int32), f_X4_foundAt_L4 k σ c1 n i2 i3 = some r → V X M_X4_foundAt (mq X (some (.int r)) σ) 4 [some (.ref (ad (xY X) 30)), some (.int c1), some (.int i2), some (.int i3)] [] σ := by
  intro n
  induction n with
  | zero => intro i2 i3 h; cases h
  | succ n ih =>
    intro i2 i3 h
    rw [f_X4_foundAt_L4] at h
    refine V_iload_n (q := 5) dX4_foundAt_4 rfl rfl ?_
    refine V_aload_n (q := 6) dX4_foundAt_5 rfl rfl ?_
    refine V_getr (k := 30) (j := 1) (q := 9) clz_3 dX4_foundAt_6 rfl rfl rfl (Nat.le_of_ble_eq_true rfl) fl_RX4_15 ?_
    refine V_geti (k := 26) (j := 0) (q := 12) clz_5 dX4_foundAt_9 rfl rfl rfl (Nat.le_of_ble_eq_true rfl) fl_RX4_60 ?_
    refine V_icmp_ge (q := 40) (q2 := 15) dX4_foundAt_12 rfl rfl (fun hb7 => ?_) (fun hb7 => ?_)
    · replace h := it h hb7
      refine V_msk (L' := [none, none, none, none]) [false, false, false, false] rfl ?_
      exact hk  h
    · replace h := ie h hb7
      refine V_iload_n (q := 16) dX4_foundAt_15 rfl rfl ?_
      refine V_aload_n (q := 17) dX4_foundAt_16 rfl rfl ?_
      refine V_getr (k := 30) (j := 7) (q := 20) clz_3 dX4_foundAt_17 rfl rfl rfl (Nat.le_of_ble_eq_true rfl) fl_RX4_31 ?_
      refine V_iload_n (q := 21) dX4_foundAt_20 rfl rfl ?_
      obtain ⟨hi2, x1, ex3, h⟩ := rI_ok h
      refine V_iald (k := 33) (q := 22) dX4_foundAt_21 rfl rfl hi2 ex3 ?_
      obtain ⟨x4, hc5, h⟩ := cP_ok h
      refine V_cs1 (q := 25) (As := [.int x1]) (rest := [.int i2]) (ct_J6_bitCount_0f7a4 (xY X) hc5) ce_J6_bitCount_0f7a4 st_yJ6_bitCount_0f7a4 ml_RX4_150 rfl ⟨Nat.le_of_ble_eq_true rfl, Nat.le_of_ble_eq_true rfl⟩ rfl (Nat.le_of_ble_eq_true rfl) dX4_foundAt_22 rfl ?_
      refine V_iadd (q := 26) dX4_foundAt_25 rfl ?_
      refine V_istore_n (q := 27) (L' := [some (.ref (ad (xY X) 30)), some (.int c1), some (.int (i2 + x4)), some (.int i3)]) dX4_foundAt_26 rfl (Nat.le_of_ble_eq_true rfl) rfl ?_
      refine V_iload_n (q := 28) dX4_foundAt_27 rfl rfl ?_
      refine V_iload_n (q := 29) dX4_foundAt_28 rfl rfl ?_
      refine V_icmp_ge (q := 34) (q2 := 32) dX4_foundAt_29 rfl rfl (fun hb6 => ?_) (fun hb6 => ?_)
      · replace h := it h hb6
        refine V_iinc (q := 37) (v := 1) (L' := [some (.ref (ad (xY X) 30)), some (.int c1), some (.int (i2 + x4)), some (.int (i3 + 1))]) dX4_foundAt_34 rfl rfl iconst_1 (Nat.le_of_ble_eq_true rfl) rfl ?_
        refine V_goto (q := 4) dX4_foundAt_37 rfl ?_
        exact ih ((i2 + x4)) ((i3 + 1)) h
      · replace h := ie h hb6
        refine V_iload_n (q := 33) dX4_foundAt_32 rfl rfl ?_
        cases h
        exact V_iret rfl dX4_foundAt_33
set_option maxRecDepth 20000 in
theorem ct_X4_foundAt (Y : Yc) {σ : Sg} {a1 : Int32} {r : Int32} (h : f_X4_foundAt σ a1 = some r) : Ct M_X4_foundAt yX4_foundAt Y [.ref (ad Y 30), .int a1] σ (some (.int r)) σ := by
  refine Ct_intro [some (.ref (ad Y 30)), some (.int a1), none, none] (by decide +kernel) rfl (Nat.le_of_ble_eq_true rfl) rfl (fun X hY => ?_) ⟨rfl, rfl⟩
  subst hY
  unfold f_X4_foundAt at h
  refine V_iconst (q := 1) (v := 0) dX4_foundAt_0 rfl iconst_0 ?_
  refine V_istore_n (q := 2) (L' := [some (.ref (ad (xY X) 30)), some (.int a1), some (.int 0), none]) dX4_foundAt_1 rfl (Nat.le_of_ble_eq_true rfl) rfl ?_
  refine V_iconst (q := 3) (v := 0) dX4_foundAt_2 rfl iconst_0 ?_
  refine V_istore_n (q := 4) (L' := [some (.ref (ad (xY X) 30)), some (.int a1), some (.int 0), some (.int 0)]) dX4_foundAt_3 rfl (Nat.le_of_ble_eq_true rfl) rfl ?_
  refine w_X4_foundAt_L4 (fun h => ?_) fu (0) (0) h
  refine V_iconst (q := 41) (v := (-1)) dX4_foundAt_40 rfl iconst_m1 ?_
  cases h
  exact V_iret rfl dX4_foundAt_41
def M_X4_foundTerm : Mc := (RX4, cX4_foundTerm, 5, { frames := 1, cells := 0, slots := 0, locals := 22 }, (some .int))
theorem ce_X4_foundTerm : Cee M_X4_foundTerm yX4_foundTerm 1 := ⟨cd_yX4_foundTerm, ini_RX4, ⟨by decide +kernel, by decide +kernel, by decide +kernel⟩, rfl, rfl⟩
set_option maxRecDepth 20000 in
theorem w_X4_foundTerm_L18 {X : Xc} {σ : Sg} {c1 : Int32} {c3 : Int32} {r : Int32} {k : Int32 → Option Int32}
    (hk : ∀ (i2 : Int32), k i2 = some r → V X M_X4_foundTerm (mq X (some (.int r)) σ) 57 [some (.ref (ad (xY X) 30)), some (.int c1), some (.int i2), some (.int c3), none] [] σ) :
    ∀ (n : Nat) (i2 : Int32) (i4 : Int32), f_X4_foundTerm_L18 k σ c1 c3 n i2 i4 = some r → V X M_X4_foundTerm (mq X (some (.int r)) σ) 18 [some (.ref (ad (xY X) 30)), some (.int c1), some (.int i2), some (.int c3), some (.int i4)] [] σ := by
  intro n
  induction n with
  | zero => intro i2 i4 h; cases h
  | succ n ih =>
    intro i2 i4 h
    rw [f_X4_foundTerm_L18] at h
    refine V_iload (q := 20) dX4_foundTerm_18 rfl rfl ?_
    refine V_aload_n (q := 21) dX4_foundTerm_20 rfl rfl ?_
    refine V_getr (k := 30) (j := 0) (q := 24) clz_3 dX4_foundTerm_21 rfl rfl rfl (Nat.le_of_ble_eq_true rfl) fl_RX4_9 ?_
    refine V_geti (k := 4) (j := 0) (q := 27) clz_0 dX4_foundTerm_24 rfl rfl rfl (Nat.le_of_ble_eq_true rfl) fl_RX4_82 ?_
    refine V_icmp_ge (q := 57) (q2 := 30) dX4_foundTerm_27 rfl rfl (fun hb5 => ?_) (fun hb5 => ?_)
    · replace h := it h hb5
      refine V_msk (L' := [some (.ref (ad (xY X) 30)), some (.int c1), some (.int i2), some (.int c3), none]) [true, true, true, true, false] rfl ?_
      exact hk (i2) h
    · replace h := ie h hb5
      refine V_aload_n (q := 31) dX4_foundTerm_30 rfl rfl ?_
      refine V_iload_n (q := 32) dX4_foundTerm_31 rfl rfl ?_
      refine V_iload (q := 34) dX4_foundTerm_32 rfl rfl ?_
      obtain ⟨x1, hc2, h⟩ := cP_ok h
      refine V_cv1 (k := 30) (q := 37) (As := [.int c3, .int i4]) (rest := []) (ct_X4_isFound (xY X) hc2) ce_X4_isFound clz_3 rfl im_yX4_isFound se_yX4_isFound rfl ml_RX4_136 rfl ⟨Nat.le_of_ble_eq_true rfl, Nat.le_of_ble_eq_true rfl⟩ rfl (Nat.le_of_ble_eq_true rfl) dX4_foundTerm_34 rfl ?_
      refine V_if_eq (q := 51) (q2 := 40) dX4_foundTerm_37 rfl rfl (fun hb4 => ?_) (fun hb4 => ?_)
      · replace h := it h hb4
        refine V_iinc (q := 54) (v := 1) (L' := [some (.ref (ad (xY X) 30)), some (.int c1), some (.int i2), some (.int c3), some (.int (i4 + 1))]) dX4_foundTerm_51 rfl rfl iconst_1 (Nat.le_of_ble_eq_true rfl) rfl ?_
        refine V_goto (q := 18) dX4_foundTerm_54 rfl ?_
        exact ih (i2) ((i4 + 1)) h
      · replace h := ie h hb4
        refine V_iload_n (q := 41) dX4_foundTerm_40 rfl rfl ?_
        refine V_iload_n (q := 42) dX4_foundTerm_41 rfl rfl ?_
        refine V_icmp_ne (q := 48) (q2 := 45) dX4_foundTerm_42 rfl rfl (fun hb3 => ?_) (fun hb3 => ?_)
        · replace h := ie h hb3
          refine V_iinc (q := 51) (v := 1) (L' := [some (.ref (ad (xY X) 30)), some (.int c1), some (.int (i2 + 1)), some (.int c3), some (.int i4)]) dX4_foundTerm_48 rfl rfl iconst_1 (Nat.le_of_ble_eq_true rfl) rfl ?_
          refine V_iinc (q := 54) (v := 1) (L' := [some (.ref (ad (xY X) 30)), some (.int c1), some (.int (i2 + 1)), some (.int c3), some (.int (i4 + 1))]) dX4_foundTerm_51 rfl rfl iconst_1 (Nat.le_of_ble_eq_true rfl) rfl ?_
          refine V_goto (q := 18) dX4_foundTerm_54 rfl ?_
          exact ih ((i2 + 1)) ((i4 + 1)) h
        · replace h := it h hb3
          refine V_iload (q := 47) dX4_foundTerm_45 rfl rfl ?_
          cases h
          exact V_iret rfl dX4_foundTerm_47
set_option maxRecDepth 20000 in
theorem w_X4_foundTerm_L4 {X : Xc} {σ : Sg} {c1 : Int32} {r : Int32} {k : Option Int32}
    (hk : k = some r → V X M_X4_foundTerm (mq X (some (.int r)) σ) 63 [none, none, none, none, none] [] σ) :
    ∀ (n : Nat) (i2 : Int32) (i3 : Int32), f_X4_foundTerm_L4 k σ c1 n i2 i3 = some r → V X M_X4_foundTerm (mq X (some (.int r)) σ) 4 [some (.ref (ad (xY X) 30)), some (.int c1), some (.int i2), some (.int i3), none] [] σ := by
  intro n
  induction n with
  | zero => intro i2 i3 h; cases h
  | succ n ih =>
    intro i2 i3 h
    rw [f_X4_foundTerm_L4] at h
    refine V_iload_n (q := 5) dX4_foundTerm_4 rfl rfl ?_
    refine V_aload_n (q := 6) dX4_foundTerm_5 rfl rfl ?_
    refine V_getr (k := 30) (j := 1) (q := 9) clz_3 dX4_foundTerm_6 rfl rfl rfl (Nat.le_of_ble_eq_true rfl) fl_RX4_15 ?_
    refine V_geti (k := 26) (j := 0) (q := 12) clz_5 dX4_foundTerm_9 rfl rfl rfl (Nat.le_of_ble_eq_true rfl) fl_RX4_60 ?_
    refine V_icmp_ge (q := 63) (q2 := 15) dX4_foundTerm_12 rfl rfl (fun hb7 => ?_) (fun hb7 => ?_)
    · replace h := it h hb7
      refine V_msk (L' := [none, none, none, none, none]) [false, false, false, false, true] rfl ?_
      exact hk  h
    · replace h := ie h hb7
      refine V_iconst (q := 16) (v := 0) dX4_foundTerm_15 rfl iconst_0 ?_
      refine V_istore (q := 18) (L' := [some (.ref (ad (xY X) 30)), some (.int c1), some (.int i2), some (.int i3), some (.int 0)]) dX4_foundTerm_16 rfl (Nat.le_of_ble_eq_true rfl) rfl ?_
      refine w_X4_foundTerm_L18 (fun v6 h => ?_) fu (i2) (0) h
      refine V_iinc (q := 60) (v := 1) (L' := [some (.ref (ad (xY X) 30)), some (.int c1), some (.int v6), some (.int (i3 + 1)), none]) dX4_foundTerm_57 rfl rfl iconst_1 (Nat.le_of_ble_eq_true rfl) rfl ?_
      refine V_goto (q := 4) dX4_foundTerm_60 rfl ?_
      exact ih (v6) ((i3 + 1)) h
set_option maxRecDepth 20000 in
theorem ct_X4_foundTerm (Y : Yc) {σ : Sg} {a1 : Int32} {r : Int32} (h : f_X4_foundTerm σ a1 = some r) : Ct M_X4_foundTerm yX4_foundTerm Y [.ref (ad Y 30), .int a1] σ (some (.int r)) σ := by
  refine Ct_intro [some (.ref (ad Y 30)), some (.int a1), none, none, none] (by decide +kernel) rfl (Nat.le_of_ble_eq_true rfl) rfl (fun X hY => ?_) ⟨rfl, rfl⟩
  subst hY
  unfold f_X4_foundTerm at h
  refine V_iconst (q := 1) (v := 0) dX4_foundTerm_0 rfl iconst_0 ?_
  refine V_istore_n (q := 2) (L' := [some (.ref (ad (xY X) 30)), some (.int a1), some (.int 0), none, none]) dX4_foundTerm_1 rfl (Nat.le_of_ble_eq_true rfl) rfl ?_
  refine V_iconst (q := 3) (v := 0) dX4_foundTerm_2 rfl iconst_0 ?_
  refine V_istore_n (q := 4) (L' := [some (.ref (ad (xY X) 30)), some (.int a1), some (.int 0), some (.int 0), none]) dX4_foundTerm_3 rfl (Nat.le_of_ble_eq_true rfl) rfl ?_
  refine w_X4_foundTerm_L4 (fun h => ?_) fu (0) (0) h
  refine V_iconst (q := 64) (v := (-1)) dX4_foundTerm_63 rfl iconst_m1 ?_
  cases h
  exact V_iret rfl dX4_foundTerm_64
def M_X4_isChosen : Mc := (RX4, cX4_isChosen, 4, { frames := 0, cells := 0, slots := 0, locals := 0 }, (some .boolean))
theorem ce_X4_isChosen : Cee M_X4_isChosen yX4_isChosen 2 := ⟨cd_yX4_isChosen, ini_RX4, ⟨by decide +kernel, by decide +kernel, by decide +kernel⟩, rfl, rfl⟩
set_option maxRecDepth 20000 in
theorem ct_X4_isChosen (Y : Yc) {σ : Sg} {a1 : Int32} {a2 : Int32} {r : Int32} (h : f_X4_isChosen σ a1 a2 = some r) : Ct M_X4_isChosen yX4_isChosen Y [.ref (ad Y 30), .int a1, .int a2] σ (some (.int r)) σ := by
  refine Ct_intro [some (.ref (ad Y 30)), some (.int a1), some (.int a2), none] (by decide +kernel) rfl (Nat.le_of_ble_eq_true rfl) rfl (fun X hY => ?_) ⟨rfl, rfl⟩
  subst hY
  unfold f_X4_isChosen at h
  refine V_aload_n (q := 1) dX4_isChosen_0 rfl rfl ?_
  refine V_getr (k := 30) (j := 14) (q := 4) clz_3 dX4_isChosen_1 rfl rfl rfl (Nat.le_of_ble_eq_true rfl) fl_RX4_49 ?_
  refine V_iload_n (q := 5) dX4_isChosen_4 rfl rfl ?_
  obtain ⟨hi2, x1, ex3, h⟩ := rI_ok h
  refine V_iald (k := 39) (q := 6) dX4_isChosen_5 rfl rfl hi2 ex3 ?_
  refine V_istore_n (q := 7) (L' := [some (.ref (ad (xY X) 30)), some (.int a1), some (.int a2), some (.int x1)]) dX4_isChosen_6 rfl (Nat.le_of_ble_eq_true rfl) rfl ?_
  refine V_iload_n (q := 8) dX4_isChosen_7 rfl rfl ?_
  refine V_iconst (q := 9) (v := (-1)) dX4_isChosen_8 rfl iconst_m1 ?_
  refine V_icmp_eq (q := 36) (q2 := 12) dX4_isChosen_9 rfl rfl (fun hb12 => ?_) (fun hb12 => ?_)
  · replace h := it h hb12
    refine V_iconst (q := 37) (v := 0) dX4_isChosen_36 rfl iconst_0 ?_
    cases h
    exact V_zret rfl rfl dX4_isChosen_37
  · replace h := ie h hb12
    refine V_aload_n (q := 13) dX4_isChosen_12 rfl rfl ?_
    refine V_getr (k := 30) (j := 12) (q := 16) clz_3 dX4_isChosen_13 rfl rfl rfl (Nat.le_of_ble_eq_true rfl) fl_RX4_43 ?_
    refine V_iload_n (q := 17) dX4_isChosen_16 rfl rfl ?_
    obtain ⟨hi5, x4, ex6, h⟩ := rI_ok h
    refine V_iald (k := 37) (q := 18) dX4_isChosen_17 rfl rfl hi5 ex6 ?_
    refine V_iload_n (q := 19) dX4_isChosen_18 rfl rfl ?_
    refine V_icmp_ne (q := 36) (q2 := 22) dX4_isChosen_19 rfl rfl (fun hb11 => ?_) (fun hb11 => ?_)
    · replace h := ie h hb11
      refine V_iconst (q := 37) (v := 0) dX4_isChosen_36 rfl iconst_0 ?_
      cases h
      exact V_zret rfl rfl dX4_isChosen_37
    · replace h := it h hb11
      refine V_aload_n (q := 23) dX4_isChosen_22 rfl rfl ?_
      refine V_getr (k := 30) (j := 13) (q := 26) clz_3 dX4_isChosen_23 rfl rfl rfl (Nat.le_of_ble_eq_true rfl) fl_RX4_46 ?_
      refine V_iload_n (q := 27) dX4_isChosen_26 rfl rfl ?_
      obtain ⟨hi8, x7, ex9, h⟩ := rI_ok h
      refine V_iald (k := 38) (q := 28) dX4_isChosen_27 rfl rfl hi8 ex9 ?_
      refine V_iload_n (q := 29) dX4_isChosen_28 rfl rfl ?_
      refine V_icmp_ne (q := 36) (q2 := 32) dX4_isChosen_29 rfl rfl (fun hb10 => ?_) (fun hb10 => ?_)
      · replace h := ie h hb10
        refine V_iconst (q := 37) (v := 0) dX4_isChosen_36 rfl iconst_0 ?_
        cases h
        exact V_zret rfl rfl dX4_isChosen_37
      · replace h := it h hb10
        refine V_iconst (q := 33) (v := 1) dX4_isChosen_32 rfl iconst_1 ?_
        refine V_goto (q := 37) dX4_isChosen_33 rfl ?_
        cases h
        exact V_zret rfl rfl dX4_isChosen_37
def M_X7_found : Mc := (RX7, cX7_found, 5, { frames := 6, cells := 0, slots := 0, locals := 143 }, (some .int))
theorem ce_X7_found : Cee M_X7_found yX7_found 2 := ⟨cd_yX7_found, ini_RX7, ⟨by decide +kernel, by decide +kernel, by decide +kernel⟩, rfl, rfl⟩
set_option maxRecDepth 20000 in
theorem ct_X7_found (Y : Yc) {σ : Sg} {a1 : Int32} {a2 : Int32} {r : Int32} {σr : Sg} (h : f_X7_found σ a1 a2 = some (r, σr)) : Ct M_X7_found yX7_found Y [.ref (ad Y 0), .int a1, .int a2] σ (some (.int r)) σr := by
  refine Ct_intro [some (.ref (ad Y 0)), some (.int a1), some (.int a2), none, none] (by decide +kernel) rfl (Nat.le_of_ble_eq_true rfl) rfl (fun X hY => ?_) ⟨rfl, rfl⟩
  subst hY
  unfold f_X7_found at h
  refine V_iload_n (q := 1) dX7_found_0 rfl rfl ?_
  refine V_if_lt (q := 13) (q2 := 4) dX7_found_1 rfl rfl (fun hb20 => ?_) (fun hb20 => ?_)
  · replace h := it h hb20
    refine V_ldc (q := 15) kc_RX7_65 dX7_found_13 rfl ?_
    cases h
    exact V_iret rfl dX7_found_15
  · replace h := ie h hb20
    refine V_iload_n (q := 5) dX7_found_4 rfl rfl ?_
    refine V_if_lt (q := 13) (q2 := 8) dX7_found_5 rfl rfl (fun hb19 => ?_) (fun hb19 => ?_)
    · replace h := it h hb19
      refine V_ldc (q := 15) kc_RX7_65 dX7_found_13 rfl ?_
      cases h
      exact V_iret rfl dX7_found_15
    · replace h := ie h hb19
      refine V_iload_n (q := 9) dX7_found_8 rfl rfl ?_
      refine V_iconst (q := 10) (v := 3) dX7_found_9 rfl iconst_3 ?_
      refine V_icmp_le (q := 16) (q2 := 13) dX7_found_10 rfl rfl (fun hb18 => ?_) (fun hb18 => ?_)
      · replace h := it h hb18
        refine V_aload_n (q := 17) dX7_found_16 rfl rfl ?_
        obtain ⟨x1, s3, hc2, h⟩ := cA_ok h
        refine V_cv1 (k := 0) (q := 20) (As := []) (rest := []) (ct_X7_settled (xY X) hc2) ce_X7_settled clz_6 rfl im_yX7_settled se_yX7_settled rfl ml_RX7_159 rfl ⟨Nat.le_of_ble_eq_true rfl, Nat.le_of_ble_eq_true rfl⟩ rfl (Nat.le_of_ble_eq_true rfl) dX7_found_17 rfl ?_
        refine V_iload_n (q := 21) dX7_found_20 rfl rfl ?_
        obtain ⟨x4, hc5, h⟩ := cP_ok h
        refine V_cv1 (k := 30) (q := 24) (As := [.int a1]) (rest := []) (ct_X4_foundAt (xY X) hc5) ce_X4_foundAt clz_3 rfl im_yX4_foundAt se_yX4_foundAt rfl ml_RX7_253 rfl ⟨Nat.le_of_ble_eq_true rfl, Nat.le_of_ble_eq_true rfl⟩ rfl (Nat.le_of_ble_eq_true rfl) dX7_found_21 rfl ?_
        refine V_istore_n (q := 25) (L' := [some (.ref (ad (xY X) 0)), some (.int a1), some (.int a2), some (.int x4), none]) dX7_found_24 rfl (Nat.le_of_ble_eq_true rfl) rfl ?_
        refine V_aload_n (q := 26) dX7_found_25 rfl rfl ?_
        refine V_getr (k := 0) (j := 4) (q := 29) clz_6 dX7_found_26 rfl rfl rfl (Nat.le_of_ble_eq_true rfl) fl_RX7_39 ?_
        refine V_iload_n (q := 30) dX7_found_29 rfl rfl ?_
        obtain ⟨x6, hc7, h⟩ := cP_ok h
        refine V_cv1 (k := 30) (q := 33) (As := [.int a1]) (rest := []) (ct_X4_foundTerm (xY X) hc7) ce_X4_foundTerm clz_3 rfl im_yX4_foundTerm se_yX4_foundTerm rfl ml_RX7_256 rfl ⟨Nat.le_of_ble_eq_true rfl, Nat.le_of_ble_eq_true rfl⟩ rfl (Nat.le_of_ble_eq_true rfl) dX7_found_30 rfl ?_
        refine V_istore (q := 35) (L' := [some (.ref (ad (xY X) 0)), some (.int a1), some (.int a2), some (.int x4), some (.int x6)]) dX7_found_33 rfl (Nat.le_of_ble_eq_true rfl) rfl ?_
        refine V_iload_n (q := 36) dX7_found_35 rfl rfl ?_
        refine V_iconst (q := 37) (v := (-1)) dX7_found_36 rfl iconst_m1 ?_
        refine V_icmp_eq (q := 46) (q2 := 40) dX7_found_37 rfl rfl (fun hb17 => ?_) (fun hb17 => ?_)
        · replace h := it h hb17
          refine V_iconst (q := 47) (v := (-1)) dX7_found_46 rfl iconst_m1 ?_
          cases h
          exact V_iret rfl dX7_found_47
        · replace h := ie h hb17
          refine V_iload (q := 42) dX7_found_40 rfl rfl ?_
          refine V_iconst (q := 43) (v := (-1)) dX7_found_42 rfl iconst_m1 ?_
          refine V_icmp_ne (q := 48) (q2 := 46) dX7_found_43 rfl rfl (fun hb16 => ?_) (fun hb16 => ?_)
          · replace h := ie h hb16
            refine V_iload_n (q := 49) dX7_found_48 rfl rfl ?_
            by_cases hb8 : a2 = 0
            · replace h := it h hb8
              refine V_tsIn (q := 76) 0 hb8 dX7_found_49 (by decide) (by decide) rfl rfl ?_
              refine V_iload_n (q := 77) dX7_found_76 rfl rfl ?_
              cases h
              exact V_iret rfl dX7_found_77
            replace h := ie h hb8
            by_cases hb9 : a2 = 1
            · replace h := it h hb9
              refine V_tsIn (q := 78) 1 hb9 dX7_found_49 (by decide) (by decide) rfl rfl ?_
              refine V_iload (q := 80) dX7_found_78 rfl rfl ?_
              cases h
              exact V_iret rfl dX7_found_80
            replace h := ie h hb9
            by_cases hb10 : a2 = 2
            · replace h := it h hb10
              refine V_tsIn (q := 81) 2 hb10 dX7_found_49 (by decide) (by decide) rfl rfl ?_
              refine V_aload_n (q := 82) dX7_found_81 rfl rfl ?_
              refine V_getr (k := 0) (j := 1) (q := 85) clz_6 dX7_found_82 rfl rfl rfl (Nat.le_of_ble_eq_true rfl) fl_RX7_19 ?_
              refine V_iload (q := 87) dX7_found_85 rfl rfl ?_
              obtain ⟨x11, hc12, h⟩ := cP_ok h
              refine V_cv1 (k := 4) (q := 90) (As := [.int x6]) (rest := []) (ct_X1_worthOf (xY X) hc12) ce_X1_worthOf clz_0 rfl im_yX1_worthOf se_yX1_worthOf rfl ml_RX7_259 rfl ⟨Nat.le_of_ble_eq_true rfl, Nat.le_of_ble_eq_true rfl⟩ rfl (Nat.le_of_ble_eq_true rfl) dX7_found_87 rfl ?_
              cases h
              exact V_iret rfl dX7_found_90
            replace h := ie h hb10
            refine V_tsOut (q := 91) 2 ⟨hb10, hb9, hb8, trivial⟩ (by decide) rfl rfl dX7_found_49 rfl ?_
            refine V_aload_n (q := 92) dX7_found_91 rfl rfl ?_
            refine V_getr (k := 0) (j := 4) (q := 95) clz_6 dX7_found_92 rfl rfl rfl (Nat.le_of_ble_eq_true rfl) fl_RX7_39 ?_
            refine V_iload_n (q := 96) dX7_found_95 rfl rfl ?_
            refine V_iload (q := 98) dX7_found_96 rfl rfl ?_
            obtain ⟨x13, hc14, h⟩ := cP_ok h
            refine V_cv1 (k := 30) (q := 101) (As := [.int x4, .int x6]) (rest := []) (ct_X4_isChosen (xY X) hc14) ce_X4_isChosen clz_3 rfl im_yX4_isChosen se_yX4_isChosen rfl ml_RX7_262 rfl ⟨Nat.le_of_ble_eq_true rfl, Nat.le_of_ble_eq_true rfl⟩ rfl (Nat.le_of_ble_eq_true rfl) dX7_found_98 rfl ?_
            refine V_if_eq (q := 108) (q2 := 104) dX7_found_101 rfl rfl (fun hb15 => ?_) (fun hb15 => ?_)
            · replace h := it h hb15
              refine V_iconst (q := 109) (v := 0) dX7_found_108 rfl iconst_0 ?_
              cases h
              exact V_iret rfl dX7_found_109
            · replace h := ie h hb15
              refine V_iconst (q := 105) (v := 1) dX7_found_104 rfl iconst_1 ?_
              refine V_goto (q := 109) dX7_found_105 rfl ?_
              cases h
              exact V_iret rfl dX7_found_109
          · replace h := it h hb16
            refine V_iconst (q := 47) (v := (-1)) dX7_found_46 rfl iconst_m1 ?_
            cases h
            exact V_iret rfl dX7_found_47
      · replace h := ie h hb18
        refine V_ldc (q := 15) kc_RX7_65 dX7_found_13 rfl ?_
        cases h
        exact V_iret rfl dX7_found_15
def M_X8_place : Mc := (RX8, cX8_place, 7, { frames := 5, cells := 0, slots := 0, locals := 124 }, (some .int))
theorem ce_X8_place : Cee M_X8_place yX8_place 2 := ⟨cd_yX8_place, ini_RX8, ⟨by decide +kernel, by decide +kernel, by decide +kernel⟩, rfl, rfl⟩
set_option maxRecDepth 20000 in
theorem w_X8_place_L21 {X : Xc} {σ : Sg} {c2 : Int32} {c4 : Int32} {r : Int32} {σr : Sg} {k : Int32 → Option (Int32 × Sg)}
    (hk : ∀ (i3 : Int32), k i3 = some (r, σr) → V X M_X8_place (mq X (some (.int r)) σr) 103 [some (.ref (ad (xY X) 43)), none, some (.int c2), some (.int i3), some (.int c4), none, none] [] σ) :
    ∀ (n : Nat) (i3 : Int32) (i5 : Int32), f_X8_place_L21 k σ c2 c4 n i3 i5 = some (r, σr) → V X M_X8_place (mq X (some (.int r)) σr) 21 [some (.ref (ad (xY X) 43)), none, some (.int c2), some (.int i3), some (.int c4), some (.int i5), none] [] σ := by
  intro n
  induction n with
  | zero => intro i3 i5 h; cases h
  | succ n ih =>
    intro i3 i5 h
    rw [f_X8_place_L21] at h
    refine V_iload (q := 23) dX8_place_21 rfl rfl ?_
    refine V_aload_n (q := 24) dX8_place_23 rfl rfl ?_
    refine V_getr (k := 43) (j := 0) (q := 27) clz_7 dX8_place_24 rfl rfl rfl (Nat.le_of_ble_eq_true rfl) fl_RX8_7 ?_
    refine V_iconst (q := 28) (v := 0) dX8_place_27 rfl iconst_0 ?_
    obtain ⟨hi5, x4, ex6, h⟩ := rI_ok h
    refine V_iald (k := 44) (q := 29) dX8_place_28 rfl rfl hi5 ex6 ?_
    refine V_icmp_ge (q := 103) (q2 := 32) dX8_place_29 rfl rfl (fun hb22 => ?_) (fun hb22 => ?_)
    · replace h := it h hb22
      refine V_msk (L' := [some (.ref (ad (xY X) 43)), none, some (.int c2), some (.int i3), some (.int c4), none, none]) [true, true, true, true, true, false, true] rfl ?_
      exact hk (i3) h
    · replace h := ie h hb22
      refine V_iload_n (q := 33) dX8_place_32 rfl rfl ?_
      obtain ⟨k7, ek7, h⟩ := jn_ok h
      have hk7 : ∀ (v8 : Int32), k7 v8 = some (r, σr) → V X M_X8_place (mq X (some (.int r)) σr) 64 [some (.ref (ad (xY X) 43)), none, some (.int c2), some (.int i3), some (.int c4), some (.int i5), none] [.int v8] σ := by
        clear h
        intro v8 h
        rw [ek7] at h
        refine V_istore (q := 66) (L' := [some (.ref (ad (xY X) 43)), none, some (.int c2), some (.int i3), some (.int c4), some (.int i5), some (.int v8)]) dX8_place_64 rfl (Nat.le_of_ble_eq_true rfl) rfl ?_
        refine V_iload (q := 68) dX8_place_66 rfl rfl ?_
        obtain ⟨k9, ek9, h⟩ := jn_ok h
        have hk9 : k9 = some (r, σr) → V X M_X8_place (mq X (some (.int r)) σr) 84 [some (.ref (ad (xY X) 43)), none, some (.int c2), some (.int i3), some (.int c4), some (.int i5), some (.int v8)] [] σ := by
          clear h
          intro  h
          rw [ek9] at h
          refine V_iload_n (q := 85) dX8_place_84 rfl rfl ?_
          refine V_iload (q := 87) dX8_place_85 rfl rfl ?_
          obtain ⟨k10, ek10, h⟩ := jn_ok h
          have hk10 : ∀ (v11 : Int32), k10 v11 = some (r, σr) → V X M_X8_place (mq X (some (.int r)) σr) 95 [some (.ref (ad (xY X) 43)), none, some (.int c2), none, some (.int c4), some (.int i5), none] [.int v11, .int i3] σ := by
            clear h
            intro v11 h
            rw [ek10] at h
            refine V_isub (q := 96) dX8_place_95 rfl ?_
            refine V_istore_n (q := 97) (L' := [some (.ref (ad (xY X) 43)), none, some (.int c2), some (.int (i3 - v11)), some (.int c4), some (.int i5), none]) dX8_place_96 rfl (Nat.le_of_ble_eq_true rfl) rfl ?_
            refine V_iinc (q := 100) (v := 1) (L' := [some (.ref (ad (xY X) 43)), none, some (.int c2), some (.int (i3 - v11)), some (.int c4), some (.int (i5 + 1)), none]) dX8_place_97 rfl rfl iconst_1 (Nat.le_of_ble_eq_true rfl) rfl ?_
            refine V_goto (q := 21) dX8_place_100 rfl ?_
            exact ih ((i3 - v11)) ((i5 + 1)) h
          refine V_if_eq (q := 94) (q2 := 90) dX8_place_87 rfl rfl (fun hb12 => ?_) (fun hb12 => ?_)
          · replace h := it h hb12
            refine V_iconst (q := 95) (v := 0) dX8_place_94 rfl iconst_0 ?_
            refine V_msk (L' := [some (.ref (ad (xY X) 43)), none, some (.int c2), none, some (.int c4), some (.int i5), none]) [true, true, true, false, true, true, false] rfl ?_
            exact hk10 (0) h
          · replace h := ie h hb12
            refine V_iconst (q := 91) (v := 1) dX8_place_90 rfl iconst_1 ?_
            refine V_goto (q := 95) dX8_place_91 rfl ?_
            refine V_msk (L' := [some (.ref (ad (xY X) 43)), none, some (.int c2), none, some (.int c4), some (.int i5), none]) [true, true, true, false, true, true, false] rfl ?_
            exact hk10 (1) h
        refine V_if_eq (q := 84) (q2 := 71) dX8_place_68 rfl rfl (fun hb14 => ?_) (fun hb14 => ?_)
        · replace h := it h hb14
          exact hk9  h
        · replace h := ie h hb14
          refine V_iload_n (q := 72) dX8_place_71 rfl rfl ?_
          refine V_if_ne (q := 84) (q2 := 75) dX8_place_72 rfl rfl (fun hb13 => ?_) (fun hb13 => ?_)
          · replace h := ie h hb13
            exact hk9  h
          · replace h := it h hb13
            refine V_bipush (q := 77) (v := 8) dX8_place_75 rfl bipush_8 ?_
            refine V_iload (q := 79) dX8_place_77 rfl rfl ?_
            refine V_imul (q := 80) dX8_place_79 rfl ?_
            refine V_iload (q := 82) dX8_place_80 rfl rfl ?_
            refine V_iadd (q := 83) dX8_place_82 rfl ?_
            cases h
            exact V_iret rfl dX8_place_83
      refine V_if_eq (q := 56) (q2 := 36) dX8_place_33 rfl rfl (fun hb21 => ?_) (fun hb21 => ?_)
      · replace h := it h hb21
        refine V_aload_n (q := 57) dX8_place_56 rfl rfl ?_
        refine V_iload (q := 59) dX8_place_57 rfl rfl ?_
        refine V_iload (q := 61) dX8_place_59 rfl rfl ?_
        obtain ⟨x15, hc16, h⟩ := cP_ok h
        refine V_cv1 (k := 43) (q := 64) (As := [.int i5, .int c4]) (rest := []) (ct_X8_isFound (xY X) hc16) ce_X8_isFound clz_7 rfl im_yX8_isFound se_yX8_isFound rfl ml_RX8_107 rfl ⟨Nat.le_of_ble_eq_true rfl, Nat.le_of_ble_eq_true rfl⟩ rfl (Nat.le_of_ble_eq_true rfl) dX8_place_61 rfl ?_
        exact hk7 (x15) h
      · replace h := ie h hb21
        refine V_aload_n (q := 37) dX8_place_36 rfl rfl ?_
        refine V_getr (k := 43) (j := 12) (q := 40) clz_7 dX8_place_37 rfl rfl rfl (Nat.le_of_ble_eq_true rfl) fl_RX8_38 ?_
        refine V_iload (q := 42) dX8_place_40 rfl rfl ?_
        obtain ⟨hi18, x17, ex19, h⟩ := rI_ok h
        refine V_iald (k := 53) (q := 43) dX8_place_42 rfl rfl hi18 ex19 ?_
        refine V_iload (q := 45) dX8_place_43 rfl rfl ?_
        refine V_icmp_ne (q := 52) (q2 := 48) dX8_place_45 rfl rfl (fun hb20 => ?_) (fun hb20 => ?_)
        · replace h := ie h hb20
          refine V_iconst (q := 53) (v := 0) dX8_place_52 rfl iconst_0 ?_
          refine V_goto (q := 64) dX8_place_53 rfl ?_
          exact hk7 (0) h
        · replace h := it h hb20
          refine V_iconst (q := 49) (v := 1) dX8_place_48 rfl iconst_1 ?_
          refine V_goto (q := 64) dX8_place_49 rfl ?_
          exact hk7 (1) h
set_option maxRecDepth 20000 in
theorem w_X8_place_L9 {X : Xc} {σ : Sg} {c2 : Int32} {r : Int32} {σr : Sg} {k : Option (Int32 × Sg)}
    (hk : k = some (r, σr) → V X M_X8_place (mq X (some (.int r)) σr) 109 [none, none, none, none, none, none, none] [] σ) :
    ∀ (n : Nat) (i3 : Int32) (i4 : Int32), f_X8_place_L9 k σ c2 n i3 i4 = some (r, σr) → V X M_X8_place (mq X (some (.int r)) σr) 9 [some (.ref (ad (xY X) 43)), none, some (.int c2), some (.int i3), some (.int i4), none, none] [] σ := by
  intro n
  induction n with
  | zero => intro i3 i4 h; cases h
  | succ n ih =>
    intro i3 i4 h
    rw [f_X8_place_L9] at h
    refine V_iload (q := 11) dX8_place_9 rfl rfl ?_
    refine V_aload_n (q := 12) dX8_place_11 rfl rfl ?_
    refine V_geti (k := 43) (j := 6) (q := 15) clz_7 dX8_place_12 rfl rfl rfl (Nat.le_of_ble_eq_true rfl) fl_RX8_104 ?_
    refine V_icmp_ge (q := 109) (q2 := 18) dX8_place_15 rfl rfl (fun hb24 => ?_) (fun hb24 => ?_)
    · replace h := it h hb24
      refine V_msk (L' := [none, none, none, none, none, none, none]) [false, true, false, false, false, true, true] rfl ?_
      exact hk  h
    · replace h := ie h hb24
      refine V_iconst (q := 19) (v := 0) dX8_place_18 rfl iconst_0 ?_
      refine V_istore (q := 21) (L' := [some (.ref (ad (xY X) 43)), none, some (.int c2), some (.int i3), some (.int i4), some (.int 0), none]) dX8_place_19 rfl (Nat.le_of_ble_eq_true rfl) rfl ?_
      refine w_X8_place_L21 (fun v23 h => ?_) fu (i3) (0) h
      refine V_iinc (q := 106) (v := 1) (L' := [some (.ref (ad (xY X) 43)), none, some (.int c2), some (.int v23), some (.int (i4 + 1)), none, none]) dX8_place_103 rfl rfl iconst_1 (Nat.le_of_ble_eq_true rfl) rfl ?_
      refine V_goto (q := 9) dX8_place_106 rfl ?_
      exact ih (v23) ((i4 + 1)) h
set_option maxRecDepth 20000 in
theorem ct_X8_place (Y : Yc) {σ : Sg} {a1 : Int32} {a2 : Int32} {r : Int32} {σr : Sg} (h : f_X8_place σ a1 a2 = some (r, σr)) : Ct M_X8_place yX8_place Y [.ref (ad Y 43), .int a1, .int a2] σ (some (.int r)) σr := by
  refine Ct_intro [some (.ref (ad Y 43)), some (.int a1), some (.int a2), none, none, none, none] (by decide +kernel) rfl (Nat.le_of_ble_eq_true rfl) rfl (fun X hY => ?_) ⟨rfl, rfl⟩
  subst hY
  unfold f_X8_place at h
  refine V_aload_n (q := 1) dX8_place_0 rfl rfl ?_
  obtain ⟨x1, s3, hc2, h⟩ := cA_ok h
  refine V_cv0 (k := 43) (q := 4) (As := []) (rest := []) (ct_X8_choose (xY X) hc2) ce_X8_choose clz_7 rfl im_yX8_choose se_yX8_choose rfl ml_RX8_101 rfl ⟨Nat.le_of_ble_eq_true rfl, Nat.le_of_ble_eq_true rfl⟩ rfl (Nat.le_of_ble_eq_true rfl) dX8_place_1 rfl ?_
  refine V_iload_n (q := 5) dX8_place_4 rfl rfl ?_
  refine V_istore_n (q := 6) (L' := [some (.ref (ad (xY X) 43)), some (.int a1), some (.int a2), some (.int a1), none, none, none]) dX8_place_5 rfl (Nat.le_of_ble_eq_true rfl) rfl ?_
  refine V_iconst (q := 7) (v := 0) dX8_place_6 rfl iconst_0 ?_
  refine V_istore (q := 9) (L' := [some (.ref (ad (xY X) 43)), some (.int a1), some (.int a2), some (.int a1), some (.int 0), none, none]) dX8_place_7 rfl (Nat.le_of_ble_eq_true rfl) rfl ?_
  refine V_msk (L' := [some (.ref (ad (xY X) 43)), none, some (.int a2), some (.int a1), some (.int 0), none, none]) [true, false, true, true, true, true, true] rfl ?_
  refine w_X8_place_L9 (fun h => ?_) fu (a1) (0) h
  refine V_iconst (q := 110) (v := (-1)) dX8_place_109 rfl iconst_m1 ?_
  cases h
  exact V_iret rfl dX8_place_110
def M_X8_found : Mc := (RX8, cX8_found, 4, { frames := 6, cells := 0, slots := 0, locals := 150 }, (some .int))
theorem ce_X8_found : Cee M_X8_found yX8_found 2 := ⟨cd_yX8_found, ini_RX8, ⟨by decide +kernel, by decide +kernel, by decide +kernel⟩, rfl, rfl⟩
set_option maxRecDepth 20000 in
theorem ct_X8_found (Y : Yc) {σ : Sg} {a1 : Int32} {a2 : Int32} {r : Int32} {σr : Sg} (h : f_X8_found σ a1 a2 = some (r, σr)) : Ct M_X8_found yX8_found Y [.ref (ad Y 43), .int a1, .int a2] σ (some (.int r)) σr := by
  refine Ct_intro [some (.ref (ad Y 43)), some (.int a1), some (.int a2), none] (by decide +kernel) rfl (Nat.le_of_ble_eq_true rfl) rfl (fun X hY => ?_) ⟨rfl, rfl⟩
  subst hY
  unfold f_X8_found at h
  refine V_iload_n (q := 1) dX8_found_0 rfl rfl ?_
  refine V_if_lt (q := 13) (q2 := 4) dX8_found_1 rfl rfl (fun hb17 => ?_) (fun hb17 => ?_)
  · replace h := it h hb17
    refine V_ldc (q := 15) kc_RX8_52 dX8_found_13 rfl ?_
    cases h
    exact V_iret rfl dX8_found_15
  · replace h := ie h hb17
    refine V_iload_n (q := 5) dX8_found_4 rfl rfl ?_
    refine V_iconst (q := 6) (v := 0) dX8_found_5 rfl iconst_0 ?_
    refine V_iconst (q := 7) (v := 3) dX8_found_6 rfl iconst_3 ?_
    obtain ⟨x1, hc2, h⟩ := cP_ok h
    refine V_cs1 (q := 10) (As := [.int a2, .int 0, .int 3]) (rest := []) (ct_X8_in (xY X) hc2) ce_X8_in st_yX8_in ml_RX8_44 rfl ⟨Nat.le_of_ble_eq_true rfl, Nat.le_of_ble_eq_true rfl⟩ rfl (Nat.le_of_ble_eq_true rfl) dX8_found_7 rfl ?_
    refine V_if_ne (q := 16) (q2 := 13) dX8_found_10 rfl rfl (fun hb16 => ?_) (fun hb16 => ?_)
    · replace h := ie h hb16
      refine V_aload_n (q := 17) dX8_found_16 rfl rfl ?_
      refine V_iload_n (q := 18) dX8_found_17 rfl rfl ?_
      refine V_iconst (q := 19) (v := 0) dX8_found_18 rfl iconst_0 ?_
      obtain ⟨x3, s5, hc4, h⟩ := cA_ok h
      refine V_cv1 (k := 43) (q := 22) (As := [.int a1, .int 0]) (rest := []) (ct_X8_place (xY X) hc4) ce_X8_place clz_7 rfl im_yX8_place se_yX8_place rfl ml_RX8_176 rfl ⟨Nat.le_of_ble_eq_true rfl, Nat.le_of_ble_eq_true rfl⟩ rfl (Nat.le_of_ble_eq_true rfl) dX8_found_19 rfl ?_
      refine V_istore_n (q := 23) (L' := [some (.ref (ad (xY X) 43)), some (.int a1), some (.int a2), some (.int x3)]) dX8_found_22 rfl (Nat.le_of_ble_eq_true rfl) rfl ?_
      refine V_iload_n (q := 24) dX8_found_23 rfl rfl ?_
      refine V_iconst (q := 25) (v := (-1)) dX8_found_24 rfl iconst_m1 ?_
      refine V_icmp_ne (q := 30) (q2 := 28) dX8_found_25 rfl rfl (fun hb15 => ?_) (fun hb15 => ?_)
      · replace h := ie h hb15
        refine V_iload_n (q := 31) dX8_found_30 rfl rfl ?_
        refine V_if_ne (q := 41) (q2 := 34) dX8_found_31 rfl rfl (fun hb14 => ?_) (fun hb14 => ?_)
        · replace h := ie h hb14
          refine V_iload_n (q := 42) dX8_found_41 rfl rfl ?_
          refine V_iconst (q := 43) (v := 1) dX8_found_42 rfl iconst_1 ?_
          refine V_icmp_ne (q := 53) (q2 := 46) dX8_found_43 rfl rfl (fun hb13 => ?_) (fun hb13 => ?_)
          · replace h := ie h hb13
            refine V_iload_n (q := 54) dX8_found_53 rfl rfl ?_
            refine V_iconst (q := 55) (v := 2) dX8_found_54 rfl iconst_2 ?_
            refine V_icmp_ne (q := 69) (q2 := 58) dX8_found_55 rfl rfl (fun hb12 => ?_) (fun hb12 => ?_)
            · replace h := ie h hb12
              refine V_aload_n (q := 70) dX8_found_69 rfl rfl ?_
              refine V_getr (k := 43) (j := 12) (q := 73) clz_7 dX8_found_70 rfl rfl rfl (Nat.le_of_ble_eq_true rfl) fl_RX8_38 ?_
              refine V_iload_n (q := 74) dX8_found_73 rfl rfl ?_
              refine V_bipush (q := 76) (v := 8) dX8_found_74 rfl bipush_8 ?_
              refine V_idiv (q := 77) dX8_found_76 rfl (by decide) ?_
              obtain ⟨hi7, x6, ex8, h⟩ := rI_ok h
              refine V_iald (k := 53) (q := 78) dX8_found_77 rfl rfl hi7 ex8 ?_
              refine V_iload_n (q := 79) dX8_found_78 rfl rfl ?_
              refine V_bipush (q := 81) (v := 8) dX8_found_79 rfl bipush_8 ?_
              refine V_irem (q := 82) dX8_found_81 rfl (by decide) ?_
              refine V_icmp_ne (q := 89) (q2 := 85) dX8_found_82 rfl rfl (fun hb9 => ?_) (fun hb9 => ?_)
              · replace h := ie h hb9
                refine V_iconst (q := 90) (v := 0) dX8_found_89 rfl iconst_0 ?_
                cases h
                exact V_iret rfl dX8_found_90
              · replace h := it h hb9
                refine V_iconst (q := 86) (v := 1) dX8_found_85 rfl iconst_1 ?_
                refine V_goto (q := 90) dX8_found_86 rfl ?_
                cases h
                exact V_iret rfl dX8_found_90
            · replace h := it h hb12
              refine V_aload_n (q := 59) dX8_found_58 rfl rfl ?_
              refine V_iload_n (q := 60) dX8_found_59 rfl rfl ?_
              refine V_bipush (q := 62) (v := 8) dX8_found_60 rfl bipush_8 ?_
              refine V_irem (q := 63) dX8_found_62 rfl (by decide) ?_
              obtain ⟨x10, hc11, h⟩ := cP_ok h
              refine V_cv1 (k := 43) (q := 66) (As := [.int (x3 - x3 / 8 * 8)]) (rest := []) (ct_X8_worthOf (xY X) hc11) ce_X8_worthOf clz_7 rfl im_yX8_worthOf se_yX8_worthOf rfl ml_RX8_155 rfl ⟨Nat.le_of_ble_eq_true rfl, Nat.le_of_ble_eq_true rfl⟩ rfl (Nat.le_of_ble_eq_true rfl) dX8_found_63 rfl ?_
              refine V_goto (q := 90) dX8_found_66 rfl ?_
              cases h
              exact V_iret rfl dX8_found_90
          · replace h := it h hb13
            refine V_iload_n (q := 47) dX8_found_46 rfl rfl ?_
            refine V_bipush (q := 49) (v := 8) dX8_found_47 rfl bipush_8 ?_
            refine V_irem (q := 50) dX8_found_49 rfl (by decide) ?_
            refine V_goto (q := 90) dX8_found_50 rfl ?_
            cases h
            exact V_iret rfl dX8_found_90
        · replace h := it h hb14
          refine V_iload_n (q := 35) dX8_found_34 rfl rfl ?_
          refine V_bipush (q := 37) (v := 8) dX8_found_35 rfl bipush_8 ?_
          refine V_idiv (q := 38) dX8_found_37 rfl (by decide) ?_
          refine V_goto (q := 90) dX8_found_38 rfl ?_
          cases h
          exact V_iret rfl dX8_found_90
      · replace h := it h hb15
        refine V_iconst (q := 29) (v := (-1)) dX8_found_28 rfl iconst_m1 ?_
        cases h
        exact V_iret rfl dX8_found_29
    · replace h := it h hb16
      refine V_ldc (q := 15) kc_RX8_52 dX8_found_13 rfl ?_
      cases h
      exact V_iret rfl dX8_found_15
def M_X7_chosen : Mc := (RX7, cX7_chosen, 4, { frames := 6, cells := 0, slots := 0, locals := 143 }, (some .int))
theorem ce_X7_chosen : Cee M_X7_chosen yX7_chosen 2 := ⟨cd_yX7_chosen, ini_RX7, ⟨by decide +kernel, by decide +kernel, by decide +kernel⟩, rfl, rfl⟩
set_option maxRecDepth 20000 in
theorem ct_X7_chosen (Y : Yc) {σ : Sg} {a1 : Int32} {a2 : Int32} {r : Int32} {σr : Sg} (h : f_X7_chosen σ a1 a2 = some (r, σr)) : Ct M_X7_chosen yX7_chosen Y [.ref (ad Y 0), .int a1, .int a2] σ (some (.int r)) σr := by
  refine Ct_intro [some (.ref (ad Y 0)), some (.int a1), some (.int a2), none] (by decide +kernel) rfl (Nat.le_of_ble_eq_true rfl) rfl (fun X hY => ?_) ⟨rfl, rfl⟩
  subst hY
  unfold f_X7_chosen at h
  refine V_iload_n (q := 1) dX7_chosen_0 rfl rfl ?_
  refine V_if_lt (q := 13) (q2 := 4) dX7_chosen_1 rfl rfl (fun hb21 => ?_) (fun hb21 => ?_)
  · replace h := it h hb21
    refine V_ldc (q := 15) kc_RX7_65 dX7_chosen_13 rfl ?_
    cases h
    exact V_iret rfl dX7_chosen_15
  · replace h := ie h hb21
    refine V_iload_n (q := 5) dX7_chosen_4 rfl rfl ?_
    refine V_if_lt (q := 13) (q2 := 8) dX7_chosen_5 rfl rfl (fun hb20 => ?_) (fun hb20 => ?_)
    · replace h := it h hb20
      refine V_ldc (q := 15) kc_RX7_65 dX7_chosen_13 rfl ?_
      cases h
      exact V_iret rfl dX7_chosen_15
    · replace h := ie h hb20
      refine V_iload_n (q := 9) dX7_chosen_8 rfl rfl ?_
      refine V_iconst (q := 10) (v := 3) dX7_chosen_9 rfl iconst_3 ?_
      refine V_icmp_le (q := 16) (q2 := 13) dX7_chosen_10 rfl rfl (fun hb19 => ?_) (fun hb19 => ?_)
      · replace h := it h hb19
        refine V_iload_n (q := 17) dX7_chosen_16 rfl rfl ?_
        refine V_aload_n (q := 18) dX7_chosen_17 rfl rfl ?_
        obtain ⟨x1, s3, hc2, h⟩ := cA_ok h
        refine V_cv1 (k := 0) (q := 21) (As := []) (rest := [.int a1]) (ct_X7_settled (xY X) hc2) ce_X7_settled clz_6 rfl im_yX7_settled se_yX7_settled rfl ml_RX7_159 rfl ⟨Nat.le_of_ble_eq_true rfl, Nat.le_of_ble_eq_true rfl⟩ rfl (Nat.le_of_ble_eq_true rfl) dX7_chosen_18 rfl ?_
        refine V_geti (k := 30) (j := 11) (q := 24) clz_3 dX7_chosen_21 rfl rfl rfl (Nat.le_of_ble_eq_true rfl) fl_RX7_236 ?_
        refine V_icmp_lt (q := 29) (q2 := 27) dX7_chosen_24 rfl rfl (fun hb18 => ?_) (fun hb18 => ?_)
        · replace h := it h hb18
          refine V_aload_n (q := 30) dX7_chosen_29 rfl rfl ?_
          refine V_getr (k := 0) (j := 4) (q := 33) clz_6 dX7_chosen_30 rfl rfl rfl (Nat.le_of_ble_eq_true rfl) fl_RX7_39 ?_
          refine V_getr (k := 30) (j := 13) (q := 36) clz_3 dX7_chosen_33 rfl rfl rfl (Nat.le_of_ble_eq_true rfl) fl_RX7_266 ?_
          refine V_iload_n (q := 37) dX7_chosen_36 rfl rfl ?_
          obtain ⟨hi5, x4, ex6, h⟩ := rI_ok h
          refine V_iald (k := 38) (q := 38) dX7_chosen_37 rfl rfl hi5 ex6 ?_
          refine V_istore_n (q := 39) (L' := [some (.ref (ad (xY X) 0)), some (.int a1), some (.int a2), some (.int x4)]) dX7_chosen_38 rfl (Nat.le_of_ble_eq_true rfl) rfl ?_
          refine V_iload_n (q := 40) dX7_chosen_39 rfl rfl ?_
          by_cases hb7 : a2 = 0
          · replace h := it h hb7
            refine V_tsIn (q := 68) 0 hb7 dX7_chosen_40 (by decide) (by decide) rfl rfl ?_
            refine V_aload_n (q := 69) dX7_chosen_68 rfl rfl ?_
            refine V_getr (k := 0) (j := 4) (q := 72) clz_6 dX7_chosen_69 rfl rfl rfl (Nat.le_of_ble_eq_true rfl) fl_RX7_39 ?_
            refine V_getr (k := 30) (j := 12) (q := 75) clz_3 dX7_chosen_72 rfl rfl rfl (Nat.le_of_ble_eq_true rfl) fl_RX7_269 ?_
            refine V_iload_n (q := 76) dX7_chosen_75 rfl rfl ?_
            obtain ⟨hi9, x8, ex10, h⟩ := rI_ok h
            refine V_iald (k := 37) (q := 77) dX7_chosen_76 rfl rfl hi9 ex10 ?_
            cases h
            exact V_iret rfl dX7_chosen_77
          replace h := ie h hb7
          by_cases hb11 : a2 = 1
          · replace h := it h hb11
            refine V_tsIn (q := 78) 1 hb11 dX7_chosen_40 (by decide) (by decide) rfl rfl ?_
            refine V_iload_n (q := 79) dX7_chosen_78 rfl rfl ?_
            cases h
            exact V_iret rfl dX7_chosen_79
          replace h := ie h hb11
          by_cases hb12 : a2 = 2
          · replace h := it h hb12
            refine V_tsIn (q := 80) 2 hb12 dX7_chosen_40 (by decide) (by decide) rfl rfl ?_
            refine V_aload_n (q := 81) dX7_chosen_80 rfl rfl ?_
            refine V_getr (k := 0) (j := 1) (q := 84) clz_6 dX7_chosen_81 rfl rfl rfl (Nat.le_of_ble_eq_true rfl) fl_RX7_19 ?_
            refine V_iload_n (q := 85) dX7_chosen_84 rfl rfl ?_
            obtain ⟨x13, hc14, h⟩ := cP_ok h
            refine V_cv1 (k := 4) (q := 88) (As := [.int x4]) (rest := []) (ct_X1_worthOf (xY X) hc14) ce_X1_worthOf clz_0 rfl im_yX1_worthOf se_yX1_worthOf rfl ml_RX7_259 rfl ⟨Nat.le_of_ble_eq_true rfl, Nat.le_of_ble_eq_true rfl⟩ rfl (Nat.le_of_ble_eq_true rfl) dX7_chosen_85 rfl ?_
            cases h
            exact V_iret rfl dX7_chosen_88
          replace h := ie h hb12
          refine V_tsOut (q := 89) 2 ⟨hb12, hb11, hb7, trivial⟩ (by decide) rfl rfl dX7_chosen_40 rfl ?_
          refine V_aload_n (q := 90) dX7_chosen_89 rfl rfl ?_
          refine V_getr (k := 0) (j := 1) (q := 93) clz_6 dX7_chosen_90 rfl rfl rfl (Nat.le_of_ble_eq_true rfl) fl_RX7_19 ?_
          refine V_getr (k := 4) (j := 5) (q := 96) clz_0 dX7_chosen_93 rfl rfl rfl (Nat.le_of_ble_eq_true rfl) fl_RX7_137 ?_
          refine V_iload_n (q := 97) dX7_chosen_96 rfl rfl ?_
          obtain ⟨hi16, x15, ex17, h⟩ := rI_ok h
          refine V_iald (k := 9) (q := 98) dX7_chosen_97 rfl rfl hi16 ex17 ?_
          cases h
          exact V_iret rfl dX7_chosen_98
        · replace h := ie h hb18
          refine V_iconst (q := 28) (v := (-1)) dX7_chosen_27 rfl iconst_m1 ?_
          cases h
          exact V_iret rfl dX7_chosen_28
      · replace h := ie h hb19
        refine V_ldc (q := 15) kc_RX7_65 dX7_chosen_13 rfl ?_
        cases h
        exact V_iret rfl dX7_chosen_15
def M_X8_chosen : Mc := (RX8, cX8_chosen, 4, { frames := 6, cells := 0, slots := 0, locals := 150 }, (some .int))
theorem ce_X8_chosen : Cee M_X8_chosen yX8_chosen 2 := ⟨cd_yX8_chosen, ini_RX8, ⟨by decide +kernel, by decide +kernel, by decide +kernel⟩, rfl, rfl⟩
set_option maxRecDepth 20000 in
theorem ct_X8_chosen (Y : Yc) {σ : Sg} {a1 : Int32} {a2 : Int32} {r : Int32} {σr : Sg} (h : f_X8_chosen σ a1 a2 = some (r, σr)) : Ct M_X8_chosen yX8_chosen Y [.ref (ad Y 43), .int a1, .int a2] σ (some (.int r)) σr := by
  refine Ct_intro [some (.ref (ad Y 43)), some (.int a1), some (.int a2), none] (by decide +kernel) rfl (Nat.le_of_ble_eq_true rfl) rfl (fun X hY => ?_) ⟨rfl, rfl⟩
  subst hY
  unfold f_X8_chosen at h
  refine V_iload_n (q := 1) dX8_chosen_0 rfl rfl ?_
  refine V_if_lt (q := 13) (q2 := 4) dX8_chosen_1 rfl rfl (fun hb18 => ?_) (fun hb18 => ?_)
  · replace h := it h hb18
    refine V_ldc (q := 15) kc_RX8_52 dX8_chosen_13 rfl ?_
    cases h
    exact V_iret rfl dX8_chosen_15
  · replace h := ie h hb18
    refine V_iload_n (q := 5) dX8_chosen_4 rfl rfl ?_
    refine V_iconst (q := 6) (v := 0) dX8_chosen_5 rfl iconst_0 ?_
    refine V_iconst (q := 7) (v := 3) dX8_chosen_6 rfl iconst_3 ?_
    obtain ⟨x1, hc2, h⟩ := cP_ok h
    refine V_cs1 (q := 10) (As := [.int a2, .int 0, .int 3]) (rest := []) (ct_X8_in (xY X) hc2) ce_X8_in st_yX8_in ml_RX8_44 rfl ⟨Nat.le_of_ble_eq_true rfl, Nat.le_of_ble_eq_true rfl⟩ rfl (Nat.le_of_ble_eq_true rfl) dX8_chosen_7 rfl ?_
    refine V_if_ne (q := 16) (q2 := 13) dX8_chosen_10 rfl rfl (fun hb17 => ?_) (fun hb17 => ?_)
    · replace h := ie h hb17
      refine V_aload_n (q := 17) dX8_chosen_16 rfl rfl ?_
      refine V_iload_n (q := 18) dX8_chosen_17 rfl rfl ?_
      refine V_iconst (q := 19) (v := 1) dX8_chosen_18 rfl iconst_1 ?_
      obtain ⟨x3, s5, hc4, h⟩ := cA_ok h
      refine V_cv1 (k := 43) (q := 22) (As := [.int a1, .int 1]) (rest := []) (ct_X8_place (xY X) hc4) ce_X8_place clz_7 rfl im_yX8_place se_yX8_place rfl ml_RX8_176 rfl ⟨Nat.le_of_ble_eq_true rfl, Nat.le_of_ble_eq_true rfl⟩ rfl (Nat.le_of_ble_eq_true rfl) dX8_chosen_19 rfl ?_
      refine V_istore_n (q := 23) (L' := [some (.ref (ad (xY X) 43)), some (.int a1), some (.int a2), some (.int x3)]) dX8_chosen_22 rfl (Nat.le_of_ble_eq_true rfl) rfl ?_
      refine V_iload_n (q := 24) dX8_chosen_23 rfl rfl ?_
      refine V_iconst (q := 25) (v := (-1)) dX8_chosen_24 rfl iconst_m1 ?_
      refine V_icmp_ne (q := 30) (q2 := 28) dX8_chosen_25 rfl rfl (fun hb16 => ?_) (fun hb16 => ?_)
      · replace h := ie h hb16
        refine V_iload_n (q := 31) dX8_chosen_30 rfl rfl ?_
        refine V_if_ne (q := 41) (q2 := 34) dX8_chosen_31 rfl rfl (fun hb15 => ?_) (fun hb15 => ?_)
        · replace h := ie h hb15
          refine V_iload_n (q := 42) dX8_chosen_41 rfl rfl ?_
          refine V_iconst (q := 43) (v := 1) dX8_chosen_42 rfl iconst_1 ?_
          refine V_icmp_ne (q := 53) (q2 := 46) dX8_chosen_43 rfl rfl (fun hb14 => ?_) (fun hb14 => ?_)
          · replace h := ie h hb14
            refine V_iload_n (q := 54) dX8_chosen_53 rfl rfl ?_
            refine V_iconst (q := 55) (v := 2) dX8_chosen_54 rfl iconst_2 ?_
            refine V_icmp_ne (q := 69) (q2 := 58) dX8_chosen_55 rfl rfl (fun hb13 => ?_) (fun hb13 => ?_)
            · replace h := ie h hb13
              refine V_aload_n (q := 70) dX8_chosen_69 rfl rfl ?_
              refine V_getr (k := 43) (j := 0) (q := 73) clz_7 dX8_chosen_70 rfl rfl rfl (Nat.le_of_ble_eq_true rfl) fl_RX8_7 ?_
              refine V_iload_n (q := 74) dX8_chosen_73 rfl rfl ?_
              refine V_bipush (q := 76) (v := 8) dX8_chosen_74 rfl bipush_8 ?_
              refine V_irem (q := 77) dX8_chosen_76 rfl (by decide) ?_
              obtain ⟨x6, hc7, h⟩ := cP_ok h
              refine V_cs1 (q := 80) (As := [.int (x3 - x3 / 8 * 8)]) (rest := [.ref (ad (xY X) 44)]) (ct_X8_termAt (xY X) hc7) ce_X8_termAt st_yX8_termAt ml_RX8_58 rfl ⟨Nat.le_of_ble_eq_true rfl, Nat.le_of_ble_eq_true rfl⟩ rfl (Nat.le_of_ble_eq_true rfl) dX8_chosen_77 rfl ?_
              refine V_iconst (q := 81) (v := 3) dX8_chosen_80 rfl iconst_3 ?_
              refine V_iadd (q := 82) dX8_chosen_81 rfl ?_
              obtain ⟨hi9, x8, ex10, h⟩ := rI_ok h
              refine V_iald (k := 44) (q := 83) dX8_chosen_82 rfl rfl hi9 ex10 ?_
              cases h
              exact V_iret rfl dX8_chosen_83
            · replace h := it h hb13
              refine V_aload_n (q := 59) dX8_chosen_58 rfl rfl ?_
              refine V_iload_n (q := 60) dX8_chosen_59 rfl rfl ?_
              refine V_bipush (q := 62) (v := 8) dX8_chosen_60 rfl bipush_8 ?_
              refine V_irem (q := 63) dX8_chosen_62 rfl (by decide) ?_
              obtain ⟨x11, hc12, h⟩ := cP_ok h
              refine V_cv1 (k := 43) (q := 66) (As := [.int (x3 - x3 / 8 * 8)]) (rest := []) (ct_X8_worthOf (xY X) hc12) ce_X8_worthOf clz_7 rfl im_yX8_worthOf se_yX8_worthOf rfl ml_RX8_155 rfl ⟨Nat.le_of_ble_eq_true rfl, Nat.le_of_ble_eq_true rfl⟩ rfl (Nat.le_of_ble_eq_true rfl) dX8_chosen_63 rfl ?_
              refine V_goto (q := 83) dX8_chosen_66 rfl ?_
              cases h
              exact V_iret rfl dX8_chosen_83
          · replace h := it h hb14
            refine V_iload_n (q := 47) dX8_chosen_46 rfl rfl ?_
            refine V_bipush (q := 49) (v := 8) dX8_chosen_47 rfl bipush_8 ?_
            refine V_irem (q := 50) dX8_chosen_49 rfl (by decide) ?_
            refine V_goto (q := 83) dX8_chosen_50 rfl ?_
            cases h
            exact V_iret rfl dX8_chosen_83
        · replace h := it h hb15
          refine V_iload_n (q := 35) dX8_chosen_34 rfl rfl ?_
          refine V_bipush (q := 37) (v := 8) dX8_chosen_35 rfl bipush_8 ?_
          refine V_idiv (q := 38) dX8_chosen_37 rfl (by decide) ?_
          refine V_goto (q := 83) dX8_chosen_38 rfl ?_
          cases h
          exact V_iret rfl dX8_chosen_83
      · replace h := it h hb16
        refine V_iconst (q := 29) (v := (-1)) dX8_chosen_28 rfl iconst_m1 ?_
        cases h
        exact V_iret rfl dX8_chosen_29
    · replace h := it h hb17
      refine V_ldc (q := 15) kc_RX8_52 dX8_chosen_13 rfl ?_
      cases h
      exact V_iret rfl dX8_chosen_15
