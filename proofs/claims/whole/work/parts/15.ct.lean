def M_X7_takeLot : Mc := (RX7, cX7_takeLot, 2, { frames := 3, cells := 0, slots := 0, locals := 69 }, (some .boolean))
theorem ce_X7_takeLot : Cee M_X7_takeLot yX7_takeLot 0 := ⟨cd_yX7_takeLot, ini_RX7, ⟨by decide +kernel, by decide +kernel, by decide +kernel⟩, rfl, rfl⟩
set_option maxRecDepth 20000 in
theorem ct_X7_takeLot (Y : Yc) {σ : Sg}  {r : Int32} {σr : Sg} (h : f_X7_takeLot σ  = some (r, σr)) : Ct M_X7_takeLot yX7_takeLot Y [.ref (ad Y 0)] σ (some (.int r)) σr := by
  refine Ct_intro [some (.ref (ad Y 0)), none] (by decide +kernel) rfl (Nat.le_of_ble_eq_true rfl) rfl (fun X hY => ?_) ⟨rfl, rfl⟩
  subst hY
  unfold f_X7_takeLot at h
  refine V_aload_n (q := 1) dX7_takeLot_0 rfl rfl ?_
  refine V_getr (k := 0) (j := 6) (q := 4) clz_6 dX7_takeLot_1 rfl rfl rfl (Nat.le_of_ble_eq_true rfl) fl_RX7_55 ?_
  refine V_bipush (q := 6) (v := 8) dX7_takeLot_4 rfl bipush_8 ?_
  obtain ⟨x1, s3, hc2, h⟩ := cA_ok h
  refine V_cv1 (k := 42) (q := 9) (As := [.int 8]) (rest := []) (ct_X2_below (xY X) hc2) ce_X2_below clz_1 rfl im_yX2_below se_yX2_below rfl ml_RX7_301 rfl ⟨Nat.le_of_ble_eq_true rfl, Nat.le_of_ble_eq_true rfl⟩ rfl (Nat.le_of_ble_eq_true rfl) dX7_takeLot_6 rfl ?_
  refine V_if_ne (q := 23) (q2 := 12) dX7_takeLot_9 rfl rfl (fun hb44 => ?_) (fun hb44 => ?_)
  · replace h := ie h hb44
    refine V_aload_n (q := 24) dX7_takeLot_23 rfl rfl ?_
    refine V_getr (k := 0) (j := 1) (q := 27) clz_6 dX7_takeLot_24 rfl rfl rfl (Nat.le_of_ble_eq_true rfl) fl_RX7_19 ?_
    refine V_geti (k := 4) (j := 0) (q := 30) clz_0 dX7_takeLot_27 rfl rfl rfl (Nat.le_of_ble_eq_true rfl) fl_RX7_122 ?_
    refine V_if_ne (q := 35) (q2 := 33) dX7_takeLot_30 rfl rfl (fun hb40 => ?_) (fun hb40 => ?_)
    · replace h := ie h hb40
      refine V_aload_n (q := 36) dX7_takeLot_35 rfl rfl ?_
      refine V_getr (k := 0) (j := 3) (q := 39) clz_6 dX7_takeLot_36 rfl rfl rfl (Nat.le_of_ble_eq_true rfl) fl_RX7_30 ?_
      obtain ⟨x4, hc5, h⟩ := cP_ok h
      refine V_cv1 (k := 26) (q := 42) (As := []) (rest := []) (ct_X6_hasRoom (xY X) hc5) ce_X6_hasRoom clz_5 rfl im_yX6_hasRoom se_yX6_hasRoom rfl ml_RX7_180 rfl ⟨Nat.le_of_ble_eq_true rfl, Nat.le_of_ble_eq_true rfl⟩ rfl (Nat.le_of_ble_eq_true rfl) dX7_takeLot_39 rfl ?_
      refine V_if_ne (q := 47) (q2 := 45) dX7_takeLot_42 rfl rfl (fun hb39 => ?_) (fun hb39 => ?_)
      · replace h := ie h hb39
        refine V_aload_n (q := 48) dX7_takeLot_47 rfl rfl ?_
        refine V_getr (k := 0) (j := 6) (q := 51) clz_6 dX7_takeLot_48 rfl rfl rfl (Nat.le_of_ble_eq_true rfl) fl_RX7_55 ?_
        refine V_aload_n (q := 52) dX7_takeLot_51 rfl rfl ?_
        refine V_getr (k := 0) (j := 1) (q := 55) clz_6 dX7_takeLot_52 rfl rfl rfl (Nat.le_of_ble_eq_true rfl) fl_RX7_19 ?_
        refine V_geti (k := 4) (j := 0) (q := 58) clz_0 dX7_takeLot_55 rfl rfl rfl (Nat.le_of_ble_eq_true rfl) fl_RX7_122 ?_
        obtain ⟨x6, s8, hc7, h⟩ := cA_ok h
        refine V_cv1 (k := 42) (q := 61) (As := [.int (s3.1 4 0)]) (rest := []) (ct_X2_below (xY X) hc7) ce_X2_below clz_1 rfl im_yX2_below se_yX2_below rfl ml_RX7_301 rfl ⟨Nat.le_of_ble_eq_true rfl, Nat.le_of_ble_eq_true rfl⟩ rfl (Nat.le_of_ble_eq_true rfl) dX7_takeLot_58 rfl ?_
        refine V_istore_n (q := 62) (L' := [some (.ref (ad (xY X) 0)), some (.int x6)]) dX7_takeLot_61 rfl (Nat.le_of_ble_eq_true rfl) rfl ?_
        refine V_aload_n (q := 63) dX7_takeLot_62 rfl rfl ?_
        refine V_getr (k := 0) (j := 3) (q := 66) clz_6 dX7_takeLot_63 rfl rfl rfl (Nat.le_of_ble_eq_true rfl) fl_RX7_30 ?_
        refine V_aload_n (q := 67) dX7_takeLot_66 rfl rfl ?_
        refine V_getr (k := 0) (j := 1) (q := 70) clz_6 dX7_takeLot_67 rfl rfl rfl (Nat.le_of_ble_eq_true rfl) fl_RX7_19 ?_
        refine V_iload_n (q := 71) dX7_takeLot_70 rfl rfl ?_
        refine V_aload_n (q := 72) dX7_takeLot_71 rfl rfl ?_
        refine V_getr (k := 0) (j := 6) (q := 75) clz_6 dX7_takeLot_72 rfl rfl rfl (Nat.le_of_ble_eq_true rfl) fl_RX7_55 ?_
        refine V_aload_n (q := 76) dX7_takeLot_75 rfl rfl ?_
        refine V_getr (k := 0) (j := 1) (q := 79) clz_6 dX7_takeLot_76 rfl rfl rfl (Nat.le_of_ble_eq_true rfl) fl_RX7_19 ?_
        refine V_getr (k := 4) (j := 2) (q := 82) clz_0 dX7_takeLot_79 rfl rfl rfl (Nat.le_of_ble_eq_true rfl) fl_RX7_156 ?_
        refine V_iload_n (q := 83) dX7_takeLot_82 rfl rfl ?_
        obtain ⟨hi10, x9, ex11, h⟩ := rI_ok h
        refine V_iald (k := 6) (q := 84) dX7_takeLot_83 rfl rfl hi10 ex11 ?_
        obtain ⟨x12, s14, hc13, h⟩ := cA_ok h
        refine V_cv1 (k := 42) (q := 87) (As := [.int x9]) (rest := [.int x6, .ref (ad (xY X) 4), .ref (ad (xY X) 26)]) (ct_X2_below (xY X) hc13) ce_X2_below clz_1 rfl im_yX2_below se_yX2_below rfl ml_RX7_301 rfl ⟨Nat.le_of_ble_eq_true rfl, Nat.le_of_ble_eq_true rfl⟩ rfl (Nat.le_of_ble_eq_true rfl) dX7_takeLot_84 rfl ?_
        obtain ⟨x15, hc16, h⟩ := cP_ok h
        refine V_cv1 (k := 4) (q := 90) (As := [.int x6, .int x12]) (rest := [.ref (ad (xY X) 26)]) (ct_X1_wordOf (xY X) hc16) ce_X1_wordOf clz_0 rfl im_yX1_wordOf se_yX1_wordOf rfl ml_RX7_176 rfl ⟨Nat.le_of_ble_eq_true rfl, Nat.le_of_ble_eq_true rfl⟩ rfl (Nat.le_of_ble_eq_true rfl) dX7_takeLot_87 rfl ?_
        obtain ⟨x17, s19, hc18, h⟩ := cA_ok h
        refine V_cv0 (k := 26) (q := 93) (As := [.long x15]) (rest := []) (ct_X6_takeLetters (xY X) hc18) ce_X6_takeLetters clz_5 rfl im_yX6_takeLetters se_yX6_takeLetters rfl ml_RX7_304 rfl ⟨Nat.le_of_ble_eq_true rfl, Nat.le_of_ble_eq_true rfl⟩ rfl (Nat.le_of_ble_eq_true rfl) dX7_takeLot_90 rfl ?_
        refine V_aload_n (q := 94) dX7_takeLot_93 rfl rfl ?_
        refine V_getr (k := 0) (j := 6) (q := 97) clz_6 dX7_takeLot_94 rfl rfl rfl (Nat.le_of_ble_eq_true rfl) fl_RX7_55 ?_
        refine V_iconst (q := 98) (v := 3) dX7_takeLot_97 rfl iconst_3 ?_
        obtain ⟨x20, s22, hc21, h⟩ := cA_ok h
        refine V_cv1 (k := 42) (q := 101) (As := [.int 3]) (rest := []) (ct_X2_below (xY X) hc21) ce_X2_below clz_1 rfl im_yX2_below se_yX2_below rfl ml_RX7_301 rfl ⟨Nat.le_of_ble_eq_true rfl, Nat.le_of_ble_eq_true rfl⟩ rfl (Nat.le_of_ble_eq_true rfl) dX7_takeLot_98 rfl ?_
        obtain ⟨k23, ek23, h⟩ := jn_ok h
        have hk23 : ∀ (s24 : Sg), k23 s24 = some (r, σr) → V X M_X7_takeLot (mq X (some (.int r)) σr) 143 [some (.ref (ad (xY X) 0)), none] [] s24 := by
          clear h
          intro s24 h
          rw [ek23] at h
          refine V_aload_n (q := 144) dX7_takeLot_143 rfl rfl ?_
          refine V_getr (k := 0) (j := 3) (q := 147) clz_6 dX7_takeLot_144 rfl rfl rfl (Nat.le_of_ble_eq_true rfl) fl_RX7_30 ?_
          refine V_bipush (q := 149) (v := 32) dX7_takeLot_147 rfl bipush_32 ?_
          obtain ⟨x25, s27, hc26, h⟩ := cA_ok h
          refine V_cv0 (k := 26) (q := 152) (As := [.int 32]) (rest := []) (ct_X6_take (xY X) hc26) ce_X6_take clz_5 rfl im_yX6_take se_yX6_take rfl ml_RX7_184 rfl ⟨Nat.le_of_ble_eq_true rfl, Nat.le_of_ble_eq_true rfl⟩ rfl (Nat.le_of_ble_eq_true rfl) dX7_takeLot_149 rfl ?_
          refine V_iconst (q := 153) (v := 1) dX7_takeLot_152 rfl iconst_1 ?_
          cases h
          exact V_zret rfl rfl dX7_takeLot_153
        refine V_if_ne (q := 143) (q2 := 104) dX7_takeLot_101 rfl rfl (fun hb38 => ?_) (fun hb38 => ?_)
        · replace h := ie h hb38
          refine V_msk (L' := [some (.ref (ad (xY X) 0)), none]) [true, false] rfl ?_
          exact hk23 (s22) h
        · replace h := it h hb38
          refine V_aload_n (q := 105) dX7_takeLot_104 rfl rfl ?_
          refine V_getr (k := 0) (j := 1) (q := 108) clz_6 dX7_takeLot_105 rfl rfl rfl (Nat.le_of_ble_eq_true rfl) fl_RX7_19 ?_
          refine V_geti (k := 4) (j := 6) (q := 111) clz_0 dX7_takeLot_108 rfl rfl rfl (Nat.le_of_ble_eq_true rfl) fl_RX7_131 ?_
          refine V_if_le (q := 143) (q2 := 114) dX7_takeLot_111 rfl rfl (fun hb37 => ?_) (fun hb37 => ?_)
          · replace h := it h hb37
            refine V_msk (L' := [some (.ref (ad (xY X) 0)), none]) [true, false] rfl ?_
            exact hk23 (s22) h
          · replace h := ie h hb37
            refine V_aload_n (q := 115) dX7_takeLot_114 rfl rfl ?_
            refine V_getr (k := 0) (j := 3) (q := 118) clz_6 dX7_takeLot_115 rfl rfl rfl (Nat.le_of_ble_eq_true rfl) fl_RX7_30 ?_
            refine V_aload_n (q := 119) dX7_takeLot_118 rfl rfl ?_
            refine V_getr (k := 0) (j := 1) (q := 122) clz_6 dX7_takeLot_119 rfl rfl rfl (Nat.le_of_ble_eq_true rfl) fl_RX7_19 ?_
            refine V_getr (k := 4) (j := 7) (q := 125) clz_0 dX7_takeLot_122 rfl rfl rfl (Nat.le_of_ble_eq_true rfl) fl_RX7_169 ?_
            refine V_aload_n (q := 126) dX7_takeLot_125 rfl rfl ?_
            refine V_getr (k := 0) (j := 6) (q := 129) clz_6 dX7_takeLot_126 rfl rfl rfl (Nat.le_of_ble_eq_true rfl) fl_RX7_55 ?_
            refine V_aload_n (q := 130) dX7_takeLot_129 rfl rfl ?_
            refine V_getr (k := 0) (j := 1) (q := 133) clz_6 dX7_takeLot_130 rfl rfl rfl (Nat.le_of_ble_eq_true rfl) fl_RX7_19 ?_
            refine V_geti (k := 4) (j := 6) (q := 136) clz_0 dX7_takeLot_133 rfl rfl rfl (Nat.le_of_ble_eq_true rfl) fl_RX7_131 ?_
            obtain ⟨x28, s30, hc29, h⟩ := cA_ok h
            refine V_cv1 (k := 42) (q := 139) (As := [.int (s22.1 4 6)]) (rest := [.ref (ad (xY X) 10), .ref (ad (xY X) 26)]) (ct_X2_below (xY X) hc29) ce_X2_below clz_1 rfl im_yX2_below se_yX2_below rfl ml_RX7_301 rfl ⟨Nat.le_of_ble_eq_true rfl, Nat.le_of_ble_eq_true rfl⟩ rfl (Nat.le_of_ble_eq_true rfl) dX7_takeLot_136 rfl ?_
            obtain ⟨hi32, x31, ex33, h⟩ := rL_ok h
            refine V_lald (k := 10) (q := 140) dX7_takeLot_139 rfl rfl hi32 ex33 ?_
            obtain ⟨x34, s36, hc35, h⟩ := cA_ok h
            refine V_cv0 (k := 26) (q := 143) (As := [.long x31]) (rest := []) (ct_X6_takeLetters (xY X) hc35) ce_X6_takeLetters clz_5 rfl im_yX6_takeLetters se_yX6_takeLetters rfl ml_RX7_304 rfl ⟨Nat.le_of_ble_eq_true rfl, Nat.le_of_ble_eq_true rfl⟩ rfl (Nat.le_of_ble_eq_true rfl) dX7_takeLot_140 rfl ?_
            refine V_msk (L' := [some (.ref (ad (xY X) 0)), none]) [true, false] rfl ?_
            exact hk23 (s36) h
      · replace h := it h hb39
        refine V_iconst (q := 46) (v := 0) dX7_takeLot_45 rfl iconst_0 ?_
        cases h
        exact V_zret rfl rfl dX7_takeLot_46
    · replace h := it h hb40
      refine V_iconst (q := 34) (v := 1) dX7_takeLot_33 rfl iconst_1 ?_
      cases h
      exact V_zret rfl rfl dX7_takeLot_34
  · replace h := it h hb44
    refine V_aload_n (q := 13) dX7_takeLot_12 rfl rfl ?_
    refine V_getr (k := 0) (j := 3) (q := 16) clz_6 dX7_takeLot_13 rfl rfl rfl (Nat.le_of_ble_eq_true rfl) fl_RX7_30 ?_
    refine V_bipush (q := 18) (v := 46) dX7_takeLot_16 rfl bipush_46 ?_
    obtain ⟨x41, s43, hc42, h⟩ := cA_ok h
    refine V_cv0 (k := 26) (q := 21) (As := [.int 46]) (rest := []) (ct_X6_take (xY X) hc42) ce_X6_take clz_5 rfl im_yX6_take se_yX6_take rfl ml_RX7_184 rfl ⟨Nat.le_of_ble_eq_true rfl, Nat.le_of_ble_eq_true rfl⟩ rfl (Nat.le_of_ble_eq_true rfl) dX7_takeLot_18 rfl ?_
    refine V_iconst (q := 22) (v := 1) dX7_takeLot_21 rfl iconst_1 ?_
    cases h
    exact V_zret rfl rfl dX7_takeLot_22
def M_X7_drift : Mc := (RX7, cX7_drift, 5, { frames := 4, cells := 0, slots := 0, locals := 90 }, (some .int))
theorem ce_X7_drift : Cee M_X7_drift yX7_drift 2 := ⟨cd_yX7_drift, ini_RX7, ⟨by decide +kernel, by decide +kernel, by decide +kernel⟩, rfl, rfl⟩
set_option maxRecDepth 20000 in
theorem w_X7_drift_L38 {X : Xc} {c1 : Int32} {r : Int32} {σr : Sg} {k : Sg → Option (Int32 × Sg)}
    (hk : ∀ (s : Sg), k s = some (r, σr) → V X M_X7_drift (mq X (some (.int r)) σr) 59 [some (.ref (ad (xY X) 0)), none, none, none, none] [] s) :
    ∀ (n : Nat) (s : Sg) (i3 : Int32) (i4 : Int32), f_X7_drift_L38 k c1 n s i3 i4 = some (r, σr) → V X M_X7_drift (mq X (some (.int r)) σr) 38 [some (.ref (ad (xY X) 0)), some (.int c1), none, some (.int i3), some (.int i4)] [] s := by
  intro n
  induction n with
  | zero => intro s i3 i4 h; cases h
  | succ n ih =>
    intro s i3 i4 h
    rw [f_X7_drift_L38] at h
    refine V_iload (q := 40) dX7_drift_38 rfl rfl ?_
    refine V_iload_n (q := 41) dX7_drift_40 rfl rfl ?_
    refine V_icmp_ge (q := 59) (q2 := 44) dX7_drift_41 rfl rfl (fun hb8 => ?_) (fun hb8 => ?_)
    · replace h := it h hb8
      refine V_msk (L' := [some (.ref (ad (xY X) 0)), none, none, none, none]) [true, false, true, false, false] rfl ?_
      exact hk (s) h
    · replace h := ie h hb8
      refine V_iload_n (q := 45) dX7_drift_44 rfl rfl ?_
      refine V_if_eq (q := 59) (q2 := 48) dX7_drift_45 rfl rfl (fun hb7 => ?_) (fun hb7 => ?_)
      · replace h := it h hb7
        refine V_msk (L' := [some (.ref (ad (xY X) 0)), none, none, none, none]) [true, false, true, false, false] rfl ?_
        exact hk (s) h
      · replace h := ie h hb7
        refine V_aload_n (q := 49) dX7_drift_48 rfl rfl ?_
        obtain ⟨x4, s6, hc5, h⟩ := cA_ok h
        refine V_cv1 (k := 0) (q := 52) (As := []) (rest := []) (ct_X7_takeLot (xY X) hc5) ce_X7_takeLot clz_6 rfl im_yX7_takeLot se_yX7_takeLot rfl ml_RX7_203 rfl ⟨Nat.le_of_ble_eq_true rfl, Nat.le_of_ble_eq_true rfl⟩ rfl (Nat.le_of_ble_eq_true rfl) dX7_drift_49 rfl ?_
        refine V_istore_n (q := 53) (L' := [some (.ref (ad (xY X) 0)), some (.int c1), none, some (.int x4), some (.int i4)]) dX7_drift_52 rfl (Nat.le_of_ble_eq_true rfl) rfl ?_
        refine V_iinc (q := 56) (v := 1) (L' := [some (.ref (ad (xY X) 0)), some (.int c1), none, some (.int x4), some (.int (i4 + 1))]) dX7_drift_53 rfl rfl iconst_1 (Nat.le_of_ble_eq_true rfl) rfl ?_
        refine V_goto (q := 38) dX7_drift_56 rfl ?_
        exact ih (s6) (x4) ((i4 + 1)) h
set_option maxRecDepth 20000 in
theorem ct_X7_drift (Y : Yc) {σ : Sg} {a1 : Int32} {a2 : Int32} {r : Int32} {σr : Sg} (h : f_X7_drift σ a1 a2 = some (r, σr)) : Ct M_X7_drift yX7_drift Y [.ref (ad Y 0), .int a1, .int a2] σ (some (.int r)) σr := by
  refine Ct_intro [some (.ref (ad Y 0)), some (.int a1), some (.int a2), none, none] (by decide +kernel) rfl (Nat.le_of_ble_eq_true rfl) rfl (fun X hY => ?_) ⟨rfl, rfl⟩
  subst hY
  unfold f_X7_drift at h
  refine V_iload_n (q := 1) dX7_drift_0 rfl rfl ?_
  refine V_iconst (q := 2) (v := 1) dX7_drift_1 rfl iconst_1 ?_
  refine V_icmp_lt (q := 22) (q2 := 5) dX7_drift_2 rfl rfl (fun hb16 => ?_) (fun hb16 => ?_)
  · replace h := it h hb16
    refine V_ldc (q := 24) kc_RX7_65 dX7_drift_22 rfl ?_
    cases h
    exact V_iret rfl dX7_drift_24
  · replace h := ie h hb16
    refine V_iload_n (q := 6) dX7_drift_5 rfl rfl ?_
    refine V_bipush (q := 8) (v := 30) dX7_drift_6 rfl bipush_30 ?_
    refine V_icmp_gt (q := 22) (q2 := 11) dX7_drift_8 rfl rfl (fun hb15 => ?_) (fun hb15 => ?_)
    · replace h := it h hb15
      refine V_ldc (q := 24) kc_RX7_65 dX7_drift_22 rfl ?_
      cases h
      exact V_iret rfl dX7_drift_24
    · replace h := ie h hb15
      refine V_iload_n (q := 12) dX7_drift_11 rfl rfl ?_
      refine V_iconst (q := 13) (v := 1) dX7_drift_12 rfl iconst_1 ?_
      refine V_icmp_lt (q := 22) (q2 := 16) dX7_drift_13 rfl rfl (fun hb14 => ?_) (fun hb14 => ?_)
      · replace h := it h hb14
        refine V_ldc (q := 24) kc_RX7_65 dX7_drift_22 rfl ?_
        cases h
        exact V_iret rfl dX7_drift_24
      · replace h := ie h hb14
        refine V_iload_n (q := 17) dX7_drift_16 rfl rfl ?_
        refine V_ldc (q := 19) kc_RX7_199 dX7_drift_17 rfl ?_
        refine V_icmp_le (q := 25) (q2 := 22) dX7_drift_19 rfl rfl (fun hb13 => ?_) (fun hb13 => ?_)
        · replace h := it h hb13
          refine V_aload_n (q := 26) dX7_drift_25 rfl rfl ?_
          refine V_getr (k := 0) (j := 6) (q := 29) clz_6 dX7_drift_26 rfl rfl rfl (Nat.le_of_ble_eq_true rfl) fl_RX7_55 ?_
          refine V_iload_n (q := 30) dX7_drift_29 rfl rfl ?_
          obtain ⟨x1, s3, hc2, h⟩ := cA_ok h
          refine V_cv0 (k := 42) (q := 33) (As := [.int a2]) (rest := []) (ct_X2_start (xY X) hc2) ce_X2_start clz_1 rfl im_yX2_start se_yX2_start rfl ml_RX7_200 rfl ⟨Nat.le_of_ble_eq_true rfl, Nat.le_of_ble_eq_true rfl⟩ rfl (Nat.le_of_ble_eq_true rfl) dX7_drift_30 rfl ?_
          refine V_iconst (q := 34) (v := 1) dX7_drift_33 rfl iconst_1 ?_
          refine V_istore_n (q := 35) (L' := [some (.ref (ad (xY X) 0)), some (.int a1), some (.int a2), some (.int 1), none]) dX7_drift_34 rfl (Nat.le_of_ble_eq_true rfl) rfl ?_
          refine V_iconst (q := 36) (v := 0) dX7_drift_35 rfl iconst_0 ?_
          refine V_istore (q := 38) (L' := [some (.ref (ad (xY X) 0)), some (.int a1), some (.int a2), some (.int 1), some (.int 0)]) dX7_drift_36 rfl (Nat.le_of_ble_eq_true rfl) rfl ?_
          refine V_msk (L' := [some (.ref (ad (xY X) 0)), some (.int a1), none, some (.int 1), some (.int 0)]) [true, true, false, true, true] rfl ?_
          refine w_X7_drift_L38 (fun s9 h => ?_) fu (s3) (1) (0) h
          refine V_aload_n (q := 60) dX7_drift_59 rfl rfl ?_
          obtain ⟨x10, s12, hc11, h⟩ := cA_ok h
          refine V_cv0 (k := 0) (q := 63) (As := []) (rest := []) (ct_X7_textChanged (xY X) hc11) ce_X7_textChanged clz_6 rfl im_yX7_textChanged se_yX7_textChanged rfl ml_RX7_187 rfl ⟨Nat.le_of_ble_eq_true rfl, Nat.le_of_ble_eq_true rfl⟩ rfl (Nat.le_of_ble_eq_true rfl) dX7_drift_60 rfl ?_
          refine V_aload_n (q := 64) dX7_drift_63 rfl rfl ?_
          refine V_getr (k := 0) (j := 3) (q := 67) clz_6 dX7_drift_64 rfl rfl rfl (Nat.le_of_ble_eq_true rfl) fl_RX7_30 ?_
          refine V_geti (k := 26) (j := 0) (q := 70) clz_5 dX7_drift_67 rfl rfl rfl (Nat.le_of_ble_eq_true rfl) fl_RX7_190 ?_
          cases h
          exact V_iret rfl dX7_drift_70
        · replace h := ie h hb13
          refine V_ldc (q := 24) kc_RX7_65 dX7_drift_22 rfl ?_
          cases h
          exact V_iret rfl dX7_drift_24
def M_X8_next : Mc := (RX8, cX8_next, 2, { frames := 0, cells := 0, slots := 0, locals := 0 }, (some .long))
theorem ce_X8_next : Cee M_X8_next yX8_next 1 := ⟨cd_yX8_next, ini_RX8, ⟨by decide +kernel, by decide +kernel, by decide +kernel⟩, rfl, rfl⟩
set_option maxRecDepth 20000 in
theorem ct_X8_next (Y : Yc) {σ : Sg} {a1 : Int64} {r : Int64} (h : f_X8_next σ a1 = some r) : Ct M_X8_next yX8_next Y [.long a1] σ (some (.long r)) σ := by
  refine Ct_intro [some (.long a1), none] (by decide +kernel) rfl (Nat.le_of_ble_eq_true rfl) rfl (fun X hY => ?_) ⟨rfl, rfl⟩
  subst hY
  unfold f_X8_next at h
  refine V_lload_n (q := 1) dX8_next_0 rfl rfl ?_
  refine V_ldc2 (q := 4) kl_RX8_127 dX8_next_1 rfl ?_
  refine V_lmul (q := 5) dX8_next_4 rfl ?_
  refine V_ldc2 (q := 8) kl_RX8_129 dX8_next_5 rfl ?_
  refine V_lrem (q := 9) dX8_next_8 rfl (by decide) ?_
  cases h
  exact V_lret rfl dX8_next_9
def M_X8_comesAll : Mc := (RX8, cX8_comesAll, 3, { frames := 3, cells := 0, slots := 0, locals := 64 }, none)
theorem ce_X8_comesAll : Cee M_X8_comesAll yX8_comesAll 1 := ⟨cd_yX8_comesAll, ini_RX8, ⟨by decide +kernel, by decide +kernel, by decide +kernel⟩, rfl, rfl⟩
set_option maxRecDepth 20000 in
theorem w_X8_comesAll_L2 {X : Xc} {c1 : Int32} {r : Unit} {σr : Sg} {k : Sg → Option (Unit × Sg)}
    (hk : ∀ (s : Sg), k s = some (r, σr) → V X M_X8_comesAll (mq X none σr) 32 [none, none, none] [] s) :
    ∀ (n : Nat) (s : Sg) (i2 : Int32), f_X8_comesAll_L2 k c1 n s i2 = some (r, σr) → V X M_X8_comesAll (mq X none σr) 2 [some (.ref (ad (xY X) 43)), some (.int c1), some (.int i2)] [] s := by
  intro n
  induction n with
  | zero => intro s i2 h; cases h
  | succ n ih =>
    intro s i2 h
    rw [f_X8_comesAll_L2] at h
    refine V_iload_n (q := 3) dX8_comesAll_2 rfl rfl ?_
    refine V_aload_n (q := 4) dX8_comesAll_3 rfl rfl ?_
    refine V_getr (k := 43) (j := 0) (q := 7) clz_7 dX8_comesAll_4 rfl rfl rfl (Nat.le_of_ble_eq_true rfl) fl_RX8_7 ?_
    refine V_iload_n (q := 8) dX8_comesAll_7 rfl rfl ?_
    obtain ⟨hi2, x1, ex3, h⟩ := rI_ok h
    refine V_iald (k := 44) (q := 9) dX8_comesAll_8 rfl rfl hi2 ex3 ?_
    refine V_icmp_ge (q := 32) (q2 := 12) dX8_comesAll_9 rfl rfl (fun hb10 => ?_) (fun hb10 => ?_)
    · replace h := it h hb10
      refine V_msk (L' := [none, none, none]) [false, false, false] rfl ?_
      exact hk (s) h
    · replace h := ie h hb10
      refine V_aload_n (q := 13) dX8_comesAll_12 rfl rfl ?_
      refine V_aload_n (q := 14) dX8_comesAll_13 rfl rfl ?_
      refine V_getr (k := 43) (j := 0) (q := 17) clz_7 dX8_comesAll_14 rfl rfl rfl (Nat.le_of_ble_eq_true rfl) fl_RX8_7 ?_
      refine V_iload_n (q := 18) dX8_comesAll_17 rfl rfl ?_
      refine V_iconst (q := 19) (v := 1) dX8_comesAll_18 rfl iconst_1 ?_
      refine V_iadd (q := 20) dX8_comesAll_19 rfl ?_
      refine V_iload_n (q := 21) dX8_comesAll_20 rfl rfl ?_
      refine V_iadd (q := 22) dX8_comesAll_21 rfl ?_
      obtain ⟨hi5, x4, ex6, h⟩ := rI_ok h
      refine V_iald (k := 44) (q := 23) dX8_comesAll_22 rfl rfl hi5 ex6 ?_
      obtain ⟨x7, s9, hc8, h⟩ := cA_ok h
      refine V_cv0 (k := 43) (q := 26) (As := [.int x4]) (rest := []) (ct_X8_comes (xY X) hc8) ce_X8_comes clz_7 rfl im_yX8_comes se_yX8_comes rfl ml_RX8_124 rfl ⟨Nat.le_of_ble_eq_true rfl, Nat.le_of_ble_eq_true rfl⟩ rfl (Nat.le_of_ble_eq_true rfl) dX8_comesAll_23 rfl ?_
      refine V_iinc (q := 29) (v := 1) (L' := [some (.ref (ad (xY X) 43)), some (.int c1), some (.int (i2 + 1))]) dX8_comesAll_26 rfl rfl iconst_1 (Nat.le_of_ble_eq_true rfl) rfl ?_
      refine V_goto (q := 2) dX8_comesAll_29 rfl ?_
      exact ih (s9) ((i2 + 1)) h
set_option maxRecDepth 20000 in
theorem ct_X8_comesAll (Y : Yc) {σ : Sg} {a1 : Int32} {r : Unit} {σr : Sg} (h : f_X8_comesAll σ a1 = some (r, σr)) : Ct M_X8_comesAll yX8_comesAll Y [.ref (ad Y 43), .int a1] σ none σr := by
  refine Ct_intro [some (.ref (ad Y 43)), some (.int a1), none] (by decide +kernel) rfl (Nat.le_of_ble_eq_true rfl) rfl (fun X hY => ?_) ⟨rfl, rfl⟩
  subst hY
  unfold f_X8_comesAll at h
  refine V_iconst (q := 1) (v := 0) dX8_comesAll_0 rfl iconst_0 ?_
  refine V_istore_n (q := 2) (L' := [some (.ref (ad (xY X) 43)), some (.int a1), some (.int 0)]) dX8_comesAll_1 rfl (Nat.le_of_ble_eq_true rfl) rfl ?_
  refine w_X8_comesAll_L2 (fun s11 h => ?_) fu (σ) (0) h
  cases h
  exact V_vret rfl dX8_comesAll_32
def M_X8_drift : Mc := (RX8, cX8_drift, 8, { frames := 4, cells := 0, slots := 0, locals := 86 }, (some .int))
theorem ce_X8_drift : Cee M_X8_drift yX8_drift 2 := ⟨cd_yX8_drift, ini_RX8, ⟨by decide +kernel, by decide +kernel, by decide +kernel⟩, rfl, rfl⟩
set_option maxRecDepth 20000 in
theorem w_X8_drift_L32 {X : Xc} {c1 : Int32} {r : Int32} {σr : Sg} {k : Sg → Option (Int32 × Sg)}
    (hk : ∀ (s : Sg), k s = some (r, σr) → V X M_X8_drift (mq X (some (.int r)) σr) 205 [some (.ref (ad (xY X) 43)), none, none, none, none, none, none, none] [] s) :
    ∀ (n : Nat) (s : Sg) (i3 : Int64) (i5 : Int32) (i6 : Int32), f_X8_drift_L32 k c1 n s i3 i5 i6 = some (r, σr) → V X M_X8_drift (mq X (some (.int r)) σr) 32 [some (.ref (ad (xY X) 43)), some (.int c1), none, some (.long i3), none, some (.int i5), some (.int i6), none] [] s := by
  intro n
  induction n with
  | zero => intro s i3 i5 i6 h; cases h
  | succ n ih =>
    intro s i3 i5 i6 h
    rw [f_X8_drift_L32] at h
    refine V_iload (q := 34) dX8_drift_32 rfl rfl ?_
    refine V_iload_n (q := 35) dX8_drift_34 rfl rfl ?_
    refine V_icmp_ge (q := 205) (q2 := 38) dX8_drift_35 rfl rfl (fun hb67 => ?_) (fun hb67 => ?_)
    · replace h := it h hb67
      refine V_msk (L' := [some (.ref (ad (xY X) 43)), none, none, none, none, none, none, none]) [true, false, true, false, true, false, false, true] rfl ?_
      exact hk (s) h
    · replace h := ie h hb67
      refine V_iload (q := 40) dX8_drift_38 rfl rfl ?_
      refine V_if_eq (q := 205) (q2 := 43) dX8_drift_40 rfl rfl (fun hb66 => ?_) (fun hb66 => ?_)
      · replace h := it h hb66
        refine V_msk (L' := [some (.ref (ad (xY X) 43)), none, none, none, none, none, none, none]) [true, false, true, false, true, false, false, true] rfl ?_
        exact hk (s) h
      · replace h := ie h hb66
        refine V_lload_n (q := 44) dX8_drift_43 rfl rfl ?_
        obtain ⟨x5, hc6, h⟩ := cP_ok h
        refine V_cs1 (q := 47) (As := [.long i3]) (rest := []) (ct_X8_next (xY X) hc6) ce_X8_next st_yX8_next ml_RX8_132 rfl ⟨Nat.le_of_ble_eq_true rfl, Nat.le_of_ble_eq_true rfl⟩ rfl (Nat.le_of_ble_eq_true rfl) dX8_drift_44 rfl ?_
        refine V_lstore_n (q := 48) (L' := [some (.ref (ad (xY X) 43)), some (.int c1), none, some (.long x5), none, some (.int i5), some (.int i6), none]) dX8_drift_47 rfl (Nat.le_of_ble_eq_true rfl) rfl ?_
        refine V_lload_n (q := 49) dX8_drift_48 rfl rfl ?_
        refine V_ldc2 (q := 52) kl_RX8_136 dX8_drift_49 rfl ?_
        refine V_lrem (q := 53) dX8_drift_52 rfl (by decide) ?_
        refine V_lconst (q := 54) (v := 0) dX8_drift_53 rfl rfl ?_
        refine V_lcmp (q := 55) dX8_drift_54 rfl ?_
        refine V_if_ne (q := 67) (q2 := 58) dX8_drift_55 rfl rfl (fun hb65 => ?_) (fun hb65 => ?_)
        · replace h := ie h hb65
          refine V_aload_n (q := 68) dX8_drift_67 rfl rfl ?_
          refine V_getr (k := 43) (j := 0) (q := 71) clz_7 dX8_drift_68 rfl rfl rfl (Nat.le_of_ble_eq_true rfl) fl_RX8_7 ?_
          refine V_iconst (q := 72) (v := 0) dX8_drift_71 rfl iconst_0 ?_
          obtain ⟨hi8, x7, ex9, h⟩ := rI_ok h
          refine V_iald (k := 44) (q := 73) dX8_drift_72 rfl rfl hi8 ex9 ?_
          obtain ⟨k10, ek10, h⟩ := jn_ok h
          have hk10 : ∀ (v11 : Int32) (v12 : Int32), k10 v11 v12 = some (r, σr) → V X M_X8_drift (mq X (some (.int r)) σr) 91 [some (.ref (ad (xY X) 43)), some (.int c1), none, some (.long x5), none, some (.int v11), some (.int v12), none] [] s := by
            clear h
            intro v11 v12 h
            rw [ek10] at h
            refine V_aload_n (q := 92) dX8_drift_91 rfl rfl ?_
            refine V_getr (k := 43) (j := 0) (q := 95) clz_7 dX8_drift_92 rfl rfl rfl (Nat.le_of_ble_eq_true rfl) fl_RX8_7 ?_
            refine V_iconst (q := 96) (v := 0) dX8_drift_95 rfl iconst_0 ?_
            obtain ⟨hi14, x13, ex15, h⟩ := rI_ok h
            refine V_iald (k := 44) (q := 97) dX8_drift_96 rfl rfl hi14 ex15 ?_
            refine V_if_le (q := 199) (q2 := 100) dX8_drift_97 rfl rfl (fun hb59 => ?_) (fun hb59 => ?_)
            · replace h := it h hb59
              refine V_iinc (q := 202) (v := 1) (L' := [some (.ref (ad (xY X) 43)), some (.int c1), none, some (.long x5), none, some (.int v11), some (.int (v12 + 1)), none]) dX8_drift_199 rfl rfl iconst_1 (Nat.le_of_ble_eq_true rfl) rfl ?_
              refine V_goto (q := 32) dX8_drift_202 rfl ?_
              exact ih (s) (x5) (v11) ((v12 + 1)) h
            · replace h := ie h hb59
              refine V_lload_n (q := 101) dX8_drift_100 rfl rfl ?_
              obtain ⟨x16, hc17, h⟩ := cP_ok h
              refine V_cs1 (q := 104) (As := [.long x5]) (rest := []) (ct_X8_next (xY X) hc17) ce_X8_next st_yX8_next ml_RX8_132 rfl ⟨Nat.le_of_ble_eq_true rfl, Nat.le_of_ble_eq_true rfl⟩ rfl (Nat.le_of_ble_eq_true rfl) dX8_drift_101 rfl ?_
              refine V_lstore_n (q := 105) (L' := [some (.ref (ad (xY X) 43)), some (.int c1), none, some (.long x16), none, some (.int v11), some (.int v12), none]) dX8_drift_104 rfl (Nat.le_of_ble_eq_true rfl) rfl ?_
              refine V_lload_n (q := 106) dX8_drift_105 rfl rfl ?_
              refine V_aload_n (q := 107) dX8_drift_106 rfl rfl ?_
              refine V_getr (k := 43) (j := 0) (q := 110) clz_7 dX8_drift_107 rfl rfl rfl (Nat.le_of_ble_eq_true rfl) fl_RX8_7 ?_
              refine V_iconst (q := 111) (v := 0) dX8_drift_110 rfl iconst_0 ?_
              obtain ⟨hi19, x18, ex20, h⟩ := rI_ok h
              refine V_iald (k := 44) (q := 112) dX8_drift_111 rfl rfl hi19 ex20 ?_
              refine V_i2l (q := 113) dX8_drift_112 rfl ?_
              obtain ⟨hz21, h⟩ := mH_ok h
              refine V_lrem (q := 114) dX8_drift_113 rfl hz21 ?_
              refine V_l2i (q := 115) dX8_drift_114 rfl ?_
              refine V_istore (q := 117) (L' := [some (.ref (ad (xY X) 43)), some (.int c1), none, some (.long x16), none, some (.int v11), some (.int v12), some (.int (Int64.toInt32 (x16 - x16 / (Int32.toInt64 x18) * (Int32.toInt64 x18))))]) dX8_drift_115 rfl (Nat.le_of_ble_eq_true rfl) rfl ?_
              refine V_lload_n (q := 118) dX8_drift_117 rfl rfl ?_
              obtain ⟨x22, hc23, h⟩ := cP_ok h
              refine V_cs1 (q := 121) (As := [.long x16]) (rest := []) (ct_X8_next (xY X) hc23) ce_X8_next st_yX8_next ml_RX8_132 rfl ⟨Nat.le_of_ble_eq_true rfl, Nat.le_of_ble_eq_true rfl⟩ rfl (Nat.le_of_ble_eq_true rfl) dX8_drift_118 rfl ?_
              refine V_lstore_n (q := 122) (L' := [some (.ref (ad (xY X) 43)), some (.int c1), none, some (.long x22), none, some (.int v11), some (.int v12), some (.int (Int64.toInt32 (x16 - x16 / (Int32.toInt64 x18) * (Int32.toInt64 x18))))]) dX8_drift_121 rfl (Nat.le_of_ble_eq_true rfl) rfl ?_
              refine V_aload_n (q := 123) dX8_drift_122 rfl rfl ?_
              refine V_iload (q := 125) dX8_drift_123 rfl rfl ?_
              refine V_lload_n (q := 126) dX8_drift_125 rfl rfl ?_
              refine V_aload_n (q := 127) dX8_drift_126 rfl rfl ?_
              refine V_getr (k := 43) (j := 0) (q := 130) clz_7 dX8_drift_127 rfl rfl rfl (Nat.le_of_ble_eq_true rfl) fl_RX8_7 ?_
              refine V_iload (q := 132) dX8_drift_130 rfl rfl ?_
              obtain ⟨x24, hc25, h⟩ := cP_ok h
              refine V_cs1 (q := 135) (As := [.int (Int64.toInt32 (x16 - x16 / (Int32.toInt64 x18) * (Int32.toInt64 x18)))]) (rest := [.ref (ad (xY X) 44), .long x22, .int (Int64.toInt32 (x16 - x16 / (Int32.toInt64 x18) * (Int32.toInt64 x18))), .ref (ad (xY X) 43)]) (ct_X8_termAt (xY X) hc25) ce_X8_termAt st_yX8_termAt ml_RX8_58 rfl ⟨Nat.le_of_ble_eq_true rfl, Nat.le_of_ble_eq_true rfl⟩ rfl (Nat.le_of_ble_eq_true rfl) dX8_drift_132 rfl ?_
              refine V_iconst (q := 136) (v := 0) dX8_drift_135 rfl iconst_0 ?_
              refine V_iadd (q := 137) dX8_drift_136 rfl ?_
              obtain ⟨hi27, x26, ex28, h⟩ := rI_ok h
              refine V_iald (k := 44) (q := 138) dX8_drift_137 rfl rfl hi27 ex28 ?_
              refine V_i2l (q := 139) dX8_drift_138 rfl ?_
              obtain ⟨hz29, h⟩ := mH_ok h
              refine V_lrem (q := 140) dX8_drift_139 rfl hz29 ?_
              refine V_l2i (q := 141) dX8_drift_140 rfl ?_
              obtain ⟨x30, hc31, h⟩ := cP_ok h
              refine V_cs1 (q := 144) (As := [.int (Int64.toInt32 (x16 - x16 / (Int32.toInt64 x18) * (Int32.toInt64 x18))), .int (Int64.toInt32 (x22 - x22 / (Int32.toInt64 x26) * (Int32.toInt64 x26)))]) (rest := [.ref (ad (xY X) 43)]) (ct_X8_wordAt (xY X) hc31) ce_X8_wordAt st_yX8_wordAt ml_RX8_62 rfl ⟨Nat.le_of_ble_eq_true rfl, Nat.le_of_ble_eq_true rfl⟩ rfl (Nat.le_of_ble_eq_true rfl) dX8_drift_141 rfl ?_
              obtain ⟨x32, s34, hc33, h⟩ := cA_ok h
              refine V_cv0 (k := 43) (q := 147) (As := [.int x30]) (rest := []) (ct_X8_comesAll (xY X) hc33) ce_X8_comesAll clz_7 rfl im_yX8_comesAll se_yX8_comesAll rfl ml_RX8_138 rfl ⟨Nat.le_of_ble_eq_true rfl, Nat.le_of_ble_eq_true rfl⟩ rfl (Nat.le_of_ble_eq_true rfl) dX8_drift_144 rfl ?_
              refine V_lload_n (q := 148) dX8_drift_147 rfl rfl ?_
              obtain ⟨x35, hc36, h⟩ := cP_ok h
              refine V_cs1 (q := 151) (As := [.long x22]) (rest := []) (ct_X8_next (xY X) hc36) ce_X8_next st_yX8_next ml_RX8_132 rfl ⟨Nat.le_of_ble_eq_true rfl, Nat.le_of_ble_eq_true rfl⟩ rfl (Nat.le_of_ble_eq_true rfl) dX8_drift_148 rfl ?_
              refine V_lstore_n (q := 152) (L' := [some (.ref (ad (xY X) 43)), some (.int c1), none, some (.long x35), none, some (.int v11), some (.int v12), some (.int (Int64.toInt32 (x16 - x16 / (Int32.toInt64 x18) * (Int32.toInt64 x18))))]) dX8_drift_151 rfl (Nat.le_of_ble_eq_true rfl) rfl ?_
              refine V_lload_n (q := 153) dX8_drift_152 rfl rfl ?_
              refine V_ldc2 (q := 156) kl_RX8_141 dX8_drift_153 rfl ?_
              refine V_lrem (q := 157) dX8_drift_156 rfl (by decide) ?_
              refine V_lconst (q := 158) (v := 0) dX8_drift_157 rfl rfl ?_
              refine V_lcmp (q := 159) dX8_drift_158 rfl ?_
              obtain ⟨k37, ek37, h⟩ := jn_ok h
              have hk37 : ∀ (s38 : Sg) (v39 : Int64), k37 s38 v39 = some (r, σr) → V X M_X8_drift (mq X (some (.int r)) σr) 193 [some (.ref (ad (xY X) 43)), some (.int c1), none, some (.long v39), none, some (.int v11), some (.int v12), none] [] s38 := by
                clear h
                intro s38 v39 h
                rw [ek37] at h
                refine V_aload_n (q := 194) dX8_drift_193 rfl rfl ?_
                refine V_bipush (q := 196) (v := 32) dX8_drift_194 rfl bipush_32 ?_
                obtain ⟨x40, s42, hc41, h⟩ := cA_ok h
                refine V_cv0 (k := 43) (q := 199) (As := [.int 32]) (rest := []) (ct_X8_comes (xY X) hc41) ce_X8_comes clz_7 rfl im_yX8_comes se_yX8_comes rfl ml_RX8_124 rfl ⟨Nat.le_of_ble_eq_true rfl, Nat.le_of_ble_eq_true rfl⟩ rfl (Nat.le_of_ble_eq_true rfl) dX8_drift_196 rfl ?_
                refine V_iinc (q := 202) (v := 1) (L' := [some (.ref (ad (xY X) 43)), some (.int c1), none, some (.long v39), none, some (.int v11), some (.int (v12 + 1)), none]) dX8_drift_199 rfl rfl iconst_1 (Nat.le_of_ble_eq_true rfl) rfl ?_
                refine V_goto (q := 32) dX8_drift_202 rfl ?_
                exact ih (s42) (v39) (v11) ((v12 + 1)) h
              refine V_if_ne (q := 193) (q2 := 162) dX8_drift_159 rfl rfl (fun hb58 => ?_) (fun hb58 => ?_)
              · replace h := ie h hb58
                refine V_msk (L' := [some (.ref (ad (xY X) 43)), some (.int c1), none, some (.long x35), none, some (.int v11), some (.int v12), none]) [true, true, true, true, true, true, true, false] rfl ?_
                exact hk37 (s34) (x35) h
              · replace h := it h hb58
                refine V_aload_n (q := 163) dX8_drift_162 rfl rfl ?_
                refine V_getr (k := 43) (j := 0) (q := 166) clz_7 dX8_drift_163 rfl rfl rfl (Nat.le_of_ble_eq_true rfl) fl_RX8_7 ?_
                refine V_iconst (q := 167) (v := 1) dX8_drift_166 rfl iconst_1 ?_
                obtain ⟨hi44, x43, ex45, h⟩ := rI_ok h
                refine V_iald (k := 44) (q := 168) dX8_drift_167 rfl rfl hi44 ex45 ?_
                refine V_if_le (q := 193) (q2 := 171) dX8_drift_168 rfl rfl (fun hb57 => ?_) (fun hb57 => ?_)
                · replace h := it h hb57
                  refine V_msk (L' := [some (.ref (ad (xY X) 43)), some (.int c1), none, some (.long x35), none, some (.int v11), some (.int v12), none]) [true, true, true, true, true, true, true, false] rfl ?_
                  exact hk37 (s34) (x35) h
                · replace h := ie h hb57
                  refine V_lload_n (q := 172) dX8_drift_171 rfl rfl ?_
                  obtain ⟨x46, hc47, h⟩ := cP_ok h
                  refine V_cs1 (q := 175) (As := [.long x35]) (rest := []) (ct_X8_next (xY X) hc47) ce_X8_next st_yX8_next ml_RX8_132 rfl ⟨Nat.le_of_ble_eq_true rfl, Nat.le_of_ble_eq_true rfl⟩ rfl (Nat.le_of_ble_eq_true rfl) dX8_drift_172 rfl ?_
                  refine V_lstore_n (q := 176) (L' := [some (.ref (ad (xY X) 43)), some (.int c1), none, some (.long x46), none, some (.int v11), some (.int v12), some (.int (Int64.toInt32 (x16 - x16 / (Int32.toInt64 x18) * (Int32.toInt64 x18))))]) dX8_drift_175 rfl (Nat.le_of_ble_eq_true rfl) rfl ?_
                  refine V_aload_n (q := 177) dX8_drift_176 rfl rfl ?_
                  refine V_lload_n (q := 178) dX8_drift_177 rfl rfl ?_
                  refine V_aload_n (q := 179) dX8_drift_178 rfl rfl ?_
                  refine V_getr (k := 43) (j := 0) (q := 182) clz_7 dX8_drift_179 rfl rfl rfl (Nat.le_of_ble_eq_true rfl) fl_RX8_7 ?_
                  refine V_iconst (q := 183) (v := 1) dX8_drift_182 rfl iconst_1 ?_
                  obtain ⟨hi49, x48, ex50, h⟩ := rI_ok h
                  refine V_iald (k := 44) (q := 184) dX8_drift_183 rfl rfl hi49 ex50 ?_
                  refine V_i2l (q := 185) dX8_drift_184 rfl ?_
                  obtain ⟨hz51, h⟩ := mH_ok h
                  refine V_lrem (q := 186) dX8_drift_185 rfl hz51 ?_
                  refine V_l2i (q := 187) dX8_drift_186 rfl ?_
                  obtain ⟨x52, hc53, h⟩ := cP_ok h
                  refine V_cs1 (q := 190) (As := [.int (Int64.toInt32 (x46 - x46 / (Int32.toInt64 x48) * (Int32.toInt64 x48)))]) (rest := [.ref (ad (xY X) 43)]) (ct_X8_endingAt (xY X) hc53) ce_X8_endingAt st_yX8_endingAt ml_RX8_82 rfl ⟨Nat.le_of_ble_eq_true rfl, Nat.le_of_ble_eq_true rfl⟩ rfl (Nat.le_of_ble_eq_true rfl) dX8_drift_187 rfl ?_
                  obtain ⟨x54, s56, hc55, h⟩ := cA_ok h
                  refine V_cv0 (k := 43) (q := 193) (As := [.int x52]) (rest := []) (ct_X8_comesAll (xY X) hc55) ce_X8_comesAll clz_7 rfl im_yX8_comesAll se_yX8_comesAll rfl ml_RX8_138 rfl ⟨Nat.le_of_ble_eq_true rfl, Nat.le_of_ble_eq_true rfl⟩ rfl (Nat.le_of_ble_eq_true rfl) dX8_drift_190 rfl ?_
                  refine V_msk (L' := [some (.ref (ad (xY X) 43)), some (.int c1), none, some (.long x46), none, some (.int v11), some (.int v12), none]) [true, true, true, true, true, true, true, false] rfl ?_
                  exact hk37 (s56) (x46) h
          refine V_if_le (q := 91) (q2 := 76) dX8_drift_73 rfl rfl (fun hb61 => ?_) (fun hb61 => ?_)
          · replace h := it h hb61
            exact hk10 (i5) (i6) h
          · replace h := ie h hb61
            refine V_aload_n (q := 77) dX8_drift_76 rfl rfl ?_
            refine V_geti (k := 43) (j := 6) (q := 80) clz_7 dX8_drift_77 rfl rfl rfl (Nat.le_of_ble_eq_true rfl) fl_RX8_104 ?_
            refine V_bipush (q := 82) (v := 60) dX8_drift_80 rfl bipush_60 ?_
            refine V_icmp_ne (q := 91) (q2 := 85) dX8_drift_82 rfl rfl (fun hb60 => ?_) (fun hb60 => ?_)
            · replace h := ie h hb60
              exact hk10 (i5) (i6) h
            · replace h := it h hb60
              refine V_iconst (q := 86) (v := 0) dX8_drift_85 rfl iconst_0 ?_
              refine V_istore (q := 88) (L' := [some (.ref (ad (xY X) 43)), some (.int c1), none, some (.long x5), none, some (.int 0), some (.int i6), none]) dX8_drift_86 rfl (Nat.le_of_ble_eq_true rfl) rfl ?_
              refine V_goto (q := 199) dX8_drift_88 rfl ?_
              refine V_iinc (q := 202) (v := 1) (L' := [some (.ref (ad (xY X) 43)), some (.int c1), none, some (.long x5), none, some (.int 0), some (.int (i6 + 1)), none]) dX8_drift_199 rfl rfl iconst_1 (Nat.le_of_ble_eq_true rfl) rfl ?_
              refine V_goto (q := 32) dX8_drift_202 rfl ?_
              exact ih (s) (x5) (0) ((i6 + 1)) h
        · replace h := it h hb65
          refine V_aload_n (q := 59) dX8_drift_58 rfl rfl ?_
          refine V_bipush (q := 61) (v := 46) dX8_drift_59 rfl bipush_46 ?_
          obtain ⟨x62, s64, hc63, h⟩ := cA_ok h
          refine V_cv0 (k := 43) (q := 64) (As := [.int 46]) (rest := []) (ct_X8_comes (xY X) hc63) ce_X8_comes clz_7 rfl im_yX8_comes se_yX8_comes rfl ml_RX8_124 rfl ⟨Nat.le_of_ble_eq_true rfl, Nat.le_of_ble_eq_true rfl⟩ rfl (Nat.le_of_ble_eq_true rfl) dX8_drift_61 rfl ?_
          refine V_goto (q := 199) dX8_drift_64 rfl ?_
          refine V_iinc (q := 202) (v := 1) (L' := [some (.ref (ad (xY X) 43)), some (.int c1), none, some (.long x5), none, some (.int i5), some (.int (i6 + 1)), none]) dX8_drift_199 rfl rfl iconst_1 (Nat.le_of_ble_eq_true rfl) rfl ?_
          refine V_goto (q := 32) dX8_drift_202 rfl ?_
          exact ih (s64) (x5) (i5) ((i6 + 1)) h
set_option maxRecDepth 20000 in
theorem ct_X8_drift (Y : Yc) {σ : Sg} {a1 : Int32} {a2 : Int32} {r : Int32} {σr : Sg} (h : f_X8_drift σ a1 a2 = some (r, σr)) : Ct M_X8_drift yX8_drift Y [.ref (ad Y 43), .int a1, .int a2] σ (some (.int r)) σr := by
  refine Ct_intro [some (.ref (ad Y 43)), some (.int a1), some (.int a2), none, none, none, none, none] (by decide +kernel) rfl (Nat.le_of_ble_eq_true rfl) rfl (fun X hY => ?_) ⟨rfl, rfl⟩
  subst hY
  unfold f_X8_drift at h
  refine V_iload_n (q := 1) dX8_drift_0 rfl rfl ?_
  refine V_iconst (q := 2) (v := 1) dX8_drift_1 rfl iconst_1 ?_
  refine V_bipush (q := 4) (v := 30) dX8_drift_2 rfl bipush_30 ?_
  obtain ⟨x1, hc2, h⟩ := cP_ok h
  refine V_cs1 (q := 7) (As := [.int a1, .int 1, .int 30]) (rest := []) (ct_X8_in (xY X) hc2) ce_X8_in st_yX8_in ml_RX8_44 rfl ⟨Nat.le_of_ble_eq_true rfl, Nat.le_of_ble_eq_true rfl⟩ rfl (Nat.le_of_ble_eq_true rfl) dX8_drift_4 rfl ?_
  refine V_if_eq (q := 20) (q2 := 10) dX8_drift_7 rfl rfl (fun hb70 => ?_) (fun hb70 => ?_)
  · replace h := it h hb70
    refine V_ldc (q := 22) kc_RX8_52 dX8_drift_20 rfl ?_
    cases h
    exact V_iret rfl dX8_drift_22
  · replace h := ie h hb70
    refine V_iload_n (q := 11) dX8_drift_10 rfl rfl ?_
    refine V_iconst (q := 12) (v := 1) dX8_drift_11 rfl iconst_1 ?_
    refine V_ldc (q := 14) kc_RX8_131 dX8_drift_12 rfl ?_
    obtain ⟨x3, hc4, h⟩ := cP_ok h
    refine V_cs1 (q := 17) (As := [.int a2, .int 1, .int (999999 : Int32)]) (rest := []) (ct_X8_in (xY X) hc4) ce_X8_in st_yX8_in ml_RX8_44 rfl ⟨Nat.le_of_ble_eq_true rfl, Nat.le_of_ble_eq_true rfl⟩ rfl (Nat.le_of_ble_eq_true rfl) dX8_drift_14 rfl ?_
    refine V_if_ne (q := 23) (q2 := 20) dX8_drift_17 rfl rfl (fun hb69 => ?_) (fun hb69 => ?_)
    · replace h := ie h hb69
      refine V_iload_n (q := 24) dX8_drift_23 rfl rfl ?_
      refine V_i2l (q := 25) dX8_drift_24 rfl ?_
      refine V_lstore_n (q := 26) (L' := [some (.ref (ad (xY X) 43)), some (.int a1), some (.int a2), some (.long (Int32.toInt64 a2)), none, none, none, none]) dX8_drift_25 rfl (Nat.le_of_ble_eq_true rfl) rfl ?_
      refine V_iconst (q := 27) (v := 1) dX8_drift_26 rfl iconst_1 ?_
      refine V_istore (q := 29) (L' := [some (.ref (ad (xY X) 43)), some (.int a1), some (.int a2), some (.long (Int32.toInt64 a2)), none, some (.int 1), none, none]) dX8_drift_27 rfl (Nat.le_of_ble_eq_true rfl) rfl ?_
      refine V_iconst (q := 30) (v := 0) dX8_drift_29 rfl iconst_0 ?_
      refine V_istore (q := 32) (L' := [some (.ref (ad (xY X) 43)), some (.int a1), some (.int a2), some (.long (Int32.toInt64 a2)), none, some (.int 1), some (.int 0), none]) dX8_drift_30 rfl (Nat.le_of_ble_eq_true rfl) rfl ?_
      refine V_msk (L' := [some (.ref (ad (xY X) 43)), some (.int a1), none, some (.long (Int32.toInt64 a2)), none, some (.int 1), some (.int 0), none]) [true, true, false, true, true, true, true, true] rfl ?_
      refine w_X8_drift_L32 (fun s68 h => ?_) fu (σ) ((Int32.toInt64 a2)) (1) (0) h
      refine V_aload_n (q := 206) dX8_drift_205 rfl rfl ?_
      refine V_geti (k := 43) (j := 6) (q := 209) clz_7 dX8_drift_206 rfl rfl rfl (Nat.le_of_ble_eq_true rfl) fl_RX8_104 ?_
      cases h
      exact V_iret rfl dX8_drift_209
    · replace h := it h hb69
      refine V_ldc (q := 22) kc_RX8_52 dX8_drift_20 rfl ?_
      cases h
      exact V_iret rfl dX8_drift_22
def M_X6_isWord : Mc := (RX6, cX6_isWord, 2, { frames := 0, cells := 0, slots := 0, locals := 0 }, (some .boolean))
theorem ce_X6_isWord : Cee M_X6_isWord yX6_isWord 1 := ⟨cd_yX6_isWord, ini_RX6, ⟨by decide +kernel, by decide +kernel, by decide +kernel⟩, rfl, rfl⟩
set_option maxRecDepth 20000 in
theorem ct_X6_isWord (Y : Yc) {σ : Sg} {a1 : Int32} {r : Int32} (h : f_X6_isWord σ a1 = some r) : Ct M_X6_isWord yX6_isWord Y [.ref (ad Y 26), .int a1] σ (some (.int r)) σ := by
  refine Ct_intro [some (.ref (ad Y 26)), some (.int a1)] (by decide +kernel) rfl (Nat.le_of_ble_eq_true rfl) rfl (fun X hY => ?_) ⟨rfl, rfl⟩
  subst hY
  unfold f_X6_isWord at h
  refine V_iload_n (q := 1) dX6_isWord_0 rfl rfl ?_
  refine V_if_lt (q := 16) (q2 := 4) dX6_isWord_1 rfl rfl (fun hb2 => ?_) (fun hb2 => ?_)
  · replace h := it h hb2
    refine V_iconst (q := 17) (v := 0) dX6_isWord_16 rfl iconst_0 ?_
    cases h
    exact V_zret rfl rfl dX6_isWord_17
  · replace h := ie h hb2
    refine V_iload_n (q := 5) dX6_isWord_4 rfl rfl ?_
    refine V_aload_n (q := 6) dX6_isWord_5 rfl rfl ?_
    refine V_geti (k := 26) (j := 0) (q := 9) clz_5 dX6_isWord_6 rfl rfl rfl (Nat.le_of_ble_eq_true rfl) fl_RX6_23 ?_
    refine V_icmp_ge (q := 16) (q2 := 12) dX6_isWord_9 rfl rfl (fun hb1 => ?_) (fun hb1 => ?_)
    · replace h := it h hb1
      refine V_iconst (q := 17) (v := 0) dX6_isWord_16 rfl iconst_0 ?_
      cases h
      exact V_zret rfl rfl dX6_isWord_17
    · replace h := ie h hb1
      refine V_iconst (q := 13) (v := 1) dX6_isWord_12 rfl iconst_1 ?_
      refine V_goto (q := 17) dX6_isWord_13 rfl ?_
      cases h
      exact V_zret rfl rfl dX6_isWord_17
def M_X4_reach : Mc := (RX4, cX4_reach, 4, { frames := 1, cells := 0, slots := 0, locals := 23 }, (some .int))
theorem ce_X4_reach : Cee M_X4_reach yX4_reach 1 := ⟨cd_yX4_reach, ini_RX4, ⟨by decide +kernel, by decide +kernel, by decide +kernel⟩, rfl, rfl⟩
set_option maxRecDepth 20000 in
theorem w_X4_reach_L8 {X : Xc} {σ : Sg} {c1 : Int32} {c2 : Int32} {r : Int32} {k : Option Int32}
    (hk : k = some r → V X M_X4_reach (mq X (some (.int r)) σ) 37 [some (.ref (ad (xY X) 30)), some (.int c1), some (.int c2), none] [] σ) :
    ∀ (n : Nat) (i3 : Int32), f_X4_reach_L8 k σ c1 c2 n i3 = some r → V X M_X4_reach (mq X (some (.int r)) σ) 8 [some (.ref (ad (xY X) 30)), some (.int c1), some (.int c2), some (.int i3)] [] σ := by
  intro n
  induction n with
  | zero => intro i3 h; cases h
  | succ n ih =>
    intro i3 h
    rw [f_X4_reach_L8] at h
    refine V_iload_n (q := 9) dX4_reach_8 rfl rfl ?_
    refine V_aload_n (q := 10) dX4_reach_9 rfl rfl ?_
    refine V_getr (k := 30) (j := 0) (q := 13) clz_3 dX4_reach_10 rfl rfl rfl (Nat.le_of_ble_eq_true rfl) fl_RX4_9 ?_
    refine V_geti (k := 4) (j := 0) (q := 16) clz_0 dX4_reach_13 rfl rfl rfl (Nat.le_of_ble_eq_true rfl) fl_RX4_82 ?_
    refine V_icmp_ge (q := 37) (q2 := 19) dX4_reach_16 rfl rfl (fun hb4 => ?_) (fun hb4 => ?_)
    · replace h := it h hb4
      refine V_msk (L' := [some (.ref (ad (xY X) 30)), some (.int c1), some (.int c2), none]) [true, true, true, false] rfl ?_
      exact hk  h
    · replace h := ie h hb4
      refine V_aload_n (q := 20) dX4_reach_19 rfl rfl ?_
      refine V_iload_n (q := 21) dX4_reach_20 rfl rfl ?_
      refine V_iload_n (q := 22) dX4_reach_21 rfl rfl ?_
      refine V_iload_n (q := 23) dX4_reach_22 rfl rfl ?_
      obtain ⟨x1, hc2, h⟩ := cP_ok h
      refine V_cv1 (k := 30) (q := 26) (As := [.int c1, .int i3, .int c2]) (rest := []) (ct_X4_hasBegun (xY X) hc2) ce_X4_hasBegun clz_3 rfl im_yX4_hasBegun se_yX4_hasBegun rfl ml_RX4_88 rfl ⟨Nat.le_of_ble_eq_true rfl, Nat.le_of_ble_eq_true rfl⟩ rfl (Nat.le_of_ble_eq_true rfl) dX4_reach_23 rfl ?_
      refine V_if_eq (q := 31) (q2 := 29) dX4_reach_26 rfl rfl (fun hb3 => ?_) (fun hb3 => ?_)
      · replace h := it h hb3
        refine V_iinc (q := 34) (v := 1) (L' := [some (.ref (ad (xY X) 30)), some (.int c1), some (.int c2), some (.int (i3 + 1))]) dX4_reach_31 rfl rfl iconst_1 (Nat.le_of_ble_eq_true rfl) rfl ?_
        refine V_goto (q := 8) dX4_reach_34 rfl ?_
        exact ih ((i3 + 1)) h
      · replace h := ie h hb3
        refine V_iload_n (q := 30) dX4_reach_29 rfl rfl ?_
        cases h
        exact V_iret rfl dX4_reach_30
set_option maxRecDepth 20000 in
theorem w_X4_reach_L2 {X : Xc} {σ : Sg} {c1 : Int32} {r : Int32} {k : Option Int32}
    (hk : k = some r → V X M_X4_reach (mq X (some (.int r)) σ) 43 [none, none, none, none] [] σ) :
    ∀ (n : Nat) (i2 : Int32), f_X4_reach_L2 k σ c1 n i2 = some r → V X M_X4_reach (mq X (some (.int r)) σ) 2 [some (.ref (ad (xY X) 30)), some (.int c1), some (.int i2), none] [] σ := by
  intro n
  induction n with
  | zero => intro i2 h; cases h
  | succ n ih =>
    intro i2 h
    rw [f_X4_reach_L2] at h
    refine V_iload_n (q := 3) dX4_reach_2 rfl rfl ?_
    refine V_if_le (q := 43) (q2 := 6) dX4_reach_3 rfl rfl (fun hb5 => ?_) (fun hb5 => ?_)
    · replace h := it h hb5
      refine V_msk (L' := [none, none, none, none]) [false, false, false, true] rfl ?_
      exact hk  h
    · replace h := ie h hb5
      refine V_iconst (q := 7) (v := 0) dX4_reach_6 rfl iconst_0 ?_
      refine V_istore_n (q := 8) (L' := [some (.ref (ad (xY X) 30)), some (.int c1), some (.int i2), some (.int 0)]) dX4_reach_7 rfl (Nat.le_of_ble_eq_true rfl) rfl ?_
      refine w_X4_reach_L8 (fun h => ?_) fu (0) h
      refine V_iinc (q := 40) (v := (-1)) (L' := [some (.ref (ad (xY X) 30)), some (.int c1), some (.int (i2 + (-1))), none]) dX4_reach_37 rfl rfl iconst_m1 (Nat.le_of_ble_eq_true rfl) rfl ?_
      refine V_goto (q := 2) dX4_reach_40 rfl ?_
      exact ih ((i2 + (-1))) h
set_option maxRecDepth 20000 in
theorem ct_X4_reach (Y : Yc) {σ : Sg} {a1 : Int32} {r : Int32} (h : f_X4_reach σ a1 = some r) : Ct M_X4_reach yX4_reach Y [.ref (ad Y 30), .int a1] σ (some (.int r)) σ := by
  refine Ct_intro [some (.ref (ad Y 30)), some (.int a1), none, none] (by decide +kernel) rfl (Nat.le_of_ble_eq_true rfl) rfl (fun X hY => ?_) ⟨rfl, rfl⟩
  subst hY
  unfold f_X4_reach at h
  refine V_iconst (q := 1) (v := 4) dX4_reach_0 rfl iconst_4 ?_
  refine V_istore_n (q := 2) (L' := [some (.ref (ad (xY X) 30)), some (.int a1), some (.int 4), none]) dX4_reach_1 rfl (Nat.le_of_ble_eq_true rfl) rfl ?_
  refine w_X4_reach_L2 (fun h => ?_) fu (4) h
  refine V_iconst (q := 44) (v := 0) dX4_reach_43 rfl iconst_0 ?_
  cases h
  exact V_iret rfl dX4_reach_44
def M_X4_termsOver : Mc := (RX4, cX4_termsOver, 5, { frames := 1, cells := 0, slots := 0, locals := 22 }, (some .int))
theorem ce_X4_termsOver : Cee M_X4_termsOver yX4_termsOver 1 := ⟨cd_yX4_termsOver, ini_RX4, ⟨by decide +kernel, by decide +kernel, by decide +kernel⟩, rfl, rfl⟩
set_option maxRecDepth 20000 in
theorem w_X4_termsOver_L18 {X : Xc} {σ : Sg} {c1 : Int32} {c3 : Int32} {r : Int32} {k : Int32 → Option Int32}
    (hk : ∀ (i2 : Int32), k i2 = some r → V X M_X4_termsOver (mq X (some (.int r)) σ) 62 [some (.ref (ad (xY X) 30)), some (.int c1), some (.int i2), some (.int c3), none] [] σ) :
    ∀ (n : Nat) (i2 : Int32) (i4 : Int32), f_X4_termsOver_L18 k σ c1 c3 n i2 i4 = some r → V X M_X4_termsOver (mq X (some (.int r)) σ) 18 [some (.ref (ad (xY X) 30)), some (.int c1), some (.int i2), some (.int c3), some (.int i4)] [] σ := by
  intro n
  induction n with
  | zero => intro i2 i4 h; cases h
  | succ n ih =>
    intro i2 i4 h
    rw [f_X4_termsOver_L18] at h
    refine V_iload (q := 20) dX4_termsOver_18 rfl rfl ?_
    refine V_aload_n (q := 21) dX4_termsOver_20 rfl rfl ?_
    refine V_getr (k := 30) (j := 0) (q := 24) clz_3 dX4_termsOver_21 rfl rfl rfl (Nat.le_of_ble_eq_true rfl) fl_RX4_9 ?_
    refine V_getr (k := 4) (j := 2) (q := 27) clz_0 dX4_termsOver_24 rfl rfl rfl (Nat.le_of_ble_eq_true rfl) fl_RX4_85 ?_
    refine V_iload_n (q := 28) dX4_termsOver_27 rfl rfl ?_
    obtain ⟨hi2, x1, ex3, h⟩ := rI_ok h
    refine V_iald (k := 6) (q := 29) dX4_termsOver_28 rfl rfl hi2 ex3 ?_
    refine V_icmp_ge (q := 62) (q2 := 32) dX4_termsOver_29 rfl rfl (fun hb8 => ?_) (fun hb8 => ?_)
    · replace h := it h hb8
      refine V_msk (L' := [some (.ref (ad (xY X) 30)), some (.int c1), some (.int i2), some (.int c3), none]) [true, true, true, true, false] rfl ?_
      exact hk (i2) h
    · replace h := ie h hb8
      refine V_iload (q := 34) dX4_termsOver_32 rfl rfl ?_
      refine V_iload_n (q := 35) dX4_termsOver_34 rfl rfl ?_
      refine V_icmp_gt (q := 62) (q2 := 38) dX4_termsOver_35 rfl rfl (fun hb7 => ?_) (fun hb7 => ?_)
      · replace h := it h hb7
        refine V_msk (L' := [some (.ref (ad (xY X) 30)), some (.int c1), some (.int i2), some (.int c3), none]) [true, true, true, true, false] rfl ?_
        exact hk (i2) h
      · replace h := ie h hb7
        refine V_aload_n (q := 39) dX4_termsOver_38 rfl rfl ?_
        refine V_iload_n (q := 40) dX4_termsOver_39 rfl rfl ?_
        refine V_iload (q := 42) dX4_termsOver_40 rfl rfl ?_
        refine V_isub (q := 43) dX4_termsOver_42 rfl ?_
        refine V_iload_n (q := 44) dX4_termsOver_43 rfl rfl ?_
        obtain ⟨x4, hc5, h⟩ := cP_ok h
        refine V_cv1 (k := 30) (q := 47) (As := [.int (c1 - i4), .int c3]) (rest := []) (ct_X4_isFound (xY X) hc5) ce_X4_isFound clz_3 rfl im_yX4_isFound se_yX4_isFound rfl ml_RX4_136 rfl ⟨Nat.le_of_ble_eq_true rfl, Nat.le_of_ble_eq_true rfl⟩ rfl (Nat.le_of_ble_eq_true rfl) dX4_termsOver_44 rfl ?_
        refine V_if_eq (q := 56) (q2 := 50) dX4_termsOver_47 rfl rfl (fun hb6 => ?_) (fun hb6 => ?_)
        · replace h := it h hb6
          refine V_iinc (q := 59) (v := 1) (L' := [some (.ref (ad (xY X) 30)), some (.int c1), some (.int i2), some (.int c3), some (.int (i4 + 1))]) dX4_termsOver_56 rfl rfl iconst_1 (Nat.le_of_ble_eq_true rfl) rfl ?_
          refine V_goto (q := 18) dX4_termsOver_59 rfl ?_
          exact ih (i2) ((i4 + 1)) h
        · replace h := ie h hb6
          refine V_iload_n (q := 51) dX4_termsOver_50 rfl rfl ?_
          refine V_iconst (q := 52) (v := 1) dX4_termsOver_51 rfl iconst_1 ?_
          refine V_iload_n (q := 53) dX4_termsOver_52 rfl rfl ?_
          refine V_ishl (q := 54) dX4_termsOver_53 rfl ?_
          refine V_ior (q := 55) dX4_termsOver_54 rfl ?_
          refine V_istore_n (q := 56) (L' := [some (.ref (ad (xY X) 30)), some (.int c1), some (.int (i2 ||| (1 <<< (c3 &&& 31)))), some (.int c3), some (.int i4)]) dX4_termsOver_55 rfl (Nat.le_of_ble_eq_true rfl) rfl ?_
          refine V_iinc (q := 59) (v := 1) (L' := [some (.ref (ad (xY X) 30)), some (.int c1), some (.int (i2 ||| (1 <<< (c3 &&& 31)))), some (.int c3), some (.int (i4 + 1))]) dX4_termsOver_56 rfl rfl iconst_1 (Nat.le_of_ble_eq_true rfl) rfl ?_
          refine V_goto (q := 18) dX4_termsOver_59 rfl ?_
          exact ih ((i2 ||| (1 <<< (c3 &&& 31)))) ((i4 + 1)) h
set_option maxRecDepth 20000 in
theorem w_X4_termsOver_L4 {X : Xc} {σ : Sg} {c1 : Int32} {r : Int32} {k : Int32 → Option Int32}
    (hk : ∀ (i2 : Int32), k i2 = some r → V X M_X4_termsOver (mq X (some (.int r)) σ) 68 [none, none, some (.int i2), none, none] [] σ) :
    ∀ (n : Nat) (i2 : Int32) (i3 : Int32), f_X4_termsOver_L4 k σ c1 n i2 i3 = some r → V X M_X4_termsOver (mq X (some (.int r)) σ) 4 [some (.ref (ad (xY X) 30)), some (.int c1), some (.int i2), some (.int i3), none] [] σ := by
  intro n
  induction n with
  | zero => intro i2 i3 h; cases h
  | succ n ih =>
    intro i2 i3 h
    rw [f_X4_termsOver_L4] at h
    refine V_iload_n (q := 5) dX4_termsOver_4 rfl rfl ?_
    refine V_aload_n (q := 6) dX4_termsOver_5 rfl rfl ?_
    refine V_getr (k := 30) (j := 0) (q := 9) clz_3 dX4_termsOver_6 rfl rfl rfl (Nat.le_of_ble_eq_true rfl) fl_RX4_9 ?_
    refine V_geti (k := 4) (j := 0) (q := 12) clz_0 dX4_termsOver_9 rfl rfl rfl (Nat.le_of_ble_eq_true rfl) fl_RX4_82 ?_
    refine V_icmp_ge (q := 68) (q2 := 15) dX4_termsOver_12 rfl rfl (fun hb10 => ?_) (fun hb10 => ?_)
    · replace h := it h hb10
      refine V_msk (L' := [none, none, some (.int i2), none, none]) [false, false, true, false, true] rfl ?_
      exact hk (i2) h
    · replace h := ie h hb10
      refine V_iconst (q := 16) (v := 0) dX4_termsOver_15 rfl iconst_0 ?_
      refine V_istore (q := 18) (L' := [some (.ref (ad (xY X) 30)), some (.int c1), some (.int i2), some (.int i3), some (.int 0)]) dX4_termsOver_16 rfl (Nat.le_of_ble_eq_true rfl) rfl ?_
      refine w_X4_termsOver_L18 (fun v9 h => ?_) fu (i2) (0) h
      refine V_iinc (q := 65) (v := 1) (L' := [some (.ref (ad (xY X) 30)), some (.int c1), some (.int v9), some (.int (i3 + 1)), none]) dX4_termsOver_62 rfl rfl iconst_1 (Nat.le_of_ble_eq_true rfl) rfl ?_
      refine V_goto (q := 4) dX4_termsOver_65 rfl ?_
      exact ih (v9) ((i3 + 1)) h
set_option maxRecDepth 20000 in
theorem ct_X4_termsOver (Y : Yc) {σ : Sg} {a1 : Int32} {r : Int32} (h : f_X4_termsOver σ a1 = some r) : Ct M_X4_termsOver yX4_termsOver Y [.ref (ad Y 30), .int a1] σ (some (.int r)) σ := by
  refine Ct_intro [some (.ref (ad Y 30)), some (.int a1), none, none, none] (by decide +kernel) rfl (Nat.le_of_ble_eq_true rfl) rfl (fun X hY => ?_) ⟨rfl, rfl⟩
  subst hY
  unfold f_X4_termsOver at h
  refine V_iconst (q := 1) (v := 0) dX4_termsOver_0 rfl iconst_0 ?_
  refine V_istore_n (q := 2) (L' := [some (.ref (ad (xY X) 30)), some (.int a1), some (.int 0), none, none]) dX4_termsOver_1 rfl (Nat.le_of_ble_eq_true rfl) rfl ?_
  refine V_iconst (q := 3) (v := 0) dX4_termsOver_2 rfl iconst_0 ?_
  refine V_istore_n (q := 4) (L' := [some (.ref (ad (xY X) 30)), some (.int a1), some (.int 0), some (.int 0), none]) dX4_termsOver_3 rfl (Nat.le_of_ble_eq_true rfl) rfl ?_
  refine w_X4_termsOver_L4 (fun v11 h => ?_) fu (0) (0) h
  refine V_iload_n (q := 69) dX4_termsOver_68 rfl rfl ?_
  cases h
  exact V_iret rfl dX4_termsOver_69
def M_X7_word : Mc := (RX7, cX7_word, 3, { frames := 6, cells := 0, slots := 0, locals := 143 }, (some .int))
theorem ce_X7_word : Cee M_X7_word yX7_word 2 := ⟨cd_yX7_word, ini_RX7, ⟨by decide +kernel, by decide +kernel, by decide +kernel⟩, rfl, rfl⟩
set_option maxRecDepth 20000 in
theorem ct_X7_word (Y : Yc) {σ : Sg} {a1 : Int32} {a2 : Int32} {r : Int32} {σr : Sg} (h : f_X7_word σ a1 a2 = some (r, σr)) : Ct M_X7_word yX7_word Y [.ref (ad Y 0), .int a1, .int a2] σ (some (.int r)) σr := by
  refine Ct_intro [some (.ref (ad Y 0)), some (.int a1), some (.int a2)] (by decide +kernel) rfl (Nat.le_of_ble_eq_true rfl) rfl (fun X hY => ?_) ⟨rfl, rfl⟩
  subst hY
  unfold f_X7_word at h
  refine V_aload_n (q := 1) dX7_word_0 rfl rfl ?_
  refine V_getr (k := 0) (j := 3) (q := 4) clz_6 dX7_word_1 rfl rfl rfl (Nat.le_of_ble_eq_true rfl) fl_RX7_30 ?_
  refine V_iload_n (q := 5) dX7_word_4 rfl rfl ?_
  obtain ⟨x1, hc2, h⟩ := cP_ok h
  refine V_cv1 (k := 26) (q := 8) (As := [.int a1]) (rest := []) (ct_X6_isWord (xY X) hc2) ce_X6_isWord clz_5 rfl im_yX6_isWord se_yX6_isWord rfl ml_RX7_206 rfl ⟨Nat.le_of_ble_eq_true rfl, Nat.le_of_ble_eq_true rfl⟩ rfl (Nat.le_of_ble_eq_true rfl) dX7_word_5 rfl ?_
  refine V_if_ne (q := 14) (q2 := 11) dX7_word_8 rfl rfl (fun hb37 => ?_) (fun hb37 => ?_)
  · replace h := ie h hb37
    refine V_iload_n (q := 15) dX7_word_14 rfl rfl ?_
    by_cases hb3 : a2 = 0
    · replace h := it h hb3
      refine V_tsIn (q := 52) 0 hb3 dX7_word_15 (by decide) (by decide) rfl rfl ?_
      refine V_aload_n (q := 53) dX7_word_52 rfl rfl ?_
      refine V_getr (k := 0) (j := 3) (q := 56) clz_6 dX7_word_53 rfl rfl rfl (Nat.le_of_ble_eq_true rfl) fl_RX7_30 ?_
      refine V_getr (k := 26) (j := 1) (q := 59) clz_5 dX7_word_56 rfl rfl rfl (Nat.le_of_ble_eq_true rfl) fl_RX7_209 ?_
      refine V_iload_n (q := 60) dX7_word_59 rfl rfl ?_
      obtain ⟨hi5, x4, ex6, h⟩ := rL_ok h
      refine V_lald (k := 27) (q := 61) dX7_word_60 rfl rfl hi5 ex6 ?_
      obtain ⟨x7, hc8, h⟩ := cP_ok h
      refine V_cs1 (q := 64) (As := [.long x4]) (rest := []) (ct_X0_sizeOf (xY X) hc8) ce_X0_sizeOf st_yX0_sizeOf ml_RX7_100 rfl ⟨Nat.le_of_ble_eq_true rfl, Nat.le_of_ble_eq_true rfl⟩ rfl (Nat.le_of_ble_eq_true rfl) dX7_word_61 rfl ?_
      cases h
      exact V_iret rfl dX7_word_64
    replace h := ie h hb3
    by_cases hb9 : a2 = 1
    · replace h := it h hb9
      refine V_tsIn (q := 65) 1 hb9 dX7_word_15 (by decide) (by decide) rfl rfl ?_
      refine V_aload_n (q := 66) dX7_word_65 rfl rfl ?_
      refine V_getr (k := 0) (j := 3) (q := 69) clz_6 dX7_word_66 rfl rfl rfl (Nat.le_of_ble_eq_true rfl) fl_RX7_30 ?_
      refine V_getr (k := 26) (j := 3) (q := 72) clz_5 dX7_word_69 rfl rfl rfl (Nat.le_of_ble_eq_true rfl) fl_RX7_210 ?_
      refine V_iload_n (q := 73) dX7_word_72 rfl rfl ?_
      obtain ⟨hi11, x10, ex12, h⟩ := rI_ok h
      refine V_iald (k := 29) (q := 74) dX7_word_73 rfl rfl hi11 ex12 ?_
      cases h
      exact V_iret rfl dX7_word_74
    replace h := ie h hb9
    by_cases hb13 : a2 = 2
    · replace h := it h hb13
      refine V_tsIn (q := 75) 2 hb13 dX7_word_15 (by decide) (by decide) rfl rfl ?_
      refine V_aload_n (q := 76) dX7_word_75 rfl rfl ?_
      refine V_getr (k := 0) (j := 3) (q := 79) clz_6 dX7_word_76 rfl rfl rfl (Nat.le_of_ble_eq_true rfl) fl_RX7_30 ?_
      refine V_getr (k := 26) (j := 2) (q := 82) clz_5 dX7_word_79 rfl rfl rfl (Nat.le_of_ble_eq_true rfl) fl_RX7_213 ?_
      refine V_iload_n (q := 83) dX7_word_82 rfl rfl ?_
      obtain ⟨hi15, x14, ex16, h⟩ := rI_ok h
      refine V_zald (k := 28) (q := 84) dX7_word_83 rfl rfl hi15 ex16 ?_
      refine V_if_eq (q := 91) (q2 := 87) dX7_word_84 rfl rfl (fun hb17 => ?_) (fun hb17 => ?_)
      · replace h := it h hb17
        refine V_iconst (q := 92) (v := 0) dX7_word_91 rfl iconst_0 ?_
        cases h
        exact V_iret rfl dX7_word_92
      · replace h := ie h hb17
        refine V_iconst (q := 88) (v := 1) dX7_word_87 rfl iconst_1 ?_
        refine V_goto (q := 92) dX7_word_88 rfl ?_
        cases h
        exact V_iret rfl dX7_word_92
    replace h := ie h hb13
    by_cases hb18 : a2 = 3
    · replace h := it h hb18
      refine V_tsIn (q := 93) 3 hb18 dX7_word_15 (by decide) (by decide) rfl rfl ?_
      refine V_aload_n (q := 94) dX7_word_93 rfl rfl ?_
      obtain ⟨x19, s21, hc20, h⟩ := cA_ok h
      refine V_cv1 (k := 0) (q := 97) (As := []) (rest := []) (ct_X7_settled (xY X) hc20) ce_X7_settled clz_6 rfl im_yX7_settled se_yX7_settled rfl ml_RX7_159 rfl ⟨Nat.le_of_ble_eq_true rfl, Nat.le_of_ble_eq_true rfl⟩ rfl (Nat.le_of_ble_eq_true rfl) dX7_word_94 rfl ?_
      refine V_iload_n (q := 98) dX7_word_97 rfl rfl ?_
      obtain ⟨x22, hc23, h⟩ := cP_ok h
      refine V_cv1 (k := 30) (q := 101) (As := [.int a1]) (rest := []) (ct_X4_reach (xY X) hc23) ce_X4_reach clz_3 rfl im_yX4_reach se_yX4_reach rfl ml_RX7_217 rfl ⟨Nat.le_of_ble_eq_true rfl, Nat.le_of_ble_eq_true rfl⟩ rfl (Nat.le_of_ble_eq_true rfl) dX7_word_98 rfl ?_
      cases h
      exact V_iret rfl dX7_word_101
    replace h := ie h hb18
    by_cases hb24 : a2 = 4
    · replace h := it h hb24
      refine V_tsIn (q := 102) 4 hb24 dX7_word_15 (by decide) (by decide) rfl rfl ?_
      refine V_aload_n (q := 103) dX7_word_102 rfl rfl ?_
      obtain ⟨x25, s27, hc26, h⟩ := cA_ok h
      refine V_cv1 (k := 0) (q := 106) (As := []) (rest := []) (ct_X7_settled (xY X) hc26) ce_X7_settled clz_6 rfl im_yX7_settled se_yX7_settled rfl ml_RX7_159 rfl ⟨Nat.le_of_ble_eq_true rfl, Nat.le_of_ble_eq_true rfl⟩ rfl (Nat.le_of_ble_eq_true rfl) dX7_word_103 rfl ?_
      refine V_iload_n (q := 107) dX7_word_106 rfl rfl ?_
      obtain ⟨x28, hc29, h⟩ := cP_ok h
      refine V_cv1 (k := 30) (q := 110) (As := [.int a1]) (rest := []) (ct_X4_termsOver (xY X) hc29) ce_X4_termsOver clz_3 rfl im_yX4_termsOver se_yX4_termsOver rfl ml_RX7_220 rfl ⟨Nat.le_of_ble_eq_true rfl, Nat.le_of_ble_eq_true rfl⟩ rfl (Nat.le_of_ble_eq_true rfl) dX7_word_107 rfl ?_
      cases h
      exact V_iret rfl dX7_word_110
    replace h := ie h hb24
    by_cases hb30 : a2 = 5
    · replace h := it h hb30
      refine V_tsIn (q := 111) 5 hb30 dX7_word_15 (by decide) (by decide) rfl rfl ?_
      refine V_aload_n (q := 112) dX7_word_111 rfl rfl ?_
      obtain ⟨x31, s33, hc32, h⟩ := cA_ok h
      refine V_cv1 (k := 0) (q := 115) (As := []) (rest := []) (ct_X7_settled (xY X) hc32) ce_X7_settled clz_6 rfl im_yX7_settled se_yX7_settled rfl ml_RX7_159 rfl ⟨Nat.le_of_ble_eq_true rfl, Nat.le_of_ble_eq_true rfl⟩ rfl (Nat.le_of_ble_eq_true rfl) dX7_word_112 rfl ?_
      refine V_getr (k := 30) (j := 14) (q := 118) clz_3 dX7_word_115 rfl rfl rfl (Nat.le_of_ble_eq_true rfl) fl_RX7_223 ?_
      refine V_iload_n (q := 119) dX7_word_118 rfl rfl ?_
      obtain ⟨hi35, x34, ex36, h⟩ := rI_ok h
      refine V_iald (k := 39) (q := 120) dX7_word_119 rfl rfl hi35 ex36 ?_
      cases h
      exact V_iret rfl dX7_word_120
    replace h := ie h hb30
    refine V_tsOut (q := 121) 5 ⟨hb30, hb24, hb18, hb13, hb9, hb3, trivial⟩ (by decide) rfl rfl dX7_word_15 rfl ?_
    refine V_ldc (q := 123) kc_RX7_65 dX7_word_121 rfl ?_
    cases h
    exact V_iret rfl dX7_word_123
  · replace h := it h hb37
    refine V_ldc (q := 13) kc_RX7_114 dX7_word_11 rfl ?_
    cases h
    exact V_iret rfl dX7_word_13
def M_X8_isWord : Mc := (RX8, cX8_isWord, 2, { frames := 1, cells := 0, slots := 0, locals := 22 }, (some .boolean))
theorem ce_X8_isWord : Cee M_X8_isWord yX8_isWord 1 := ⟨cd_yX8_isWord, ini_RX8, ⟨by decide +kernel, by decide +kernel, by decide +kernel⟩, rfl, rfl⟩
set_option maxRecDepth 20000 in
theorem ct_X8_isWord (Y : Yc) {σ : Sg} {a1 : Int32} {r : Int32} (h : f_X8_isWord σ a1 = some r) : Ct M_X8_isWord yX8_isWord Y [.ref (ad Y 43), .int a1] σ (some (.int r)) σ := by
  refine Ct_intro [some (.ref (ad Y 43)), some (.int a1)] (by decide +kernel) rfl (Nat.le_of_ble_eq_true rfl) rfl (fun X hY => ?_) ⟨rfl, rfl⟩
  subst hY
  unfold f_X8_isWord at h
  refine V_iload_n (q := 1) dX8_isWord_0 rfl rfl ?_
  refine V_iconst (q := 2) (v := 0) dX8_isWord_1 rfl iconst_0 ?_
  refine V_aload_n (q := 3) dX8_isWord_2 rfl rfl ?_
  refine V_geti (k := 43) (j := 6) (q := 6) clz_7 dX8_isWord_3 rfl rfl rfl (Nat.le_of_ble_eq_true rfl) fl_RX8_104 ?_
  refine V_iconst (q := 7) (v := 1) dX8_isWord_6 rfl iconst_1 ?_
  refine V_isub (q := 8) dX8_isWord_7 rfl ?_
  obtain ⟨x1, hc2, h⟩ := cP_ok h
  refine V_cs1 (q := 11) (As := [.int a1, .int 0, .int ((σ.1 43 6) - 1)]) (rest := []) (ct_X8_in (xY X) hc2) ce_X8_in st_yX8_in ml_RX8_44 rfl ⟨Nat.le_of_ble_eq_true rfl, Nat.le_of_ble_eq_true rfl⟩ rfl (Nat.le_of_ble_eq_true rfl) dX8_isWord_8 rfl ?_
  obtain ⟨hb3, h⟩ := mH_ok h
  cases h
  exact V_zret rfl (nz01 hb3) dX8_isWord_11
def M_X8_reach : Mc := (RX8, cX8_reach, 5, { frames := 3, cells := 0, slots := 0, locals := 76 }, (some .int))
theorem ce_X8_reach : Cee M_X8_reach yX8_reach 1 := ⟨cd_yX8_reach, ini_RX8, ⟨by decide +kernel, by decide +kernel, by decide +kernel⟩, rfl, rfl⟩
set_option maxRecDepth 20000 in
theorem w_X8_reach_L17 {X : Xc} {σ : Sg} {c1 : Int32} {c3 : Int32} {r : Int32} {k : Int32 → Option Int32}
    (hk : ∀ (i2 : Int32), k i2 = some r → V X M_X8_reach (mq X (some (.int r)) σ) 68 [some (.ref (ad (xY X) 43)), some (.int c1), some (.int i2), some (.int c3), none] [] σ) :
    ∀ (n : Nat) (i2 : Int32) (i4 : Int32), f_X8_reach_L17 k σ c1 c3 n i2 i4 = some r → V X M_X8_reach (mq X (some (.int r)) σ) 17 [some (.ref (ad (xY X) 43)), some (.int c1), some (.int i2), some (.int c3), some (.int i4)] [] σ := by
  intro n
  induction n with
  | zero => intro i2 i4 h; cases h
  | succ n ih =>
    intro i2 i4 h
    rw [f_X8_reach_L17] at h
    refine V_iload (q := 19) dX8_reach_17 rfl rfl ?_
    refine V_aload_n (q := 20) dX8_reach_19 rfl rfl ?_
    refine V_getr (k := 43) (j := 0) (q := 23) clz_7 dX8_reach_20 rfl rfl rfl (Nat.le_of_ble_eq_true rfl) fl_RX8_7 ?_
    refine V_iload_n (q := 24) dX8_reach_23 rfl rfl ?_
    obtain ⟨x4, hc5, h⟩ := cP_ok h
    refine V_cs1 (q := 27) (As := [.int c3]) (rest := [.ref (ad (xY X) 44), .int i4]) (ct_X8_termAt (xY X) hc5) ce_X8_termAt st_yX8_termAt ml_RX8_58 rfl ⟨Nat.le_of_ble_eq_true rfl, Nat.le_of_ble_eq_true rfl⟩ rfl (Nat.le_of_ble_eq_true rfl) dX8_reach_24 rfl ?_
    refine V_iconst (q := 28) (v := 0) dX8_reach_27 rfl iconst_0 ?_
    refine V_iadd (q := 29) dX8_reach_28 rfl ?_
    obtain ⟨hi7, x6, ex8, h⟩ := rI_ok h
    refine V_iald (k := 44) (q := 30) dX8_reach_29 rfl rfl hi7 ex8 ?_
    refine V_icmp_gt (q := 68) (q2 := 33) dX8_reach_30 rfl rfl (fun hb16 => ?_) (fun hb16 => ?_)
    · replace h := it h hb16
      refine V_msk (L' := [some (.ref (ad (xY X) 43)), some (.int c1), some (.int i2), some (.int c3), none]) [true, true, true, true, false] rfl ?_
      exact hk (i2) h
    · replace h := ie h hb16
      refine V_iload (q := 35) dX8_reach_33 rfl rfl ?_
      refine V_iload_n (q := 36) dX8_reach_35 rfl rfl ?_
      obtain ⟨k9, ek9, h⟩ := jn_ok h
      have hk9 : ∀ (v10 : Int32) (v11 : Int32), k9 v10 v11 = some r → V X M_X8_reach (mq X (some (.int r)) σ) 60 [some (.ref (ad (xY X) 43)), some (.int c1), some (.int v10), some (.int c3), some (.int v11)] [] σ := by
        clear h
        intro v10 v11 h
        rw [ek9] at h
        refine V_iload_n (q := 61) dX8_reach_60 rfl rfl ?_
        refine V_istore_n (q := 62) (L' := [some (.ref (ad (xY X) 43)), some (.int c1), some (.int v10), some (.int c3), some (.int v11)]) dX8_reach_61 rfl (Nat.le_of_ble_eq_true rfl) rfl ?_
        refine V_iinc (q := 65) (v := 1) (L' := [some (.ref (ad (xY X) 43)), some (.int c1), some (.int v10), some (.int c3), some (.int (v11 + 1))]) dX8_reach_62 rfl rfl iconst_1 (Nat.le_of_ble_eq_true rfl) rfl ?_
        refine V_goto (q := 17) dX8_reach_65 rfl ?_
        exact ih (v10) ((v11 + 1)) h
      refine V_icmp_le (q := 60) (q2 := 39) dX8_reach_36 rfl rfl (fun hb15 => ?_) (fun hb15 => ?_)
      · replace h := it h hb15
        exact hk9 (i2) (i4) h
      · replace h := ie h hb15
        refine V_aload_n (q := 40) dX8_reach_39 rfl rfl ?_
        refine V_iload_n (q := 41) dX8_reach_40 rfl rfl ?_
        refine V_iload_n (q := 42) dX8_reach_41 rfl rfl ?_
        refine V_iload (q := 44) dX8_reach_42 rfl rfl ?_
        refine V_isub (q := 45) dX8_reach_44 rfl ?_
        refine V_iconst (q := 46) (v := 1) dX8_reach_45 rfl iconst_1 ?_
        refine V_iadd (q := 47) dX8_reach_46 rfl ?_
        refine V_iload (q := 49) dX8_reach_47 rfl rfl ?_
        obtain ⟨x12, hc13, h⟩ := cP_ok h
        refine V_cv1 (k := 43) (q := 52) (As := [.int c3, .int ((c1 - i4) + 1), .int i4]) (rest := []) (ct_X8_isMet (xY X) hc13) ce_X8_isMet clz_7 rfl im_yX8_isMet se_yX8_isMet rfl ml_RX8_152 rfl ⟨Nat.le_of_ble_eq_true rfl, Nat.le_of_ble_eq_true rfl⟩ rfl (Nat.le_of_ble_eq_true rfl) dX8_reach_49 rfl ?_
        refine V_if_eq (q := 60) (q2 := 55) dX8_reach_52 rfl rfl (fun hb14 => ?_) (fun hb14 => ?_)
        · replace h := it h hb14
          exact hk9 (i2) (i4) h
        · replace h := ie h hb14
          refine V_iload (q := 57) dX8_reach_55 rfl rfl ?_
          refine V_goto (q := 61) dX8_reach_57 rfl ?_
          refine V_istore_n (q := 62) (L' := [some (.ref (ad (xY X) 43)), some (.int c1), some (.int i4), some (.int c3), some (.int i4)]) dX8_reach_61 rfl (Nat.le_of_ble_eq_true rfl) rfl ?_
          refine V_iinc (q := 65) (v := 1) (L' := [some (.ref (ad (xY X) 43)), some (.int c1), some (.int i4), some (.int c3), some (.int (i4 + 1))]) dX8_reach_62 rfl rfl iconst_1 (Nat.le_of_ble_eq_true rfl) rfl ?_
          refine V_goto (q := 17) dX8_reach_65 rfl ?_
          exact ih (i4) ((i4 + 1)) h
set_option maxRecDepth 20000 in
theorem w_X8_reach_L4 {X : Xc} {σ : Sg} {c1 : Int32} {r : Int32} {k : Int32 → Option Int32}
    (hk : ∀ (i2 : Int32), k i2 = some r → V X M_X8_reach (mq X (some (.int r)) σ) 74 [none, none, some (.int i2), none, none] [] σ) :
    ∀ (n : Nat) (i2 : Int32) (i3 : Int32), f_X8_reach_L4 k σ c1 n i2 i3 = some r → V X M_X8_reach (mq X (some (.int r)) σ) 4 [some (.ref (ad (xY X) 43)), some (.int c1), some (.int i2), some (.int i3), none] [] σ := by
  intro n
  induction n with
  | zero => intro i2 i3 h; cases h
  | succ n ih =>
    intro i2 i3 h
    rw [f_X8_reach_L4] at h
    refine V_iload_n (q := 5) dX8_reach_4 rfl rfl ?_
    refine V_aload_n (q := 6) dX8_reach_5 rfl rfl ?_
    refine V_getr (k := 43) (j := 0) (q := 9) clz_7 dX8_reach_6 rfl rfl rfl (Nat.le_of_ble_eq_true rfl) fl_RX8_7 ?_
    refine V_iconst (q := 10) (v := 0) dX8_reach_9 rfl iconst_0 ?_
    obtain ⟨hi2, x1, ex3, h⟩ := rI_ok h
    refine V_iald (k := 44) (q := 11) dX8_reach_10 rfl rfl hi2 ex3 ?_
    refine V_icmp_ge (q := 74) (q2 := 14) dX8_reach_11 rfl rfl (fun hb18 => ?_) (fun hb18 => ?_)
    · replace h := it h hb18
      refine V_msk (L' := [none, none, some (.int i2), none, none]) [false, false, true, false, true] rfl ?_
      exact hk (i2) h
    · replace h := ie h hb18
      refine V_iconst (q := 15) (v := 1) dX8_reach_14 rfl iconst_1 ?_
      refine V_istore (q := 17) (L' := [some (.ref (ad (xY X) 43)), some (.int c1), some (.int i2), some (.int i3), some (.int 1)]) dX8_reach_15 rfl (Nat.le_of_ble_eq_true rfl) rfl ?_
      refine w_X8_reach_L17 (fun v17 h => ?_) fu (i2) (1) h
      refine V_iinc (q := 71) (v := 1) (L' := [some (.ref (ad (xY X) 43)), some (.int c1), some (.int v17), some (.int (i3 + 1)), none]) dX8_reach_68 rfl rfl iconst_1 (Nat.le_of_ble_eq_true rfl) rfl ?_
      refine V_goto (q := 4) dX8_reach_71 rfl ?_
      exact ih (v17) ((i3 + 1)) h
set_option maxRecDepth 20000 in
theorem ct_X8_reach (Y : Yc) {σ : Sg} {a1 : Int32} {r : Int32} (h : f_X8_reach σ a1 = some r) : Ct M_X8_reach yX8_reach Y [.ref (ad Y 43), .int a1] σ (some (.int r)) σ := by
  refine Ct_intro [some (.ref (ad Y 43)), some (.int a1), none, none, none] (by decide +kernel) rfl (Nat.le_of_ble_eq_true rfl) rfl (fun X hY => ?_) ⟨rfl, rfl⟩
  subst hY
  unfold f_X8_reach at h
  refine V_iconst (q := 1) (v := 0) dX8_reach_0 rfl iconst_0 ?_
  refine V_istore_n (q := 2) (L' := [some (.ref (ad (xY X) 43)), some (.int a1), some (.int 0), none, none]) dX8_reach_1 rfl (Nat.le_of_ble_eq_true rfl) rfl ?_
  refine V_iconst (q := 3) (v := 0) dX8_reach_2 rfl iconst_0 ?_
  refine V_istore_n (q := 4) (L' := [some (.ref (ad (xY X) 43)), some (.int a1), some (.int 0), some (.int 0), none]) dX8_reach_3 rfl (Nat.le_of_ble_eq_true rfl) rfl ?_
  refine w_X8_reach_L4 (fun v19 h => ?_) fu (0) (0) h
  refine V_iload_n (q := 75) dX8_reach_74 rfl rfl ?_
  cases h
  exact V_iret rfl dX8_reach_75
def M_X8_foundOver : Mc := (RX8, cX8_foundOver, 5, { frames := 4, cells := 0, slots := 0, locals := 98 }, (some .int))
theorem ce_X8_foundOver : Cee M_X8_foundOver yX8_foundOver 1 := ⟨cd_yX8_foundOver, ini_RX8, ⟨by decide +kernel, by decide +kernel, by decide +kernel⟩, rfl, rfl⟩
set_option maxRecDepth 20000 in
theorem w_X8_foundOver_L17 {X : Xc} {σ : Sg} {c1 : Int32} {c3 : Int32} {r : Int32} {k : Int32 → Option Int32}
    (hk : ∀ (i2 : Int32), k i2 = some r → V X M_X8_foundOver (mq X (some (.int r)) σ) 61 [some (.ref (ad (xY X) 43)), some (.int c1), some (.int i2), some (.int c3), none] [] σ) :
    ∀ (n : Nat) (i2 : Int32) (i4 : Int32), f_X8_foundOver_L17 k σ c1 c3 n i2 i4 = some r → V X M_X8_foundOver (mq X (some (.int r)) σ) 17 [some (.ref (ad (xY X) 43)), some (.int c1), some (.int i2), some (.int c3), some (.int i4)] [] σ := by
  intro n
  induction n with
  | zero => intro i2 i4 h; cases h
  | succ n ih =>
    intro i2 i4 h
    rw [f_X8_foundOver_L17] at h
    refine V_iload (q := 19) dX8_foundOver_17 rfl rfl ?_
    refine V_aload_n (q := 20) dX8_foundOver_19 rfl rfl ?_
    refine V_getr (k := 43) (j := 0) (q := 23) clz_7 dX8_foundOver_20 rfl rfl rfl (Nat.le_of_ble_eq_true rfl) fl_RX8_7 ?_
    refine V_iload_n (q := 24) dX8_foundOver_23 rfl rfl ?_
    obtain ⟨x4, hc5, h⟩ := cP_ok h
    refine V_cs1 (q := 27) (As := [.int c3]) (rest := [.ref (ad (xY X) 44), .int i4]) (ct_X8_termAt (xY X) hc5) ce_X8_termAt st_yX8_termAt ml_RX8_58 rfl ⟨Nat.le_of_ble_eq_true rfl, Nat.le_of_ble_eq_true rfl⟩ rfl (Nat.le_of_ble_eq_true rfl) dX8_foundOver_24 rfl ?_
    refine V_iconst (q := 28) (v := 0) dX8_foundOver_27 rfl iconst_0 ?_
    refine V_iadd (q := 29) dX8_foundOver_28 rfl ?_
    obtain ⟨hi7, x6, ex8, h⟩ := rI_ok h
    refine V_iald (k := 44) (q := 30) dX8_foundOver_29 rfl rfl hi7 ex8 ?_
    refine V_icmp_ge (q := 61) (q2 := 33) dX8_foundOver_30 rfl rfl (fun hb14 => ?_) (fun hb14 => ?_)
    · replace h := it h hb14
      refine V_msk (L' := [some (.ref (ad (xY X) 43)), some (.int c1), some (.int i2), some (.int c3), none]) [true, true, true, true, false] rfl ?_
      exact hk (i2) h
    · replace h := ie h hb14
      refine V_iload_n (q := 34) dX8_foundOver_33 rfl rfl ?_
      refine V_aload_n (q := 35) dX8_foundOver_34 rfl rfl ?_
      refine V_iload_n (q := 36) dX8_foundOver_35 rfl rfl ?_
      refine V_iload_n (q := 37) dX8_foundOver_36 rfl rfl ?_
      refine V_iload (q := 39) dX8_foundOver_37 rfl rfl ?_
      refine V_isub (q := 40) dX8_foundOver_39 rfl ?_
      obtain ⟨x9, hc10, h⟩ := cP_ok h
      refine V_cv1 (k := 43) (q := 43) (As := [.int c3, .int (c1 - i4)]) (rest := [.int i2]) (ct_X8_isFound (xY X) hc10) ce_X8_isFound clz_7 rfl im_yX8_isFound se_yX8_isFound rfl ml_RX8_107 rfl ⟨Nat.le_of_ble_eq_true rfl, Nat.le_of_ble_eq_true rfl⟩ rfl (Nat.le_of_ble_eq_true rfl) dX8_foundOver_40 rfl ?_
      obtain ⟨k11, ek11, h⟩ := jn_ok h
      have hk11 : ∀ (v12 : Int32), k11 v12 = some r → V X M_X8_foundOver (mq X (some (.int r)) σ) 53 [some (.ref (ad (xY X) 43)), some (.int c1), none, some (.int c3), some (.int i4)] [.int v12, .int i2] σ := by
        clear h
        intro v12 h
        rw [ek11] at h
        refine V_ior (q := 54) dX8_foundOver_53 rfl ?_
        refine V_istore_n (q := 55) (L' := [some (.ref (ad (xY X) 43)), some (.int c1), some (.int (i2 ||| v12)), some (.int c3), some (.int i4)]) dX8_foundOver_54 rfl (Nat.le_of_ble_eq_true rfl) rfl ?_
        refine V_iinc (q := 58) (v := 1) (L' := [some (.ref (ad (xY X) 43)), some (.int c1), some (.int (i2 ||| v12)), some (.int c3), some (.int (i4 + 1))]) dX8_foundOver_55 rfl rfl iconst_1 (Nat.le_of_ble_eq_true rfl) rfl ?_
        refine V_goto (q := 17) dX8_foundOver_58 rfl ?_
        exact ih ((i2 ||| v12)) ((i4 + 1)) h
      refine V_if_eq (q := 52) (q2 := 46) dX8_foundOver_43 rfl rfl (fun hb13 => ?_) (fun hb13 => ?_)
      · replace h := it h hb13
        refine V_iconst (q := 53) (v := 0) dX8_foundOver_52 rfl iconst_0 ?_
        refine V_msk (L' := [some (.ref (ad (xY X) 43)), some (.int c1), none, some (.int c3), some (.int i4)]) [true, true, false, true, true] rfl ?_
        exact hk11 (0) h
      · replace h := ie h hb13
        refine V_iconst (q := 47) (v := 1) dX8_foundOver_46 rfl iconst_1 ?_
        refine V_iload_n (q := 48) dX8_foundOver_47 rfl rfl ?_
        refine V_ishl (q := 49) dX8_foundOver_48 rfl ?_
        refine V_goto (q := 53) dX8_foundOver_49 rfl ?_
        refine V_msk (L' := [some (.ref (ad (xY X) 43)), some (.int c1), none, some (.int c3), some (.int i4)]) [true, true, false, true, true] rfl ?_
        exact hk11 ((1 <<< (c3 &&& 31))) h
set_option maxRecDepth 20000 in
theorem w_X8_foundOver_L4 {X : Xc} {σ : Sg} {c1 : Int32} {r : Int32} {k : Int32 → Option Int32}
    (hk : ∀ (i2 : Int32), k i2 = some r → V X M_X8_foundOver (mq X (some (.int r)) σ) 67 [none, none, some (.int i2), none, none] [] σ) :
    ∀ (n : Nat) (i2 : Int32) (i3 : Int32), f_X8_foundOver_L4 k σ c1 n i2 i3 = some r → V X M_X8_foundOver (mq X (some (.int r)) σ) 4 [some (.ref (ad (xY X) 43)), some (.int c1), some (.int i2), some (.int i3), none] [] σ := by
  intro n
  induction n with
  | zero => intro i2 i3 h; cases h
  | succ n ih =>
    intro i2 i3 h
    rw [f_X8_foundOver_L4] at h
    refine V_iload_n (q := 5) dX8_foundOver_4 rfl rfl ?_
    refine V_aload_n (q := 6) dX8_foundOver_5 rfl rfl ?_
    refine V_getr (k := 43) (j := 0) (q := 9) clz_7 dX8_foundOver_6 rfl rfl rfl (Nat.le_of_ble_eq_true rfl) fl_RX8_7 ?_
    refine V_iconst (q := 10) (v := 0) dX8_foundOver_9 rfl iconst_0 ?_
    obtain ⟨hi2, x1, ex3, h⟩ := rI_ok h
    refine V_iald (k := 44) (q := 11) dX8_foundOver_10 rfl rfl hi2 ex3 ?_
    refine V_icmp_ge (q := 67) (q2 := 14) dX8_foundOver_11 rfl rfl (fun hb16 => ?_) (fun hb16 => ?_)
    · replace h := it h hb16
      refine V_msk (L' := [none, none, some (.int i2), none, none]) [false, false, true, false, true] rfl ?_
      exact hk (i2) h
    · replace h := ie h hb16
      refine V_iconst (q := 15) (v := 0) dX8_foundOver_14 rfl iconst_0 ?_
      refine V_istore (q := 17) (L' := [some (.ref (ad (xY X) 43)), some (.int c1), some (.int i2), some (.int i3), some (.int 0)]) dX8_foundOver_15 rfl (Nat.le_of_ble_eq_true rfl) rfl ?_
      refine w_X8_foundOver_L17 (fun v15 h => ?_) fu (i2) (0) h
      refine V_iinc (q := 64) (v := 1) (L' := [some (.ref (ad (xY X) 43)), some (.int c1), some (.int v15), some (.int (i3 + 1)), none]) dX8_foundOver_61 rfl rfl iconst_1 (Nat.le_of_ble_eq_true rfl) rfl ?_
      refine V_goto (q := 4) dX8_foundOver_64 rfl ?_
      exact ih (v15) ((i3 + 1)) h
set_option maxRecDepth 20000 in
theorem ct_X8_foundOver (Y : Yc) {σ : Sg} {a1 : Int32} {r : Int32} (h : f_X8_foundOver σ a1 = some r) : Ct M_X8_foundOver yX8_foundOver Y [.ref (ad Y 43), .int a1] σ (some (.int r)) σ := by
  refine Ct_intro [some (.ref (ad Y 43)), some (.int a1), none, none, none] (by decide +kernel) rfl (Nat.le_of_ble_eq_true rfl) rfl (fun X hY => ?_) ⟨rfl, rfl⟩
  subst hY
  unfold f_X8_foundOver at h
  refine V_iconst (q := 1) (v := 0) dX8_foundOver_0 rfl iconst_0 ?_
  refine V_istore_n (q := 2) (L' := [some (.ref (ad (xY X) 43)), some (.int a1), some (.int 0), none, none]) dX8_foundOver_1 rfl (Nat.le_of_ble_eq_true rfl) rfl ?_
  refine V_iconst (q := 3) (v := 0) dX8_foundOver_2 rfl iconst_0 ?_
  refine V_istore_n (q := 4) (L' := [some (.ref (ad (xY X) 43)), some (.int a1), some (.int 0), some (.int 0), none]) dX8_foundOver_3 rfl (Nat.le_of_ble_eq_true rfl) rfl ?_
  refine w_X8_foundOver_L4 (fun v17 h => ?_) fu (0) (0) h
  refine V_iload_n (q := 68) dX8_foundOver_67 rfl rfl ?_
  cases h
  exact V_iret rfl dX8_foundOver_68
def M_X8_chosenOver : Mc := (RX8, cX8_chosenOver, 4, { frames := 5, cells := 0, slots := 0, locals := 124 }, (some .int))
theorem ce_X8_chosenOver : Cee M_X8_chosenOver yX8_chosenOver 1 := ⟨cd_yX8_chosenOver, ini_RX8, ⟨by decide +kernel, by decide +kernel, by decide +kernel⟩, rfl, rfl⟩
set_option maxRecDepth 20000 in
theorem w_X8_chosenOver_L8 {X : Xc} {σ : Sg} {c1 : Int32} {r : Int32} {σr : Sg} {k : Option (Int32 × Sg)}
    (hk : k = some (r, σr) → V X M_X8_chosenOver (mq X (some (.int r)) σr) 56 [none, none, none, none] [] σ) :
    ∀ (n : Nat) (i2 : Int32) (i3 : Int32), f_X8_chosenOver_L8 k σ c1 n i2 i3 = some (r, σr) → V X M_X8_chosenOver (mq X (some (.int r)) σr) 8 [some (.ref (ad (xY X) 43)), some (.int c1), some (.int i2), some (.int i3)] [] σ := by
  intro n
  induction n with
  | zero => intro i2 i3 h; cases h
  | succ n ih =>
    intro i2 i3 h
    rw [f_X8_chosenOver_L8] at h
    refine V_iload_n (q := 9) dX8_chosenOver_8 rfl rfl ?_
    refine V_iload_n (q := 10) dX8_chosenOver_9 rfl rfl ?_
    refine V_icmp_gt (q := 56) (q2 := 13) dX8_chosenOver_10 rfl rfl (fun hb17 => ?_) (fun hb17 => ?_)
    · replace h := it h hb17
      refine V_msk (L' := [none, none, none, none]) [false, false, false, false] rfl ?_
      exact hk  h
    · replace h := ie h hb17
      refine V_aload_n (q := 14) dX8_chosenOver_13 rfl rfl ?_
      refine V_getr (k := 43) (j := 12) (q := 17) clz_7 dX8_chosenOver_14 rfl rfl rfl (Nat.le_of_ble_eq_true rfl) fl_RX8_38 ?_
      refine V_iload_n (q := 18) dX8_chosenOver_17 rfl rfl ?_
      obtain ⟨hi5, x4, ex6, h⟩ := rI_ok h
      refine V_iald (k := 53) (q := 19) dX8_chosenOver_18 rfl rfl hi5 ex6 ?_
      refine V_iconst (q := 20) (v := (-1)) dX8_chosenOver_19 rfl iconst_m1 ?_
      refine V_icmp_eq (q := 50) (q2 := 23) dX8_chosenOver_20 rfl rfl (fun hb16 => ?_) (fun hb16 => ?_)
      · replace h := it h hb16
        refine V_iinc (q := 53) (v := 1) (L' := [some (.ref (ad (xY X) 43)), some (.int c1), some (.int i2), some (.int (i3 + 1))]) dX8_chosenOver_50 rfl rfl iconst_1 (Nat.le_of_ble_eq_true rfl) rfl ?_
        refine V_goto (q := 8) dX8_chosenOver_53 rfl ?_
        exact ih (i2) ((i3 + 1)) h
      · replace h := ie h hb16
        refine V_iload_n (q := 24) dX8_chosenOver_23 rfl rfl ?_
        refine V_aload_n (q := 25) dX8_chosenOver_24 rfl rfl ?_
        refine V_getr (k := 43) (j := 0) (q := 28) clz_7 dX8_chosenOver_25 rfl rfl rfl (Nat.le_of_ble_eq_true rfl) fl_RX8_7 ?_
        refine V_aload_n (q := 29) dX8_chosenOver_28 rfl rfl ?_
        refine V_getr (k := 43) (j := 12) (q := 32) clz_7 dX8_chosenOver_29 rfl rfl rfl (Nat.le_of_ble_eq_true rfl) fl_RX8_38 ?_
        refine V_iload_n (q := 33) dX8_chosenOver_32 rfl rfl ?_
        obtain ⟨hi8, x7, ex9, h⟩ := rI_ok h
        refine V_iald (k := 53) (q := 34) dX8_chosenOver_33 rfl rfl hi8 ex9 ?_
        obtain ⟨x10, hc11, h⟩ := cP_ok h
        refine V_cs1 (q := 37) (As := [.int x7]) (rest := [.ref (ad (xY X) 44), .int i3]) (ct_X8_termAt (xY X) hc11) ce_X8_termAt st_yX8_termAt ml_RX8_58 rfl ⟨Nat.le_of_ble_eq_true rfl, Nat.le_of_ble_eq_true rfl⟩ rfl (Nat.le_of_ble_eq_true rfl) dX8_chosenOver_34 rfl ?_
        refine V_iconst (q := 38) (v := 0) dX8_chosenOver_37 rfl iconst_0 ?_
        refine V_iadd (q := 39) dX8_chosenOver_38 rfl ?_
        obtain ⟨hi13, x12, ex14, h⟩ := rI_ok h
        refine V_iald (k := 44) (q := 40) dX8_chosenOver_39 rfl rfl hi13 ex14 ?_
        refine V_iadd (q := 41) dX8_chosenOver_40 rfl ?_
        refine V_iload_n (q := 42) dX8_chosenOver_41 rfl rfl ?_
        refine V_icmp_le (q := 47) (q2 := 45) dX8_chosenOver_42 rfl rfl (fun hb15 => ?_) (fun hb15 => ?_)
        · replace h := it h hb15
          refine V_iinc (q := 50) (v := 1) (L' := [some (.ref (ad (xY X) 43)), some (.int c1), some (.int (i2 + 1)), some (.int i3)]) dX8_chosenOver_47 rfl rfl iconst_1 (Nat.le_of_ble_eq_true rfl) rfl ?_
          refine V_iinc (q := 53) (v := 1) (L' := [some (.ref (ad (xY X) 43)), some (.int c1), some (.int (i2 + 1)), some (.int (i3 + 1))]) dX8_chosenOver_50 rfl rfl iconst_1 (Nat.le_of_ble_eq_true rfl) rfl ?_
          refine V_goto (q := 8) dX8_chosenOver_53 rfl ?_
          exact ih ((i2 + 1)) ((i3 + 1)) h
        · replace h := ie h hb15
          refine V_iload_n (q := 46) dX8_chosenOver_45 rfl rfl ?_
          cases h
          exact V_iret rfl dX8_chosenOver_46
set_option maxRecDepth 20000 in
theorem ct_X8_chosenOver (Y : Yc) {σ : Sg} {a1 : Int32} {r : Int32} {σr : Sg} (h : f_X8_chosenOver σ a1 = some (r, σr)) : Ct M_X8_chosenOver yX8_chosenOver Y [.ref (ad Y 43), .int a1] σ (some (.int r)) σr := by
  refine Ct_intro [some (.ref (ad Y 43)), some (.int a1), none, none] (by decide +kernel) rfl (Nat.le_of_ble_eq_true rfl) rfl (fun X hY => ?_) ⟨rfl, rfl⟩
  subst hY
  unfold f_X8_chosenOver at h
  refine V_aload_n (q := 1) dX8_chosenOver_0 rfl rfl ?_
  obtain ⟨x1, s3, hc2, h⟩ := cA_ok h
  refine V_cv0 (k := 43) (q := 4) (As := []) (rest := []) (ct_X8_choose (xY X) hc2) ce_X8_choose clz_7 rfl im_yX8_choose se_yX8_choose rfl ml_RX8_101 rfl ⟨Nat.le_of_ble_eq_true rfl, Nat.le_of_ble_eq_true rfl⟩ rfl (Nat.le_of_ble_eq_true rfl) dX8_chosenOver_1 rfl ?_
  refine V_iconst (q := 5) (v := 0) dX8_chosenOver_4 rfl iconst_0 ?_
  refine V_istore_n (q := 6) (L' := [some (.ref (ad (xY X) 43)), some (.int a1), some (.int 0), none]) dX8_chosenOver_5 rfl (Nat.le_of_ble_eq_true rfl) rfl ?_
  refine V_iconst (q := 7) (v := 0) dX8_chosenOver_6 rfl iconst_0 ?_
  refine V_istore_n (q := 8) (L' := [some (.ref (ad (xY X) 43)), some (.int a1), some (.int 0), some (.int 0)]) dX8_chosenOver_7 rfl (Nat.le_of_ble_eq_true rfl) rfl ?_
  refine w_X8_chosenOver_L8 (fun h => ?_) fu (0) (0) h
  refine V_iconst (q := 57) (v := (-1)) dX8_chosenOver_56 rfl iconst_m1 ?_
  cases h
  exact V_iret rfl dX8_chosenOver_57
def M_X8_word : Mc := (RX8, cX8_word, 3, { frames := 6, cells := 0, slots := 0, locals := 147 }, (some .int))
theorem ce_X8_word : Cee M_X8_word yX8_word 2 := ⟨cd_yX8_word, ini_RX8, ⟨by decide +kernel, by decide +kernel, by decide +kernel⟩, rfl, rfl⟩
set_option maxRecDepth 20000 in
theorem ct_X8_word (Y : Yc) {σ : Sg} {a1 : Int32} {a2 : Int32} {r : Int32} {σr : Sg} (h : f_X8_word σ a1 a2 = some (r, σr)) : Ct M_X8_word yX8_word Y [.ref (ad Y 43), .int a1, .int a2] σ (some (.int r)) σr := by
  refine Ct_intro [some (.ref (ad Y 43)), some (.int a1), some (.int a2)] (by decide +kernel) rfl (Nat.le_of_ble_eq_true rfl) rfl (fun X hY => ?_) ⟨rfl, rfl⟩
  subst hY
  unfold f_X8_word at h
  refine V_aload_n (q := 1) dX8_word_0 rfl rfl ?_
  refine V_iload_n (q := 2) dX8_word_1 rfl rfl ?_
  obtain ⟨x1, hc2, h⟩ := cP_ok h
  refine V_cv1 (k := 43) (q := 5) (As := [.int a1]) (rest := []) (ct_X8_isWord (xY X) hc2) ce_X8_isWord clz_7 rfl im_yX8_isWord se_yX8_isWord rfl ml_RX8_158 rfl ⟨Nat.le_of_ble_eq_true rfl, Nat.le_of_ble_eq_true rfl⟩ rfl (Nat.le_of_ble_eq_true rfl) dX8_word_2 rfl ?_
  refine V_if_ne (q := 11) (q2 := 8) dX8_word_5 rfl rfl (fun hb25 => ?_) (fun hb25 => ?_)
  · replace h := ie h hb25
    refine V_iload_n (q := 12) dX8_word_11 rfl rfl ?_
    by_cases hb3 : a2 = 0
    · replace h := it h hb3
      refine V_tsIn (q := 52) 0 hb3 dX8_word_12 (by decide) (by decide) rfl rfl ?_
      refine V_aload_n (q := 53) dX8_word_52 rfl rfl ?_
      refine V_getr (k := 43) (j := 5) (q := 56) clz_7 dX8_word_53 rfl rfl rfl (Nat.le_of_ble_eq_true rfl) fl_RX8_23 ?_
      refine V_bipush (q := 58) (v := 15) dX8_word_56 rfl bipush_15 ?_
      refine V_iload_n (q := 59) dX8_word_58 rfl rfl ?_
      refine V_imul (q := 60) dX8_word_59 rfl ?_
      refine V_iload_n (q := 61) dX8_word_60 rfl rfl ?_
      refine V_iadd (q := 62) dX8_word_61 rfl ?_
      obtain ⟨hi5, x4, ex6, h⟩ := rI_ok h
      refine V_iald (k := 48) (q := 63) dX8_word_62 rfl rfl hi5 ex6 ?_
      cases h
      exact V_iret rfl dX8_word_63
    replace h := ie h hb3
    by_cases hb7 : a2 = 1
    · replace h := it h hb7
      refine V_tsIn (q := 52) 1 hb7 dX8_word_12 (by decide) (by decide) rfl rfl ?_
      refine V_aload_n (q := 53) dX8_word_52 rfl rfl ?_
      refine V_getr (k := 43) (j := 5) (q := 56) clz_7 dX8_word_53 rfl rfl rfl (Nat.le_of_ble_eq_true rfl) fl_RX8_23 ?_
      refine V_bipush (q := 58) (v := 15) dX8_word_56 rfl bipush_15 ?_
      refine V_iload_n (q := 59) dX8_word_58 rfl rfl ?_
      refine V_imul (q := 60) dX8_word_59 rfl ?_
      refine V_iload_n (q := 61) dX8_word_60 rfl rfl ?_
      refine V_iadd (q := 62) dX8_word_61 rfl ?_
      obtain ⟨hi9, x8, ex10, h⟩ := rI_ok h
      refine V_iald (k := 48) (q := 63) dX8_word_62 rfl rfl hi9 ex10 ?_
      cases h
      exact V_iret rfl dX8_word_63
    replace h := ie h hb7
    by_cases hb11 : a2 = 2
    · replace h := it h hb11
      refine V_tsIn (q := 52) 2 hb11 dX8_word_12 (by decide) (by decide) rfl rfl ?_
      refine V_aload_n (q := 53) dX8_word_52 rfl rfl ?_
      refine V_getr (k := 43) (j := 5) (q := 56) clz_7 dX8_word_53 rfl rfl rfl (Nat.le_of_ble_eq_true rfl) fl_RX8_23 ?_
      refine V_bipush (q := 58) (v := 15) dX8_word_56 rfl bipush_15 ?_
      refine V_iload_n (q := 59) dX8_word_58 rfl rfl ?_
      refine V_imul (q := 60) dX8_word_59 rfl ?_
      refine V_iload_n (q := 61) dX8_word_60 rfl rfl ?_
      refine V_iadd (q := 62) dX8_word_61 rfl ?_
      obtain ⟨hi13, x12, ex14, h⟩ := rI_ok h
      refine V_iald (k := 48) (q := 63) dX8_word_62 rfl rfl hi13 ex14 ?_
      cases h
      exact V_iret rfl dX8_word_63
    replace h := ie h hb11
    by_cases hb15 : a2 = 3
    · replace h := it h hb15
      refine V_tsIn (q := 64) 3 hb15 dX8_word_12 (by decide) (by decide) rfl rfl ?_
      refine V_aload_n (q := 65) dX8_word_64 rfl rfl ?_
      refine V_iload_n (q := 66) dX8_word_65 rfl rfl ?_
      obtain ⟨x16, hc17, h⟩ := cP_ok h
      refine V_cv1 (k := 43) (q := 69) (As := [.int a1]) (rest := []) (ct_X8_reach (xY X) hc17) ce_X8_reach clz_7 rfl im_yX8_reach se_yX8_reach rfl ml_RX8_161 rfl ⟨Nat.le_of_ble_eq_true rfl, Nat.le_of_ble_eq_true rfl⟩ rfl (Nat.le_of_ble_eq_true rfl) dX8_word_66 rfl ?_
      cases h
      exact V_iret rfl dX8_word_69
    replace h := ie h hb15
    by_cases hb18 : a2 = 4
    · replace h := it h hb18
      refine V_tsIn (q := 70) 4 hb18 dX8_word_12 (by decide) (by decide) rfl rfl ?_
      refine V_aload_n (q := 71) dX8_word_70 rfl rfl ?_
      refine V_iload_n (q := 72) dX8_word_71 rfl rfl ?_
      obtain ⟨x19, hc20, h⟩ := cP_ok h
      refine V_cv1 (k := 43) (q := 75) (As := [.int a1]) (rest := []) (ct_X8_foundOver (xY X) hc20) ce_X8_foundOver clz_7 rfl im_yX8_foundOver se_yX8_foundOver rfl ml_RX8_164 rfl ⟨Nat.le_of_ble_eq_true rfl, Nat.le_of_ble_eq_true rfl⟩ rfl (Nat.le_of_ble_eq_true rfl) dX8_word_72 rfl ?_
      cases h
      exact V_iret rfl dX8_word_75
    replace h := ie h hb18
    by_cases hb21 : a2 = 5
    · replace h := it h hb21
      refine V_tsIn (q := 76) 5 hb21 dX8_word_12 (by decide) (by decide) rfl rfl ?_
      refine V_aload_n (q := 77) dX8_word_76 rfl rfl ?_
      refine V_iload_n (q := 78) dX8_word_77 rfl rfl ?_
      obtain ⟨x22, s24, hc23, h⟩ := cA_ok h
      refine V_cv1 (k := 43) (q := 81) (As := [.int a1]) (rest := []) (ct_X8_chosenOver (xY X) hc23) ce_X8_chosenOver clz_7 rfl im_yX8_chosenOver se_yX8_chosenOver rfl ml_RX8_167 rfl ⟨Nat.le_of_ble_eq_true rfl, Nat.le_of_ble_eq_true rfl⟩ rfl (Nat.le_of_ble_eq_true rfl) dX8_word_78 rfl ?_
      cases h
      exact V_iret rfl dX8_word_81
    replace h := ie h hb21
    refine V_tsOut (q := 82) 5 ⟨hb21, hb18, hb15, hb11, hb7, hb3, trivial⟩ (by decide) rfl rfl dX8_word_12 rfl ?_
    refine V_ldc (q := 84) kc_RX8_52 dX8_word_82 rfl ?_
    cases h
    exact V_iret rfl dX8_word_84
  · replace h := it h hb25
    refine V_ldc (q := 10) kc_RX8_88 dX8_word_8 rfl ?_
    cases h
    exact V_iret rfl dX8_word_10
def M_X4_foundCount : Mc := (RX4, cX4_foundCount, 3, { frames := 1, cells := 0, slots := 0, locals := 20 }, (some .int))
theorem ce_X4_foundCount : Cee M_X4_foundCount yX4_foundCount 0 := ⟨cd_yX4_foundCount, ini_RX4, ⟨by decide +kernel, by decide +kernel, by decide +kernel⟩, rfl, rfl⟩
set_option maxRecDepth 20000 in
theorem w_X4_foundCount_L4 {X : Xc} {σ : Sg} {r : Int32} {k : Int32 → Option Int32}
    (hk : ∀ (i1 : Int32), k i1 = some r → V X M_X4_foundCount (mq X (some (.int r)) σ) 33 [none, some (.int i1), none] [] σ) :
    ∀ (n : Nat) (i1 : Int32) (i2 : Int32), f_X4_foundCount_L4 k σ n i1 i2 = some r → V X M_X4_foundCount (mq X (some (.int r)) σ) 4 [some (.ref (ad (xY X) 30)), some (.int i1), some (.int i2)] [] σ := by
  intro n
  induction n with
  | zero => intro i1 i2 h; cases h
  | succ n ih =>
    intro i1 i2 h
    rw [f_X4_foundCount_L4] at h
    refine V_iload_n (q := 5) dX4_foundCount_4 rfl rfl ?_
    refine V_aload_n (q := 6) dX4_foundCount_5 rfl rfl ?_
    refine V_getr (k := 30) (j := 1) (q := 9) clz_3 dX4_foundCount_6 rfl rfl rfl (Nat.le_of_ble_eq_true rfl) fl_RX4_15 ?_
    refine V_geti (k := 26) (j := 0) (q := 12) clz_5 dX4_foundCount_9 rfl rfl rfl (Nat.le_of_ble_eq_true rfl) fl_RX4_60 ?_
    refine V_icmp_ge (q := 33) (q2 := 15) dX4_foundCount_12 rfl rfl (fun hb6 => ?_) (fun hb6 => ?_)
    · replace h := it h hb6
      refine V_msk (L' := [none, some (.int i1), none]) [false, true, false] rfl ?_
      exact hk (i1) h
    · replace h := ie h hb6
      refine V_iload_n (q := 16) dX4_foundCount_15 rfl rfl ?_
      refine V_aload_n (q := 17) dX4_foundCount_16 rfl rfl ?_
      refine V_getr (k := 30) (j := 7) (q := 20) clz_3 dX4_foundCount_17 rfl rfl rfl (Nat.le_of_ble_eq_true rfl) fl_RX4_31 ?_
      refine V_iload_n (q := 21) dX4_foundCount_20 rfl rfl ?_
      obtain ⟨hi2, x1, ex3, h⟩ := rI_ok h
      refine V_iald (k := 33) (q := 22) dX4_foundCount_21 rfl rfl hi2 ex3 ?_
      obtain ⟨x4, hc5, h⟩ := cP_ok h
      refine V_cs1 (q := 25) (As := [.int x1]) (rest := [.int i1]) (ct_J6_bitCount_0f7a4 (xY X) hc5) ce_J6_bitCount_0f7a4 st_yJ6_bitCount_0f7a4 ml_RX4_150 rfl ⟨Nat.le_of_ble_eq_true rfl, Nat.le_of_ble_eq_true rfl⟩ rfl (Nat.le_of_ble_eq_true rfl) dX4_foundCount_22 rfl ?_
      refine V_iadd (q := 26) dX4_foundCount_25 rfl ?_
      refine V_istore_n (q := 27) (L' := [some (.ref (ad (xY X) 30)), some (.int (i1 + x4)), some (.int i2)]) dX4_foundCount_26 rfl (Nat.le_of_ble_eq_true rfl) rfl ?_
      refine V_iinc (q := 30) (v := 1) (L' := [some (.ref (ad (xY X) 30)), some (.int (i1 + x4)), some (.int (i2 + 1))]) dX4_foundCount_27 rfl rfl iconst_1 (Nat.le_of_ble_eq_true rfl) rfl ?_
      refine V_goto (q := 4) dX4_foundCount_30 rfl ?_
      exact ih ((i1 + x4)) ((i2 + 1)) h
set_option maxRecDepth 20000 in
theorem ct_X4_foundCount (Y : Yc) {σ : Sg}  {r : Int32} (h : f_X4_foundCount σ  = some r) : Ct M_X4_foundCount yX4_foundCount Y [.ref (ad Y 30)] σ (some (.int r)) σ := by
  refine Ct_intro [some (.ref (ad Y 30)), none, none] (by decide +kernel) rfl (Nat.le_of_ble_eq_true rfl) rfl (fun X hY => ?_) ⟨rfl, rfl⟩
  subst hY
  unfold f_X4_foundCount at h
  refine V_iconst (q := 1) (v := 0) dX4_foundCount_0 rfl iconst_0 ?_
  refine V_istore_n (q := 2) (L' := [some (.ref (ad (xY X) 30)), some (.int 0), none]) dX4_foundCount_1 rfl (Nat.le_of_ble_eq_true rfl) rfl ?_
  refine V_iconst (q := 3) (v := 0) dX4_foundCount_2 rfl iconst_0 ?_
  refine V_istore_n (q := 4) (L' := [some (.ref (ad (xY X) 30)), some (.int 0), some (.int 0)]) dX4_foundCount_3 rfl (Nat.le_of_ble_eq_true rfl) rfl ?_
  refine w_X4_foundCount_L4 (fun v7 h => ?_) fu (0) (0) h
  refine V_iload_n (q := 34) dX4_foundCount_33 rfl rfl ?_
  cases h
  exact V_iret rfl dX4_foundCount_34
def M_X4_wordsChosen : Mc := (RX4, cX4_wordsChosen, 3, { frames := 0, cells := 0, slots := 0, locals := 0 }, (some .int))
theorem ce_X4_wordsChosen : Cee M_X4_wordsChosen yX4_wordsChosen 0 := ⟨cd_yX4_wordsChosen, ini_RX4, ⟨by decide +kernel, by decide +kernel, by decide +kernel⟩, rfl, rfl⟩
set_option maxRecDepth 20000 in
theorem w_X4_wordsChosen_L4 {X : Xc} {σ : Sg} {r : Int32} {k : Int32 → Option Int32}
    (hk : ∀ (i1 : Int32), k i1 = some r → V X M_X4_wordsChosen (mq X (some (.int r)) σ) 35 [none, some (.int i1), none] [] σ) :
    ∀ (n : Nat) (i1 : Int32) (i2 : Int32), f_X4_wordsChosen_L4 k σ n i1 i2 = some r → V X M_X4_wordsChosen (mq X (some (.int r)) σ) 4 [some (.ref (ad (xY X) 30)), some (.int i1), some (.int i2)] [] σ := by
  intro n
  induction n with
  | zero => intro i1 i2 h; cases h
  | succ n ih =>
    intro i1 i2 h
    rw [f_X4_wordsChosen_L4] at h
    refine V_iload_n (q := 5) dX4_wordsChosen_4 rfl rfl ?_
    refine V_aload_n (q := 6) dX4_wordsChosen_5 rfl rfl ?_
    refine V_geti (k := 30) (j := 11) (q := 9) clz_3 dX4_wordsChosen_6 rfl rfl rfl (Nat.le_of_ble_eq_true rfl) fl_RX4_147 ?_
    refine V_icmp_ge (q := 35) (q2 := 12) dX4_wordsChosen_9 rfl rfl (fun hb7 => ?_) (fun hb7 => ?_)
    · replace h := it h hb7
      refine V_msk (L' := [none, some (.int i1), none]) [false, true, false] rfl ?_
      exact hk (i1) h
    · replace h := ie h hb7
      refine V_iload_n (q := 13) dX4_wordsChosen_12 rfl rfl ?_
      refine V_aload_n (q := 14) dX4_wordsChosen_13 rfl rfl ?_
      refine V_getr (k := 30) (j := 0) (q := 17) clz_3 dX4_wordsChosen_14 rfl rfl rfl (Nat.le_of_ble_eq_true rfl) fl_RX4_9 ?_
      refine V_getr (k := 4) (j := 2) (q := 20) clz_0 dX4_wordsChosen_17 rfl rfl rfl (Nat.le_of_ble_eq_true rfl) fl_RX4_85 ?_
      refine V_aload_n (q := 21) dX4_wordsChosen_20 rfl rfl ?_
      refine V_getr (k := 30) (j := 13) (q := 24) clz_3 dX4_wordsChosen_21 rfl rfl rfl (Nat.le_of_ble_eq_true rfl) fl_RX4_46 ?_
      refine V_iload_n (q := 25) dX4_wordsChosen_24 rfl rfl ?_
      obtain ⟨hi2, x1, ex3, h⟩ := rI_ok h
      refine V_iald (k := 38) (q := 26) dX4_wordsChosen_25 rfl rfl hi2 ex3 ?_
      obtain ⟨hi5, x4, ex6, h⟩ := rI_ok h
      refine V_iald (k := 6) (q := 27) dX4_wordsChosen_26 rfl rfl hi5 ex6 ?_
      refine V_iadd (q := 28) dX4_wordsChosen_27 rfl ?_
      refine V_istore_n (q := 29) (L' := [some (.ref (ad (xY X) 30)), some (.int (i1 + x4)), some (.int i2)]) dX4_wordsChosen_28 rfl (Nat.le_of_ble_eq_true rfl) rfl ?_
      refine V_iinc (q := 32) (v := 1) (L' := [some (.ref (ad (xY X) 30)), some (.int (i1 + x4)), some (.int (i2 + 1))]) dX4_wordsChosen_29 rfl rfl iconst_1 (Nat.le_of_ble_eq_true rfl) rfl ?_
      refine V_goto (q := 4) dX4_wordsChosen_32 rfl ?_
      exact ih ((i1 + x4)) ((i2 + 1)) h
set_option maxRecDepth 20000 in
theorem ct_X4_wordsChosen (Y : Yc) {σ : Sg}  {r : Int32} (h : f_X4_wordsChosen σ  = some r) : Ct M_X4_wordsChosen yX4_wordsChosen Y [.ref (ad Y 30)] σ (some (.int r)) σ := by
  refine Ct_intro [some (.ref (ad Y 30)), none, none] (by decide +kernel) rfl (Nat.le_of_ble_eq_true rfl) rfl (fun X hY => ?_) ⟨rfl, rfl⟩
  subst hY
  unfold f_X4_wordsChosen at h
  refine V_iconst (q := 1) (v := 0) dX4_wordsChosen_0 rfl iconst_0 ?_
  refine V_istore_n (q := 2) (L' := [some (.ref (ad (xY X) 30)), some (.int 0), none]) dX4_wordsChosen_1 rfl (Nat.le_of_ble_eq_true rfl) rfl ?_
  refine V_iconst (q := 3) (v := 0) dX4_wordsChosen_2 rfl iconst_0 ?_
  refine V_istore_n (q := 4) (L' := [some (.ref (ad (xY X) 30)), some (.int 0), some (.int 0)]) dX4_wordsChosen_3 rfl (Nat.le_of_ble_eq_true rfl) rfl ?_
  refine w_X4_wordsChosen_L4 (fun v8 h => ?_) fu (0) (0) h
  refine V_iload_n (q := 36) dX4_wordsChosen_35 rfl rfl ?_
  cases h
  exact V_iret rfl dX4_wordsChosen_36
def M_X4_insteadCount : Mc := (RX4, cX4_insteadCount, 3, { frames := 1, cells := 0, slots := 0, locals := 21 }, (some .int))
theorem ce_X4_insteadCount : Cee M_X4_insteadCount yX4_insteadCount 0 := ⟨cd_yX4_insteadCount, ini_RX4, ⟨by decide +kernel, by decide +kernel, by decide +kernel⟩, rfl, rfl⟩
set_option maxRecDepth 20000 in
theorem w_X4_insteadCount_L4 {X : Xc} {σ : Sg} {r : Int32} {k : Int32 → Option Int32}
    (hk : ∀ (i1 : Int32), k i1 = some r → V X M_X4_insteadCount (mq X (some (.int r)) σ) 42 [none, some (.int i1), none] [] σ) :
    ∀ (n : Nat) (i1 : Int32) (i2 : Int32), f_X4_insteadCount_L4 k σ n i1 i2 = some r → V X M_X4_insteadCount (mq X (some (.int r)) σ) 4 [some (.ref (ad (xY X) 30)), some (.int i1), some (.int i2)] [] σ := by
  intro n
  induction n with
  | zero => intro i1 i2 h; cases h
  | succ n ih =>
    intro i1 i2 h
    rw [f_X4_insteadCount_L4] at h
    refine V_iload_n (q := 5) dX4_insteadCount_4 rfl rfl ?_
    refine V_aload_n (q := 6) dX4_insteadCount_5 rfl rfl ?_
    refine V_geti (k := 30) (j := 11) (q := 9) clz_3 dX4_insteadCount_6 rfl rfl rfl (Nat.le_of_ble_eq_true rfl) fl_RX4_147 ?_
    refine V_icmp_ge (q := 42) (q2 := 12) dX4_insteadCount_9 rfl rfl (fun hb9 => ?_) (fun hb9 => ?_)
    · replace h := it h hb9
      refine V_msk (L' := [none, some (.int i1), none]) [false, true, false] rfl ?_
      exact hk (i1) h
    · replace h := ie h hb9
      refine V_iload_n (q := 13) dX4_insteadCount_12 rfl rfl ?_
      refine V_aload_n (q := 14) dX4_insteadCount_13 rfl rfl ?_
      refine V_getr (k := 30) (j := 0) (q := 17) clz_3 dX4_insteadCount_14 rfl rfl rfl (Nat.le_of_ble_eq_true rfl) fl_RX4_9 ?_
      refine V_aload_n (q := 18) dX4_insteadCount_17 rfl rfl ?_
      refine V_getr (k := 30) (j := 13) (q := 21) clz_3 dX4_insteadCount_18 rfl rfl rfl (Nat.le_of_ble_eq_true rfl) fl_RX4_46 ?_
      refine V_iload_n (q := 22) dX4_insteadCount_21 rfl rfl ?_
      obtain ⟨hi2, x1, ex3, h⟩ := rI_ok h
      refine V_iald (k := 38) (q := 23) dX4_insteadCount_22 rfl rfl hi2 ex3 ?_
      obtain ⟨x4, hc5, h⟩ := cP_ok h
      refine V_cv1 (k := 4) (q := 26) (As := [.int x1]) (rest := [.int i1]) (ct_X1_isForbidden (xY X) hc5) ce_X1_isForbidden clz_0 rfl im_yX1_isForbidden se_yX1_isForbidden rfl ml_RX4_155 rfl ⟨Nat.le_of_ble_eq_true rfl, Nat.le_of_ble_eq_true rfl⟩ rfl (Nat.le_of_ble_eq_true rfl) dX4_insteadCount_23 rfl ?_
      obtain ⟨k6, ek6, h⟩ := jn_ok h
      have hk6 : ∀ (v7 : Int32), k6 v7 = some r → V X M_X4_insteadCount (mq X (some (.int r)) σ) 34 [some (.ref (ad (xY X) 30)), none, some (.int i2)] [.int v7, .int i1] σ := by
        clear h
        intro v7 h
        rw [ek6] at h
        refine V_iadd (q := 35) dX4_insteadCount_34 rfl ?_
        refine V_istore_n (q := 36) (L' := [some (.ref (ad (xY X) 30)), some (.int (i1 + v7)), some (.int i2)]) dX4_insteadCount_35 rfl (Nat.le_of_ble_eq_true rfl) rfl ?_
        refine V_iinc (q := 39) (v := 1) (L' := [some (.ref (ad (xY X) 30)), some (.int (i1 + v7)), some (.int (i2 + 1))]) dX4_insteadCount_36 rfl rfl iconst_1 (Nat.le_of_ble_eq_true rfl) rfl ?_
        refine V_goto (q := 4) dX4_insteadCount_39 rfl ?_
        exact ih ((i1 + v7)) ((i2 + 1)) h
      refine V_if_eq (q := 33) (q2 := 29) dX4_insteadCount_26 rfl rfl (fun hb8 => ?_) (fun hb8 => ?_)
      · replace h := it h hb8
        refine V_iconst (q := 34) (v := 0) dX4_insteadCount_33 rfl iconst_0 ?_
        refine V_msk (L' := [some (.ref (ad (xY X) 30)), none, some (.int i2)]) [true, false, true] rfl ?_
        exact hk6 (0) h
      · replace h := ie h hb8
        refine V_iconst (q := 30) (v := 1) dX4_insteadCount_29 rfl iconst_1 ?_
        refine V_goto (q := 34) dX4_insteadCount_30 rfl ?_
        refine V_msk (L' := [some (.ref (ad (xY X) 30)), none, some (.int i2)]) [true, false, true] rfl ?_
        exact hk6 (1) h
set_option maxRecDepth 20000 in
theorem ct_X4_insteadCount (Y : Yc) {σ : Sg}  {r : Int32} (h : f_X4_insteadCount σ  = some r) : Ct M_X4_insteadCount yX4_insteadCount Y [.ref (ad Y 30)] σ (some (.int r)) σ := by
  refine Ct_intro [some (.ref (ad Y 30)), none, none] (by decide +kernel) rfl (Nat.le_of_ble_eq_true rfl) rfl (fun X hY => ?_) ⟨rfl, rfl⟩
  subst hY
  unfold f_X4_insteadCount at h
  refine V_iconst (q := 1) (v := 0) dX4_insteadCount_0 rfl iconst_0 ?_
  refine V_istore_n (q := 2) (L' := [some (.ref (ad (xY X) 30)), some (.int 0), none]) dX4_insteadCount_1 rfl (Nat.le_of_ble_eq_true rfl) rfl ?_
  refine V_iconst (q := 3) (v := 0) dX4_insteadCount_2 rfl iconst_0 ?_
  refine V_istore_n (q := 4) (L' := [some (.ref (ad (xY X) 30)), some (.int 0), some (.int 0)]) dX4_insteadCount_3 rfl (Nat.le_of_ble_eq_true rfl) rfl ?_
  refine w_X4_insteadCount_L4 (fun v10 h => ?_) fu (0) (0) h
  refine V_iload_n (q := 43) dX4_insteadCount_42 rfl rfl ?_
  cases h
  exact V_iret rfl dX4_insteadCount_43
def M_X4_insteadOver : Mc := (RX4, cX4_insteadOver, 3, { frames := 0, cells := 0, slots := 0, locals := 0 }, (some .int))
theorem ce_X4_insteadOver : Cee M_X4_insteadOver yX4_insteadOver 1 := ⟨cd_yX4_insteadOver, ini_RX4, ⟨by decide +kernel, by decide +kernel, by decide +kernel⟩, rfl, rfl⟩
set_option maxRecDepth 20000 in
theorem ct_X4_insteadOver (Y : Yc) {σ : Sg} {a1 : Int32} {r : Int32} (h : f_X4_insteadOver σ a1 = some r) : Ct M_X4_insteadOver yX4_insteadOver Y [.ref (ad Y 30), .int a1] σ (some (.int r)) σ := by
  refine Ct_intro [some (.ref (ad Y 30)), some (.int a1), none] (by decide +kernel) rfl (Nat.le_of_ble_eq_true rfl) rfl (fun X hY => ?_) ⟨rfl, rfl⟩
  subst hY
  unfold f_X4_insteadOver at h
  refine V_aload_n (q := 1) dX4_insteadOver_0 rfl rfl ?_
  refine V_getr (k := 30) (j := 14) (q := 4) clz_3 dX4_insteadOver_1 rfl rfl rfl (Nat.le_of_ble_eq_true rfl) fl_RX4_49 ?_
  refine V_iload_n (q := 5) dX4_insteadOver_4 rfl rfl ?_
  obtain ⟨hi2, x1, ex3, h⟩ := rI_ok h
  refine V_iald (k := 39) (q := 6) dX4_insteadOver_5 rfl rfl hi2 ex3 ?_
  refine V_istore_n (q := 7) (L' := [some (.ref (ad (xY X) 30)), some (.int a1), some (.int x1)]) dX4_insteadOver_6 rfl (Nat.le_of_ble_eq_true rfl) rfl ?_
  refine V_iload_n (q := 8) dX4_insteadOver_7 rfl rfl ?_
  refine V_iconst (q := 9) (v := (-1)) dX4_insteadOver_8 rfl iconst_m1 ?_
  refine V_icmp_ne (q := 16) (q2 := 12) dX4_insteadOver_9 rfl rfl (fun hb10 => ?_) (fun hb10 => ?_)
  · replace h := ie h hb10
    refine V_aload_n (q := 17) dX4_insteadOver_16 rfl rfl ?_
    refine V_getr (k := 30) (j := 0) (q := 20) clz_3 dX4_insteadOver_17 rfl rfl rfl (Nat.le_of_ble_eq_true rfl) fl_RX4_9 ?_
    refine V_getr (k := 4) (j := 5) (q := 23) clz_0 dX4_insteadOver_20 rfl rfl rfl (Nat.le_of_ble_eq_true rfl) fl_RX4_158 ?_
    refine V_aload_n (q := 24) dX4_insteadOver_23 rfl rfl ?_
    refine V_getr (k := 30) (j := 13) (q := 27) clz_3 dX4_insteadOver_24 rfl rfl rfl (Nat.le_of_ble_eq_true rfl) fl_RX4_46 ?_
    refine V_iload_n (q := 28) dX4_insteadOver_27 rfl rfl ?_
    obtain ⟨hi5, x4, ex6, h⟩ := rI_ok h
    refine V_iald (k := 38) (q := 29) dX4_insteadOver_28 rfl rfl hi5 ex6 ?_
    obtain ⟨hi8, x7, ex9, h⟩ := rI_ok h
    refine V_iald (k := 9) (q := 30) dX4_insteadOver_29 rfl rfl hi8 ex9 ?_
    cases h
    exact V_iret rfl dX4_insteadOver_30
  · replace h := it h hb10
    refine V_iconst (q := 13) (v := (-1)) dX4_insteadOver_12 rfl iconst_m1 ?_
    refine V_goto (q := 30) dX4_insteadOver_13 rfl ?_
    cases h
    exact V_iret rfl dX4_insteadOver_30
def M_X6_endsSentence : Mc := (RX6, cX6_endsSentence, 3, { frames := 0, cells := 0, slots := 0, locals := 0 }, (some .boolean))
theorem ce_X6_endsSentence : Cee M_X6_endsSentence yX6_endsSentence 1 := ⟨cd_yX6_endsSentence, ini_RX6, ⟨by decide +kernel, by decide +kernel, by decide +kernel⟩, rfl, rfl⟩
set_option maxRecDepth 20000 in
theorem ct_X6_endsSentence (Y : Yc) {σ : Sg} {a1 : Int32} {r : Int32} (h : f_X6_endsSentence σ a1 = some r) : Ct M_X6_endsSentence yX6_endsSentence Y [.ref (ad Y 26), .int a1] σ (some (.int r)) σ := by
  refine Ct_intro [some (.ref (ad Y 26)), some (.int a1), none] (by decide +kernel) rfl (Nat.le_of_ble_eq_true rfl) rfl (fun X hY => ?_) ⟨rfl, rfl⟩
  subst hY
  unfold f_X6_endsSentence at h
  refine V_iload_n (q := 1) dX6_endsSentence_0 rfl rfl ?_
  refine V_iconst (q := 2) (v := 1) dX6_endsSentence_1 rfl iconst_1 ?_
  refine V_iadd (q := 3) dX6_endsSentence_2 rfl ?_
  refine V_aload_n (q := 4) dX6_endsSentence_3 rfl rfl ?_
  refine V_geti (k := 26) (j := 0) (q := 7) clz_5 dX6_endsSentence_4 rfl rfl rfl (Nat.le_of_ble_eq_true rfl) fl_RX6_23 ?_
  obtain ⟨k1, ek1, h⟩ := jn_ok h
  have hk1 : k1 = some r → V X M_X6_endsSentence (mq X (some (.int r)) σ) 27 [some (.ref (ad (xY X) 26)), some (.int a1), none] [] σ := by
    clear h
    intro  h
    rw [ek1] at h
    refine V_iconst (q := 28) (v := 1) dX6_endsSentence_27 rfl iconst_1 ?_
    refine V_goto (q := 32) dX6_endsSentence_28 rfl ?_
    refine V_istore_n (q := 33) (L' := [some (.ref (ad (xY X) 26)), some (.int a1), some (.int 1)]) dX6_endsSentence_32 rfl (Nat.le_of_ble_eq_true rfl) rfl ?_
    refine V_iload_n (q := 34) dX6_endsSentence_33 rfl rfl ?_
    refine V_if_eq (q := 54) (q2 := 37) dX6_endsSentence_34 rfl rfl (fun hb6 => ?_) (fun hb6 => ?_)
    · replace h := it h hb6
      refine V_iconst (q := 55) (v := 0) dX6_endsSentence_54 rfl iconst_0 ?_
      cases h
      exact V_zret rfl rfl dX6_endsSentence_55
    · replace h := ie h hb6
      refine V_aload_n (q := 38) dX6_endsSentence_37 rfl rfl ?_
      refine V_getr (k := 26) (j := 3) (q := 41) clz_5 dX6_endsSentence_38 rfl rfl rfl (Nat.le_of_ble_eq_true rfl) fl_RX6_19 ?_
      refine V_iload_n (q := 42) dX6_endsSentence_41 rfl rfl ?_
      obtain ⟨hi3, x2, ex4, h⟩ := rI_ok h
      refine V_iald (k := 29) (q := 43) dX6_endsSentence_42 rfl rfl hi3 ex4 ?_
      refine V_aload_n (q := 44) dX6_endsSentence_43 rfl rfl ?_
      refine V_geti (k := 26) (j := 4) (q := 47) clz_5 dX6_endsSentence_44 rfl rfl rfl (Nat.le_of_ble_eq_true rfl) fl_RX6_27 ?_
      refine V_icmp_ge (q := 54) (q2 := 50) dX6_endsSentence_47 rfl rfl (fun hb5 => ?_) (fun hb5 => ?_)
      · replace h := it h hb5
        refine V_iconst (q := 55) (v := 0) dX6_endsSentence_54 rfl iconst_0 ?_
        cases h
        exact V_zret rfl rfl dX6_endsSentence_55
      · replace h := ie h hb5
        refine V_iconst (q := 51) (v := 1) dX6_endsSentence_50 rfl iconst_1 ?_
        refine V_goto (q := 55) dX6_endsSentence_51 rfl ?_
        cases h
        exact V_zret rfl rfl dX6_endsSentence_55
  refine V_icmp_eq (q := 27) (q2 := 10) dX6_endsSentence_7 rfl rfl (fun hb19 => ?_) (fun hb19 => ?_)
  · replace h := it h hb19
    exact hk1  h
  · replace h := ie h hb19
    refine V_aload_n (q := 11) dX6_endsSentence_10 rfl rfl ?_
    refine V_getr (k := 26) (j := 3) (q := 14) clz_5 dX6_endsSentence_11 rfl rfl rfl (Nat.le_of_ble_eq_true rfl) fl_RX6_19 ?_
    refine V_iload_n (q := 15) dX6_endsSentence_14 rfl rfl ?_
    refine V_iconst (q := 16) (v := 1) dX6_endsSentence_15 rfl iconst_1 ?_
    refine V_iadd (q := 17) dX6_endsSentence_16 rfl ?_
    obtain ⟨hi8, x7, ex9, h⟩ := rI_ok h
    refine V_iald (k := 29) (q := 18) dX6_endsSentence_17 rfl rfl hi8 ex9 ?_
    refine V_aload_n (q := 19) dX6_endsSentence_18 rfl rfl ?_
    refine V_getr (k := 26) (j := 3) (q := 22) clz_5 dX6_endsSentence_19 rfl rfl rfl (Nat.le_of_ble_eq_true rfl) fl_RX6_19 ?_
    refine V_iload_n (q := 23) dX6_endsSentence_22 rfl rfl ?_
    obtain ⟨hi11, x10, ex12, h⟩ := rI_ok h
    refine V_iald (k := 29) (q := 24) dX6_endsSentence_23 rfl rfl hi11 ex12 ?_
    refine V_icmp_eq (q := 31) (q2 := 27) dX6_endsSentence_24 rfl rfl (fun hb18 => ?_) (fun hb18 => ?_)
    · replace h := it h hb18
      refine V_iconst (q := 32) (v := 0) dX6_endsSentence_31 rfl iconst_0 ?_
      refine V_istore_n (q := 33) (L' := [some (.ref (ad (xY X) 26)), some (.int a1), some (.int 0)]) dX6_endsSentence_32 rfl (Nat.le_of_ble_eq_true rfl) rfl ?_
      refine V_iload_n (q := 34) dX6_endsSentence_33 rfl rfl ?_
      refine V_if_eq (q := 54) (q2 := 37) dX6_endsSentence_34 rfl rfl (fun hb17 => ?_) (fun hb17 => ?_)
      · replace h := it h hb17
        refine V_iconst (q := 55) (v := 0) dX6_endsSentence_54 rfl iconst_0 ?_
        cases h
        exact V_zret rfl rfl dX6_endsSentence_55
      · replace h := ie h hb17
        refine V_aload_n (q := 38) dX6_endsSentence_37 rfl rfl ?_
        refine V_getr (k := 26) (j := 3) (q := 41) clz_5 dX6_endsSentence_38 rfl rfl rfl (Nat.le_of_ble_eq_true rfl) fl_RX6_19 ?_
        refine V_iload_n (q := 42) dX6_endsSentence_41 rfl rfl ?_
        obtain ⟨hi14, x13, ex15, h⟩ := rI_ok h
        refine V_iald (k := 29) (q := 43) dX6_endsSentence_42 rfl rfl hi14 ex15 ?_
        refine V_aload_n (q := 44) dX6_endsSentence_43 rfl rfl ?_
        refine V_geti (k := 26) (j := 4) (q := 47) clz_5 dX6_endsSentence_44 rfl rfl rfl (Nat.le_of_ble_eq_true rfl) fl_RX6_27 ?_
        refine V_icmp_ge (q := 54) (q2 := 50) dX6_endsSentence_47 rfl rfl (fun hb16 => ?_) (fun hb16 => ?_)
        · replace h := it h hb16
          refine V_iconst (q := 55) (v := 0) dX6_endsSentence_54 rfl iconst_0 ?_
          cases h
          exact V_zret rfl rfl dX6_endsSentence_55
        · replace h := ie h hb16
          refine V_iconst (q := 51) (v := 1) dX6_endsSentence_50 rfl iconst_1 ?_
          refine V_goto (q := 55) dX6_endsSentence_51 rfl ?_
          cases h
          exact V_zret rfl rfl dX6_endsSentence_55
    · replace h := ie h hb18
      exact hk1  h
def M_X3_addSign : Mc := (RX3, cX3_addSign, 2, { frames := 0, cells := 0, slots := 0, locals := 0 }, none)
theorem ce_X3_addSign : Cee M_X3_addSign yX3_addSign 1 := ⟨cd_yX3_addSign, ini_RX3, ⟨by decide +kernel, by decide +kernel, by decide +kernel⟩, rfl, rfl⟩
set_option maxRecDepth 20000 in
theorem ct_X3_addSign (Y : Yc) {σ : Sg} {a1 : Int32} {r : Unit} {σr : Sg} (h : f_X3_addSign σ a1 = some (r, σr)) : Ct M_X3_addSign yX3_addSign Y [.ref (ad Y 40), .int a1] σ none σr := by
  refine Ct_intro [some (.ref (ad Y 40)), some (.int a1)] (by decide +kernel) rfl (Nat.le_of_ble_eq_true rfl) rfl (fun X hY => ?_) ⟨rfl, rfl⟩
  subst hY
  unfold f_X3_addSign at h
  refine V_aload_n (q := 1) dX3_addSign_0 rfl rfl ?_
  refine V_geti (k := 40) (j := 4) (q := 4) clz_2 dX3_addSign_1 rfl rfl rfl (Nat.le_of_ble_eq_true rfl) fl_RX3_35 ?_
  refine V_sipush (q := 7) (v := 3120) dX3_addSign_4 rfl sipush_3120 ?_
  refine V_icmp_ge (q := 31) (q2 := 10) dX3_addSign_7 rfl rfl (fun hb6 => ?_) (fun hb6 => ?_)
  · replace h := it h hb6
    cases h
    exact V_vret rfl dX3_addSign_31
  · replace h := ie h hb6
    refine V_aload_n (q := 11) dX3_addSign_10 rfl rfl ?_
    refine V_getr (k := 40) (j := 3) (q := 14) clz_2 dX3_addSign_11 rfl rfl rfl (Nat.le_of_ble_eq_true rfl) fl_RX3_27 ?_
    refine V_aload_n (q := 15) dX3_addSign_14 rfl rfl ?_
    refine V_geti (k := 40) (j := 4) (q := 18) clz_2 dX3_addSign_15 rfl rfl rfl (Nat.le_of_ble_eq_true rfl) fl_RX3_35 ?_
    refine V_iload_n (q := 19) dX3_addSign_18 rfl rfl ?_
    refine V_i2c (q := 20) dX3_addSign_19 rfl ?_
    obtain ⟨hi3, s1, e2, h⟩ := wI_ok h
    refine V_cast (k := 41) (q := 21) dX3_addSign_20 rfl rfl hi3 e2 ?_
    refine V_aload_n (q := 22) dX3_addSign_21 rfl rfl ?_
    refine V_dup (q := 23) dX3_addSign_22 rfl rfl ?_
    refine V_geti (k := 40) (j := 4) (q := 26) clz_2 dX3_addSign_23 rfl rfl rfl (Nat.le_of_ble_eq_true rfl) fl_RX3_35 ?_
    refine V_iconst (q := 27) (v := 1) dX3_addSign_26 rfl iconst_1 ?_
    refine V_iadd (q := 28) dX3_addSign_27 rfl ?_
    obtain ⟨s4, e5, h⟩ := pI_ok h
    refine V_puti (k := 40) (j := 4) (q := 31) clz_2 .int (by decide +kernel) rfl rfl rfl dX3_addSign_28 rfl rfl rfl (Nat.le_of_ble_eq_true rfl) fl_RX3_35 e5 ?_
    cases h
    exact V_vret rfl dX3_addSign_31
def M_X3_addWord : Mc := (RX3, cX3_addWord, 5, { frames := 1, cells := 0, slots := 0, locals := 23 }, none)
theorem ce_X3_addWord : Cee M_X3_addWord yX3_addWord 1 := ⟨cd_yX3_addWord, ini_RX3, ⟨by decide +kernel, by decide +kernel, by decide +kernel⟩, rfl, rfl⟩
set_option maxRecDepth 20000 in
theorem w_X3_addWord_L21 {X : Xc} {c1 : Int64} {c3 : Int32} {r : Unit} {σr : Sg} {k : Sg → Option (Unit × Sg)}
    (hk : ∀ (s : Sg), k s = some (r, σr) → V X M_X3_addWord (mq X none σr) 43 [none, none, none, none, none] [] s) :
    ∀ (n : Nat) (s : Sg) (i4 : Int32), f_X3_addWord_L21 k c1 c3 n s i4 = some (r, σr) → V X M_X3_addWord (mq X none σr) 21 [some (.ref (ad (xY X) 40)), some (.long c1), none, some (.int c3), some (.int i4)] [] s := by
  intro n
  induction n with
  | zero => intro s i4 h; cases h
  | succ n ih =>
    intro s i4 h
    rw [f_X3_addWord_L21] at h
    refine V_iload (q := 23) dX3_addWord_21 rfl rfl ?_
    refine V_iload_n (q := 24) dX3_addWord_23 rfl rfl ?_
    refine V_icmp_ge (q := 43) (q2 := 27) dX3_addWord_24 rfl rfl (fun hb10 => ?_) (fun hb10 => ?_)
    · replace h := it h hb10
      refine V_msk (L' := [none, none, none, none, none]) [false, false, true, false, false] rfl ?_
      exact hk (s) h
    · replace h := ie h hb10
      refine V_aload_n (q := 28) dX3_addWord_27 rfl rfl ?_
      refine V_lload_n (q := 29) dX3_addWord_28 rfl rfl ?_
      refine V_iload (q := 31) dX3_addWord_29 rfl rfl ?_
      obtain ⟨x5, hc6, h⟩ := cP_ok h
      refine V_cs1 (q := 34) (As := [.long c1, .int i4]) (rest := [.ref (ad (xY X) 40)]) (ct_X0_at (xY X) hc6) ce_X0_at st_yX0_at ml_RX3_89 rfl ⟨Nat.le_of_ble_eq_true rfl, Nat.le_of_ble_eq_true rfl⟩ rfl (Nat.le_of_ble_eq_true rfl) dX3_addWord_31 rfl ?_
      obtain ⟨x7, s9, hc8, h⟩ := cA_ok h
      refine V_cv0 (k := 40) (q := 37) (As := [.int x5]) (rest := []) (ct_X3_addSign (xY X) hc8) ce_X3_addSign clz_2 rfl im_yX3_addSign se_yX3_addSign rfl ml_RX3_71 rfl ⟨Nat.le_of_ble_eq_true rfl, Nat.le_of_ble_eq_true rfl⟩ rfl (Nat.le_of_ble_eq_true rfl) dX3_addWord_34 rfl ?_
      refine V_iinc (q := 40) (v := 1) (L' := [some (.ref (ad (xY X) 40)), some (.long c1), none, some (.int c3), some (.int (i4 + 1))]) dX3_addWord_37 rfl rfl iconst_1 (Nat.le_of_ble_eq_true rfl) rfl ?_
      refine V_goto (q := 21) dX3_addWord_40 rfl ?_
      exact ih (s9) ((i4 + 1)) h
set_option maxRecDepth 20000 in
theorem ct_X3_addWord (Y : Yc) {σ : Sg} {a1 : Int64} {r : Unit} {σr : Sg} (h : f_X3_addWord σ a1 = some (r, σr)) : Ct M_X3_addWord yX3_addWord Y [.ref (ad Y 40), .long a1] σ none σr := by
  refine Ct_intro [some (.ref (ad Y 40)), some (.long a1), none, none, none] (by decide +kernel) rfl (Nat.le_of_ble_eq_true rfl) rfl (fun X hY => ?_) ⟨rfl, rfl⟩
  subst hY
  unfold f_X3_addWord at h
  refine V_aload_n (q := 1) dX3_addWord_0 rfl rfl ?_
  refine V_geti (k := 40) (j := 4) (q := 4) clz_2 dX3_addWord_1 rfl rfl rfl (Nat.le_of_ble_eq_true rfl) fl_RX3_35 ?_
  obtain ⟨k1, ek1, h⟩ := jn_ok h
  have hk1 : ∀ (s2 : Sg), k1 s2 = some (r, σr) → V X M_X3_addWord (mq X none σr) 13 [some (.ref (ad (xY X) 40)), some (.long a1), none, none, none] [] s2 := by
    clear h
    intro s2 h
    rw [ek1] at h
    refine V_lload_n (q := 14) dX3_addWord_13 rfl rfl ?_
    obtain ⟨x3, hc4, h⟩ := cP_ok h
    refine V_cs1 (q := 17) (As := [.long a1]) (rest := []) (ct_X0_sizeOf (xY X) hc4) ce_X0_sizeOf st_yX0_sizeOf ml_RX3_83 rfl ⟨Nat.le_of_ble_eq_true rfl, Nat.le_of_ble_eq_true rfl⟩ rfl (Nat.le_of_ble_eq_true rfl) dX3_addWord_14 rfl ?_
    refine V_istore_n (q := 18) (L' := [some (.ref (ad (xY X) 40)), some (.long a1), none, some (.int x3), none]) dX3_addWord_17 rfl (Nat.le_of_ble_eq_true rfl) rfl ?_
    refine V_iconst (q := 19) (v := 0) dX3_addWord_18 rfl iconst_0 ?_
    refine V_istore (q := 21) (L' := [some (.ref (ad (xY X) 40)), some (.long a1), none, some (.int x3), some (.int 0)]) dX3_addWord_19 rfl (Nat.le_of_ble_eq_true rfl) rfl ?_
    refine w_X3_addWord_L21 (fun s11 h => ?_) fu (s2) (0) h
    cases h
    exact V_vret rfl dX3_addWord_43
  refine V_if_le (q := 13) (q2 := 7) dX3_addWord_4 rfl rfl (fun hb15 => ?_) (fun hb15 => ?_)
  · replace h := it h hb15
    exact hk1 (σ) h
  · replace h := ie h hb15
    refine V_aload_n (q := 8) dX3_addWord_7 rfl rfl ?_
    refine V_bipush (q := 10) (v := 32) dX3_addWord_8 rfl bipush_32 ?_
    obtain ⟨x12, s14, hc13, h⟩ := cA_ok h
    refine V_cv0 (k := 40) (q := 13) (As := [.int 32]) (rest := []) (ct_X3_addSign (xY X) hc13) ce_X3_addSign clz_2 rfl im_yX3_addSign se_yX3_addSign rfl ml_RX3_71 rfl ⟨Nat.le_of_ble_eq_true rfl, Nat.le_of_ble_eq_true rfl⟩ rfl (Nat.le_of_ble_eq_true rfl) dX3_addWord_10 rfl ?_
    exact hk1 (s14) h
def M_X3_addWordsOf : Mc := (RX3, cX3_addWordsOf, 3, { frames := 2, cells := 0, slots := 0, locals := 47 }, none)
theorem ce_X3_addWordsOf : Cee M_X3_addWordsOf yX3_addWordsOf 1 := ⟨cd_yX3_addWordsOf, ini_RX3, ⟨by decide +kernel, by decide +kernel, by decide +kernel⟩, rfl, rfl⟩
set_option maxRecDepth 20000 in
theorem w_X3_addWordsOf_L2 {X : Xc} {c1 : Int32} {r : Unit} {σr : Sg} {k : Sg → Option (Unit × Sg)}
    (hk : ∀ (s : Sg), k s = some (r, σr) → V X M_X3_addWordsOf (mq X none σr) 34 [none, none, none] [] s) :
    ∀ (n : Nat) (s : Sg) (i2 : Int32), f_X3_addWordsOf_L2 k c1 n s i2 = some (r, σr) → V X M_X3_addWordsOf (mq X none σr) 2 [some (.ref (ad (xY X) 40)), some (.int c1), some (.int i2)] [] s := by
  intro n
  induction n with
  | zero => intro s i2 h; cases h
  | succ n ih =>
    intro s i2 h
    rw [f_X3_addWordsOf_L2] at h
    refine V_iload_n (q := 3) dX3_addWordsOf_2 rfl rfl ?_
    refine V_aload_n (q := 4) dX3_addWordsOf_3 rfl rfl ?_
    refine V_getr (k := 40) (j := 0) (q := 7) clz_2 dX3_addWordsOf_4 rfl rfl rfl (Nat.le_of_ble_eq_true rfl) fl_RX3_13 ?_
    refine V_getr (k := 4) (j := 2) (q := 10) clz_0 dX3_addWordsOf_7 rfl rfl rfl (Nat.le_of_ble_eq_true rfl) fl_RX3_74 ?_
    refine V_iload_n (q := 11) dX3_addWordsOf_10 rfl rfl ?_
    obtain ⟨hi2, x1, ex3, h⟩ := rI_ok h
    refine V_iald (k := 6) (q := 12) dX3_addWordsOf_11 rfl rfl hi2 ex3 ?_
    refine V_icmp_ge (q := 34) (q2 := 15) dX3_addWordsOf_12 rfl rfl (fun hb9 => ?_) (fun hb9 => ?_)
    · replace h := it h hb9
      refine V_msk (L' := [none, none, none]) [false, false, false] rfl ?_
      exact hk (s) h
    · replace h := ie h hb9
      refine V_aload_n (q := 16) dX3_addWordsOf_15 rfl rfl ?_
      refine V_aload_n (q := 17) dX3_addWordsOf_16 rfl rfl ?_
      refine V_getr (k := 40) (j := 0) (q := 20) clz_2 dX3_addWordsOf_17 rfl rfl rfl (Nat.le_of_ble_eq_true rfl) fl_RX3_13 ?_
      refine V_iload_n (q := 21) dX3_addWordsOf_20 rfl rfl ?_
      refine V_iload_n (q := 22) dX3_addWordsOf_21 rfl rfl ?_
      obtain ⟨x4, hc5, h⟩ := cP_ok h
      refine V_cv1 (k := 4) (q := 25) (As := [.int c1, .int i2]) (rest := [.ref (ad (xY X) 40)]) (ct_X1_wordOf (xY X) hc5) ce_X1_wordOf clz_0 rfl im_yX1_wordOf se_yX1_wordOf rfl ml_RX3_79 rfl ⟨Nat.le_of_ble_eq_true rfl, Nat.le_of_ble_eq_true rfl⟩ rfl (Nat.le_of_ble_eq_true rfl) dX3_addWordsOf_22 rfl ?_
      obtain ⟨x6, s8, hc7, h⟩ := cA_ok h
      refine V_cv0 (k := 40) (q := 28) (As := [.long x4]) (rest := []) (ct_X3_addWord (xY X) hc7) ce_X3_addWord clz_2 rfl im_yX3_addWord se_yX3_addWord rfl ml_RX3_52 rfl ⟨Nat.le_of_ble_eq_true rfl, Nat.le_of_ble_eq_true rfl⟩ rfl (Nat.le_of_ble_eq_true rfl) dX3_addWordsOf_25 rfl ?_
      refine V_iinc (q := 31) (v := 1) (L' := [some (.ref (ad (xY X) 40)), some (.int c1), some (.int (i2 + 1))]) dX3_addWordsOf_28 rfl rfl iconst_1 (Nat.le_of_ble_eq_true rfl) rfl ?_
      refine V_goto (q := 2) dX3_addWordsOf_31 rfl ?_
      exact ih (s8) ((i2 + 1)) h
set_option maxRecDepth 20000 in
theorem ct_X3_addWordsOf (Y : Yc) {σ : Sg} {a1 : Int32} {r : Unit} {σr : Sg} (h : f_X3_addWordsOf σ a1 = some (r, σr)) : Ct M_X3_addWordsOf yX3_addWordsOf Y [.ref (ad Y 40), .int a1] σ none σr := by
  refine Ct_intro [some (.ref (ad Y 40)), some (.int a1), none] (by decide +kernel) rfl (Nat.le_of_ble_eq_true rfl) rfl (fun X hY => ?_) ⟨rfl, rfl⟩
  subst hY
  unfold f_X3_addWordsOf at h
  refine V_iconst (q := 1) (v := 0) dX3_addWordsOf_0 rfl iconst_0 ?_
  refine V_istore_n (q := 2) (L' := [some (.ref (ad (xY X) 40)), some (.int a1), some (.int 0)]) dX3_addWordsOf_1 rfl (Nat.le_of_ble_eq_true rfl) rfl ?_
  refine w_X3_addWordsOf_L2 (fun s10 h => ?_) fu (σ) (0) h
  cases h
  exact V_vret rfl dX3_addWordsOf_34
