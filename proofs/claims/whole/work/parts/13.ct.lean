def M_X6_beginsSentence : Mc := (RX6, cX6_beginsSentence, 2, { frames := 0, cells := 0, slots := 0, locals := 0 }, (some .boolean))
theorem ce_X6_beginsSentence : Cee M_X6_beginsSentence yX6_beginsSentence 1 := ⟨cd_yX6_beginsSentence, ini_RX6, ⟨by decide +kernel, by decide +kernel, by decide +kernel⟩, rfl, rfl⟩
set_option maxRecDepth 20000 in
theorem ct_X6_beginsSentence (Y : Yc) {σ : Sg} {a1 : Int32} {r : Int32} (h : f_X6_beginsSentence σ a1 = some r) : Ct M_X6_beginsSentence yX6_beginsSentence Y [.ref (ad Y 26), .int a1] σ (some (.int r)) σ := by
  refine Ct_intro [some (.ref (ad Y 26)), some (.int a1)] (by decide +kernel) rfl (Nat.le_of_ble_eq_true rfl) rfl (fun X hY => ?_) ⟨rfl, rfl⟩
  subst hY
  unfold f_X6_beginsSentence at h
  refine V_iload_n (q := 1) dX6_beginsSentence_0 rfl rfl ?_
  refine V_if_eq (q := 21) (q2 := 4) dX6_beginsSentence_1 rfl rfl (fun hb8 => ?_) (fun hb8 => ?_)
  · replace h := it h hb8
    refine V_iconst (q := 22) (v := 1) dX6_beginsSentence_21 rfl iconst_1 ?_
    refine V_goto (q := 26) dX6_beginsSentence_22 rfl ?_
    cases h
    exact V_zret rfl rfl dX6_beginsSentence_26
  · replace h := ie h hb8
    refine V_aload_n (q := 5) dX6_beginsSentence_4 rfl rfl ?_
    refine V_getr (k := 26) (j := 3) (q := 8) clz_5 dX6_beginsSentence_5 rfl rfl rfl (Nat.le_of_ble_eq_true rfl) fl_RX6_19 ?_
    refine V_iload_n (q := 9) dX6_beginsSentence_8 rfl rfl ?_
    refine V_iconst (q := 10) (v := 1) dX6_beginsSentence_9 rfl iconst_1 ?_
    refine V_isub (q := 11) dX6_beginsSentence_10 rfl ?_
    obtain ⟨hi2, x1, ex3, h⟩ := rI_ok h
    refine V_iald (k := 29) (q := 12) dX6_beginsSentence_11 rfl rfl hi2 ex3 ?_
    refine V_aload_n (q := 13) dX6_beginsSentence_12 rfl rfl ?_
    refine V_getr (k := 26) (j := 3) (q := 16) clz_5 dX6_beginsSentence_13 rfl rfl rfl (Nat.le_of_ble_eq_true rfl) fl_RX6_19 ?_
    refine V_iload_n (q := 17) dX6_beginsSentence_16 rfl rfl ?_
    obtain ⟨hi5, x4, ex6, h⟩ := rI_ok h
    refine V_iald (k := 29) (q := 18) dX6_beginsSentence_17 rfl rfl hi5 ex6 ?_
    refine V_icmp_eq (q := 25) (q2 := 21) dX6_beginsSentence_18 rfl rfl (fun hb7 => ?_) (fun hb7 => ?_)
    · replace h := it h hb7
      refine V_iconst (q := 26) (v := 0) dX6_beginsSentence_25 rfl iconst_0 ?_
      cases h
      exact V_zret rfl rfl dX6_beginsSentence_26
    · replace h := ie h hb7
      refine V_iconst (q := 22) (v := 1) dX6_beginsSentence_21 rfl iconst_1 ?_
      refine V_goto (q := 26) dX6_beginsSentence_22 rfl ?_
      cases h
      exact V_zret rfl rfl dX6_beginsSentence_26
def M_X0_without : Mc := (RX0, cX0_without, 5, { frames := 0, cells := 0, slots := 0, locals := 0 }, (some .long))
theorem ce_X0_without : Cee M_X0_without yX0_without 3 := ⟨cd_yX0_without, ini_RX0, ⟨by decide +kernel, by decide +kernel, by decide +kernel⟩, rfl, rfl⟩
set_option maxRecDepth 20000 in
theorem ct_X0_without (Y : Yc) {σ : Sg} {a1 : Int64} {a2 : Int64} {a3 : Int32} {r : Int64} (h : f_X0_without σ a1 a2 a3 = some r) : Ct M_X0_without yX0_without Y [.long a1, .long a2, .int a3] σ (some (.long r)) σ := by
  refine Ct_intro [some (.long a1), none, some (.long a2), none, some (.int a3)] (by decide +kernel) rfl (Nat.le_of_ble_eq_true rfl) rfl (fun X hY => ?_) ⟨rfl, rfl⟩
  subst hY
  unfold f_X0_without at h
  refine V_iload (q := 2) dX0_without_0 rfl rfl ?_
  refine V_if_le (q := 23) (q2 := 5) dX0_without_2 rfl rfl (fun hb3 => ?_) (fun hb3 => ?_)
  · replace h := it h hb3
    refine V_lconst (q := 24) (v := 0) dX0_without_23 rfl rfl ?_
    cases h
    exact V_lret rfl dX0_without_24
  · replace h := ie h hb3
    refine V_iload (q := 7) dX0_without_5 rfl rfl ?_
    refine V_bipush (q := 9) (v := 12) dX0_without_7 rfl bipush_12 ?_
    refine V_icmp_ge (q := 23) (q2 := 12) dX0_without_9 rfl rfl (fun hb2 => ?_) (fun hb2 => ?_)
    · replace h := it h hb2
      refine V_lconst (q := 24) (v := 0) dX0_without_23 rfl rfl ?_
      cases h
      exact V_lret rfl dX0_without_24
    · replace h := ie h hb2
      refine V_lload_n (q := 13) dX0_without_12 rfl rfl ?_
      refine V_iconst (q := 14) (v := 5) dX0_without_13 rfl iconst_5 ?_
      refine V_iload (q := 16) dX0_without_14 rfl rfl ?_
      refine V_imul (q := 17) dX0_without_16 rfl ?_
      refine V_lushr (q := 18) dX0_without_17 rfl ?_
      refine V_lload_n (q := 19) dX0_without_18 rfl rfl ?_
      refine V_lcmp (q := 20) dX0_without_19 rfl ?_
      refine V_if_eq (q := 25) (q2 := 23) dX0_without_20 rfl rfl (fun hb1 => ?_) (fun hb1 => ?_)
      · replace h := it h hb1
        refine V_lload_n (q := 26) dX0_without_25 rfl rfl ?_
        refine V_lconst (q := 27) (v := 1) dX0_without_26 rfl rfl ?_
        refine V_iconst (q := 28) (v := 5) dX0_without_27 rfl iconst_5 ?_
        refine V_iload (q := 30) dX0_without_28 rfl rfl ?_
        refine V_imul (q := 31) dX0_without_30 rfl ?_
        refine V_lshl (q := 32) dX0_without_31 rfl ?_
        refine V_lconst (q := 33) (v := 1) dX0_without_32 rfl rfl ?_
        refine V_lsub (q := 34) dX0_without_33 rfl ?_
        refine V_land (q := 35) dX0_without_34 rfl ?_
        cases h
        exact V_lret rfl dX0_without_35
      · replace h := ie h hb1
        refine V_lconst (q := 24) (v := 0) dX0_without_23 rfl rfl ?_
        cases h
        exact V_lret rfl dX0_without_24
def M_X4_makeForms : Mc := (RX4, cX4_makeForms, 9, { frames := 1, cells := 0, slots := 0, locals := 24 }, none)
theorem ce_X4_makeForms : Cee M_X4_makeForms yX4_makeForms 1 := ⟨cd_yX4_makeForms, ini_RX4, ⟨by decide +kernel, by decide +kernel, by decide +kernel⟩, rfl, rfl⟩
set_option maxRecDepth 20000 in
theorem w_X4_makeForms_L20 {X : Xc} {c1 : Int64} {c3 : Int32} {r : Unit} {σr : Sg} {k : Sg → Option (Unit × Sg)}
    (hk : ∀ (s : Sg), k s = some (r, σr) → V X M_X4_makeForms (mq X none σr) 105 [none, none, none, none, none, none, none, none, none] [] s) :
    ∀ (n : Nat) (s : Sg) (i4 : Int32), f_X4_makeForms_L20 k c1 c3 n s i4 = some (r, σr) → V X M_X4_makeForms (mq X none σr) 20 [some (.ref (ad (xY X) 30)), some (.long c1), none, some (.int c3), some (.int i4), none, none, none, none] [] s := by
  intro n
  induction n with
  | zero => intro s i4 h; cases h
  | succ n ih =>
    intro s i4 h
    rw [f_X4_makeForms_L20] at h
    refine V_iload (q := 22) dX4_makeForms_20 rfl rfl ?_
    refine V_aload_n (q := 23) dX4_makeForms_22 rfl rfl ?_
    refine V_getr (k := 30) (j := 0) (q := 26) clz_3 dX4_makeForms_23 rfl rfl rfl (Nat.le_of_ble_eq_true rfl) fl_RX4_9 ?_
    refine V_geti (k := 4) (j := 6) (q := 29) clz_0 dX4_makeForms_26 rfl rfl rfl (Nat.le_of_ble_eq_true rfl) fl_RX4_123 ?_
    refine V_icmp_ge (q := 105) (q2 := 32) dX4_makeForms_29 rfl rfl (fun hb22 => ?_) (fun hb22 => ?_)
    · replace h := it h hb22
      refine V_msk (L' := [none, none, none, none, none, none, none, none, none]) [false, false, true, false, false, true, true, true, true] rfl ?_
      exact hk (s) h
    · replace h := ie h hb22
      refine V_aload_n (q := 33) dX4_makeForms_32 rfl rfl ?_
      refine V_geti (k := 30) (j := 5) (q := 36) clz_3 dX4_makeForms_33 rfl rfl rfl (Nat.le_of_ble_eq_true rfl) fl_RX4_106 ?_
      refine V_aload_n (q := 37) dX4_makeForms_36 rfl rfl ?_
      refine V_getr (k := 30) (j := 4) (q := 40) clz_3 dX4_makeForms_37 rfl rfl rfl (Nat.le_of_ble_eq_true rfl) fl_RX4_21 ?_
      refine V_alen (k := 31) (q := 41) (v := 6) (Nat.le_of_ble_eq_true rfl) dX4_makeForms_40 rfl rfl rfl ?_
      refine V_icmp_ge (q := 105) (q2 := 44) dX4_makeForms_41 rfl rfl (fun hb21 => ?_) (fun hb21 => ?_)
      · replace h := it h hb21
        refine V_msk (L' := [none, none, none, none, none, none, none, none, none]) [false, false, true, false, false, true, true, true, true] rfl ?_
        exact hk (s) h
      · replace h := ie h hb21
        refine V_aload_n (q := 45) dX4_makeForms_44 rfl rfl ?_
        refine V_getr (k := 30) (j := 0) (q := 48) clz_3 dX4_makeForms_45 rfl rfl rfl (Nat.le_of_ble_eq_true rfl) fl_RX4_9 ?_
        refine V_getr (k := 4) (j := 7) (q := 51) clz_0 dX4_makeForms_48 rfl rfl rfl (Nat.le_of_ble_eq_true rfl) fl_RX4_126 ?_
        refine V_iload (q := 53) dX4_makeForms_51 rfl rfl ?_
        obtain ⟨hi9, x8, ex10, h⟩ := rL_ok h
        refine V_lald (k := 10) (q := 54) dX4_makeForms_53 rfl rfl hi9 ex10 ?_
        refine V_lstore (q := 56) (L' := [some (.ref (ad (xY X) 30)), some (.long c1), none, some (.int c3), some (.int i4), some (.long x8), none, none, none]) dX4_makeForms_54 rfl (Nat.le_of_ble_eq_true rfl) rfl ?_
        refine V_lload_n (q := 57) dX4_makeForms_56 rfl rfl ?_
        refine V_lload (q := 59) dX4_makeForms_57 rfl rfl ?_
        refine V_iload_n (q := 60) dX4_makeForms_59 rfl rfl ?_
        refine V_lload (q := 62) dX4_makeForms_60 rfl rfl ?_
        obtain ⟨x11, hc12, h⟩ := cP_ok h
        refine V_cs1 (q := 65) (As := [.long x8]) (rest := [.int c3, .long x8, .long c1]) (ct_X0_sizeOf (xY X) hc12) ce_X0_sizeOf st_yX0_sizeOf ml_RX4_117 rfl ⟨Nat.le_of_ble_eq_true rfl, Nat.le_of_ble_eq_true rfl⟩ rfl (Nat.le_of_ble_eq_true rfl) dX4_makeForms_62 rfl ?_
        refine V_isub (q := 66) dX4_makeForms_65 rfl ?_
        obtain ⟨x13, hc14, h⟩ := cP_ok h
        refine V_cs1 (q := 69) (As := [.long c1, .long x8, .int (c3 - x11)]) (rest := []) (ct_X0_without (xY X) hc14) ce_X0_without st_yX0_without ml_RX4_129 rfl ⟨Nat.le_of_ble_eq_true rfl, Nat.le_of_ble_eq_true rfl⟩ rfl (Nat.le_of_ble_eq_true rfl) dX4_makeForms_66 rfl ?_
        refine V_lstore (q := 71) (L' := [some (.ref (ad (xY X) 30)), some (.long c1), none, some (.int c3), some (.int i4), some (.long x8), none, some (.long x13), none]) dX4_makeForms_69 rfl (Nat.le_of_ble_eq_true rfl) rfl ?_
        refine V_lload (q := 73) dX4_makeForms_71 rfl rfl ?_
        refine V_lconst (q := 74) (v := 0) dX4_makeForms_73 rfl rfl ?_
        refine V_lcmp (q := 75) dX4_makeForms_74 rfl ?_
        refine V_if_eq (q := 99) (q2 := 78) dX4_makeForms_75 rfl rfl (fun hb20 => ?_) (fun hb20 => ?_)
        · replace h := it h hb20
          refine V_iinc (q := 102) (v := 1) (L' := [some (.ref (ad (xY X) 30)), some (.long c1), none, some (.int c3), some (.int (i4 + 1)), some (.long x8), none, some (.long x13), none]) dX4_makeForms_99 rfl rfl iconst_1 (Nat.le_of_ble_eq_true rfl) rfl ?_
          refine V_goto (q := 20) dX4_makeForms_102 rfl ?_
          refine V_msk (L' := [some (.ref (ad (xY X) 30)), some (.long c1), none, some (.int c3), some (.int (i4 + 1)), none, none, none, none]) [true, true, true, true, true, false, true, false, true] rfl ?_
          exact ih (s) ((i4 + 1)) h
        · replace h := ie h hb20
          refine V_aload_n (q := 79) dX4_makeForms_78 rfl rfl ?_
          refine V_getr (k := 30) (j := 4) (q := 82) clz_3 dX4_makeForms_79 rfl rfl rfl (Nat.le_of_ble_eq_true rfl) fl_RX4_21 ?_
          refine V_aload_n (q := 83) dX4_makeForms_82 rfl rfl ?_
          refine V_geti (k := 30) (j := 5) (q := 86) clz_3 dX4_makeForms_83 rfl rfl rfl (Nat.le_of_ble_eq_true rfl) fl_RX4_106 ?_
          refine V_lload (q := 88) dX4_makeForms_86 rfl rfl ?_
          obtain ⟨hi17, s15, e16, h⟩ := wL_ok h
          refine V_last (k := 31) (q := 89) dX4_makeForms_88 rfl rfl hi17 e16 ?_
          refine V_aload_n (q := 90) dX4_makeForms_89 rfl rfl ?_
          refine V_dup (q := 91) dX4_makeForms_90 rfl rfl ?_
          refine V_geti (k := 30) (j := 5) (q := 94) clz_3 dX4_makeForms_91 rfl rfl rfl (Nat.le_of_ble_eq_true rfl) fl_RX4_106 ?_
          refine V_iconst (q := 95) (v := 1) dX4_makeForms_94 rfl iconst_1 ?_
          refine V_iadd (q := 96) dX4_makeForms_95 rfl ?_
          obtain ⟨s18, e19, h⟩ := pI_ok h
          refine V_puti (k := 30) (j := 5) (q := 99) clz_3 .int (by decide +kernel) rfl rfl rfl dX4_makeForms_96 rfl rfl rfl (Nat.le_of_ble_eq_true rfl) fl_RX4_106 e19 ?_
          refine V_iinc (q := 102) (v := 1) (L' := [some (.ref (ad (xY X) 30)), some (.long c1), none, some (.int c3), some (.int (i4 + 1)), some (.long x8), none, some (.long x13), none]) dX4_makeForms_99 rfl rfl iconst_1 (Nat.le_of_ble_eq_true rfl) rfl ?_
          refine V_goto (q := 20) dX4_makeForms_102 rfl ?_
          refine V_msk (L' := [some (.ref (ad (xY X) 30)), some (.long c1), none, some (.int c3), some (.int (i4 + 1)), none, none, none, none]) [true, true, true, true, true, false, true, false, true] rfl ?_
          exact ih (s18) ((i4 + 1)) h
set_option maxRecDepth 20000 in
theorem ct_X4_makeForms (Y : Yc) {σ : Sg} {a1 : Int64} {r : Unit} {σr : Sg} (h : f_X4_makeForms σ a1 = some (r, σr)) : Ct M_X4_makeForms yX4_makeForms Y [.ref (ad Y 30), .long a1] σ none σr := by
  refine Ct_intro [some (.ref (ad Y 30)), some (.long a1), none, none, none, none, none, none, none] (by decide +kernel) rfl (Nat.le_of_ble_eq_true rfl) rfl (fun X hY => ?_) ⟨rfl, rfl⟩
  subst hY
  unfold f_X4_makeForms at h
  refine V_lload_n (q := 1) dX4_makeForms_0 rfl rfl ?_
  obtain ⟨x1, hc2, h⟩ := cP_ok h
  refine V_cs1 (q := 4) (As := [.long a1]) (rest := []) (ct_X0_sizeOf (xY X) hc2) ce_X0_sizeOf st_yX0_sizeOf ml_RX4_117 rfl ⟨Nat.le_of_ble_eq_true rfl, Nat.le_of_ble_eq_true rfl⟩ rfl (Nat.le_of_ble_eq_true rfl) dX4_makeForms_1 rfl ?_
  refine V_istore_n (q := 5) (L' := [some (.ref (ad (xY X) 30)), some (.long a1), none, some (.int x1), none, none, none, none, none]) dX4_makeForms_4 rfl (Nat.le_of_ble_eq_true rfl) rfl ?_
  refine V_aload_n (q := 6) dX4_makeForms_5 rfl rfl ?_
  refine V_getr (k := 30) (j := 4) (q := 9) clz_3 dX4_makeForms_6 rfl rfl rfl (Nat.le_of_ble_eq_true rfl) fl_RX4_21 ?_
  refine V_iconst (q := 10) (v := 0) dX4_makeForms_9 rfl iconst_0 ?_
  refine V_lload_n (q := 11) dX4_makeForms_10 rfl rfl ?_
  obtain ⟨hi5, s3, e4, h⟩ := wL_ok h
  refine V_last (k := 31) (q := 12) dX4_makeForms_11 rfl rfl hi5 e4 ?_
  refine V_aload_n (q := 13) dX4_makeForms_12 rfl rfl ?_
  refine V_iconst (q := 14) (v := 1) dX4_makeForms_13 rfl iconst_1 ?_
  obtain ⟨s6, e7, h⟩ := pI_ok h
  refine V_puti (k := 30) (j := 5) (q := 17) clz_3 .int (by decide +kernel) rfl rfl rfl dX4_makeForms_14 rfl rfl rfl (Nat.le_of_ble_eq_true rfl) fl_RX4_106 e7 ?_
  refine V_iconst (q := 18) (v := 0) dX4_makeForms_17 rfl iconst_0 ?_
  refine V_istore (q := 20) (L' := [some (.ref (ad (xY X) 30)), some (.long a1), none, some (.int x1), some (.int 0), none, none, none, none]) dX4_makeForms_18 rfl (Nat.le_of_ble_eq_true rfl) rfl ?_
  refine w_X4_makeForms_L20 (fun s23 h => ?_) fu (s6) (0) h
  cases h
  exact V_vret rfl dX4_makeForms_105
def M_X4_isForm : Mc := (RX4, cX4_isForm, 5, { frames := 0, cells := 0, slots := 0, locals := 0 }, (some .boolean))
theorem ce_X4_isForm : Cee M_X4_isForm yX4_isForm 2 := ⟨cd_yX4_isForm, ini_RX4, ⟨by decide +kernel, by decide +kernel, by decide +kernel⟩, rfl, rfl⟩
set_option maxRecDepth 20000 in
theorem w_X4_isForm_L3 {X : Xc} {σ : Sg} {c1 : Int64} {c3 : Int32} {r : Int32} {k : Option Int32}
    (hk : k = some r → V X M_X4_isForm (mq X (some (.int r)) σ) 39 [none, none, none, none, none] [] σ) :
    ∀ (n : Nat) (i4 : Int32), f_X4_isForm_L3 k σ c1 c3 n i4 = some r → V X M_X4_isForm (mq X (some (.int r)) σ) 3 [some (.ref (ad (xY X) 30)), some (.long c1), none, some (.int c3), some (.int i4)] [] σ := by
  intro n
  induction n with
  | zero => intro i4 h; cases h
  | succ n ih =>
    intro i4 h
    rw [f_X4_isForm_L3] at h
    refine V_iload (q := 5) dX4_isForm_3 rfl rfl ?_
    refine V_iload_n (q := 6) dX4_isForm_5 rfl rfl ?_
    refine V_icmp_ge (q := 39) (q2 := 9) dX4_isForm_6 rfl rfl (fun hb6 => ?_) (fun hb6 => ?_)
    · replace h := it h hb6
      refine V_msk (L' := [none, none, none, none, none]) [false, false, true, false, false] rfl ?_
      exact hk  h
    · replace h := ie h hb6
      refine V_iload (q := 11) dX4_isForm_9 rfl rfl ?_
      refine V_aload_n (q := 12) dX4_isForm_11 rfl rfl ?_
      refine V_getr (k := 30) (j := 4) (q := 15) clz_3 dX4_isForm_12 rfl rfl rfl (Nat.le_of_ble_eq_true rfl) fl_RX4_21 ?_
      refine V_alen (k := 31) (q := 16) (v := 6) (Nat.le_of_ble_eq_true rfl) dX4_isForm_15 rfl rfl rfl ?_
      refine V_icmp_ge (q := 39) (q2 := 19) dX4_isForm_16 rfl rfl (fun hb5 => ?_) (fun hb5 => ?_)
      · replace h := it h hb5
        refine V_msk (L' := [none, none, none, none, none]) [false, false, true, false, false] rfl ?_
        exact hk  h
      · replace h := ie h hb5
        refine V_aload_n (q := 20) dX4_isForm_19 rfl rfl ?_
        refine V_getr (k := 30) (j := 4) (q := 23) clz_3 dX4_isForm_20 rfl rfl rfl (Nat.le_of_ble_eq_true rfl) fl_RX4_21 ?_
        refine V_iload (q := 25) dX4_isForm_23 rfl rfl ?_
        obtain ⟨hi2, x1, ex3, h⟩ := rL_ok h
        refine V_lald (k := 31) (q := 26) dX4_isForm_25 rfl rfl hi2 ex3 ?_
        refine V_lload_n (q := 27) dX4_isForm_26 rfl rfl ?_
        refine V_lcmp (q := 28) dX4_isForm_27 rfl ?_
        refine V_if_ne (q := 33) (q2 := 31) dX4_isForm_28 rfl rfl (fun hb4 => ?_) (fun hb4 => ?_)
        · replace h := ie h hb4
          refine V_iinc (q := 36) (v := 1) (L' := [some (.ref (ad (xY X) 30)), some (.long c1), none, some (.int c3), some (.int (i4 + 1))]) dX4_isForm_33 rfl rfl iconst_1 (Nat.le_of_ble_eq_true rfl) rfl ?_
          refine V_goto (q := 3) dX4_isForm_36 rfl ?_
          exact ih ((i4 + 1)) h
        · replace h := it h hb4
          refine V_iconst (q := 32) (v := 1) dX4_isForm_31 rfl iconst_1 ?_
          cases h
          exact V_zret rfl rfl dX4_isForm_32
set_option maxRecDepth 20000 in
theorem ct_X4_isForm (Y : Yc) {σ : Sg} {a1 : Int64} {a2 : Int32} {r : Int32} (h : f_X4_isForm σ a1 a2 = some r) : Ct M_X4_isForm yX4_isForm Y [.ref (ad Y 30), .long a1, .int a2] σ (some (.int r)) σ := by
  refine Ct_intro [some (.ref (ad Y 30)), some (.long a1), none, some (.int a2), none] (by decide +kernel) rfl (Nat.le_of_ble_eq_true rfl) rfl (fun X hY => ?_) ⟨rfl, rfl⟩
  subst hY
  unfold f_X4_isForm at h
  refine V_iconst (q := 1) (v := 0) dX4_isForm_0 rfl iconst_0 ?_
  refine V_istore (q := 3) (L' := [some (.ref (ad (xY X) 30)), some (.long a1), none, some (.int a2), some (.int 0)]) dX4_isForm_1 rfl (Nat.le_of_ble_eq_true rfl) rfl ?_
  refine w_X4_isForm_L3 (fun h => ?_) fu (0) h
  refine V_iconst (q := 40) (v := 0) dX4_isForm_39 rfl iconst_0 ?_
  cases h
  exact V_zret rfl rfl dX4_isForm_40
def M_X4_meets : Mc := (RX4, cX4_meets, 6, { frames := 2, cells := 0, slots := 0, locals := 52 }, (some .int))
theorem ce_X4_meets : Cee M_X4_meets yX4_meets 1 := ⟨cd_yX4_meets, ini_RX4, ⟨by decide +kernel, by decide +kernel, by decide +kernel⟩, rfl, rfl⟩
set_option maxRecDepth 20000 in
theorem w_X4_meets_L68 {X : Xc} {σ : Sg} {c3 : Int32} {c4 : Int32} {r : Int32} {σr : Sg} {k : Int32 → Option (Int32 × Sg)}
    (hk : ∀ (i2 : Int32), k i2 = some (r, σr) → V X M_X4_meets (mq X (some (.int r)) σr) 118 [some (.ref (ad (xY X) 30)), none, some (.int i2), some (.int c3), none, none] [] σ) :
    ∀ (n : Nat) (i2 : Int32) (i5 : Int32), f_X4_meets_L68 k σ c3 c4 n i2 i5 = some (r, σr) → V X M_X4_meets (mq X (some (.int r)) σr) 68 [some (.ref (ad (xY X) 30)), none, some (.int i2), some (.int c3), some (.int c4), some (.int i5)] [] σ := by
  intro n
  induction n with
  | zero => intro i2 i5 h; cases h
  | succ n ih =>
    intro i2 i5 h
    rw [f_X4_meets_L68] at h
    refine V_iload (q := 70) dX4_meets_68 rfl rfl ?_
    refine V_aload_n (q := 71) dX4_meets_70 rfl rfl ?_
    refine V_getr (k := 30) (j := 0) (q := 74) clz_3 dX4_meets_71 rfl rfl rfl (Nat.le_of_ble_eq_true rfl) fl_RX4_9 ?_
    refine V_getr (k := 4) (j := 2) (q := 77) clz_0 dX4_meets_74 rfl rfl rfl (Nat.le_of_ble_eq_true rfl) fl_RX4_85 ?_
    refine V_iload_n (q := 78) dX4_meets_77 rfl rfl ?_
    obtain ⟨hi16, x15, ex17, h⟩ := rI_ok h
    refine V_iald (k := 6) (q := 79) dX4_meets_78 rfl rfl hi16 ex17 ?_
    refine V_icmp_ge (q := 118) (q2 := 82) dX4_meets_79 rfl rfl (fun hb23 => ?_) (fun hb23 => ?_)
    · replace h := it h hb23
      refine V_msk (L' := [some (.ref (ad (xY X) 30)), none, some (.int i2), some (.int c3), none, none]) [true, true, true, true, false, false] rfl ?_
      exact hk (i2) h
    · replace h := ie h hb23
      refine V_aload_n (q := 83) dX4_meets_82 rfl rfl ?_
      refine V_aload_n (q := 84) dX4_meets_83 rfl rfl ?_
      refine V_getr (k := 30) (j := 0) (q := 87) clz_3 dX4_meets_84 rfl rfl rfl (Nat.le_of_ble_eq_true rfl) fl_RX4_9 ?_
      refine V_iload_n (q := 88) dX4_meets_87 rfl rfl ?_
      refine V_iload (q := 90) dX4_meets_88 rfl rfl ?_
      obtain ⟨x18, hc19, h⟩ := cP_ok h
      refine V_cv1 (k := 4) (q := 93) (As := [.int c3, .int i5]) (rest := [.ref (ad (xY X) 30)]) (ct_X1_wordOf (xY X) hc19) ce_X1_wordOf clz_0 rfl im_yX1_wordOf se_yX1_wordOf rfl ml_RX4_109 rfl ⟨Nat.le_of_ble_eq_true rfl, Nat.le_of_ble_eq_true rfl⟩ rfl (Nat.le_of_ble_eq_true rfl) dX4_meets_90 rfl ?_
      refine V_iload (q := 95) dX4_meets_93 rfl rfl ?_
      obtain ⟨x20, hc21, h⟩ := cP_ok h
      refine V_cv1 (k := 30) (q := 98) (As := [.long x18, .int c4]) (rest := []) (ct_X4_isForm (xY X) hc21) ce_X4_isForm clz_3 rfl im_yX4_isForm se_yX4_isForm rfl ml_RX4_113 rfl ⟨Nat.le_of_ble_eq_true rfl, Nat.le_of_ble_eq_true rfl⟩ rfl (Nat.le_of_ble_eq_true rfl) dX4_meets_95 rfl ?_
      refine V_if_eq (q := 112) (q2 := 101) dX4_meets_98 rfl rfl (fun hb22 => ?_) (fun hb22 => ?_)
      · replace h := it h hb22
        refine V_iinc (q := 115) (v := 1) (L' := [some (.ref (ad (xY X) 30)), none, some (.int i2), some (.int c3), some (.int c4), some (.int (i5 + 1))]) dX4_meets_112 rfl rfl iconst_1 (Nat.le_of_ble_eq_true rfl) rfl ?_
        refine V_goto (q := 68) dX4_meets_115 rfl ?_
        exact ih (i2) ((i5 + 1)) h
      · replace h := ie h hb22
        refine V_iload_n (q := 102) dX4_meets_101 rfl rfl ?_
        refine V_iconst (q := 103) (v := 1) dX4_meets_102 rfl iconst_1 ?_
        refine V_iload_n (q := 104) dX4_meets_103 rfl rfl ?_
        refine V_iconst (q := 105) (v := 4) dX4_meets_104 rfl iconst_4 ?_
        refine V_imul (q := 106) dX4_meets_105 rfl ?_
        refine V_iload (q := 108) dX4_meets_106 rfl rfl ?_
        refine V_iadd (q := 109) dX4_meets_108 rfl ?_
        refine V_ishl (q := 110) dX4_meets_109 rfl ?_
        refine V_ior (q := 111) dX4_meets_110 rfl ?_
        refine V_istore_n (q := 112) (L' := [some (.ref (ad (xY X) 30)), none, some (.int (i2 ||| (1 <<< (((c3 * 4) + i5) &&& 31)))), some (.int c3), some (.int c4), some (.int i5)]) dX4_meets_111 rfl (Nat.le_of_ble_eq_true rfl) rfl ?_
        refine V_iinc (q := 115) (v := 1) (L' := [some (.ref (ad (xY X) 30)), none, some (.int (i2 ||| (1 <<< (((c3 * 4) + i5) &&& 31)))), some (.int c3), some (.int c4), some (.int (i5 + 1))]) dX4_meets_112 rfl rfl iconst_1 (Nat.le_of_ble_eq_true rfl) rfl ?_
        refine V_goto (q := 68) dX4_meets_115 rfl ?_
        exact ih ((i2 ||| (1 <<< (((c3 * 4) + i5) &&& 31)))) ((i5 + 1)) h
set_option maxRecDepth 20000 in
theorem w_X4_meets_L31 {X : Xc} {σ : Sg} {r : Int32} {σr : Sg} {k : Int32 → Option (Int32 × Sg)}
    (hk : ∀ (i2 : Int32), k i2 = some (r, σr) → V X M_X4_meets (mq X (some (.int r)) σr) 124 [none, none, some (.int i2), none, none, none] [] σ) :
    ∀ (n : Nat) (i2 : Int32) (i3 : Int32), f_X4_meets_L31 k σ n i2 i3 = some (r, σr) → V X M_X4_meets (mq X (some (.int r)) σr) 31 [some (.ref (ad (xY X) 30)), none, some (.int i2), some (.int i3), none, none] [] σ := by
  intro n
  induction n with
  | zero => intro i2 i3 h; cases h
  | succ n ih =>
    intro i2 i3 h
    rw [f_X4_meets_L31] at h
    refine V_iload_n (q := 32) dX4_meets_31 rfl rfl ?_
    refine V_aload_n (q := 33) dX4_meets_32 rfl rfl ?_
    refine V_getr (k := 30) (j := 0) (q := 36) clz_3 dX4_meets_33 rfl rfl rfl (Nat.le_of_ble_eq_true rfl) fl_RX4_9 ?_
    refine V_geti (k := 4) (j := 0) (q := 39) clz_0 dX4_meets_36 rfl rfl rfl (Nat.le_of_ble_eq_true rfl) fl_RX4_82 ?_
    refine V_icmp_ge (q := 124) (q2 := 42) dX4_meets_39 rfl rfl (fun hb26 => ?_) (fun hb26 => ?_)
    · replace h := it h hb26
      refine V_msk (L' := [none, none, some (.int i2), none, none, none]) [false, true, true, false, true, true] rfl ?_
      exact hk (i2) h
    · replace h := ie h hb26
      refine V_aload_n (q := 43) dX4_meets_42 rfl rfl ?_
      refine V_getr (k := 30) (j := 0) (q := 46) clz_3 dX4_meets_43 rfl rfl rfl (Nat.le_of_ble_eq_true rfl) fl_RX4_9 ?_
      refine V_getr (k := 4) (j := 4) (q := 49) clz_0 dX4_meets_46 rfl rfl rfl (Nat.le_of_ble_eq_true rfl) fl_RX4_103 ?_
      refine V_iload_n (q := 50) dX4_meets_49 rfl rfl ?_
      obtain ⟨hi11, x10, ex12, h⟩ := rI_ok h
      refine V_iald (k := 8) (q := 51) dX4_meets_50 rfl rfl hi11 ex12 ?_
      refine V_iconst (q := 52) (v := 1) dX4_meets_51 rfl iconst_1 ?_
      obtain ⟨k13, ek13, h⟩ := jn_ok h
      have hk13 : ∀ (v14 : Int32), k13 v14 = some (r, σr) → V X M_X4_meets (mq X (some (.int r)) σr) 63 [some (.ref (ad (xY X) 30)), none, some (.int i2), some (.int i3), none, none] [.int v14] σ := by
        clear h
        intro v14 h
        rw [ek13] at h
        refine V_istore (q := 65) (L' := [some (.ref (ad (xY X) 30)), none, some (.int i2), some (.int i3), some (.int v14), none]) dX4_meets_63 rfl (Nat.le_of_ble_eq_true rfl) rfl ?_
        refine V_iconst (q := 66) (v := 0) dX4_meets_65 rfl iconst_0 ?_
        refine V_istore (q := 68) (L' := [some (.ref (ad (xY X) 30)), none, some (.int i2), some (.int i3), some (.int v14), some (.int 0)]) dX4_meets_66 rfl (Nat.le_of_ble_eq_true rfl) rfl ?_
        refine w_X4_meets_L68 (fun v24 h => ?_) fu (i2) (0) h
        refine V_iinc (q := 121) (v := 1) (L' := [some (.ref (ad (xY X) 30)), none, some (.int v24), some (.int (i3 + 1)), none, none]) dX4_meets_118 rfl rfl iconst_1 (Nat.le_of_ble_eq_true rfl) rfl ?_
        refine V_goto (q := 31) dX4_meets_121 rfl ?_
        exact ih (v24) ((i3 + 1)) h
      refine V_icmp_ne (q := 62) (q2 := 55) dX4_meets_52 rfl rfl (fun hb25 => ?_) (fun hb25 => ?_)
      · replace h := ie h hb25
        refine V_iconst (q := 63) (v := 1) dX4_meets_62 rfl iconst_1 ?_
        exact hk13 (1) h
      · replace h := it h hb25
        refine V_aload_n (q := 56) dX4_meets_55 rfl rfl ?_
        refine V_geti (k := 30) (j := 5) (q := 59) clz_3 dX4_meets_56 rfl rfl rfl (Nat.le_of_ble_eq_true rfl) fl_RX4_106 ?_
        refine V_goto (q := 63) dX4_meets_59 rfl ?_
        exact hk13 ((σ.1 30 5)) h
set_option maxRecDepth 20000 in
theorem ct_X4_meets (Y : Yc) {σ : Sg} {a1 : Int32} {r : Int32} {σr : Sg} (h : f_X4_meets σ a1 = some (r, σr)) : Ct M_X4_meets yX4_meets Y [.ref (ad Y 30), .int a1] σ (some (.int r)) σr := by
  refine Ct_intro [some (.ref (ad Y 30)), some (.int a1), none, none, none, none] (by decide +kernel) rfl (Nat.le_of_ble_eq_true rfl) rfl (fun X hY => ?_) ⟨rfl, rfl⟩
  subst hY
  unfold f_X4_meets at h
  refine V_aload_n (q := 1) dX4_meets_0 rfl rfl ?_
  refine V_getr (k := 30) (j := 1) (q := 4) clz_3 dX4_meets_1 rfl rfl rfl (Nat.le_of_ble_eq_true rfl) fl_RX4_15 ?_
  refine V_getr (k := 26) (j := 2) (q := 7) clz_5 dX4_meets_4 rfl rfl rfl (Nat.le_of_ble_eq_true rfl) fl_RX4_92 ?_
  refine V_iload_n (q := 8) dX4_meets_7 rfl rfl ?_
  obtain ⟨hi2, x1, ex3, h⟩ := rI_ok h
  refine V_zald (k := 28) (q := 9) dX4_meets_8 rfl rfl hi2 ex3 ?_
  refine V_if_eq (q := 14) (q2 := 12) dX4_meets_9 rfl rfl (fun hb28 => ?_) (fun hb28 => ?_)
  · replace h := it h hb28
    refine V_aload_n (q := 15) dX4_meets_14 rfl rfl ?_
    refine V_aload_n (q := 16) dX4_meets_15 rfl rfl ?_
    refine V_getr (k := 30) (j := 1) (q := 19) clz_3 dX4_meets_16 rfl rfl rfl (Nat.le_of_ble_eq_true rfl) fl_RX4_15 ?_
    refine V_getr (k := 26) (j := 1) (q := 22) clz_5 dX4_meets_19 rfl rfl rfl (Nat.le_of_ble_eq_true rfl) fl_RX4_96 ?_
    refine V_iload_n (q := 23) dX4_meets_22 rfl rfl ?_
    obtain ⟨hi5, x4, ex6, h⟩ := rL_ok h
    refine V_lald (k := 27) (q := 24) dX4_meets_23 rfl rfl hi5 ex6 ?_
    obtain ⟨x7, s9, hc8, h⟩ := cA_ok h
    refine V_cv0 (k := 30) (q := 27) (As := [.long x4]) (rest := []) (ct_X4_makeForms (xY X) hc8) ce_X4_makeForms clz_3 rfl im_yX4_makeForms se_yX4_makeForms rfl ml_RX4_99 rfl ⟨Nat.le_of_ble_eq_true rfl, Nat.le_of_ble_eq_true rfl⟩ rfl (Nat.le_of_ble_eq_true rfl) dX4_meets_24 rfl ?_
    refine V_iconst (q := 28) (v := 0) dX4_meets_27 rfl iconst_0 ?_
    refine V_istore_n (q := 29) (L' := [some (.ref (ad (xY X) 30)), some (.int a1), some (.int 0), none, none, none]) dX4_meets_28 rfl (Nat.le_of_ble_eq_true rfl) rfl ?_
    refine V_iconst (q := 30) (v := 0) dX4_meets_29 rfl iconst_0 ?_
    refine V_istore_n (q := 31) (L' := [some (.ref (ad (xY X) 30)), some (.int a1), some (.int 0), some (.int 0), none, none]) dX4_meets_30 rfl (Nat.le_of_ble_eq_true rfl) rfl ?_
    refine V_msk (L' := [some (.ref (ad (xY X) 30)), none, some (.int 0), some (.int 0), none, none]) [true, false, true, true, true, true] rfl ?_
    refine w_X4_meets_L31 (fun v27 h => ?_) fu (0) (0) h
    refine V_iload_n (q := 125) dX4_meets_124 rfl rfl ?_
    cases h
    exact V_iret rfl dX4_meets_125
  · replace h := ie h hb28
    refine V_iconst (q := 13) (v := 0) dX4_meets_12 rfl iconst_0 ?_
    cases h
    exact V_iret rfl dX4_meets_13
def M_X4_hasBegun : Mc := (RX4, cX4_hasBegun, 4, { frames := 0, cells := 0, slots := 0, locals := 0 }, (some .boolean))
theorem ce_X4_hasBegun : Cee M_X4_hasBegun yX4_hasBegun 3 := ⟨cd_yX4_hasBegun, ini_RX4, ⟨by decide +kernel, by decide +kernel, by decide +kernel⟩, rfl, rfl⟩
set_option maxRecDepth 20000 in
theorem ct_X4_hasBegun (Y : Yc) {σ : Sg} {a1 : Int32} {a2 : Int32} {a3 : Int32} {r : Int32} (h : f_X4_hasBegun σ a1 a2 a3 = some r) : Ct M_X4_hasBegun yX4_hasBegun Y [.ref (ad Y 30), .int a1, .int a2, .int a3] σ (some (.int r)) σ := by
  refine Ct_intro [some (.ref (ad Y 30)), some (.int a1), some (.int a2), some (.int a3)] (by decide +kernel) rfl (Nat.le_of_ble_eq_true rfl) rfl (fun X hY => ?_) ⟨rfl, rfl⟩
  subst hY
  unfold f_X4_hasBegun at h
  refine V_aload_n (q := 1) dX4_hasBegun_0 rfl rfl ?_
  refine V_getr (k := 30) (j := 6) (q := 4) clz_3 dX4_hasBegun_1 rfl rfl rfl (Nat.le_of_ble_eq_true rfl) fl_RX4_27 ?_
  refine V_iload_n (q := 5) dX4_hasBegun_4 rfl rfl ?_
  obtain ⟨hi2, x1, ex3, h⟩ := rI_ok h
  refine V_iald (k := 32) (q := 6) dX4_hasBegun_5 rfl rfl hi2 ex3 ?_
  refine V_iload_n (q := 7) dX4_hasBegun_6 rfl rfl ?_
  refine V_iconst (q := 8) (v := 4) dX4_hasBegun_7 rfl iconst_4 ?_
  refine V_imul (q := 9) dX4_hasBegun_8 rfl ?_
  refine V_iload_n (q := 10) dX4_hasBegun_9 rfl rfl ?_
  refine V_iadd (q := 11) dX4_hasBegun_10 rfl ?_
  refine V_iconst (q := 12) (v := 1) dX4_hasBegun_11 rfl iconst_1 ?_
  refine V_isub (q := 13) dX4_hasBegun_12 rfl ?_
  refine V_iushr (q := 14) dX4_hasBegun_13 rfl ?_
  refine V_iconst (q := 15) (v := 1) dX4_hasBegun_14 rfl iconst_1 ?_
  refine V_iand (q := 16) dX4_hasBegun_15 rfl ?_
  refine V_if_eq (q := 23) (q2 := 19) dX4_hasBegun_16 rfl rfl (fun hb4 => ?_) (fun hb4 => ?_)
  · replace h := it h hb4
    refine V_iconst (q := 24) (v := 0) dX4_hasBegun_23 rfl iconst_0 ?_
    cases h
    exact V_zret rfl rfl dX4_hasBegun_24
  · replace h := ie h hb4
    refine V_iconst (q := 20) (v := 1) dX4_hasBegun_19 rfl iconst_1 ?_
    refine V_goto (q := 24) dX4_hasBegun_20 rfl ?_
    cases h
    exact V_zret rfl rfl dX4_hasBegun_24
def M_X4_look : Mc := (RX4, cX4_look, 6, { frames := 3, cells := 0, slots := 0, locals := 77 }, none)
theorem ce_X4_look : Cee M_X4_look yX4_look 1 := ⟨cd_yX4_look, ini_RX4, ⟨by decide +kernel, by decide +kernel, by decide +kernel⟩, rfl, rfl⟩
set_option maxRecDepth 20000 in
theorem w_X4_look_L51 {X : Xc} {c1 : Int32} {r : Unit} {σr : Sg} {k : Sg → Option (Unit × Sg)}
    (hk : ∀ (s : Sg), k s = some (r, σr) → V X M_X4_look (mq X none σr) 116 [none, none, none, none, none, none] [] s) :
    ∀ (n : Nat) (s : Sg) (i3 : Int32), f_X4_look_L51 k c1 n s i3 = some (r, σr) → V X M_X4_look (mq X none σr) 51 [some (.ref (ad (xY X) 30)), some (.int c1), none, some (.int i3), none, none] [] s := by
  intro n
  induction n with
  | zero => intro s i3 h; cases h
  | succ n ih =>
    intro s i3 h
    rw [f_X4_look_L51] at h
    refine V_iload_n (q := 52) dX4_look_51 rfl rfl ?_
    refine V_aload_n (q := 53) dX4_look_52 rfl rfl ?_
    refine V_getr (k := 30) (j := 0) (q := 56) clz_3 dX4_look_53 rfl rfl rfl (Nat.le_of_ble_eq_true rfl) fl_RX4_9 ?_
    refine V_geti (k := 4) (j := 0) (q := 59) clz_0 dX4_look_56 rfl rfl rfl (Nat.le_of_ble_eq_true rfl) fl_RX4_82 ?_
    refine V_icmp_ge (q := 116) (q2 := 62) dX4_look_59 rfl rfl (fun hb27 => ?_) (fun hb27 => ?_)
    · replace h := it h hb27
      refine V_msk (L' := [none, none, none, none, none, none]) [false, false, true, false, true, true] rfl ?_
      exact hk (s) h
    · replace h := ie h hb27
      refine V_aload_n (q := 63) dX4_look_62 rfl rfl ?_
      refine V_getr (k := 30) (j := 0) (q := 66) clz_3 dX4_look_63 rfl rfl rfl (Nat.le_of_ble_eq_true rfl) fl_RX4_9 ?_
      refine V_getr (k := 4) (j := 2) (q := 69) clz_0 dX4_look_66 rfl rfl rfl (Nat.le_of_ble_eq_true rfl) fl_RX4_85 ?_
      refine V_iload_n (q := 70) dX4_look_69 rfl rfl ?_
      obtain ⟨hi15, x14, ex16, h⟩ := rI_ok h
      refine V_iald (k := 6) (q := 71) dX4_look_70 rfl rfl hi15 ex16 ?_
      refine V_istore (q := 73) (L' := [some (.ref (ad (xY X) 30)), some (.int c1), none, some (.int i3), some (.int x14), none]) dX4_look_71 rfl (Nat.le_of_ble_eq_true rfl) rfl ?_
      refine V_iload_n (q := 74) dX4_look_73 rfl rfl ?_
      refine V_iload (q := 76) dX4_look_74 rfl rfl ?_
      refine V_isub (q := 77) dX4_look_76 rfl ?_
      refine V_iconst (q := 78) (v := 1) dX4_look_77 rfl iconst_1 ?_
      refine V_iadd (q := 79) dX4_look_78 rfl ?_
      refine V_istore (q := 81) (L' := [some (.ref (ad (xY X) 30)), some (.int c1), none, some (.int i3), some (.int x14), some (.int ((c1 - x14) + 1))]) dX4_look_79 rfl (Nat.le_of_ble_eq_true rfl) rfl ?_
      refine V_iload (q := 83) dX4_look_81 rfl rfl ?_
      refine V_if_lt (q := 110) (q2 := 86) dX4_look_83 rfl rfl (fun hb26 => ?_) (fun hb26 => ?_)
      · replace h := it h hb26
        refine V_iinc (q := 113) (v := 1) (L' := [some (.ref (ad (xY X) 30)), some (.int c1), none, some (.int (i3 + 1)), some (.int x14), some (.int ((c1 - x14) + 1))]) dX4_look_110 rfl rfl iconst_1 (Nat.le_of_ble_eq_true rfl) rfl ?_
        refine V_goto (q := 51) dX4_look_113 rfl ?_
        refine V_msk (L' := [some (.ref (ad (xY X) 30)), some (.int c1), none, some (.int (i3 + 1)), none, none]) [true, true, true, true, false, false] rfl ?_
        exact ih (s) ((i3 + 1)) h
      · replace h := ie h hb26
        refine V_aload_n (q := 87) dX4_look_86 rfl rfl ?_
        refine V_iload_n (q := 88) dX4_look_87 rfl rfl ?_
        refine V_iload_n (q := 89) dX4_look_88 rfl rfl ?_
        refine V_iload (q := 91) dX4_look_89 rfl rfl ?_
        obtain ⟨x17, hc18, h⟩ := cP_ok h
        refine V_cv1 (k := 30) (q := 94) (As := [.int c1, .int i3, .int x14]) (rest := []) (ct_X4_hasBegun (xY X) hc18) ce_X4_hasBegun clz_3 rfl im_yX4_hasBegun se_yX4_hasBegun rfl ml_RX4_88 rfl ⟨Nat.le_of_ble_eq_true rfl, Nat.le_of_ble_eq_true rfl⟩ rfl (Nat.le_of_ble_eq_true rfl) dX4_look_91 rfl ?_
        refine V_if_eq (q := 110) (q2 := 97) dX4_look_94 rfl rfl (fun hb25 => ?_) (fun hb25 => ?_)
        · replace h := it h hb25
          refine V_iinc (q := 113) (v := 1) (L' := [some (.ref (ad (xY X) 30)), some (.int c1), none, some (.int (i3 + 1)), some (.int x14), some (.int ((c1 - x14) + 1))]) dX4_look_110 rfl rfl iconst_1 (Nat.le_of_ble_eq_true rfl) rfl ?_
          refine V_goto (q := 51) dX4_look_113 rfl ?_
          refine V_msk (L' := [some (.ref (ad (xY X) 30)), some (.int c1), none, some (.int (i3 + 1)), none, none]) [true, true, true, true, false, false] rfl ?_
          exact ih (s) ((i3 + 1)) h
        · replace h := ie h hb25
          refine V_aload_n (q := 98) dX4_look_97 rfl rfl ?_
          refine V_getr (k := 30) (j := 7) (q := 101) clz_3 dX4_look_98 rfl rfl rfl (Nat.le_of_ble_eq_true rfl) fl_RX4_31 ?_
          refine V_iload (q := 103) dX4_look_101 rfl rfl ?_
          refine V_dup2 (q := 104) dX4_look_103 rfl rfl rfl ?_
          obtain ⟨hi20, x19, ex21, h⟩ := rI_ok h
          refine V_iald (k := 33) (q := 105) dX4_look_104 rfl rfl hi20 ex21 ?_
          refine V_iconst (q := 106) (v := 1) dX4_look_105 rfl iconst_1 ?_
          refine V_iload_n (q := 107) dX4_look_106 rfl rfl ?_
          refine V_ishl (q := 108) dX4_look_107 rfl ?_
          refine V_ior (q := 109) dX4_look_108 rfl ?_
          obtain ⟨hi24, s22, e23, h⟩ := wI_ok h
          refine V_iast (k := 33) (q := 110) dX4_look_109 rfl rfl hi24 e23 ?_
          refine V_iinc (q := 113) (v := 1) (L' := [some (.ref (ad (xY X) 30)), some (.int c1), none, some (.int (i3 + 1)), some (.int x14), some (.int ((c1 - x14) + 1))]) dX4_look_110 rfl rfl iconst_1 (Nat.le_of_ble_eq_true rfl) rfl ?_
          refine V_goto (q := 51) dX4_look_113 rfl ?_
          refine V_msk (L' := [some (.ref (ad (xY X) 30)), some (.int c1), none, some (.int (i3 + 1)), none, none]) [true, true, true, true, false, false] rfl ?_
          exact ih (s22) ((i3 + 1)) h
set_option maxRecDepth 20000 in
theorem ct_X4_look (Y : Yc) {σ : Sg} {a1 : Int32} {r : Unit} {σr : Sg} (h : f_X4_look σ a1 = some (r, σr)) : Ct M_X4_look yX4_look Y [.ref (ad Y 30), .int a1] σ none σr := by
  refine Ct_intro [some (.ref (ad Y 30)), some (.int a1), none, none, none, none] (by decide +kernel) rfl (Nat.le_of_ble_eq_true rfl) rfl (fun X hY => ?_) ⟨rfl, rfl⟩
  subst hY
  unfold f_X4_look at h
  refine V_aload_n (q := 1) dX4_look_0 rfl rfl ?_
  refine V_getr (k := 30) (j := 1) (q := 4) clz_3 dX4_look_1 rfl rfl rfl (Nat.le_of_ble_eq_true rfl) fl_RX4_15 ?_
  refine V_iload_n (q := 5) dX4_look_4 rfl rfl ?_
  obtain ⟨x1, hc2, h⟩ := cP_ok h
  refine V_cv1 (k := 26) (q := 8) (As := [.int a1]) (rest := []) (ct_X6_beginsSentence (xY X) hc2) ce_X6_beginsSentence clz_5 rfl im_yX6_beginsSentence se_yX6_beginsSentence rfl ml_RX4_73 rfl ⟨Nat.le_of_ble_eq_true rfl, Nat.le_of_ble_eq_true rfl⟩ rfl (Nat.le_of_ble_eq_true rfl) dX4_look_5 rfl ?_
  obtain ⟨k3, ek3, h⟩ := jn_ok h
  have hk3 : ∀ (v4 : Int32), k3 v4 = some (r, σr) → V X M_X4_look (mq X none σr) 23 [some (.ref (ad (xY X) 30)), some (.int a1), none, none, none, none] [.int v4] σ := by
    clear h
    intro v4 h
    rw [ek3] at h
    refine V_istore_n (q := 24) (L' := [some (.ref (ad (xY X) 30)), some (.int a1), some (.int v4), none, none, none]) dX4_look_23 rfl (Nat.le_of_ble_eq_true rfl) rfl ?_
    refine V_aload_n (q := 25) dX4_look_24 rfl rfl ?_
    refine V_getr (k := 30) (j := 6) (q := 28) clz_3 dX4_look_25 rfl rfl rfl (Nat.le_of_ble_eq_true rfl) fl_RX4_27 ?_
    refine V_iload_n (q := 29) dX4_look_28 rfl rfl ?_
    refine V_iload_n (q := 30) dX4_look_29 rfl rfl ?_
    refine V_iconst (q := 31) (v := 1) dX4_look_30 rfl iconst_1 ?_
    refine V_ishl (q := 32) dX4_look_31 rfl ?_
    refine V_ldc (q := 34) kc_RX4_77 dX4_look_32 rfl ?_
    refine V_ior (q := 35) dX4_look_34 rfl ?_
    refine V_aload_n (q := 36) dX4_look_35 rfl rfl ?_
    refine V_iload_n (q := 37) dX4_look_36 rfl rfl ?_
    obtain ⟨x5, s7, hc6, h⟩ := cA_ok h
    refine V_cv1 (k := 30) (q := 40) (As := [.int a1]) (rest := [.int ((v4 <<< (1 &&& 31)) ||| (286331153 : Int32)), .int a1, .ref (ad (xY X) 32)]) (ct_X4_meets (xY X) hc6) ce_X4_meets clz_3 rfl im_yX4_meets se_yX4_meets rfl ml_RX4_78 rfl ⟨Nat.le_of_ble_eq_true rfl, Nat.le_of_ble_eq_true rfl⟩ rfl (Nat.le_of_ble_eq_true rfl) dX4_look_37 rfl ?_
    refine V_iand (q := 41) dX4_look_40 rfl ?_
    obtain ⟨hi10, s8, e9, h⟩ := wI_ok h
    refine V_iast (k := 32) (q := 42) dX4_look_41 rfl rfl hi10 e9 ?_
    refine V_aload_n (q := 43) dX4_look_42 rfl rfl ?_
    refine V_getr (k := 30) (j := 7) (q := 46) clz_3 dX4_look_43 rfl rfl rfl (Nat.le_of_ble_eq_true rfl) fl_RX4_31 ?_
    refine V_iload_n (q := 47) dX4_look_46 rfl rfl ?_
    refine V_iconst (q := 48) (v := 0) dX4_look_47 rfl iconst_0 ?_
    obtain ⟨hi13, s11, e12, h⟩ := wI_ok h
    refine V_iast (k := 33) (q := 49) dX4_look_48 rfl rfl hi13 e12 ?_
    refine V_iconst (q := 50) (v := 0) dX4_look_49 rfl iconst_0 ?_
    refine V_istore_n (q := 51) (L' := [some (.ref (ad (xY X) 30)), some (.int a1), some (.int v4), some (.int 0), none, none]) dX4_look_50 rfl (Nat.le_of_ble_eq_true rfl) rfl ?_
    refine V_msk (L' := [some (.ref (ad (xY X) 30)), some (.int a1), none, some (.int 0), none, none]) [true, true, false, true, true, true] rfl ?_
    refine w_X4_look_L51 (fun s28 h => ?_) fu (s11) (0) h
    cases h
    exact V_vret rfl dX4_look_116
  refine V_if_eq (q := 15) (q2 := 11) dX4_look_8 rfl rfl (fun hb32 => ?_) (fun hb32 => ?_)
  · replace h := it h hb32
    refine V_aload_n (q := 16) dX4_look_15 rfl rfl ?_
    refine V_getr (k := 30) (j := 6) (q := 19) clz_3 dX4_look_16 rfl rfl rfl (Nat.le_of_ble_eq_true rfl) fl_RX4_27 ?_
    refine V_iload_n (q := 20) dX4_look_19 rfl rfl ?_
    refine V_iconst (q := 21) (v := 1) dX4_look_20 rfl iconst_1 ?_
    refine V_isub (q := 22) dX4_look_21 rfl ?_
    obtain ⟨hi30, x29, ex31, h⟩ := rI_ok h
    refine V_iald (k := 32) (q := 23) dX4_look_22 rfl rfl hi30 ex31 ?_
    exact hk3 (x29) h
  · replace h := ie h hb32
    refine V_iconst (q := 12) (v := 0) dX4_look_11 rfl iconst_0 ?_
    refine V_goto (q := 23) dX4_look_12 rfl ?_
    exact hk3 (0) h
def M_X4_isFound : Mc := (RX4, cX4_isFound, 3, { frames := 0, cells := 0, slots := 0, locals := 0 }, (some .boolean))
theorem ce_X4_isFound : Cee M_X4_isFound yX4_isFound 2 := ⟨cd_yX4_isFound, ini_RX4, ⟨by decide +kernel, by decide +kernel, by decide +kernel⟩, rfl, rfl⟩
set_option maxRecDepth 20000 in
theorem ct_X4_isFound (Y : Yc) {σ : Sg} {a1 : Int32} {a2 : Int32} {r : Int32} (h : f_X4_isFound σ a1 a2 = some r) : Ct M_X4_isFound yX4_isFound Y [.ref (ad Y 30), .int a1, .int a2] σ (some (.int r)) σ := by
  refine Ct_intro [some (.ref (ad Y 30)), some (.int a1), some (.int a2)] (by decide +kernel) rfl (Nat.le_of_ble_eq_true rfl) rfl (fun X hY => ?_) ⟨rfl, rfl⟩
  subst hY
  unfold f_X4_isFound at h
  refine V_aload_n (q := 1) dX4_isFound_0 rfl rfl ?_
  refine V_getr (k := 30) (j := 7) (q := 4) clz_3 dX4_isFound_1 rfl rfl rfl (Nat.le_of_ble_eq_true rfl) fl_RX4_31 ?_
  refine V_iload_n (q := 5) dX4_isFound_4 rfl rfl ?_
  obtain ⟨hi2, x1, ex3, h⟩ := rI_ok h
  refine V_iald (k := 33) (q := 6) dX4_isFound_5 rfl rfl hi2 ex3 ?_
  refine V_iload_n (q := 7) dX4_isFound_6 rfl rfl ?_
  refine V_iushr (q := 8) dX4_isFound_7 rfl ?_
  refine V_iconst (q := 9) (v := 1) dX4_isFound_8 rfl iconst_1 ?_
  refine V_iand (q := 10) dX4_isFound_9 rfl ?_
  refine V_if_eq (q := 17) (q2 := 13) dX4_isFound_10 rfl rfl (fun hb4 => ?_) (fun hb4 => ?_)
  · replace h := it h hb4
    refine V_iconst (q := 18) (v := 0) dX4_isFound_17 rfl iconst_0 ?_
    cases h
    exact V_zret rfl rfl dX4_isFound_18
  · replace h := ie h hb4
    refine V_iconst (q := 14) (v := 1) dX4_isFound_13 rfl iconst_1 ?_
    refine V_goto (q := 18) dX4_isFound_14 rfl ?_
    cases h
    exact V_zret rfl rfl dX4_isFound_18
def M_X1_worthOf : Mc := (RX1, cX1_worthOf, 2, { frames := 0, cells := 0, slots := 0, locals := 0 }, (some .int))
theorem ce_X1_worthOf : Cee M_X1_worthOf yX1_worthOf 1 := ⟨cd_yX1_worthOf, ini_RX1, ⟨by decide +kernel, by decide +kernel, by decide +kernel⟩, rfl, rfl⟩
set_option maxRecDepth 20000 in
theorem ct_X1_worthOf (Y : Yc) {σ : Sg} {a1 : Int32} {r : Int32} (h : f_X1_worthOf σ a1 = some r) : Ct M_X1_worthOf yX1_worthOf Y [.ref (ad Y 4), .int a1] σ (some (.int r)) σ := by
  refine Ct_intro [some (.ref (ad Y 4)), some (.int a1)] (by decide +kernel) rfl (Nat.le_of_ble_eq_true rfl) rfl (fun X hY => ?_) ⟨rfl, rfl⟩
  subst hY
  unfold f_X1_worthOf at h
  refine V_aload_n (q := 1) dX1_worthOf_0 rfl rfl ?_
  refine V_getr (k := 4) (j := 3) (q := 4) clz_0 dX1_worthOf_1 rfl rfl rfl (Nat.le_of_ble_eq_true rfl) fl_RX1_19 ?_
  refine V_iload_n (q := 5) dX1_worthOf_4 rfl rfl ?_
  obtain ⟨hi2, x1, ex3, h⟩ := rI_ok h
  refine V_iald (k := 7) (q := 6) dX1_worthOf_5 rfl rfl hi2 ex3 ?_
  refine V_aload_n (q := 7) dX1_worthOf_6 rfl rfl ?_
  refine V_getr (k := 4) (j := 2) (q := 10) clz_0 dX1_worthOf_7 rfl rfl rfl (Nat.le_of_ble_eq_true rfl) fl_RX1_15 ?_
  refine V_iload_n (q := 11) dX1_worthOf_10 rfl rfl ?_
  obtain ⟨hi5, x4, ex6, h⟩ := rI_ok h
  refine V_iald (k := 6) (q := 12) dX1_worthOf_11 rfl rfl hi5 ex6 ?_
  refine V_imul (q := 13) dX1_worthOf_12 rfl ?_
  cases h
  exact V_iret rfl dX1_worthOf_13
def M_X4_isBetter : Mc := (RX4, cX4_isBetter, 5, { frames := 0, cells := 0, slots := 0, locals := 0 }, (some .boolean))
theorem ce_X4_isBetter : Cee M_X4_isBetter yX4_isBetter 4 := ⟨cd_yX4_isBetter, ini_RX4, ⟨by decide +kernel, by decide +kernel, by decide +kernel⟩, rfl, rfl⟩
set_option maxRecDepth 20000 in
theorem ct_X4_isBetter (Y : Yc) {σ : Sg} {a1 : Int32} {a2 : Int32} {a3 : Int32} {a4 : Int32} {r : Int32} (h : f_X4_isBetter σ a1 a2 a3 a4 = some r) : Ct M_X4_isBetter yX4_isBetter Y [.ref (ad Y 30), .int a1, .int a2, .int a3, .int a4] σ (some (.int r)) σ := by
  refine Ct_intro [some (.ref (ad Y 30)), some (.int a1), some (.int a2), some (.int a3), some (.int a4)] (by decide +kernel) rfl (Nat.le_of_ble_eq_true rfl) rfl (fun X hY => ?_) ⟨rfl, rfl⟩
  subst hY
  unfold f_X4_isBetter at h
  refine V_iload_n (q := 1) dX4_isBetter_0 rfl rfl ?_
  refine V_aload_n (q := 2) dX4_isBetter_1 rfl rfl ?_
  refine V_getr (k := 30) (j := 8) (q := 5) clz_3 dX4_isBetter_2 rfl rfl rfl (Nat.le_of_ble_eq_true rfl) fl_RX4_34 ?_
  refine V_iload_n (q := 6) dX4_isBetter_5 rfl rfl ?_
  obtain ⟨hi2, x1, ex3, h⟩ := rI_ok h
  refine V_iald (k := 34) (q := 7) dX4_isBetter_6 rfl rfl hi2 ex3 ?_
  refine V_icmp_eq (q := 26) (q2 := 10) dX4_isBetter_7 rfl rfl (fun hb30 => ?_) (fun hb30 => ?_)
  · replace h := it h hb30
    refine V_iload (q := 28) dX4_isBetter_26 rfl rfl ?_
    refine V_aload_n (q := 29) dX4_isBetter_28 rfl rfl ?_
    refine V_getr (k := 30) (j := 9) (q := 32) clz_3 dX4_isBetter_29 rfl rfl rfl (Nat.le_of_ble_eq_true rfl) fl_RX4_37 ?_
    refine V_iload_n (q := 33) dX4_isBetter_32 rfl rfl ?_
    obtain ⟨hi5, x4, ex6, h⟩ := rI_ok h
    refine V_iald (k := 35) (q := 34) dX4_isBetter_33 rfl rfl hi5 ex6 ?_
    refine V_icmp_eq (q := 54) (q2 := 37) dX4_isBetter_34 rfl rfl (fun hb25 => ?_) (fun hb25 => ?_)
    · replace h := it h hb25
      refine V_aload_n (q := 55) dX4_isBetter_54 rfl rfl ?_
      refine V_getr (k := 30) (j := 10) (q := 58) clz_3 dX4_isBetter_55 rfl rfl rfl (Nat.le_of_ble_eq_true rfl) fl_RX4_40 ?_
      refine V_iload_n (q := 59) dX4_isBetter_58 rfl rfl ?_
      obtain ⟨hi8, x7, ex9, h⟩ := rI_ok h
      refine V_iald (k := 36) (q := 60) dX4_isBetter_59 rfl rfl hi8 ex9 ?_
      refine V_iconst (q := 61) (v := (-1)) dX4_isBetter_60 rfl iconst_m1 ?_
      refine V_icmp_eq (q := 90) (q2 := 64) dX4_isBetter_61 rfl rfl (fun hb20 => ?_) (fun hb20 => ?_)
      · replace h := it h hb20
        refine V_iconst (q := 91) (v := 1) dX4_isBetter_90 rfl iconst_1 ?_
        refine V_goto (q := 95) dX4_isBetter_91 rfl ?_
        cases h
        exact V_zret rfl rfl dX4_isBetter_95
      · replace h := ie h hb20
        refine V_aload_n (q := 65) dX4_isBetter_64 rfl rfl ?_
        refine V_getr (k := 30) (j := 0) (q := 68) clz_3 dX4_isBetter_65 rfl rfl rfl (Nat.le_of_ble_eq_true rfl) fl_RX4_9 ?_
        refine V_getr (k := 4) (j := 2) (q := 71) clz_0 dX4_isBetter_68 rfl rfl rfl (Nat.le_of_ble_eq_true rfl) fl_RX4_85 ?_
        refine V_iload_n (q := 72) dX4_isBetter_71 rfl rfl ?_
        obtain ⟨hi11, x10, ex12, h⟩ := rI_ok h
        refine V_iald (k := 6) (q := 73) dX4_isBetter_72 rfl rfl hi11 ex12 ?_
        refine V_aload_n (q := 74) dX4_isBetter_73 rfl rfl ?_
        refine V_getr (k := 30) (j := 0) (q := 77) clz_3 dX4_isBetter_74 rfl rfl rfl (Nat.le_of_ble_eq_true rfl) fl_RX4_9 ?_
        refine V_getr (k := 4) (j := 2) (q := 80) clz_0 dX4_isBetter_77 rfl rfl rfl (Nat.le_of_ble_eq_true rfl) fl_RX4_85 ?_
        refine V_aload_n (q := 81) dX4_isBetter_80 rfl rfl ?_
        refine V_getr (k := 30) (j := 10) (q := 84) clz_3 dX4_isBetter_81 rfl rfl rfl (Nat.le_of_ble_eq_true rfl) fl_RX4_40 ?_
        refine V_iload_n (q := 85) dX4_isBetter_84 rfl rfl ?_
        obtain ⟨hi14, x13, ex15, h⟩ := rI_ok h
        refine V_iald (k := 36) (q := 86) dX4_isBetter_85 rfl rfl hi14 ex15 ?_
        obtain ⟨hi17, x16, ex18, h⟩ := rI_ok h
        refine V_iald (k := 6) (q := 87) dX4_isBetter_86 rfl rfl hi17 ex18 ?_
        refine V_icmp_le (q := 94) (q2 := 90) dX4_isBetter_87 rfl rfl (fun hb19 => ?_) (fun hb19 => ?_)
        · replace h := it h hb19
          refine V_iconst (q := 95) (v := 0) dX4_isBetter_94 rfl iconst_0 ?_
          cases h
          exact V_zret rfl rfl dX4_isBetter_95
        · replace h := ie h hb19
          refine V_iconst (q := 91) (v := 1) dX4_isBetter_90 rfl iconst_1 ?_
          refine V_goto (q := 95) dX4_isBetter_91 rfl ?_
          cases h
          exact V_zret rfl rfl dX4_isBetter_95
    · replace h := ie h hb25
      refine V_iload (q := 39) dX4_isBetter_37 rfl rfl ?_
      refine V_aload_n (q := 40) dX4_isBetter_39 rfl rfl ?_
      refine V_getr (k := 30) (j := 9) (q := 43) clz_3 dX4_isBetter_40 rfl rfl rfl (Nat.le_of_ble_eq_true rfl) fl_RX4_37 ?_
      refine V_iload_n (q := 44) dX4_isBetter_43 rfl rfl ?_
      obtain ⟨hi22, x21, ex23, h⟩ := rI_ok h
      refine V_iald (k := 35) (q := 45) dX4_isBetter_44 rfl rfl hi22 ex23 ?_
      refine V_icmp_ge (q := 52) (q2 := 48) dX4_isBetter_45 rfl rfl (fun hb24 => ?_) (fun hb24 => ?_)
      · replace h := it h hb24
        refine V_iconst (q := 53) (v := 0) dX4_isBetter_52 rfl iconst_0 ?_
        cases h
        exact V_zret rfl rfl dX4_isBetter_53
      · replace h := ie h hb24
        refine V_iconst (q := 49) (v := 1) dX4_isBetter_48 rfl iconst_1 ?_
        refine V_goto (q := 53) dX4_isBetter_49 rfl ?_
        cases h
        exact V_zret rfl rfl dX4_isBetter_53
  · replace h := ie h hb30
    refine V_iload_n (q := 11) dX4_isBetter_10 rfl rfl ?_
    refine V_aload_n (q := 12) dX4_isBetter_11 rfl rfl ?_
    refine V_getr (k := 30) (j := 8) (q := 15) clz_3 dX4_isBetter_12 rfl rfl rfl (Nat.le_of_ble_eq_true rfl) fl_RX4_34 ?_
    refine V_iload_n (q := 16) dX4_isBetter_15 rfl rfl ?_
    obtain ⟨hi27, x26, ex28, h⟩ := rI_ok h
    refine V_iald (k := 34) (q := 17) dX4_isBetter_16 rfl rfl hi27 ex28 ?_
    refine V_icmp_le (q := 24) (q2 := 20) dX4_isBetter_17 rfl rfl (fun hb29 => ?_) (fun hb29 => ?_)
    · replace h := it h hb29
      refine V_iconst (q := 25) (v := 0) dX4_isBetter_24 rfl iconst_0 ?_
      cases h
      exact V_zret rfl rfl dX4_isBetter_25
    · replace h := ie h hb29
      refine V_iconst (q := 21) (v := 1) dX4_isBetter_20 rfl iconst_1 ?_
      refine V_goto (q := 25) dX4_isBetter_21 rfl ?_
      cases h
      exact V_zret rfl rfl dX4_isBetter_25
def M_X4_weighFrom : Mc := (RX4, cX4_weighFrom, 6, { frames := 1, cells := 0, slots := 0, locals := 24 }, none)
theorem ce_X4_weighFrom : Cee M_X4_weighFrom yX4_weighFrom 1 := ⟨cd_yX4_weighFrom, ini_RX4, ⟨by decide +kernel, by decide +kernel, by decide +kernel⟩, rfl, rfl⟩
set_option maxRecDepth 20000 in
theorem w_X4_weighFrom_L37 {X : Xc} {c1 : Int32} {r : Unit} {σr : Sg} {k : Sg → Option (Unit × Sg)}
    (hk : ∀ (s : Sg), k s = some (r, σr) → V X M_X4_weighFrom (mq X none σr) 149 [none, none, none, none, none, none] [] s) :
    ∀ (n : Nat) (s : Sg) (i2 : Int32), f_X4_weighFrom_L37 k c1 n s i2 = some (r, σr) → V X M_X4_weighFrom (mq X none σr) 37 [some (.ref (ad (xY X) 30)), some (.int c1), some (.int i2), none, none, none] [] s := by
  intro n
  induction n with
  | zero => intro s i2 h; cases h
  | succ n ih =>
    intro s i2 h
    rw [f_X4_weighFrom_L37] at h
    refine V_iload_n (q := 38) dX4_weighFrom_37 rfl rfl ?_
    refine V_aload_n (q := 39) dX4_weighFrom_38 rfl rfl ?_
    refine V_getr (k := 30) (j := 0) (q := 42) clz_3 dX4_weighFrom_39 rfl rfl rfl (Nat.le_of_ble_eq_true rfl) fl_RX4_9 ?_
    refine V_geti (k := 4) (j := 0) (q := 45) clz_0 dX4_weighFrom_42 rfl rfl rfl (Nat.le_of_ble_eq_true rfl) fl_RX4_82 ?_
    refine V_icmp_ge (q := 149) (q2 := 48) dX4_weighFrom_45 rfl rfl (fun hb43 => ?_) (fun hb43 => ?_)
    · replace h := it h hb43
      refine V_msk (L' := [none, none, none, none, none, none]) [false, false, false, true, true, true] rfl ?_
      exact hk (s) h
    · replace h := ie h hb43
      refine V_iload_n (q := 49) dX4_weighFrom_48 rfl rfl ?_
      refine V_aload_n (q := 50) dX4_weighFrom_49 rfl rfl ?_
      refine V_getr (k := 30) (j := 0) (q := 53) clz_3 dX4_weighFrom_50 rfl rfl rfl (Nat.le_of_ble_eq_true rfl) fl_RX4_9 ?_
      refine V_getr (k := 4) (j := 2) (q := 56) clz_0 dX4_weighFrom_53 rfl rfl rfl (Nat.le_of_ble_eq_true rfl) fl_RX4_85 ?_
      refine V_iload_n (q := 57) dX4_weighFrom_56 rfl rfl ?_
      obtain ⟨hi17, x16, ex18, h⟩ := rI_ok h
      refine V_iald (k := 6) (q := 58) dX4_weighFrom_57 rfl rfl hi17 ex18 ?_
      refine V_iadd (q := 59) dX4_weighFrom_58 rfl ?_
      refine V_istore_n (q := 60) (L' := [some (.ref (ad (xY X) 30)), some (.int c1), some (.int i2), some (.int (c1 + x16)), none, none]) dX4_weighFrom_59 rfl (Nat.le_of_ble_eq_true rfl) rfl ?_
      refine V_aload_n (q := 61) dX4_weighFrom_60 rfl rfl ?_
      refine V_iload_n (q := 62) dX4_weighFrom_61 rfl rfl ?_
      refine V_iload_n (q := 63) dX4_weighFrom_62 rfl rfl ?_
      obtain ⟨x19, hc20, h⟩ := cP_ok h
      refine V_cv1 (k := 30) (q := 66) (As := [.int c1, .int i2]) (rest := []) (ct_X4_isFound (xY X) hc20) ce_X4_isFound clz_3 rfl im_yX4_isFound se_yX4_isFound rfl ml_RX4_136 rfl ⟨Nat.le_of_ble_eq_true rfl, Nat.le_of_ble_eq_true rfl⟩ rfl (Nat.le_of_ble_eq_true rfl) dX4_weighFrom_63 rfl ?_
      refine V_if_eq (q := 143) (q2 := 69) dX4_weighFrom_66 rfl rfl (fun hb42 => ?_) (fun hb42 => ?_)
      · replace h := it h hb42
        refine V_iinc (q := 146) (v := 1) (L' := [some (.ref (ad (xY X) 30)), some (.int c1), some (.int (i2 + 1)), some (.int (c1 + x16)), none, none]) dX4_weighFrom_143 rfl rfl iconst_1 (Nat.le_of_ble_eq_true rfl) rfl ?_
        refine V_goto (q := 37) dX4_weighFrom_146 rfl ?_
        refine V_msk (L' := [some (.ref (ad (xY X) 30)), some (.int c1), some (.int (i2 + 1)), none, none, none]) [true, true, true, false, true, true] rfl ?_
        exact ih (s) ((i2 + 1)) h
      · replace h := ie h hb42
        refine V_iload_n (q := 70) dX4_weighFrom_69 rfl rfl ?_
        refine V_aload_n (q := 71) dX4_weighFrom_70 rfl rfl ?_
        refine V_getr (k := 30) (j := 1) (q := 74) clz_3 dX4_weighFrom_71 rfl rfl rfl (Nat.le_of_ble_eq_true rfl) fl_RX4_15 ?_
        refine V_geti (k := 26) (j := 0) (q := 77) clz_5 dX4_weighFrom_74 rfl rfl rfl (Nat.le_of_ble_eq_true rfl) fl_RX4_60 ?_
        refine V_icmp_gt (q := 143) (q2 := 80) dX4_weighFrom_77 rfl rfl (fun hb41 => ?_) (fun hb41 => ?_)
        · replace h := it h hb41
          refine V_iinc (q := 146) (v := 1) (L' := [some (.ref (ad (xY X) 30)), some (.int c1), some (.int (i2 + 1)), some (.int (c1 + x16)), none, none]) dX4_weighFrom_143 rfl rfl iconst_1 (Nat.le_of_ble_eq_true rfl) rfl ?_
          refine V_goto (q := 37) dX4_weighFrom_146 rfl ?_
          refine V_msk (L' := [some (.ref (ad (xY X) 30)), some (.int c1), some (.int (i2 + 1)), none, none, none]) [true, true, true, false, true, true] rfl ?_
          exact ih (s) ((i2 + 1)) h
        · replace h := ie h hb41
          refine V_aload_n (q := 81) dX4_weighFrom_80 rfl rfl ?_
          refine V_getr (k := 30) (j := 0) (q := 84) clz_3 dX4_weighFrom_81 rfl rfl rfl (Nat.le_of_ble_eq_true rfl) fl_RX4_9 ?_
          refine V_iload_n (q := 85) dX4_weighFrom_84 rfl rfl ?_
          obtain ⟨x21, hc22, h⟩ := cP_ok h
          refine V_cv1 (k := 4) (q := 88) (As := [.int i2]) (rest := []) (ct_X1_worthOf (xY X) hc22) ce_X1_worthOf clz_0 rfl im_yX1_worthOf se_yX1_worthOf rfl ml_RX4_140 rfl ⟨Nat.le_of_ble_eq_true rfl, Nat.le_of_ble_eq_true rfl⟩ rfl (Nat.le_of_ble_eq_true rfl) dX4_weighFrom_85 rfl ?_
          refine V_aload_n (q := 89) dX4_weighFrom_88 rfl rfl ?_
          refine V_getr (k := 30) (j := 8) (q := 92) clz_3 dX4_weighFrom_89 rfl rfl rfl (Nat.le_of_ble_eq_true rfl) fl_RX4_34 ?_
          refine V_iload_n (q := 93) dX4_weighFrom_92 rfl rfl ?_
          obtain ⟨hi24, x23, ex25, h⟩ := rI_ok h
          refine V_iald (k := 34) (q := 94) dX4_weighFrom_93 rfl rfl hi24 ex25 ?_
          refine V_iadd (q := 95) dX4_weighFrom_94 rfl ?_
          refine V_istore (q := 97) (L' := [some (.ref (ad (xY X) 30)), some (.int c1), some (.int i2), some (.int (c1 + x16)), some (.int (x21 + x23)), none]) dX4_weighFrom_95 rfl (Nat.le_of_ble_eq_true rfl) rfl ?_
          refine V_iconst (q := 98) (v := 1) dX4_weighFrom_97 rfl iconst_1 ?_
          refine V_aload_n (q := 99) dX4_weighFrom_98 rfl rfl ?_
          refine V_getr (k := 30) (j := 9) (q := 102) clz_3 dX4_weighFrom_99 rfl rfl rfl (Nat.le_of_ble_eq_true rfl) fl_RX4_37 ?_
          refine V_iload_n (q := 103) dX4_weighFrom_102 rfl rfl ?_
          obtain ⟨hi27, x26, ex28, h⟩ := rI_ok h
          refine V_iald (k := 35) (q := 104) dX4_weighFrom_103 rfl rfl hi27 ex28 ?_
          refine V_iadd (q := 105) dX4_weighFrom_104 rfl ?_
          refine V_istore (q := 107) (L' := [some (.ref (ad (xY X) 30)), some (.int c1), some (.int i2), some (.int (c1 + x16)), some (.int (x21 + x23)), some (.int (1 + x26))]) dX4_weighFrom_105 rfl (Nat.le_of_ble_eq_true rfl) rfl ?_
          refine V_aload_n (q := 108) dX4_weighFrom_107 rfl rfl ?_
          refine V_iload_n (q := 109) dX4_weighFrom_108 rfl rfl ?_
          refine V_iload_n (q := 110) dX4_weighFrom_109 rfl rfl ?_
          refine V_iload (q := 112) dX4_weighFrom_110 rfl rfl ?_
          refine V_iload (q := 114) dX4_weighFrom_112 rfl rfl ?_
          obtain ⟨x29, hc30, h⟩ := cP_ok h
          refine V_cv1 (k := 30) (q := 117) (As := [.int c1, .int i2, .int (x21 + x23), .int (1 + x26)]) (rest := []) (ct_X4_isBetter (xY X) hc30) ce_X4_isBetter clz_3 rfl im_yX4_isBetter se_yX4_isBetter rfl ml_RX4_143 rfl ⟨Nat.le_of_ble_eq_true rfl, Nat.le_of_ble_eq_true rfl⟩ rfl (Nat.le_of_ble_eq_true rfl) dX4_weighFrom_114 rfl ?_
          refine V_if_eq (q := 143) (q2 := 120) dX4_weighFrom_117 rfl rfl (fun hb40 => ?_) (fun hb40 => ?_)
          · replace h := it h hb40
            refine V_iinc (q := 146) (v := 1) (L' := [some (.ref (ad (xY X) 30)), some (.int c1), some (.int (i2 + 1)), some (.int (c1 + x16)), some (.int (x21 + x23)), some (.int (1 + x26))]) dX4_weighFrom_143 rfl rfl iconst_1 (Nat.le_of_ble_eq_true rfl) rfl ?_
            refine V_goto (q := 37) dX4_weighFrom_146 rfl ?_
            refine V_msk (L' := [some (.ref (ad (xY X) 30)), some (.int c1), some (.int (i2 + 1)), none, none, none]) [true, true, true, false, false, false] rfl ?_
            exact ih (s) ((i2 + 1)) h
          · replace h := ie h hb40
            refine V_aload_n (q := 121) dX4_weighFrom_120 rfl rfl ?_
            refine V_getr (k := 30) (j := 10) (q := 124) clz_3 dX4_weighFrom_121 rfl rfl rfl (Nat.le_of_ble_eq_true rfl) fl_RX4_40 ?_
            refine V_iload_n (q := 125) dX4_weighFrom_124 rfl rfl ?_
            refine V_iload_n (q := 126) dX4_weighFrom_125 rfl rfl ?_
            obtain ⟨hi33, s31, e32, h⟩ := wI_ok h
            refine V_iast (k := 36) (q := 127) dX4_weighFrom_126 rfl rfl hi33 e32 ?_
            refine V_aload_n (q := 128) dX4_weighFrom_127 rfl rfl ?_
            refine V_getr (k := 30) (j := 8) (q := 131) clz_3 dX4_weighFrom_128 rfl rfl rfl (Nat.le_of_ble_eq_true rfl) fl_RX4_34 ?_
            refine V_iload_n (q := 132) dX4_weighFrom_131 rfl rfl ?_
            refine V_iload (q := 134) dX4_weighFrom_132 rfl rfl ?_
            obtain ⟨hi36, s34, e35, h⟩ := wI_ok h
            refine V_iast (k := 34) (q := 135) dX4_weighFrom_134 rfl rfl hi36 e35 ?_
            refine V_aload_n (q := 136) dX4_weighFrom_135 rfl rfl ?_
            refine V_getr (k := 30) (j := 9) (q := 139) clz_3 dX4_weighFrom_136 rfl rfl rfl (Nat.le_of_ble_eq_true rfl) fl_RX4_37 ?_
            refine V_iload_n (q := 140) dX4_weighFrom_139 rfl rfl ?_
            refine V_iload (q := 142) dX4_weighFrom_140 rfl rfl ?_
            obtain ⟨hi39, s37, e38, h⟩ := wI_ok h
            refine V_iast (k := 35) (q := 143) dX4_weighFrom_142 rfl rfl hi39 e38 ?_
            refine V_iinc (q := 146) (v := 1) (L' := [some (.ref (ad (xY X) 30)), some (.int c1), some (.int (i2 + 1)), some (.int (c1 + x16)), some (.int (x21 + x23)), some (.int (1 + x26))]) dX4_weighFrom_143 rfl rfl iconst_1 (Nat.le_of_ble_eq_true rfl) rfl ?_
            refine V_goto (q := 37) dX4_weighFrom_146 rfl ?_
            refine V_msk (L' := [some (.ref (ad (xY X) 30)), some (.int c1), some (.int (i2 + 1)), none, none, none]) [true, true, true, false, false, false] rfl ?_
            exact ih (s37) ((i2 + 1)) h
set_option maxRecDepth 20000 in
theorem ct_X4_weighFrom (Y : Yc) {σ : Sg} {a1 : Int32} {r : Unit} {σr : Sg} (h : f_X4_weighFrom σ a1 = some (r, σr)) : Ct M_X4_weighFrom yX4_weighFrom Y [.ref (ad Y 30), .int a1] σ none σr := by
  refine Ct_intro [some (.ref (ad Y 30)), some (.int a1), none, none, none, none] (by decide +kernel) rfl (Nat.le_of_ble_eq_true rfl) rfl (fun X hY => ?_) ⟨rfl, rfl⟩
  subst hY
  unfold f_X4_weighFrom at h
  refine V_aload_n (q := 1) dX4_weighFrom_0 rfl rfl ?_
  refine V_getr (k := 30) (j := 10) (q := 4) clz_3 dX4_weighFrom_1 rfl rfl rfl (Nat.le_of_ble_eq_true rfl) fl_RX4_40 ?_
  refine V_iload_n (q := 5) dX4_weighFrom_4 rfl rfl ?_
  refine V_iconst (q := 6) (v := (-1)) dX4_weighFrom_5 rfl iconst_m1 ?_
  obtain ⟨hi3, s1, e2, h⟩ := wI_ok h
  refine V_iast (k := 36) (q := 7) dX4_weighFrom_6 rfl rfl hi3 e2 ?_
  refine V_aload_n (q := 8) dX4_weighFrom_7 rfl rfl ?_
  refine V_getr (k := 30) (j := 8) (q := 11) clz_3 dX4_weighFrom_8 rfl rfl rfl (Nat.le_of_ble_eq_true rfl) fl_RX4_34 ?_
  refine V_iload_n (q := 12) dX4_weighFrom_11 rfl rfl ?_
  refine V_aload_n (q := 13) dX4_weighFrom_12 rfl rfl ?_
  refine V_getr (k := 30) (j := 8) (q := 16) clz_3 dX4_weighFrom_13 rfl rfl rfl (Nat.le_of_ble_eq_true rfl) fl_RX4_34 ?_
  refine V_iload_n (q := 17) dX4_weighFrom_16 rfl rfl ?_
  refine V_iconst (q := 18) (v := 1) dX4_weighFrom_17 rfl iconst_1 ?_
  refine V_iadd (q := 19) dX4_weighFrom_18 rfl ?_
  obtain ⟨hi5, x4, ex6, h⟩ := rI_ok h
  refine V_iald (k := 34) (q := 20) dX4_weighFrom_19 rfl rfl hi5 ex6 ?_
  obtain ⟨hi9, s7, e8, h⟩ := wI_ok h
  refine V_iast (k := 34) (q := 21) dX4_weighFrom_20 rfl rfl hi9 e8 ?_
  refine V_aload_n (q := 22) dX4_weighFrom_21 rfl rfl ?_
  refine V_getr (k := 30) (j := 9) (q := 25) clz_3 dX4_weighFrom_22 rfl rfl rfl (Nat.le_of_ble_eq_true rfl) fl_RX4_37 ?_
  refine V_iload_n (q := 26) dX4_weighFrom_25 rfl rfl ?_
  refine V_aload_n (q := 27) dX4_weighFrom_26 rfl rfl ?_
  refine V_getr (k := 30) (j := 9) (q := 30) clz_3 dX4_weighFrom_27 rfl rfl rfl (Nat.le_of_ble_eq_true rfl) fl_RX4_37 ?_
  refine V_iload_n (q := 31) dX4_weighFrom_30 rfl rfl ?_
  refine V_iconst (q := 32) (v := 1) dX4_weighFrom_31 rfl iconst_1 ?_
  refine V_iadd (q := 33) dX4_weighFrom_32 rfl ?_
  obtain ⟨hi11, x10, ex12, h⟩ := rI_ok h
  refine V_iald (k := 35) (q := 34) dX4_weighFrom_33 rfl rfl hi11 ex12 ?_
  obtain ⟨hi15, s13, e14, h⟩ := wI_ok h
  refine V_iast (k := 35) (q := 35) dX4_weighFrom_34 rfl rfl hi15 e14 ?_
  refine V_iconst (q := 36) (v := 0) dX4_weighFrom_35 rfl iconst_0 ?_
  refine V_istore_n (q := 37) (L' := [some (.ref (ad (xY X) 30)), some (.int a1), some (.int 0), none, none, none]) dX4_weighFrom_36 rfl (Nat.le_of_ble_eq_true rfl) rfl ?_
  refine w_X4_weighFrom_L37 (fun s44 h => ?_) fu (s13) (0) h
  cases h
  exact V_vret rfl dX4_weighFrom_149
def M_X4_weigh : Mc := (RX4, cX4_weigh, 2, { frames := 2, cells := 0, slots := 0, locals := 49 }, none)
theorem ce_X4_weigh : Cee M_X4_weigh yX4_weigh 0 := ⟨cd_yX4_weigh, ini_RX4, ⟨by decide +kernel, by decide +kernel, by decide +kernel⟩, rfl, rfl⟩
set_option maxRecDepth 20000 in
theorem w_X4_weigh_L36 {X : Xc} {r : Unit} {σr : Sg} {k : Sg → Option (Unit × Sg)}
    (hk : ∀ (s : Sg), k s = some (r, σr) → V X M_X4_weigh (mq X none σr) 51 [none, none] [] s) :
    ∀ (n : Nat) (s : Sg) (i1 : Int32), f_X4_weigh_L36 k n s i1 = some (r, σr) → V X M_X4_weigh (mq X none σr) 36 [some (.ref (ad (xY X) 30)), some (.int i1)] [] s := by
  intro n
  induction n with
  | zero => intro s i1 h; cases h
  | succ n ih =>
    intro s i1 h
    rw [f_X4_weigh_L36] at h
    refine V_iload_n (q := 37) dX4_weigh_36 rfl rfl ?_
    refine V_if_lt (q := 51) (q2 := 40) dX4_weigh_37 rfl rfl (fun hb10 => ?_) (fun hb10 => ?_)
    · replace h := it h hb10
      refine V_msk (L' := [none, none]) [false, false] rfl ?_
      exact hk (s) h
    · replace h := ie h hb10
      refine V_aload_n (q := 41) dX4_weigh_40 rfl rfl ?_
      refine V_iload_n (q := 42) dX4_weigh_41 rfl rfl ?_
      obtain ⟨x7, s9, hc8, h⟩ := cA_ok h
      refine V_cv0 (k := 30) (q := 45) (As := [.int i1]) (rest := []) (ct_X4_weighFrom (xY X) hc8) ce_X4_weighFrom clz_3 rfl im_yX4_weighFrom se_yX4_weighFrom rfl ml_RX4_133 rfl ⟨Nat.le_of_ble_eq_true rfl, Nat.le_of_ble_eq_true rfl⟩ rfl (Nat.le_of_ble_eq_true rfl) dX4_weigh_42 rfl ?_
      refine V_iinc (q := 48) (v := (-1)) (L' := [some (.ref (ad (xY X) 30)), some (.int (i1 + (-1)))]) dX4_weigh_45 rfl rfl iconst_m1 (Nat.le_of_ble_eq_true rfl) rfl ?_
      refine V_goto (q := 36) dX4_weigh_48 rfl ?_
      exact ih (s9) ((i1 + (-1))) h
set_option maxRecDepth 20000 in
theorem ct_X4_weigh (Y : Yc) {σ : Sg}  {r : Unit} {σr : Sg} (h : f_X4_weigh σ  = some (r, σr)) : Ct M_X4_weigh yX4_weigh Y [.ref (ad Y 30)] σ none σr := by
  refine Ct_intro [some (.ref (ad Y 30)), none] (by decide +kernel) rfl (Nat.le_of_ble_eq_true rfl) rfl (fun X hY => ?_) ⟨rfl, rfl⟩
  subst hY
  unfold f_X4_weigh at h
  refine V_aload_n (q := 1) dX4_weigh_0 rfl rfl ?_
  refine V_getr (k := 30) (j := 8) (q := 4) clz_3 dX4_weigh_1 rfl rfl rfl (Nat.le_of_ble_eq_true rfl) fl_RX4_34 ?_
  refine V_aload_n (q := 5) dX4_weigh_4 rfl rfl ?_
  refine V_getr (k := 30) (j := 1) (q := 8) clz_3 dX4_weigh_5 rfl rfl rfl (Nat.le_of_ble_eq_true rfl) fl_RX4_15 ?_
  refine V_geti (k := 26) (j := 0) (q := 11) clz_5 dX4_weigh_8 rfl rfl rfl (Nat.le_of_ble_eq_true rfl) fl_RX4_60 ?_
  refine V_iconst (q := 12) (v := 0) dX4_weigh_11 rfl iconst_0 ?_
  obtain ⟨hi3, s1, e2, h⟩ := wI_ok h
  refine V_iast (k := 34) (q := 13) dX4_weigh_12 rfl rfl hi3 e2 ?_
  refine V_aload_n (q := 14) dX4_weigh_13 rfl rfl ?_
  refine V_getr (k := 30) (j := 9) (q := 17) clz_3 dX4_weigh_14 rfl rfl rfl (Nat.le_of_ble_eq_true rfl) fl_RX4_37 ?_
  refine V_aload_n (q := 18) dX4_weigh_17 rfl rfl ?_
  refine V_getr (k := 30) (j := 1) (q := 21) clz_3 dX4_weigh_18 rfl rfl rfl (Nat.le_of_ble_eq_true rfl) fl_RX4_15 ?_
  refine V_geti (k := 26) (j := 0) (q := 24) clz_5 dX4_weigh_21 rfl rfl rfl (Nat.le_of_ble_eq_true rfl) fl_RX4_60 ?_
  refine V_iconst (q := 25) (v := 0) dX4_weigh_24 rfl iconst_0 ?_
  obtain ⟨hi6, s4, e5, h⟩ := wI_ok h
  refine V_iast (k := 35) (q := 26) dX4_weigh_25 rfl rfl hi6 e5 ?_
  refine V_aload_n (q := 27) dX4_weigh_26 rfl rfl ?_
  refine V_getr (k := 30) (j := 1) (q := 30) clz_3 dX4_weigh_27 rfl rfl rfl (Nat.le_of_ble_eq_true rfl) fl_RX4_15 ?_
  refine V_geti (k := 26) (j := 0) (q := 33) clz_5 dX4_weigh_30 rfl rfl rfl (Nat.le_of_ble_eq_true rfl) fl_RX4_60 ?_
  refine V_iconst (q := 34) (v := 1) dX4_weigh_33 rfl iconst_1 ?_
  refine V_isub (q := 35) dX4_weigh_34 rfl ?_
  refine V_istore_n (q := 36) (L' := [some (.ref (ad (xY X) 30)), some (.int ((s4.1 26 0) - 1))]) dX4_weigh_35 rfl (Nat.le_of_ble_eq_true rfl) rfl ?_
  refine w_X4_weigh_L36 (fun s11 h => ?_) fu (s4) (((s4.1 26 0) - 1)) h
  cases h
  exact V_vret rfl dX4_weigh_51
def M_X4_choose : Mc := (RX4, cX4_choose, 3, { frames := 0, cells := 0, slots := 0, locals := 0 }, none)
theorem ce_X4_choose : Cee M_X4_choose yX4_choose 0 := ⟨cd_yX4_choose, ini_RX4, ⟨by decide +kernel, by decide +kernel, by decide +kernel⟩, rfl, rfl⟩
set_option maxRecDepth 20000 in
theorem w_X4_choose_L9 {X : Xc} {r : Unit} {σr : Sg} {k : Sg → Option (Unit × Sg)}
    (hk : ∀ (s : Sg), k s = some (r, σr) → V X M_X4_choose (mq X none σr) 114 [none, none, none] [] s) :
    ∀ (n : Nat) (s : Sg) (i1 : Int32) (i2 : Int32), f_X4_choose_L9 k n s i1 i2 = some (r, σr) → V X M_X4_choose (mq X none σr) 9 [some (.ref (ad (xY X) 30)), some (.int i1), some (.int i2)] [] s := by
  intro n
  induction n with
  | zero => intro s i1 i2 h; cases h
  | succ n ih =>
    intro s i1 i2 h
    rw [f_X4_choose_L9] at h
    refine V_iload_n (q := 10) dX4_choose_9 rfl rfl ?_
    refine V_aload_n (q := 11) dX4_choose_10 rfl rfl ?_
    refine V_getr (k := 30) (j := 1) (q := 14) clz_3 dX4_choose_11 rfl rfl rfl (Nat.le_of_ble_eq_true rfl) fl_RX4_15 ?_
    refine V_geti (k := 26) (j := 0) (q := 17) clz_5 dX4_choose_14 rfl rfl rfl (Nat.le_of_ble_eq_true rfl) fl_RX4_60 ?_
    refine V_icmp_ge (q := 114) (q2 := 20) dX4_choose_17 rfl rfl (fun hb34 => ?_) (fun hb34 => ?_)
    · replace h := it h hb34
      refine V_msk (L' := [none, none, none]) [false, false, false] rfl ?_
      exact hk (s) h
    · replace h := ie h hb34
      refine V_iload_n (q := 21) dX4_choose_20 rfl rfl ?_
      refine V_iload_n (q := 22) dX4_choose_21 rfl rfl ?_
      obtain ⟨k3, ek3, h⟩ := jn_ok h
      have hk3 : ∀ (s4 : Sg) (v5 : Int32), k3 s4 v5 = some (r, σr) → V X M_X4_choose (mq X none σr) 87 [some (.ref (ad (xY X) 30)), some (.int v5), some (.int i2)] [] s4 := by
        clear h
        intro s4 v5 h
        rw [ek3] at h
        refine V_aload_n (q := 88) dX4_choose_87 rfl rfl ?_
        refine V_getr (k := 30) (j := 14) (q := 91) clz_3 dX4_choose_88 rfl rfl rfl (Nat.le_of_ble_eq_true rfl) fl_RX4_49 ?_
        refine V_iload_n (q := 92) dX4_choose_91 rfl rfl ?_
        refine V_iload_n (q := 93) dX4_choose_92 rfl rfl ?_
        refine V_iload_n (q := 94) dX4_choose_93 rfl rfl ?_
        obtain ⟨k6, ek6, h⟩ := jn_ok h
        have hk6 : ∀ (v7 : Int32), k6 v7 = some (r, σr) → V X M_X4_choose (mq X none σr) 107 [some (.ref (ad (xY X) 30)), some (.int v5), some (.int i2)] [.int v7, .int i2, .ref (ad (xY X) 39)] s4 := by
          clear h
          intro v7 h
          rw [ek6] at h
          obtain ⟨hi10, s8, e9, h⟩ := wI_ok h
          refine V_iast (k := 39) (q := 108) dX4_choose_107 rfl rfl hi10 e9 ?_
          refine V_iinc (q := 111) (v := 1) (L' := [some (.ref (ad (xY X) 30)), some (.int v5), some (.int (i2 + 1))]) dX4_choose_108 rfl rfl iconst_1 (Nat.le_of_ble_eq_true rfl) rfl ?_
          refine V_goto (q := 9) dX4_choose_111 rfl ?_
          exact ih (s8) (v5) ((i2 + 1)) h
        refine V_icmp_ge (q := 106) (q2 := 97) dX4_choose_94 rfl rfl (fun hb11 => ?_) (fun hb11 => ?_)
        · replace h := it h hb11
          refine V_iconst (q := 107) (v := (-1)) dX4_choose_106 rfl iconst_m1 ?_
          exact hk6 ((-1)) h
        · replace h := ie h hb11
          refine V_aload_n (q := 98) dX4_choose_97 rfl rfl ?_
          refine V_geti (k := 30) (j := 11) (q := 101) clz_3 dX4_choose_98 rfl rfl rfl (Nat.le_of_ble_eq_true rfl) fl_RX4_147 ?_
          refine V_iconst (q := 102) (v := 1) dX4_choose_101 rfl iconst_1 ?_
          refine V_isub (q := 103) dX4_choose_102 rfl ?_
          refine V_goto (q := 107) dX4_choose_103 rfl ?_
          exact hk6 (((s4.1 30 11) - 1)) h
      refine V_icmp_lt (q := 87) (q2 := 25) dX4_choose_22 rfl rfl (fun hb33 => ?_) (fun hb33 => ?_)
      · replace h := it h hb33
        exact hk3 (s) (i1) h
      · replace h := ie h hb33
        refine V_aload_n (q := 26) dX4_choose_25 rfl rfl ?_
        refine V_getr (k := 30) (j := 10) (q := 29) clz_3 dX4_choose_26 rfl rfl rfl (Nat.le_of_ble_eq_true rfl) fl_RX4_40 ?_
        refine V_iload_n (q := 30) dX4_choose_29 rfl rfl ?_
        obtain ⟨hi13, x12, ex14, h⟩ := rI_ok h
        refine V_iald (k := 36) (q := 31) dX4_choose_30 rfl rfl hi13 ex14 ?_
        refine V_iconst (q := 32) (v := (-1)) dX4_choose_31 rfl iconst_m1 ?_
        refine V_icmp_eq (q := 87) (q2 := 35) dX4_choose_32 rfl rfl (fun hb32 => ?_) (fun hb32 => ?_)
        · replace h := it h hb32
          exact hk3 (s) (i1) h
        · replace h := ie h hb32
          refine V_aload_n (q := 36) dX4_choose_35 rfl rfl ?_
          refine V_getr (k := 30) (j := 12) (q := 39) clz_3 dX4_choose_36 rfl rfl rfl (Nat.le_of_ble_eq_true rfl) fl_RX4_43 ?_
          refine V_aload_n (q := 40) dX4_choose_39 rfl rfl ?_
          refine V_geti (k := 30) (j := 11) (q := 43) clz_3 dX4_choose_40 rfl rfl rfl (Nat.le_of_ble_eq_true rfl) fl_RX4_147 ?_
          refine V_iload_n (q := 44) dX4_choose_43 rfl rfl ?_
          obtain ⟨hi17, s15, e16, h⟩ := wI_ok h
          refine V_iast (k := 37) (q := 45) dX4_choose_44 rfl rfl hi17 e16 ?_
          refine V_aload_n (q := 46) dX4_choose_45 rfl rfl ?_
          refine V_getr (k := 30) (j := 13) (q := 49) clz_3 dX4_choose_46 rfl rfl rfl (Nat.le_of_ble_eq_true rfl) fl_RX4_46 ?_
          refine V_aload_n (q := 50) dX4_choose_49 rfl rfl ?_
          refine V_geti (k := 30) (j := 11) (q := 53) clz_3 dX4_choose_50 rfl rfl rfl (Nat.le_of_ble_eq_true rfl) fl_RX4_147 ?_
          refine V_aload_n (q := 54) dX4_choose_53 rfl rfl ?_
          refine V_getr (k := 30) (j := 10) (q := 57) clz_3 dX4_choose_54 rfl rfl rfl (Nat.le_of_ble_eq_true rfl) fl_RX4_40 ?_
          refine V_iload_n (q := 58) dX4_choose_57 rfl rfl ?_
          obtain ⟨hi19, x18, ex20, h⟩ := rI_ok h
          refine V_iald (k := 36) (q := 59) dX4_choose_58 rfl rfl hi19 ex20 ?_
          obtain ⟨hi23, s21, e22, h⟩ := wI_ok h
          refine V_iast (k := 38) (q := 60) dX4_choose_59 rfl rfl hi23 e22 ?_
          refine V_aload_n (q := 61) dX4_choose_60 rfl rfl ?_
          refine V_dup (q := 62) dX4_choose_61 rfl rfl ?_
          refine V_geti (k := 30) (j := 11) (q := 65) clz_3 dX4_choose_62 rfl rfl rfl (Nat.le_of_ble_eq_true rfl) fl_RX4_147 ?_
          refine V_iconst (q := 66) (v := 1) dX4_choose_65 rfl iconst_1 ?_
          refine V_iadd (q := 67) dX4_choose_66 rfl ?_
          obtain ⟨s24, e25, h⟩ := pI_ok h
          refine V_puti (k := 30) (j := 11) (q := 70) clz_3 .int (by decide +kernel) rfl rfl rfl dX4_choose_67 rfl rfl rfl (Nat.le_of_ble_eq_true rfl) fl_RX4_147 e25 ?_
          refine V_iload_n (q := 71) dX4_choose_70 rfl rfl ?_
          refine V_aload_n (q := 72) dX4_choose_71 rfl rfl ?_
          refine V_getr (k := 30) (j := 0) (q := 75) clz_3 dX4_choose_72 rfl rfl rfl (Nat.le_of_ble_eq_true rfl) fl_RX4_9 ?_
          refine V_getr (k := 4) (j := 2) (q := 78) clz_0 dX4_choose_75 rfl rfl rfl (Nat.le_of_ble_eq_true rfl) fl_RX4_85 ?_
          refine V_aload_n (q := 79) dX4_choose_78 rfl rfl ?_
          refine V_getr (k := 30) (j := 10) (q := 82) clz_3 dX4_choose_79 rfl rfl rfl (Nat.le_of_ble_eq_true rfl) fl_RX4_40 ?_
          refine V_iload_n (q := 83) dX4_choose_82 rfl rfl ?_
          obtain ⟨hi27, x26, ex28, h⟩ := rI_ok h
          refine V_iald (k := 36) (q := 84) dX4_choose_83 rfl rfl hi27 ex28 ?_
          obtain ⟨hi30, x29, ex31, h⟩ := rI_ok h
          refine V_iald (k := 6) (q := 85) dX4_choose_84 rfl rfl hi30 ex31 ?_
          refine V_iadd (q := 86) dX4_choose_85 rfl ?_
          refine V_istore_n (q := 87) (L' := [some (.ref (ad (xY X) 30)), some (.int (i2 + x29)), some (.int i2)]) dX4_choose_86 rfl (Nat.le_of_ble_eq_true rfl) rfl ?_
          exact hk3 (s24) ((i2 + x29)) h
set_option maxRecDepth 20000 in
theorem ct_X4_choose (Y : Yc) {σ : Sg}  {r : Unit} {σr : Sg} (h : f_X4_choose σ  = some (r, σr)) : Ct M_X4_choose yX4_choose Y [.ref (ad Y 30)] σ none σr := by
  refine Ct_intro [some (.ref (ad Y 30)), none, none] (by decide +kernel) rfl (Nat.le_of_ble_eq_true rfl) rfl (fun X hY => ?_) ⟨rfl, rfl⟩
  subst hY
  unfold f_X4_choose at h
  refine V_aload_n (q := 1) dX4_choose_0 rfl rfl ?_
  refine V_iconst (q := 2) (v := 0) dX4_choose_1 rfl iconst_0 ?_
  obtain ⟨s1, e2, h⟩ := pI_ok h
  refine V_puti (k := 30) (j := 11) (q := 5) clz_3 .int (by decide +kernel) rfl rfl rfl dX4_choose_2 rfl rfl rfl (Nat.le_of_ble_eq_true rfl) fl_RX4_147 e2 ?_
  refine V_iconst (q := 6) (v := 0) dX4_choose_5 rfl iconst_0 ?_
  refine V_istore_n (q := 7) (L' := [some (.ref (ad (xY X) 30)), some (.int 0), none]) dX4_choose_6 rfl (Nat.le_of_ble_eq_true rfl) rfl ?_
  refine V_iconst (q := 8) (v := 0) dX4_choose_7 rfl iconst_0 ?_
  refine V_istore_n (q := 9) (L' := [some (.ref (ad (xY X) 30)), some (.int 0), some (.int 0)]) dX4_choose_8 rfl (Nat.le_of_ble_eq_true rfl) rfl ?_
  refine w_X4_choose_L9 (fun s35 h => ?_) fu (s1) (0) (0) h
  cases h
  exact V_vret rfl dX4_choose_114
def M_X4_settle : Mc := (RX4, cX4_settle, 2, { frames := 4, cells := 0, slots := 0, locals := 102 }, none)
theorem ce_X4_settle : Cee M_X4_settle yX4_settle 0 := ⟨cd_yX4_settle, ini_RX4, ⟨by decide +kernel, by decide +kernel, by decide +kernel⟩, rfl, rfl⟩
set_option maxRecDepth 20000 in
theorem w_X4_settle_L13 {X : Xc} {r : Unit} {σr : Sg} {k : Sg → Option (Unit × Sg)}
    (hk : ∀ (s : Sg), k s = some (r, σr) → V X M_X4_settle (mq X none σr) 35 [some (.ref (ad (xY X) 30)), none] [] s) :
    ∀ (n : Nat) (s : Sg) (i1 : Int32), f_X4_settle_L13 k n s i1 = some (r, σr) → V X M_X4_settle (mq X none σr) 13 [some (.ref (ad (xY X) 30)), some (.int i1)] [] s := by
  intro n
  induction n with
  | zero => intro s i1 h; cases h
  | succ n ih =>
    intro s i1 h
    rw [f_X4_settle_L13] at h
    refine V_iload_n (q := 14) dX4_settle_13 rfl rfl ?_
    refine V_aload_n (q := 15) dX4_settle_14 rfl rfl ?_
    refine V_getr (k := 30) (j := 1) (q := 18) clz_3 dX4_settle_15 rfl rfl rfl (Nat.le_of_ble_eq_true rfl) fl_RX4_15 ?_
    refine V_geti (k := 26) (j := 0) (q := 21) clz_5 dX4_settle_18 rfl rfl rfl (Nat.le_of_ble_eq_true rfl) fl_RX4_60 ?_
    refine V_icmp_ge (q := 35) (q2 := 24) dX4_settle_21 rfl rfl (fun hb4 => ?_) (fun hb4 => ?_)
    · replace h := it h hb4
      refine V_msk (L' := [some (.ref (ad (xY X) 30)), none]) [true, false] rfl ?_
      exact hk (s) h
    · replace h := ie h hb4
      refine V_aload_n (q := 25) dX4_settle_24 rfl rfl ?_
      refine V_iload_n (q := 26) dX4_settle_25 rfl rfl ?_
      obtain ⟨x1, s3, hc2, h⟩ := cA_ok h
      refine V_cv0 (k := 30) (q := 29) (As := [.int i1]) (rest := []) (ct_X4_look (xY X) hc2) ce_X4_look clz_3 rfl im_yX4_look se_yX4_look rfl ml_RX4_63 rfl ⟨Nat.le_of_ble_eq_true rfl, Nat.le_of_ble_eq_true rfl⟩ rfl (Nat.le_of_ble_eq_true rfl) dX4_settle_26 rfl ?_
      refine V_iinc (q := 32) (v := 1) (L' := [some (.ref (ad (xY X) 30)), some (.int (i1 + 1))]) dX4_settle_29 rfl rfl iconst_1 (Nat.le_of_ble_eq_true rfl) rfl ?_
      refine V_goto (q := 13) dX4_settle_32 rfl ?_
      exact ih (s3) ((i1 + 1)) h
set_option maxRecDepth 20000 in
theorem ct_X4_settle (Y : Yc) {σ : Sg}  {r : Unit} {σr : Sg} (h : f_X4_settle σ  = some (r, σr)) : Ct M_X4_settle yX4_settle Y [.ref (ad Y 30)] σ none σr := by
  refine Ct_intro [some (.ref (ad Y 30)), none] (by decide +kernel) rfl (Nat.le_of_ble_eq_true rfl) rfl (fun X hY => ?_) ⟨rfl, rfl⟩
  subst hY
  unfold f_X4_settle at h
  refine V_aload_n (q := 1) dX4_settle_0 rfl rfl ?_
  refine V_geti (k := 30) (j := 3) (q := 4) clz_3 dX4_settle_1 rfl rfl rfl (Nat.le_of_ble_eq_true rfl) fl_RX4_56 ?_
  refine V_if_eq (q := 8) (q2 := 7) dX4_settle_4 rfl rfl (fun hb16 => ?_) (fun hb16 => ?_)
  · replace h := it h hb16
    refine V_aload_n (q := 9) dX4_settle_8 rfl rfl ?_
    refine V_geti (k := 30) (j := 2) (q := 12) clz_3 dX4_settle_9 rfl rfl rfl (Nat.le_of_ble_eq_true rfl) fl_RX4_52 ?_
    refine V_istore_n (q := 13) (L' := [some (.ref (ad (xY X) 30)), some (.int (σ.1 30 2))]) dX4_settle_12 rfl (Nat.le_of_ble_eq_true rfl) rfl ?_
    refine w_X4_settle_L13 (fun s5 h => ?_) fu (σ) ((σ.1 30 2)) h
    refine V_aload_n (q := 36) dX4_settle_35 rfl rfl ?_
    refine V_aload_n (q := 37) dX4_settle_36 rfl rfl ?_
    refine V_getr (k := 30) (j := 1) (q := 40) clz_3 dX4_settle_37 rfl rfl rfl (Nat.le_of_ble_eq_true rfl) fl_RX4_15 ?_
    refine V_geti (k := 26) (j := 0) (q := 43) clz_5 dX4_settle_40 rfl rfl rfl (Nat.le_of_ble_eq_true rfl) fl_RX4_60 ?_
    obtain ⟨s6, e7, h⟩ := pI_ok h
    refine V_puti (k := 30) (j := 2) (q := 46) clz_3 .int (by decide +kernel) rfl rfl rfl dX4_settle_43 rfl rfl rfl (Nat.le_of_ble_eq_true rfl) fl_RX4_52 e7 ?_
    refine V_aload_n (q := 47) dX4_settle_46 rfl rfl ?_
    obtain ⟨x8, s10, hc9, h⟩ := cA_ok h
    refine V_cv0 (k := 30) (q := 50) (As := []) (rest := []) (ct_X4_weigh (xY X) hc9) ce_X4_weigh clz_3 rfl im_yX4_weigh se_yX4_weigh rfl ml_RX4_67 rfl ⟨Nat.le_of_ble_eq_true rfl, Nat.le_of_ble_eq_true rfl⟩ rfl (Nat.le_of_ble_eq_true rfl) dX4_settle_47 rfl ?_
    refine V_aload_n (q := 51) dX4_settle_50 rfl rfl ?_
    obtain ⟨x11, s13, hc12, h⟩ := cA_ok h
    refine V_cv0 (k := 30) (q := 54) (As := []) (rest := []) (ct_X4_choose (xY X) hc12) ce_X4_choose clz_3 rfl im_yX4_choose se_yX4_choose rfl ml_RX4_70 rfl ⟨Nat.le_of_ble_eq_true rfl, Nat.le_of_ble_eq_true rfl⟩ rfl (Nat.le_of_ble_eq_true rfl) dX4_settle_51 rfl ?_
    refine V_aload_n (q := 55) dX4_settle_54 rfl rfl ?_
    refine V_iconst (q := 56) (v := 1) dX4_settle_55 rfl iconst_1 ?_
    obtain ⟨s14, e15, h⟩ := pI_ok h
    refine V_puti (k := 30) (j := 3) (q := 59) clz_3 .boolean (by decide +kernel) rfl rfl rfl dX4_settle_56 rfl rfl rfl (Nat.le_of_ble_eq_true rfl) fl_RX4_56 e15 ?_
    cases h
    exact V_vret rfl dX4_settle_59
  · replace h := ie h hb16
    cases h
    exact V_vret rfl dX4_settle_7
def M_X7_settled : Mc := (RX7, cX7_settled, 1, { frames := 5, cells := 0, slots := 0, locals := 123 }, (some (.object "TermScan$Scan")))
theorem ce_X7_settled : Cee M_X7_settled yX7_settled 0 := ⟨cd_yX7_settled, ini_RX7, ⟨by decide +kernel, by decide +kernel, by decide +kernel⟩, rfl, rfl⟩
set_option maxRecDepth 20000 in
theorem ct_X7_settled (Y : Yc) {σ : Sg}  {r : Unit} {σr : Sg} (h : f_X7_settled σ  = some (r, σr)) : Ct M_X7_settled yX7_settled Y [.ref (ad Y 0)] σ (some (.ref (ad Y 30))) σr := by
  refine Ct_intro [some (.ref (ad Y 0))] (by decide +kernel) rfl (Nat.le_of_ble_eq_true rfl) rfl (fun X hY => ?_) ⟨rfl, rfl⟩
  subst hY
  unfold f_X7_settled at h
  refine V_aload_n (q := 1) dX7_settled_0 rfl rfl ?_
  refine V_getr (k := 0) (j := 4) (q := 4) clz_6 dX7_settled_1 rfl rfl rfl (Nat.le_of_ble_eq_true rfl) fl_RX7_39 ?_
  obtain ⟨x1, s3, hc2, h⟩ := cA_ok h
  refine V_cv0 (k := 30) (q := 7) (As := []) (rest := []) (ct_X4_settle (xY X) hc2) ce_X4_settle clz_3 rfl im_yX4_settle se_yX4_settle rfl ml_RX7_295 rfl ⟨Nat.le_of_ble_eq_true rfl, Nat.le_of_ble_eq_true rfl⟩ rfl (Nat.le_of_ble_eq_true rfl) dX7_settled_4 rfl ?_
  refine V_aload_n (q := 8) dX7_settled_7 rfl rfl ?_
  refine V_getr (k := 0) (j := 4) (q := 11) clz_6 dX7_settled_8 rfl rfl rfl (Nat.le_of_ble_eq_true rfl) fl_RX7_39 ?_
  cases h
  exact V_aret rfl (Or.inr ⟨_, rfl⟩) dX7_settled_11
def M_X4_timesFound : Mc := (RX4, cX4_timesFound, 4, { frames := 1, cells := 0, slots := 0, locals := 22 }, (some .int))
theorem ce_X4_timesFound : Cee M_X4_timesFound yX4_timesFound 1 := ⟨cd_yX4_timesFound, ini_RX4, ⟨by decide +kernel, by decide +kernel, by decide +kernel⟩, rfl, rfl⟩
set_option maxRecDepth 20000 in
theorem w_X4_timesFound_L4 {X : Xc} {σ : Sg} {c1 : Int32} {r : Int32} {k : Int32 → Option Int32}
    (hk : ∀ (i2 : Int32), k i2 = some r → V X M_X4_timesFound (mq X (some (.int r)) σ) 38 [none, none, some (.int i2), none] [] σ) :
    ∀ (n : Nat) (i2 : Int32) (i3 : Int32), f_X4_timesFound_L4 k σ c1 n i2 i3 = some r → V X M_X4_timesFound (mq X (some (.int r)) σ) 4 [some (.ref (ad (xY X) 30)), some (.int c1), some (.int i2), some (.int i3)] [] σ := by
  intro n
  induction n with
  | zero => intro i2 i3 h; cases h
  | succ n ih =>
    intro i2 i3 h
    rw [f_X4_timesFound_L4] at h
    refine V_iload_n (q := 5) dX4_timesFound_4 rfl rfl ?_
    refine V_aload_n (q := 6) dX4_timesFound_5 rfl rfl ?_
    refine V_getr (k := 30) (j := 1) (q := 9) clz_3 dX4_timesFound_6 rfl rfl rfl (Nat.le_of_ble_eq_true rfl) fl_RX4_15 ?_
    refine V_geti (k := 26) (j := 0) (q := 12) clz_5 dX4_timesFound_9 rfl rfl rfl (Nat.le_of_ble_eq_true rfl) fl_RX4_60 ?_
    refine V_icmp_ge (q := 38) (q2 := 15) dX4_timesFound_12 rfl rfl (fun hb6 => ?_) (fun hb6 => ?_)
    · replace h := it h hb6
      refine V_msk (L' := [none, none, some (.int i2), none]) [false, false, true, false] rfl ?_
      exact hk (i2) h
    · replace h := ie h hb6
      refine V_iload_n (q := 16) dX4_timesFound_15 rfl rfl ?_
      refine V_aload_n (q := 17) dX4_timesFound_16 rfl rfl ?_
      refine V_iload_n (q := 18) dX4_timesFound_17 rfl rfl ?_
      refine V_iload_n (q := 19) dX4_timesFound_18 rfl rfl ?_
      obtain ⟨x1, hc2, h⟩ := cP_ok h
      refine V_cv1 (k := 30) (q := 22) (As := [.int i3, .int c1]) (rest := [.int i2]) (ct_X4_isFound (xY X) hc2) ce_X4_isFound clz_3 rfl im_yX4_isFound se_yX4_isFound rfl ml_RX4_136 rfl ⟨Nat.le_of_ble_eq_true rfl, Nat.le_of_ble_eq_true rfl⟩ rfl (Nat.le_of_ble_eq_true rfl) dX4_timesFound_19 rfl ?_
      obtain ⟨k3, ek3, h⟩ := jn_ok h
      have hk3 : ∀ (v4 : Int32), k3 v4 = some r → V X M_X4_timesFound (mq X (some (.int r)) σ) 30 [some (.ref (ad (xY X) 30)), some (.int c1), none, some (.int i3)] [.int v4, .int i2] σ := by
        clear h
        intro v4 h
        rw [ek3] at h
        refine V_iadd (q := 31) dX4_timesFound_30 rfl ?_
        refine V_istore_n (q := 32) (L' := [some (.ref (ad (xY X) 30)), some (.int c1), some (.int (i2 + v4)), some (.int i3)]) dX4_timesFound_31 rfl (Nat.le_of_ble_eq_true rfl) rfl ?_
        refine V_iinc (q := 35) (v := 1) (L' := [some (.ref (ad (xY X) 30)), some (.int c1), some (.int (i2 + v4)), some (.int (i3 + 1))]) dX4_timesFound_32 rfl rfl iconst_1 (Nat.le_of_ble_eq_true rfl) rfl ?_
        refine V_goto (q := 4) dX4_timesFound_35 rfl ?_
        exact ih ((i2 + v4)) ((i3 + 1)) h
      refine V_if_eq (q := 29) (q2 := 25) dX4_timesFound_22 rfl rfl (fun hb5 => ?_) (fun hb5 => ?_)
      · replace h := it h hb5
        refine V_iconst (q := 30) (v := 0) dX4_timesFound_29 rfl iconst_0 ?_
        refine V_msk (L' := [some (.ref (ad (xY X) 30)), some (.int c1), none, some (.int i3)]) [true, true, false, true] rfl ?_
        exact hk3 (0) h
      · replace h := ie h hb5
        refine V_iconst (q := 26) (v := 1) dX4_timesFound_25 rfl iconst_1 ?_
        refine V_goto (q := 30) dX4_timesFound_26 rfl ?_
        refine V_msk (L' := [some (.ref (ad (xY X) 30)), some (.int c1), none, some (.int i3)]) [true, true, false, true] rfl ?_
        exact hk3 (1) h
set_option maxRecDepth 20000 in
theorem ct_X4_timesFound (Y : Yc) {σ : Sg} {a1 : Int32} {r : Int32} (h : f_X4_timesFound σ a1 = some r) : Ct M_X4_timesFound yX4_timesFound Y [.ref (ad Y 30), .int a1] σ (some (.int r)) σ := by
  refine Ct_intro [some (.ref (ad Y 30)), some (.int a1), none, none] (by decide +kernel) rfl (Nat.le_of_ble_eq_true rfl) rfl (fun X hY => ?_) ⟨rfl, rfl⟩
  subst hY
  unfold f_X4_timesFound at h
  refine V_iconst (q := 1) (v := 0) dX4_timesFound_0 rfl iconst_0 ?_
  refine V_istore_n (q := 2) (L' := [some (.ref (ad (xY X) 30)), some (.int a1), some (.int 0), none]) dX4_timesFound_1 rfl (Nat.le_of_ble_eq_true rfl) rfl ?_
  refine V_iconst (q := 3) (v := 0) dX4_timesFound_2 rfl iconst_0 ?_
  refine V_istore_n (q := 4) (L' := [some (.ref (ad (xY X) 30)), some (.int a1), some (.int 0), some (.int 0)]) dX4_timesFound_3 rfl (Nat.le_of_ble_eq_true rfl) rfl ?_
  refine w_X4_timesFound_L4 (fun v7 h => ?_) fu (0) (0) h
  refine V_iload_n (q := 39) dX4_timesFound_38 rfl rfl ?_
  cases h
  exact V_iret rfl dX4_timesFound_39
def M_X4_timesChosen : Mc := (RX4, cX4_timesChosen, 4, { frames := 0, cells := 0, slots := 0, locals := 0 }, (some .int))
theorem ce_X4_timesChosen : Cee M_X4_timesChosen yX4_timesChosen 1 := ⟨cd_yX4_timesChosen, ini_RX4, ⟨by decide +kernel, by decide +kernel, by decide +kernel⟩, rfl, rfl⟩
set_option maxRecDepth 20000 in
theorem w_X4_timesChosen_L4 {X : Xc} {σ : Sg} {c1 : Int32} {r : Int32} {k : Int32 → Option Int32}
    (hk : ∀ (i2 : Int32), k i2 = some r → V X M_X4_timesChosen (mq X (some (.int r)) σ) 36 [none, none, some (.int i2), none] [] σ) :
    ∀ (n : Nat) (i2 : Int32) (i3 : Int32), f_X4_timesChosen_L4 k σ c1 n i2 i3 = some r → V X M_X4_timesChosen (mq X (some (.int r)) σ) 4 [some (.ref (ad (xY X) 30)), some (.int c1), some (.int i2), some (.int i3)] [] σ := by
  intro n
  induction n with
  | zero => intro i2 i3 h; cases h
  | succ n ih =>
    intro i2 i3 h
    rw [f_X4_timesChosen_L4] at h
    refine V_iload_n (q := 5) dX4_timesChosen_4 rfl rfl ?_
    refine V_aload_n (q := 6) dX4_timesChosen_5 rfl rfl ?_
    refine V_geti (k := 30) (j := 11) (q := 9) clz_3 dX4_timesChosen_6 rfl rfl rfl (Nat.le_of_ble_eq_true rfl) fl_RX4_147 ?_
    refine V_icmp_ge (q := 36) (q2 := 12) dX4_timesChosen_9 rfl rfl (fun hb7 => ?_) (fun hb7 => ?_)
    · replace h := it h hb7
      refine V_msk (L' := [none, none, some (.int i2), none]) [false, false, true, false] rfl ?_
      exact hk (i2) h
    · replace h := ie h hb7
      refine V_iload_n (q := 13) dX4_timesChosen_12 rfl rfl ?_
      refine V_aload_n (q := 14) dX4_timesChosen_13 rfl rfl ?_
      refine V_getr (k := 30) (j := 13) (q := 17) clz_3 dX4_timesChosen_14 rfl rfl rfl (Nat.le_of_ble_eq_true rfl) fl_RX4_46 ?_
      refine V_iload_n (q := 18) dX4_timesChosen_17 rfl rfl ?_
      obtain ⟨hi2, x1, ex3, h⟩ := rI_ok h
      refine V_iald (k := 38) (q := 19) dX4_timesChosen_18 rfl rfl hi2 ex3 ?_
      refine V_iload_n (q := 20) dX4_timesChosen_19 rfl rfl ?_
      obtain ⟨k4, ek4, h⟩ := jn_ok h
      have hk4 : ∀ (v5 : Int32), k4 v5 = some r → V X M_X4_timesChosen (mq X (some (.int r)) σ) 28 [some (.ref (ad (xY X) 30)), some (.int c1), none, some (.int i3)] [.int v5, .int i2] σ := by
        clear h
        intro v5 h
        rw [ek4] at h
        refine V_iadd (q := 29) dX4_timesChosen_28 rfl ?_
        refine V_istore_n (q := 30) (L' := [some (.ref (ad (xY X) 30)), some (.int c1), some (.int (i2 + v5)), some (.int i3)]) dX4_timesChosen_29 rfl (Nat.le_of_ble_eq_true rfl) rfl ?_
        refine V_iinc (q := 33) (v := 1) (L' := [some (.ref (ad (xY X) 30)), some (.int c1), some (.int (i2 + v5)), some (.int (i3 + 1))]) dX4_timesChosen_30 rfl rfl iconst_1 (Nat.le_of_ble_eq_true rfl) rfl ?_
        refine V_goto (q := 4) dX4_timesChosen_33 rfl ?_
        exact ih ((i2 + v5)) ((i3 + 1)) h
      refine V_icmp_ne (q := 27) (q2 := 23) dX4_timesChosen_20 rfl rfl (fun hb6 => ?_) (fun hb6 => ?_)
      · replace h := ie h hb6
        refine V_iconst (q := 28) (v := 0) dX4_timesChosen_27 rfl iconst_0 ?_
        refine V_msk (L' := [some (.ref (ad (xY X) 30)), some (.int c1), none, some (.int i3)]) [true, true, false, true] rfl ?_
        exact hk4 (0) h
      · replace h := it h hb6
        refine V_iconst (q := 24) (v := 1) dX4_timesChosen_23 rfl iconst_1 ?_
        refine V_goto (q := 28) dX4_timesChosen_24 rfl ?_
        refine V_msk (L' := [some (.ref (ad (xY X) 30)), some (.int c1), none, some (.int i3)]) [true, true, false, true] rfl ?_
        exact hk4 (1) h
set_option maxRecDepth 20000 in
theorem ct_X4_timesChosen (Y : Yc) {σ : Sg} {a1 : Int32} {r : Int32} (h : f_X4_timesChosen σ a1 = some r) : Ct M_X4_timesChosen yX4_timesChosen Y [.ref (ad Y 30), .int a1] σ (some (.int r)) σ := by
  refine Ct_intro [some (.ref (ad Y 30)), some (.int a1), none, none] (by decide +kernel) rfl (Nat.le_of_ble_eq_true rfl) rfl (fun X hY => ?_) ⟨rfl, rfl⟩
  subst hY
  unfold f_X4_timesChosen at h
  refine V_iconst (q := 1) (v := 0) dX4_timesChosen_0 rfl iconst_0 ?_
  refine V_istore_n (q := 2) (L' := [some (.ref (ad (xY X) 30)), some (.int a1), some (.int 0), none]) dX4_timesChosen_1 rfl (Nat.le_of_ble_eq_true rfl) rfl ?_
  refine V_iconst (q := 3) (v := 0) dX4_timesChosen_2 rfl iconst_0 ?_
  refine V_istore_n (q := 4) (L' := [some (.ref (ad (xY X) 30)), some (.int a1), some (.int 0), some (.int 0)]) dX4_timesChosen_3 rfl (Nat.le_of_ble_eq_true rfl) rfl ?_
  refine w_X4_timesChosen_L4 (fun v8 h => ?_) fu (0) (0) h
  refine V_iload_n (q := 37) dX4_timesChosen_36 rfl rfl ?_
  cases h
  exact V_iret rfl dX4_timesChosen_37
def M_X7_termOf : Mc := (RX7, cX7_termOf, 3, { frames := 6, cells := 0, slots := 0, locals := 143 }, (some .int))
theorem ce_X7_termOf : Cee M_X7_termOf yX7_termOf 2 := ⟨cd_yX7_termOf, ini_RX7, ⟨by decide +kernel, by decide +kernel, by decide +kernel⟩, rfl, rfl⟩
set_option maxRecDepth 20000 in
theorem ct_X7_termOf (Y : Yc) {σ : Sg} {a1 : Int32} {a2 : Int32} {r : Int32} {σr : Sg} (h : f_X7_termOf σ a1 a2 = some (r, σr)) : Ct M_X7_termOf yX7_termOf Y [.ref (ad Y 0), .int a1, .int a2] σ (some (.int r)) σr := by
  refine Ct_intro [some (.ref (ad Y 0)), some (.int a1), some (.int a2)] (by decide +kernel) rfl (Nat.le_of_ble_eq_true rfl) rfl (fun X hY => ?_) ⟨rfl, rfl⟩
  subst hY
  unfold f_X7_termOf at h
  refine V_aload_n (q := 1) dX7_termOf_0 rfl rfl ?_
  refine V_getr (k := 0) (j := 1) (q := 4) clz_6 dX7_termOf_1 rfl rfl rfl (Nat.le_of_ble_eq_true rfl) fl_RX7_19 ?_
  refine V_iload_n (q := 5) dX7_termOf_4 rfl rfl ?_
  obtain ⟨x1, hc2, h⟩ := cP_ok h
  refine V_cv1 (k := 4) (q := 8) (As := [.int a1]) (rest := []) (ct_X1_isTerm (xY X) hc2) ce_X1_isTerm clz_0 rfl im_yX1_isTerm se_yX1_isTerm rfl ml_RX7_111 rfl ⟨Nat.le_of_ble_eq_true rfl, Nat.le_of_ble_eq_true rfl⟩ rfl (Nat.le_of_ble_eq_true rfl) dX7_termOf_5 rfl ?_
  refine V_if_ne (q := 14) (q2 := 11) dX7_termOf_8 rfl rfl (fun hb31 => ?_) (fun hb31 => ?_)
  · replace h := ie h hb31
    refine V_iload_n (q := 15) dX7_termOf_14 rfl rfl ?_
    by_cases hb3 : a2 = 0
    · replace h := it h hb3
      refine V_tsIn (q := 52) 0 hb3 dX7_termOf_15 (by decide) (by decide) rfl rfl ?_
      refine V_aload_n (q := 53) dX7_termOf_52 rfl rfl ?_
      refine V_getr (k := 0) (j := 1) (q := 56) clz_6 dX7_termOf_53 rfl rfl rfl (Nat.le_of_ble_eq_true rfl) fl_RX7_19 ?_
      refine V_getr (k := 4) (j := 2) (q := 59) clz_0 dX7_termOf_56 rfl rfl rfl (Nat.le_of_ble_eq_true rfl) fl_RX7_156 ?_
      refine V_iload_n (q := 60) dX7_termOf_59 rfl rfl ?_
      obtain ⟨hi5, x4, ex6, h⟩ := rI_ok h
      refine V_iald (k := 6) (q := 61) dX7_termOf_60 rfl rfl hi5 ex6 ?_
      cases h
      exact V_iret rfl dX7_termOf_61
    replace h := ie h hb3
    by_cases hb7 : a2 = 1
    · replace h := it h hb7
      refine V_tsIn (q := 62) 1 hb7 dX7_termOf_15 (by decide) (by decide) rfl rfl ?_
      refine V_aload_n (q := 63) dX7_termOf_62 rfl rfl ?_
      refine V_getr (k := 0) (j := 1) (q := 66) clz_6 dX7_termOf_63 rfl rfl rfl (Nat.le_of_ble_eq_true rfl) fl_RX7_19 ?_
      refine V_getr (k := 4) (j := 3) (q := 69) clz_0 dX7_termOf_66 rfl rfl rfl (Nat.le_of_ble_eq_true rfl) fl_RX7_150 ?_
      refine V_iload_n (q := 70) dX7_termOf_69 rfl rfl ?_
      obtain ⟨hi9, x8, ex10, h⟩ := rI_ok h
      refine V_iald (k := 7) (q := 71) dX7_termOf_70 rfl rfl hi9 ex10 ?_
      cases h
      exact V_iret rfl dX7_termOf_71
    replace h := ie h hb7
    by_cases hb11 : a2 = 2
    · replace h := it h hb11
      refine V_tsIn (q := 72) 2 hb11 dX7_termOf_15 (by decide) (by decide) rfl rfl ?_
      refine V_aload_n (q := 73) dX7_termOf_72 rfl rfl ?_
      refine V_getr (k := 0) (j := 1) (q := 76) clz_6 dX7_termOf_73 rfl rfl rfl (Nat.le_of_ble_eq_true rfl) fl_RX7_19 ?_
      refine V_getr (k := 4) (j := 4) (q := 79) clz_0 dX7_termOf_76 rfl rfl rfl (Nat.le_of_ble_eq_true rfl) fl_RX7_153 ?_
      refine V_iload_n (q := 80) dX7_termOf_79 rfl rfl ?_
      obtain ⟨hi13, x12, ex14, h⟩ := rI_ok h
      refine V_iald (k := 8) (q := 81) dX7_termOf_80 rfl rfl hi13 ex14 ?_
      cases h
      exact V_iret rfl dX7_termOf_81
    replace h := ie h hb11
    by_cases hb15 : a2 = 3
    · replace h := it h hb15
      refine V_tsIn (q := 82) 3 hb15 dX7_termOf_15 (by decide) (by decide) rfl rfl ?_
      refine V_aload_n (q := 83) dX7_termOf_82 rfl rfl ?_
      refine V_getr (k := 0) (j := 1) (q := 86) clz_6 dX7_termOf_83 rfl rfl rfl (Nat.le_of_ble_eq_true rfl) fl_RX7_19 ?_
      refine V_getr (k := 4) (j := 5) (q := 89) clz_0 dX7_termOf_86 rfl rfl rfl (Nat.le_of_ble_eq_true rfl) fl_RX7_137 ?_
      refine V_iload_n (q := 90) dX7_termOf_89 rfl rfl ?_
      obtain ⟨hi17, x16, ex18, h⟩ := rI_ok h
      refine V_iald (k := 9) (q := 91) dX7_termOf_90 rfl rfl hi17 ex18 ?_
      cases h
      exact V_iret rfl dX7_termOf_91
    replace h := ie h hb15
    by_cases hb19 : a2 = 4
    · replace h := it h hb19
      refine V_tsIn (q := 92) 4 hb19 dX7_termOf_15 (by decide) (by decide) rfl rfl ?_
      refine V_aload_n (q := 93) dX7_termOf_92 rfl rfl ?_
      obtain ⟨x20, s22, hc21, h⟩ := cA_ok h
      refine V_cv1 (k := 0) (q := 96) (As := []) (rest := []) (ct_X7_settled (xY X) hc21) ce_X7_settled clz_6 rfl im_yX7_settled se_yX7_settled rfl ml_RX7_159 rfl ⟨Nat.le_of_ble_eq_true rfl, Nat.le_of_ble_eq_true rfl⟩ rfl (Nat.le_of_ble_eq_true rfl) dX7_termOf_93 rfl ?_
      refine V_iload_n (q := 97) dX7_termOf_96 rfl rfl ?_
      obtain ⟨x23, hc24, h⟩ := cP_ok h
      refine V_cv1 (k := 30) (q := 100) (As := [.int a1]) (rest := []) (ct_X4_timesFound (xY X) hc24) ce_X4_timesFound clz_3 rfl im_yX4_timesFound se_yX4_timesFound rfl ml_RX7_163 rfl ⟨Nat.le_of_ble_eq_true rfl, Nat.le_of_ble_eq_true rfl⟩ rfl (Nat.le_of_ble_eq_true rfl) dX7_termOf_97 rfl ?_
      cases h
      exact V_iret rfl dX7_termOf_100
    replace h := ie h hb19
    by_cases hb25 : a2 = 5
    · replace h := it h hb25
      refine V_tsIn (q := 101) 5 hb25 dX7_termOf_15 (by decide) (by decide) rfl rfl ?_
      refine V_aload_n (q := 102) dX7_termOf_101 rfl rfl ?_
      obtain ⟨x26, s28, hc27, h⟩ := cA_ok h
      refine V_cv1 (k := 0) (q := 105) (As := []) (rest := []) (ct_X7_settled (xY X) hc27) ce_X7_settled clz_6 rfl im_yX7_settled se_yX7_settled rfl ml_RX7_159 rfl ⟨Nat.le_of_ble_eq_true rfl, Nat.le_of_ble_eq_true rfl⟩ rfl (Nat.le_of_ble_eq_true rfl) dX7_termOf_102 rfl ?_
      refine V_iload_n (q := 106) dX7_termOf_105 rfl rfl ?_
      obtain ⟨x29, hc30, h⟩ := cP_ok h
      refine V_cv1 (k := 30) (q := 109) (As := [.int a1]) (rest := []) (ct_X4_timesChosen (xY X) hc30) ce_X4_timesChosen clz_3 rfl im_yX4_timesChosen se_yX4_timesChosen rfl ml_RX7_166 rfl ⟨Nat.le_of_ble_eq_true rfl, Nat.le_of_ble_eq_true rfl⟩ rfl (Nat.le_of_ble_eq_true rfl) dX7_termOf_106 rfl ?_
      cases h
      exact V_iret rfl dX7_termOf_109
    replace h := ie h hb25
    refine V_tsOut (q := 110) 5 ⟨hb25, hb19, hb15, hb11, hb7, hb3, trivial⟩ (by decide) rfl rfl dX7_termOf_15 rfl ?_
    refine V_ldc (q := 112) kc_RX7_65 dX7_termOf_110 rfl ?_
    cases h
    exact V_iret rfl dX7_termOf_112
  · replace h := it h hb31
    refine V_ldc (q := 13) kc_RX7_114 dX7_termOf_11 rfl ?_
    cases h
    exact V_iret rfl dX7_termOf_13
def M_X8_isBegun : Mc := (RX8, cX8_isBegun, 5, { frames := 0, cells := 0, slots := 0, locals := 0 }, (some .boolean))
theorem ce_X8_isBegun : Cee M_X8_isBegun yX8_isBegun 2 := ⟨cd_yX8_isBegun, ini_RX8, ⟨by decide +kernel, by decide +kernel, by decide +kernel⟩, rfl, rfl⟩
set_option maxRecDepth 20000 in
theorem w_X8_isBegun_L27 {X : Xc} {σ : Sg} {c1 : Int32} {c2 : Int32} {r : Int32} {k : Int32 → Option Int32}
    (hk : ∀ (i3 : Int32), k i3 = some r → V X M_X8_isBegun (mq X (some (.int r)) σ) 82 [none, none, none, some (.int i3), none] [] σ) :
    ∀ (n : Nat) (i3 : Int32) (i4 : Int32), f_X8_isBegun_L27 k σ c1 c2 n i3 i4 = some r → V X M_X8_isBegun (mq X (some (.int r)) σ) 27 [some (.ref (ad (xY X) 43)), some (.int c1), some (.int c2), some (.int i3), some (.int i4)] [] σ := by
  intro n
  induction n with
  | zero => intro i3 i4 h; cases h
  | succ n ih =>
    intro i3 i4 h
    rw [f_X8_isBegun_L27] at h
    refine V_iload (q := 29) dX8_isBegun_27 rfl rfl ?_
    refine V_aload_n (q := 30) dX8_isBegun_29 rfl rfl ?_
    refine V_getr (k := 43) (j := 0) (q := 33) clz_7 dX8_isBegun_30 rfl rfl rfl (Nat.le_of_ble_eq_true rfl) fl_RX8_7 ?_
    refine V_iload_n (q := 34) dX8_isBegun_33 rfl rfl ?_
    obtain ⟨hi10, x9, ex11, h⟩ := rI_ok h
    refine V_iald (k := 44) (q := 35) dX8_isBegun_34 rfl rfl hi10 ex11 ?_
    refine V_icmp_ge (q := 82) (q2 := 38) dX8_isBegun_35 rfl rfl (fun hb20 => ?_) (fun hb20 => ?_)
    · replace h := it h hb20
      refine V_msk (L' := [none, none, none, some (.int i3), none]) [false, false, false, true, false] rfl ?_
      exact hk (i3) h
    · replace h := ie h hb20
      refine V_iload_n (q := 39) dX8_isBegun_38 rfl rfl ?_
      refine V_if_eq (q := 82) (q2 := 42) dX8_isBegun_39 rfl rfl (fun hb19 => ?_) (fun hb19 => ?_)
      · replace h := it h hb19
        refine V_msk (L' := [none, none, none, some (.int i3), none]) [false, false, false, true, false] rfl ?_
        exact hk (i3) h
      · replace h := ie h hb19
        refine V_aload_n (q := 43) dX8_isBegun_42 rfl rfl ?_
        refine V_getr (k := 43) (j := 5) (q := 46) clz_7 dX8_isBegun_43 rfl rfl rfl (Nat.le_of_ble_eq_true rfl) fl_RX8_23 ?_
        refine V_bipush (q := 48) (v := 15) dX8_isBegun_46 rfl bipush_15 ?_
        refine V_iload_n (q := 49) dX8_isBegun_48 rfl rfl ?_
        refine V_imul (q := 50) dX8_isBegun_49 rfl ?_
        refine V_iconst (q := 51) (v := 3) dX8_isBegun_50 rfl iconst_3 ?_
        refine V_iadd (q := 52) dX8_isBegun_51 rfl ?_
        refine V_iload (q := 54) dX8_isBegun_52 rfl rfl ?_
        refine V_iadd (q := 55) dX8_isBegun_54 rfl ?_
        obtain ⟨hi13, x12, ex14, h⟩ := rI_ok h
        refine V_iald (k := 48) (q := 56) dX8_isBegun_55 rfl rfl hi13 ex14 ?_
        refine V_aload_n (q := 57) dX8_isBegun_56 rfl rfl ?_
        refine V_getr (k := 43) (j := 0) (q := 60) clz_7 dX8_isBegun_57 rfl rfl rfl (Nat.le_of_ble_eq_true rfl) fl_RX8_7 ?_
        refine V_iload_n (q := 61) dX8_isBegun_60 rfl rfl ?_
        refine V_iconst (q := 62) (v := 1) dX8_isBegun_61 rfl iconst_1 ?_
        refine V_iadd (q := 63) dX8_isBegun_62 rfl ?_
        refine V_iload (q := 65) dX8_isBegun_63 rfl rfl ?_
        refine V_iadd (q := 66) dX8_isBegun_65 rfl ?_
        obtain ⟨hi16, x15, ex17, h⟩ := rI_ok h
        refine V_iald (k := 44) (q := 67) dX8_isBegun_66 rfl rfl hi16 ex17 ?_
        refine V_icmp_ne (q := 74) (q2 := 70) dX8_isBegun_67 rfl rfl (fun hb18 => ?_) (fun hb18 => ?_)
        · replace h := ie h hb18
          refine V_iconst (q := 75) (v := 0) dX8_isBegun_74 rfl iconst_0 ?_
          refine V_istore_n (q := 76) (L' := [some (.ref (ad (xY X) 43)), some (.int c1), some (.int c2), some (.int 0), some (.int i4)]) dX8_isBegun_75 rfl (Nat.le_of_ble_eq_true rfl) rfl ?_
          refine V_iinc (q := 79) (v := 1) (L' := [some (.ref (ad (xY X) 43)), some (.int c1), some (.int c2), some (.int 0), some (.int (i4 + 1))]) dX8_isBegun_76 rfl rfl iconst_1 (Nat.le_of_ble_eq_true rfl) rfl ?_
          refine V_goto (q := 27) dX8_isBegun_79 rfl ?_
          exact ih (0) ((i4 + 1)) h
        · replace h := it h hb18
          refine V_iconst (q := 71) (v := 1) dX8_isBegun_70 rfl iconst_1 ?_
          refine V_goto (q := 75) dX8_isBegun_71 rfl ?_
          refine V_istore_n (q := 76) (L' := [some (.ref (ad (xY X) 43)), some (.int c1), some (.int c2), some (.int 1), some (.int i4)]) dX8_isBegun_75 rfl (Nat.le_of_ble_eq_true rfl) rfl ?_
          refine V_iinc (q := 79) (v := 1) (L' := [some (.ref (ad (xY X) 43)), some (.int c1), some (.int c2), some (.int 1), some (.int (i4 + 1))]) dX8_isBegun_76 rfl rfl iconst_1 (Nat.le_of_ble_eq_true rfl) rfl ?_
          refine V_goto (q := 27) dX8_isBegun_79 rfl ?_
          exact ih (1) ((i4 + 1)) h
set_option maxRecDepth 20000 in
theorem ct_X8_isBegun (Y : Yc) {σ : Sg} {a1 : Int32} {a2 : Int32} {r : Int32} (h : f_X8_isBegun σ a1 a2 = some r) : Ct M_X8_isBegun yX8_isBegun Y [.ref (ad Y 43), .int a1, .int a2] σ (some (.int r)) σ := by
  refine Ct_intro [some (.ref (ad Y 43)), some (.int a1), some (.int a2), none, none] (by decide +kernel) rfl (Nat.le_of_ble_eq_true rfl) rfl (fun X hY => ?_) ⟨rfl, rfl⟩
  subst hY
  unfold f_X8_isBegun at h
  refine V_aload_n (q := 1) dX8_isBegun_0 rfl rfl ?_
  refine V_getr (k := 43) (j := 5) (q := 4) clz_7 dX8_isBegun_1 rfl rfl rfl (Nat.le_of_ble_eq_true rfl) fl_RX8_23 ?_
  refine V_bipush (q := 6) (v := 15) dX8_isBegun_4 rfl bipush_15 ?_
  refine V_iload_n (q := 7) dX8_isBegun_6 rfl rfl ?_
  refine V_imul (q := 8) dX8_isBegun_7 rfl ?_
  obtain ⟨hi2, x1, ex3, h⟩ := rI_ok h
  refine V_iald (k := 48) (q := 9) dX8_isBegun_8 rfl rfl hi2 ex3 ?_
  refine V_aload_n (q := 10) dX8_isBegun_9 rfl rfl ?_
  refine V_getr (k := 43) (j := 0) (q := 13) clz_7 dX8_isBegun_10 rfl rfl rfl (Nat.le_of_ble_eq_true rfl) fl_RX8_7 ?_
  refine V_iload_n (q := 14) dX8_isBegun_13 rfl rfl ?_
  obtain ⟨hi5, x4, ex6, h⟩ := rI_ok h
  refine V_iald (k := 44) (q := 15) dX8_isBegun_14 rfl rfl hi5 ex6 ?_
  obtain ⟨k7, ek7, h⟩ := jn_ok h
  have hk7 : ∀ (v8 : Int32), k7 v8 = some r → V X M_X8_isBegun (mq X (some (.int r)) σ) 23 [some (.ref (ad (xY X) 43)), some (.int a1), some (.int a2), none, none] [.int v8] σ := by
    clear h
    intro v8 h
    rw [ek7] at h
    refine V_istore_n (q := 24) (L' := [some (.ref (ad (xY X) 43)), some (.int a1), some (.int a2), some (.int v8), none]) dX8_isBegun_23 rfl (Nat.le_of_ble_eq_true rfl) rfl ?_
    refine V_iconst (q := 25) (v := 0) dX8_isBegun_24 rfl iconst_0 ?_
    refine V_istore (q := 27) (L' := [some (.ref (ad (xY X) 43)), some (.int a1), some (.int a2), some (.int v8), some (.int 0)]) dX8_isBegun_25 rfl (Nat.le_of_ble_eq_true rfl) rfl ?_
    refine w_X8_isBegun_L27 (fun v21 h => ?_) fu (v8) (0) h
    refine V_iload_n (q := 83) dX8_isBegun_82 rfl rfl ?_
    obtain ⟨hb22, h⟩ := mH_ok h
    cases h
    exact V_zret rfl (nz01 hb22) dX8_isBegun_83
  refine V_icmp_lt (q := 22) (q2 := 18) dX8_isBegun_15 rfl rfl (fun hb23 => ?_) (fun hb23 => ?_)
  · replace h := it h hb23
    refine V_iconst (q := 23) (v := 0) dX8_isBegun_22 rfl iconst_0 ?_
    exact hk7 (0) h
  · replace h := ie h hb23
    refine V_iconst (q := 19) (v := 1) dX8_isBegun_18 rfl iconst_1 ?_
    refine V_goto (q := 23) dX8_isBegun_19 rfl ?_
    exact hk7 (1) h
def M_X8_isAs : Mc := (RX8, cX8_isAs, 6, { frames := 0, cells := 0, slots := 0, locals := 0 }, (some .boolean))
theorem ce_X8_isAs : Cee M_X8_isAs yX8_isAs 3 := ⟨cd_yX8_isAs, ini_RX8, ⟨by decide +kernel, by decide +kernel, by decide +kernel⟩, rfl, rfl⟩
set_option maxRecDepth 20000 in
theorem w_X8_isAs_L30 {X : Xc} {σ : Sg} {c1 : Int32} {c2 : Int32} {c3 : Int32} {r : Int32} {k : Int32 → Option Int32}
    (hk : ∀ (i4 : Int32), k i4 = some r → V X M_X8_isAs (mq X (some (.int r)) σ) 89 [none, none, none, none, some (.int i4), none] [] σ) :
    ∀ (n : Nat) (i4 : Int32) (i5 : Int32), f_X8_isAs_L30 k σ c1 c2 c3 n i4 i5 = some r → V X M_X8_isAs (mq X (some (.int r)) σ) 30 [some (.ref (ad (xY X) 43)), some (.int c1), some (.int c2), some (.int c3), some (.int i4), some (.int i5)] [] σ := by
  intro n
  induction n with
  | zero => intro i4 i5 h; cases h
  | succ n ih =>
    intro i4 i5 h
    rw [f_X8_isAs_L30] at h
    refine V_iload (q := 32) dX8_isAs_30 rfl rfl ?_
    refine V_aload_n (q := 33) dX8_isAs_32 rfl rfl ?_
    refine V_getr (k := 43) (j := 0) (q := 36) clz_7 dX8_isAs_33 rfl rfl rfl (Nat.le_of_ble_eq_true rfl) fl_RX8_7 ?_
    refine V_iload_n (q := 37) dX8_isAs_36 rfl rfl ?_
    obtain ⟨hi10, x9, ex11, h⟩ := rI_ok h
    refine V_iald (k := 44) (q := 38) dX8_isAs_37 rfl rfl hi10 ex11 ?_
    refine V_icmp_ge (q := 89) (q2 := 41) dX8_isAs_38 rfl rfl (fun hb20 => ?_) (fun hb20 => ?_)
    · replace h := it h hb20
      refine V_msk (L' := [none, none, none, none, some (.int i4), none]) [false, false, false, false, true, false] rfl ?_
      exact hk (i4) h
    · replace h := ie h hb20
      refine V_iload (q := 43) dX8_isAs_41 rfl rfl ?_
      refine V_if_eq (q := 89) (q2 := 46) dX8_isAs_43 rfl rfl (fun hb19 => ?_) (fun hb19 => ?_)
      · replace h := it h hb19
        refine V_msk (L' := [none, none, none, none, some (.int i4), none]) [false, false, false, false, true, false] rfl ?_
        exact hk (i4) h
      · replace h := ie h hb19
        refine V_aload_n (q := 47) dX8_isAs_46 rfl rfl ?_
        refine V_getr (k := 43) (j := 5) (q := 50) clz_7 dX8_isAs_47 rfl rfl rfl (Nat.le_of_ble_eq_true rfl) fl_RX8_23 ?_
        refine V_bipush (q := 52) (v := 15) dX8_isAs_50 rfl bipush_15 ?_
        refine V_iload_n (q := 53) dX8_isAs_52 rfl rfl ?_
        refine V_imul (q := 54) dX8_isAs_53 rfl ?_
        refine V_iconst (q := 55) (v := 3) dX8_isAs_54 rfl iconst_3 ?_
        refine V_iadd (q := 56) dX8_isAs_55 rfl ?_
        refine V_iload_n (q := 57) dX8_isAs_56 rfl rfl ?_
        refine V_iadd (q := 58) dX8_isAs_57 rfl ?_
        refine V_iload (q := 60) dX8_isAs_58 rfl rfl ?_
        refine V_iadd (q := 61) dX8_isAs_60 rfl ?_
        obtain ⟨hi13, x12, ex14, h⟩ := rI_ok h
        refine V_iald (k := 48) (q := 62) dX8_isAs_61 rfl rfl hi13 ex14 ?_
        refine V_aload_n (q := 63) dX8_isAs_62 rfl rfl ?_
        refine V_getr (k := 43) (j := 0) (q := 66) clz_7 dX8_isAs_63 rfl rfl rfl (Nat.le_of_ble_eq_true rfl) fl_RX8_7 ?_
        refine V_iload_n (q := 67) dX8_isAs_66 rfl rfl ?_
        refine V_iconst (q := 68) (v := 1) dX8_isAs_67 rfl iconst_1 ?_
        refine V_iadd (q := 69) dX8_isAs_68 rfl ?_
        refine V_iload (q := 71) dX8_isAs_69 rfl rfl ?_
        refine V_iadd (q := 72) dX8_isAs_71 rfl ?_
        obtain ⟨hi16, x15, ex17, h⟩ := rI_ok h
        refine V_iald (k := 44) (q := 73) dX8_isAs_72 rfl rfl hi16 ex17 ?_
        refine V_icmp_ne (q := 80) (q2 := 76) dX8_isAs_73 rfl rfl (fun hb18 => ?_) (fun hb18 => ?_)
        · replace h := ie h hb18
          refine V_iconst (q := 81) (v := 0) dX8_isAs_80 rfl iconst_0 ?_
          refine V_istore (q := 83) (L' := [some (.ref (ad (xY X) 43)), some (.int c1), some (.int c2), some (.int c3), some (.int 0), some (.int i5)]) dX8_isAs_81 rfl (Nat.le_of_ble_eq_true rfl) rfl ?_
          refine V_iinc (q := 86) (v := 1) (L' := [some (.ref (ad (xY X) 43)), some (.int c1), some (.int c2), some (.int c3), some (.int 0), some (.int (i5 + 1))]) dX8_isAs_83 rfl rfl iconst_1 (Nat.le_of_ble_eq_true rfl) rfl ?_
          refine V_goto (q := 30) dX8_isAs_86 rfl ?_
          exact ih (0) ((i5 + 1)) h
        · replace h := it h hb18
          refine V_iconst (q := 77) (v := 1) dX8_isAs_76 rfl iconst_1 ?_
          refine V_goto (q := 81) dX8_isAs_77 rfl ?_
          refine V_istore (q := 83) (L' := [some (.ref (ad (xY X) 43)), some (.int c1), some (.int c2), some (.int c3), some (.int 1), some (.int i5)]) dX8_isAs_81 rfl (Nat.le_of_ble_eq_true rfl) rfl ?_
          refine V_iinc (q := 86) (v := 1) (L' := [some (.ref (ad (xY X) 43)), some (.int c1), some (.int c2), some (.int c3), some (.int 1), some (.int (i5 + 1))]) dX8_isAs_83 rfl rfl iconst_1 (Nat.le_of_ble_eq_true rfl) rfl ?_
          refine V_goto (q := 30) dX8_isAs_86 rfl ?_
          exact ih (1) ((i5 + 1)) h
set_option maxRecDepth 20000 in
theorem ct_X8_isAs (Y : Yc) {σ : Sg} {a1 : Int32} {a2 : Int32} {a3 : Int32} {r : Int32} (h : f_X8_isAs σ a1 a2 a3 = some r) : Ct M_X8_isAs yX8_isAs Y [.ref (ad Y 43), .int a1, .int a2, .int a3] σ (some (.int r)) σ := by
  refine Ct_intro [some (.ref (ad Y 43)), some (.int a1), some (.int a2), some (.int a3), none, none] (by decide +kernel) rfl (Nat.le_of_ble_eq_true rfl) rfl (fun X hY => ?_) ⟨rfl, rfl⟩
  subst hY
  unfold f_X8_isAs at h
  refine V_aload_n (q := 1) dX8_isAs_0 rfl rfl ?_
  refine V_getr (k := 43) (j := 5) (q := 4) clz_7 dX8_isAs_1 rfl rfl rfl (Nat.le_of_ble_eq_true rfl) fl_RX8_23 ?_
  refine V_bipush (q := 6) (v := 15) dX8_isAs_4 rfl bipush_15 ?_
  refine V_iload_n (q := 7) dX8_isAs_6 rfl rfl ?_
  refine V_imul (q := 8) dX8_isAs_7 rfl ?_
  obtain ⟨hi2, x1, ex3, h⟩ := rI_ok h
  refine V_iald (k := 48) (q := 9) dX8_isAs_8 rfl rfl hi2 ex3 ?_
  refine V_iload_n (q := 10) dX8_isAs_9 rfl rfl ?_
  refine V_isub (q := 11) dX8_isAs_10 rfl ?_
  refine V_aload_n (q := 12) dX8_isAs_11 rfl rfl ?_
  refine V_getr (k := 43) (j := 0) (q := 15) clz_7 dX8_isAs_12 rfl rfl rfl (Nat.le_of_ble_eq_true rfl) fl_RX8_7 ?_
  refine V_iload_n (q := 16) dX8_isAs_15 rfl rfl ?_
  obtain ⟨hi5, x4, ex6, h⟩ := rI_ok h
  refine V_iald (k := 44) (q := 17) dX8_isAs_16 rfl rfl hi5 ex6 ?_
  obtain ⟨k7, ek7, h⟩ := jn_ok h
  have hk7 : ∀ (v8 : Int32), k7 v8 = some r → V X M_X8_isAs (mq X (some (.int r)) σ) 25 [some (.ref (ad (xY X) 43)), some (.int a1), some (.int a2), some (.int a3), none, none] [.int v8] σ := by
    clear h
    intro v8 h
    rw [ek7] at h
    refine V_istore (q := 27) (L' := [some (.ref (ad (xY X) 43)), some (.int a1), some (.int a2), some (.int a3), some (.int v8), none]) dX8_isAs_25 rfl (Nat.le_of_ble_eq_true rfl) rfl ?_
    refine V_iconst (q := 28) (v := 0) dX8_isAs_27 rfl iconst_0 ?_
    refine V_istore (q := 30) (L' := [some (.ref (ad (xY X) 43)), some (.int a1), some (.int a2), some (.int a3), some (.int v8), some (.int 0)]) dX8_isAs_28 rfl (Nat.le_of_ble_eq_true rfl) rfl ?_
    refine w_X8_isAs_L30 (fun v21 h => ?_) fu (v8) (0) h
    refine V_iload (q := 91) dX8_isAs_89 rfl rfl ?_
    obtain ⟨hb22, h⟩ := mH_ok h
    cases h
    exact V_zret rfl (nz01 hb22) dX8_isAs_91
  refine V_icmp_ne (q := 24) (q2 := 20) dX8_isAs_17 rfl rfl (fun hb23 => ?_) (fun hb23 => ?_)
  · replace h := ie h hb23
    refine V_iconst (q := 25) (v := 0) dX8_isAs_24 rfl iconst_0 ?_
    exact hk7 (0) h
  · replace h := it h hb23
    refine V_iconst (q := 21) (v := 1) dX8_isAs_20 rfl iconst_1 ?_
    refine V_goto (q := 25) dX8_isAs_21 rfl ?_
    exact hk7 (1) h
def M_X8_meets : Mc := (RX8, cX8_meets, 7, { frames := 1, cells := 0, slots := 0, locals := 25 }, (some .boolean))
theorem ce_X8_meets : Cee M_X8_meets yX8_meets 3 := ⟨cd_yX8_meets, ini_RX8, ⟨by decide +kernel, by decide +kernel, by decide +kernel⟩, rfl, rfl⟩
set_option maxRecDepth 20000 in
theorem w_X8_meets_L63 {X : Xc} {σ : Sg} {c1 : Int32} {c2 : Int32} {c4 : Int32} {r : Int32} {k : Int32 → Option Int32}
    (hk : ∀ (i5 : Int32), k i5 = some r → V X M_X8_meets (mq X (some (.int r)) σ) 127 [none, none, none, none, none, some (.int i5), none] [] σ) :
    ∀ (n : Nat) (i5 : Int32) (i6 : Int32), f_X8_meets_L63 k σ c1 c2 c4 n i5 i6 = some r → V X M_X8_meets (mq X (some (.int r)) σ) 63 [some (.ref (ad (xY X) 43)), some (.int c1), some (.int c2), none, some (.int c4), some (.int i5), some (.int i6)] [] σ := by
  intro n
  induction n with
  | zero => intro i5 i6 h; cases h
  | succ n ih =>
    intro i5 i6 h
    rw [f_X8_meets_L63] at h
    refine V_iload (q := 65) dX8_meets_63 rfl rfl ?_
    refine V_aload_n (q := 66) dX8_meets_65 rfl rfl ?_
    refine V_getr (k := 43) (j := 0) (q := 69) clz_7 dX8_meets_66 rfl rfl rfl (Nat.le_of_ble_eq_true rfl) fl_RX8_7 ?_
    refine V_iconst (q := 70) (v := 1) dX8_meets_69 rfl iconst_1 ?_
    obtain ⟨hi17, x16, ex18, h⟩ := rI_ok h
    refine V_iald (k := 44) (q := 71) dX8_meets_70 rfl rfl hi17 ex18 ?_
    refine V_icmp_ge (q := 127) (q2 := 74) dX8_meets_71 rfl rfl (fun hb36 => ?_) (fun hb36 => ?_)
    · replace h := it h hb36
      refine V_msk (L' := [none, none, none, none, none, some (.int i5), none]) [false, false, false, true, false, true, false] rfl ?_
      exact hk (i5) h
    · replace h := ie h hb36
      refine V_aload_n (q := 75) dX8_meets_74 rfl rfl ?_
      refine V_getr (k := 43) (j := 0) (q := 78) clz_7 dX8_meets_75 rfl rfl rfl (Nat.le_of_ble_eq_true rfl) fl_RX8_7 ?_
      refine V_iload_n (q := 79) dX8_meets_78 rfl rfl ?_
      obtain ⟨x19, hc20, h⟩ := cP_ok h
      refine V_cs1 (q := 82) (As := [.int c2]) (rest := [.ref (ad (xY X) 44)]) (ct_X8_termAt (xY X) hc20) ce_X8_termAt st_yX8_termAt ml_RX8_58 rfl ⟨Nat.le_of_ble_eq_true rfl, Nat.le_of_ble_eq_true rfl⟩ rfl (Nat.le_of_ble_eq_true rfl) dX8_meets_79 rfl ?_
      refine V_iconst (q := 83) (v := 2) dX8_meets_82 rfl iconst_2 ?_
      refine V_iadd (q := 84) dX8_meets_83 rfl ?_
      obtain ⟨hi22, x21, ex23, h⟩ := rI_ok h
      refine V_iald (k := 44) (q := 85) dX8_meets_84 rfl rfl hi22 ex23 ?_
      refine V_iconst (q := 86) (v := 1) dX8_meets_85 rfl iconst_1 ?_
      refine V_icmp_ne (q := 127) (q2 := 89) dX8_meets_86 rfl rfl (fun hb35 => ?_) (fun hb35 => ?_)
      · replace h := ie h hb35
        refine V_msk (L' := [none, none, none, none, none, some (.int i5), none]) [false, false, false, true, false, true, false] rfl ?_
        exact hk (i5) h
      · replace h := it h hb35
        refine V_iload (q := 91) dX8_meets_89 rfl rfl ?_
        obtain ⟨k24, ek24, h⟩ := jn_ok h
        have hk24 : ∀ (v25 : Int32), k24 v25 = some r → V X M_X8_meets (mq X (some (.int r)) σ) 114 [some (.ref (ad (xY X) 43)), some (.int c1), some (.int c2), none, some (.int c4), none, some (.int v25)] [] σ := by
          clear h
          intro v25 h
          rw [ek24] at h
          refine V_iconst (q := 115) (v := 1) dX8_meets_114 rfl iconst_1 ?_
          refine V_goto (q := 119) dX8_meets_115 rfl ?_
          refine V_istore (q := 121) (L' := [some (.ref (ad (xY X) 43)), some (.int c1), some (.int c2), none, some (.int c4), some (.int 1), some (.int v25)]) dX8_meets_119 rfl (Nat.le_of_ble_eq_true rfl) rfl ?_
          refine V_iinc (q := 124) (v := 1) (L' := [some (.ref (ad (xY X) 43)), some (.int c1), some (.int c2), none, some (.int c4), some (.int 1), some (.int (v25 + 1))]) dX8_meets_121 rfl rfl iconst_1 (Nat.le_of_ble_eq_true rfl) rfl ?_
          refine V_goto (q := 63) dX8_meets_124 rfl ?_
          exact ih (1) ((v25 + 1)) h
        refine V_if_ne (q := 114) (q2 := 94) dX8_meets_91 rfl rfl (fun hb34 => ?_) (fun hb34 => ?_)
        · replace h := ie h hb34
          refine V_msk (L' := [some (.ref (ad (xY X) 43)), some (.int c1), some (.int c2), none, some (.int c4), none, some (.int i6)]) [true, true, true, true, true, false, true] rfl ?_
          exact hk24 (i6) h
        · replace h := it h hb34
          refine V_aload_n (q := 95) dX8_meets_94 rfl rfl ?_
          refine V_iload_n (q := 96) dX8_meets_95 rfl rfl ?_
          refine V_aload_n (q := 97) dX8_meets_96 rfl rfl ?_
          refine V_getr (k := 43) (j := 0) (q := 100) clz_7 dX8_meets_97 rfl rfl rfl (Nat.le_of_ble_eq_true rfl) fl_RX8_7 ?_
          refine V_iload (q := 102) dX8_meets_100 rfl rfl ?_
          obtain ⟨hi27, x26, ex28, h⟩ := rI_ok h
          refine V_iald (k := 44) (q := 103) dX8_meets_102 rfl rfl hi27 ex28 ?_
          refine V_iload (q := 105) dX8_meets_103 rfl rfl ?_
          obtain ⟨x29, hc30, h⟩ := cP_ok h
          refine V_cs1 (q := 108) (As := [.int i6]) (rest := [.int x26, .int c1, .ref (ad (xY X) 43)]) (ct_X8_endingAt (xY X) hc30) ce_X8_endingAt st_yX8_endingAt ml_RX8_82 rfl ⟨Nat.le_of_ble_eq_true rfl, Nat.le_of_ble_eq_true rfl⟩ rfl (Nat.le_of_ble_eq_true rfl) dX8_meets_105 rfl ?_
          obtain ⟨x31, hc32, h⟩ := cP_ok h
          refine V_cv1 (k := 43) (q := 111) (As := [.int c1, .int x26, .int x29]) (rest := []) (ct_X8_isAs (xY X) hc32) ce_X8_isAs clz_7 rfl im_yX8_isAs se_yX8_isAs rfl ml_RX8_146 rfl ⟨Nat.le_of_ble_eq_true rfl, Nat.le_of_ble_eq_true rfl⟩ rfl (Nat.le_of_ble_eq_true rfl) dX8_meets_108 rfl ?_
          refine V_if_eq (q := 118) (q2 := 114) dX8_meets_111 rfl rfl (fun hb33 => ?_) (fun hb33 => ?_)
          · replace h := it h hb33
            refine V_iconst (q := 119) (v := 0) dX8_meets_118 rfl iconst_0 ?_
            refine V_istore (q := 121) (L' := [some (.ref (ad (xY X) 43)), some (.int c1), some (.int c2), none, some (.int c4), some (.int 0), some (.int i6)]) dX8_meets_119 rfl (Nat.le_of_ble_eq_true rfl) rfl ?_
            refine V_iinc (q := 124) (v := 1) (L' := [some (.ref (ad (xY X) 43)), some (.int c1), some (.int c2), none, some (.int c4), some (.int 0), some (.int (i6 + 1))]) dX8_meets_121 rfl rfl iconst_1 (Nat.le_of_ble_eq_true rfl) rfl ?_
            refine V_goto (q := 63) dX8_meets_124 rfl ?_
            exact ih (0) ((i6 + 1)) h
          · replace h := ie h hb33
            refine V_msk (L' := [some (.ref (ad (xY X) 43)), some (.int c1), some (.int c2), none, some (.int c4), none, some (.int i6)]) [true, true, true, true, true, false, true] rfl ?_
            exact hk24 (i6) h
set_option maxRecDepth 20000 in
theorem ct_X8_meets (Y : Yc) {σ : Sg} {a1 : Int32} {a2 : Int32} {a3 : Int32} {r : Int32} (h : f_X8_meets σ a1 a2 a3 = some r) : Ct M_X8_meets yX8_meets Y [.ref (ad Y 43), .int a1, .int a2, .int a3] σ (some (.int r)) σ := by
  refine Ct_intro [some (.ref (ad Y 43)), some (.int a1), some (.int a2), some (.int a3), none, none, none] (by decide +kernel) rfl (Nat.le_of_ble_eq_true rfl) rfl (fun X hY => ?_) ⟨rfl, rfl⟩
  subst hY
  unfold f_X8_meets at h
  refine V_iload_n (q := 1) dX8_meets_0 rfl rfl ?_
  refine V_iload_n (q := 2) dX8_meets_1 rfl rfl ?_
  obtain ⟨x1, hc2, h⟩ := cP_ok h
  refine V_cs1 (q := 5) (As := [.int a2, .int a3]) (rest := []) (ct_X8_wordAt (xY X) hc2) ce_X8_wordAt st_yX8_wordAt ml_RX8_62 rfl ⟨Nat.le_of_ble_eq_true rfl, Nat.le_of_ble_eq_true rfl⟩ rfl (Nat.le_of_ble_eq_true rfl) dX8_meets_2 rfl ?_
  refine V_istore (q := 7) (L' := [some (.ref (ad (xY X) 43)), some (.int a1), some (.int a2), some (.int a3), some (.int x1), none, none]) dX8_meets_5 rfl (Nat.le_of_ble_eq_true rfl) rfl ?_
  refine V_aload_n (q := 8) dX8_meets_7 rfl rfl ?_
  refine V_getr (k := 43) (j := 5) (q := 11) clz_7 dX8_meets_8 rfl rfl rfl (Nat.le_of_ble_eq_true rfl) fl_RX8_23 ?_
  refine V_bipush (q := 13) (v := 15) dX8_meets_11 rfl bipush_15 ?_
  refine V_iload_n (q := 14) dX8_meets_13 rfl rfl ?_
  refine V_imul (q := 15) dX8_meets_14 rfl ?_
  refine V_iconst (q := 16) (v := 2) dX8_meets_15 rfl iconst_2 ?_
  refine V_iadd (q := 17) dX8_meets_16 rfl ?_
  obtain ⟨hi4, x3, ex5, h⟩ := rI_ok h
  refine V_iald (k := 48) (q := 18) dX8_meets_17 rfl rfl hi4 ex5 ?_
  refine V_iconst (q := 19) (v := 1) dX8_meets_18 rfl iconst_1 ?_
  refine V_icmp_eq (q := 32) (q2 := 22) dX8_meets_19 rfl rfl (fun hb41 => ?_) (fun hb41 => ?_)
  · replace h := it h hb41
    refine V_iconst (q := 33) (v := 0) dX8_meets_32 rfl iconst_0 ?_
    cases h
    exact V_zret rfl rfl dX8_meets_33
  · replace h := ie h hb41
    refine V_aload_n (q := 23) dX8_meets_22 rfl rfl ?_
    refine V_iload_n (q := 24) dX8_meets_23 rfl rfl ?_
    refine V_iload (q := 26) dX8_meets_24 rfl rfl ?_
    obtain ⟨x6, hc7, h⟩ := cP_ok h
    refine V_cv1 (k := 43) (q := 29) (As := [.int a1, .int x1]) (rest := []) (ct_X8_isBegun (xY X) hc7) ce_X8_isBegun clz_7 rfl im_yX8_isBegun se_yX8_isBegun rfl ml_RX8_143 rfl ⟨Nat.le_of_ble_eq_true rfl, Nat.le_of_ble_eq_true rfl⟩ rfl (Nat.le_of_ble_eq_true rfl) dX8_meets_26 rfl ?_
    refine V_if_ne (q := 34) (q2 := 32) dX8_meets_29 rfl rfl (fun hb40 => ?_) (fun hb40 => ?_)
    · replace h := ie h hb40
      refine V_aload_n (q := 35) dX8_meets_34 rfl rfl ?_
      refine V_getr (k := 43) (j := 5) (q := 38) clz_7 dX8_meets_35 rfl rfl rfl (Nat.le_of_ble_eq_true rfl) fl_RX8_23 ?_
      refine V_bipush (q := 40) (v := 15) dX8_meets_38 rfl bipush_15 ?_
      refine V_iload_n (q := 41) dX8_meets_40 rfl rfl ?_
      refine V_imul (q := 42) dX8_meets_41 rfl ?_
      obtain ⟨hi9, x8, ex10, h⟩ := rI_ok h
      refine V_iald (k := 48) (q := 43) dX8_meets_42 rfl rfl hi9 ex10 ?_
      refine V_aload_n (q := 44) dX8_meets_43 rfl rfl ?_
      refine V_getr (k := 43) (j := 0) (q := 47) clz_7 dX8_meets_44 rfl rfl rfl (Nat.le_of_ble_eq_true rfl) fl_RX8_7 ?_
      refine V_iload (q := 49) dX8_meets_47 rfl rfl ?_
      obtain ⟨hi12, x11, ex13, h⟩ := rI_ok h
      refine V_iald (k := 44) (q := 50) dX8_meets_49 rfl rfl hi12 ex13 ?_
      obtain ⟨k14, ek14, h⟩ := jn_ok h
      have hk14 : ∀ (v15 : Int32), k14 v15 = some r → V X M_X8_meets (mq X (some (.int r)) σ) 58 [some (.ref (ad (xY X) 43)), some (.int a1), some (.int a2), none, some (.int x1), none, none] [.int v15] σ := by
        clear h
        intro v15 h
        rw [ek14] at h
        refine V_istore (q := 60) (L' := [some (.ref (ad (xY X) 43)), some (.int a1), some (.int a2), none, some (.int x1), some (.int v15), none]) dX8_meets_58 rfl (Nat.le_of_ble_eq_true rfl) rfl ?_
        refine V_iconst (q := 61) (v := 0) dX8_meets_60 rfl iconst_0 ?_
        refine V_istore (q := 63) (L' := [some (.ref (ad (xY X) 43)), some (.int a1), some (.int a2), none, some (.int x1), some (.int v15), some (.int 0)]) dX8_meets_61 rfl (Nat.le_of_ble_eq_true rfl) rfl ?_
        refine w_X8_meets_L63 (fun v37 h => ?_) fu (v15) (0) h
        refine V_iload (q := 129) dX8_meets_127 rfl rfl ?_
        obtain ⟨hb38, h⟩ := mH_ok h
        cases h
        exact V_zret rfl (nz01 hb38) dX8_meets_129
      refine V_icmp_ne (q := 57) (q2 := 53) dX8_meets_50 rfl rfl (fun hb39 => ?_) (fun hb39 => ?_)
      · replace h := ie h hb39
        refine V_iconst (q := 58) (v := 0) dX8_meets_57 rfl iconst_0 ?_
        refine V_msk (L' := [some (.ref (ad (xY X) 43)), some (.int a1), some (.int a2), none, some (.int x1), none, none]) [true, true, true, false, true, true, true] rfl ?_
        exact hk14 (0) h
      · replace h := it h hb39
        refine V_iconst (q := 54) (v := 1) dX8_meets_53 rfl iconst_1 ?_
        refine V_goto (q := 58) dX8_meets_54 rfl ?_
        refine V_msk (L' := [some (.ref (ad (xY X) 43)), some (.int a1), some (.int a2), none, some (.int x1), none, none]) [true, true, true, false, true, true, true] rfl ?_
        exact hk14 (1) h
    · replace h := it h hb40
      refine V_iconst (q := 33) (v := 0) dX8_meets_32 rfl iconst_0 ?_
      cases h
      exact V_zret rfl rfl dX8_meets_33
