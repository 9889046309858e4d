def M_X0_isLetter : Mc := (RX0, cX0_isLetter, 1, { frames := 0, cells := 0, slots := 0, locals := 0 }, (some .boolean))
theorem ce_X0_isLetter : Cee M_X0_isLetter yX0_isLetter 1 := ⟨cd_yX0_isLetter, ini_RX0, ⟨by decide +kernel, by decide +kernel, by decide +kernel⟩, rfl, rfl⟩
set_option maxRecDepth 20000 in
theorem ct_X0_isLetter (Y : Yc) {σ : Sg} {a1 : Int32} {r : Int32} (h : f_X0_isLetter σ a1 = some r) : Ct M_X0_isLetter yX0_isLetter Y [.int a1] σ (some (.int r)) σ := by
  refine Ct_intro [some (.int a1)] (by decide +kernel) rfl (Nat.le_of_ble_eq_true rfl) rfl (fun X hY => ?_) ⟨rfl, rfl⟩
  subst hY
  unfold f_X0_isLetter at h
  refine V_iload_n (q := 1) dX0_isLetter_0 rfl rfl ?_
  refine V_bipush (q := 3) (v := 97) dX0_isLetter_1 rfl bipush_97 ?_
  refine V_icmp_lt (q := 16) (q2 := 6) dX0_isLetter_3 rfl rfl (fun hb2 => ?_) (fun hb2 => ?_)
  · replace h := it h hb2
    refine V_iconst (q := 17) (v := 0) dX0_isLetter_16 rfl iconst_0 ?_
    cases h
    exact V_zret rfl rfl dX0_isLetter_17
  · replace h := ie h hb2
    refine V_iload_n (q := 7) dX0_isLetter_6 rfl rfl ?_
    refine V_bipush (q := 9) (v := 122) dX0_isLetter_7 rfl bipush_122 ?_
    refine V_icmp_gt (q := 16) (q2 := 12) dX0_isLetter_9 rfl rfl (fun hb1 => ?_) (fun hb1 => ?_)
    · replace h := it h hb1
      refine V_iconst (q := 17) (v := 0) dX0_isLetter_16 rfl iconst_0 ?_
      cases h
      exact V_zret rfl rfl dX0_isLetter_17
    · replace h := ie h hb1
      refine V_iconst (q := 13) (v := 1) dX0_isLetter_12 rfl iconst_1 ?_
      refine V_goto (q := 17) dX0_isLetter_13 rfl ?_
      cases h
      exact V_zret rfl rfl dX0_isLetter_17
def M_X5_add : Mc := (RX5, cX5_add, 2, { frames := 0, cells := 0, slots := 0, locals := 0 }, (some .boolean))
theorem ce_X5_add : Cee M_X5_add yX5_add 1 := ⟨cd_yX5_add, ini_RX5, ⟨by decide +kernel, by decide +kernel, by decide +kernel⟩, rfl, rfl⟩
set_option maxRecDepth 20000 in
theorem ct_X5_add (Y : Yc) {σ : Sg} {a1 : Int32} {r : Int32} {σr : Sg} (h : f_X5_add σ a1 = some (r, σr)) : Ct M_X5_add yX5_add Y [.ref (ad Y 1), .int a1] σ (some (.int r)) σr := by
  refine Ct_intro [some (.ref (ad Y 1)), some (.int a1)] (by decide +kernel) rfl (Nat.le_of_ble_eq_true rfl) rfl (fun X hY => ?_) ⟨rfl, rfl⟩
  subst hY
  unfold f_X5_add at h
  refine V_aload_n (q := 1) dX5_add_0 rfl rfl ?_
  refine V_geti (k := 1) (j := 1) (q := 4) clz_4 dX5_add_1 rfl rfl rfl (Nat.le_of_ble_eq_true rfl) fl_RX5_21 ?_
  refine V_bipush (q := 6) (v := 50) dX5_add_4 rfl bipush_50 ?_
  refine V_icmp_lt (q := 11) (q2 := 9) dX5_add_6 rfl rfl (fun hb6 => ?_) (fun hb6 => ?_)
  · replace h := it h hb6
    refine V_aload_n (q := 12) dX5_add_11 rfl rfl ?_
    refine V_getr (k := 1) (j := 0) (q := 15) clz_4 dX5_add_12 rfl rfl rfl (Nat.le_of_ble_eq_true rfl) fl_RX5_11 ?_
    refine V_aload_n (q := 16) dX5_add_15 rfl rfl ?_
    refine V_geti (k := 1) (j := 1) (q := 19) clz_4 dX5_add_16 rfl rfl rfl (Nat.le_of_ble_eq_true rfl) fl_RX5_21 ?_
    refine V_iload_n (q := 20) dX5_add_19 rfl rfl ?_
    obtain ⟨hi3, s1, e2, h⟩ := wI_ok h
    refine V_iast (k := 2) (q := 21) dX5_add_20 rfl rfl hi3 e2 ?_
    refine V_aload_n (q := 22) dX5_add_21 rfl rfl ?_
    refine V_dup (q := 23) dX5_add_22 rfl rfl ?_
    refine V_geti (k := 1) (j := 1) (q := 26) clz_4 dX5_add_23 rfl rfl rfl (Nat.le_of_ble_eq_true rfl) fl_RX5_21 ?_
    refine V_iconst (q := 27) (v := 1) dX5_add_26 rfl iconst_1 ?_
    refine V_iadd (q := 28) dX5_add_27 rfl ?_
    obtain ⟨s4, e5, h⟩ := pI_ok h
    refine V_puti (k := 1) (j := 1) (q := 31) clz_4 .int (by decide +kernel) rfl rfl rfl dX5_add_28 rfl rfl rfl (Nat.le_of_ble_eq_true rfl) fl_RX5_21 e5 ?_
    refine V_iconst (q := 32) (v := 1) dX5_add_31 rfl iconst_1 ?_
    cases h
    exact V_zret rfl rfl dX5_add_32
  · replace h := ie h hb6
    refine V_iconst (q := 10) (v := 0) dX5_add_9 rfl iconst_0 ?_
    cases h
    exact V_zret rfl rfl dX5_add_10
def M_X7_spell : Mc := (RX7, cX7_spell, 2, { frames := 1, cells := 0, slots := 0, locals := 21 }, (some .int))
theorem ce_X7_spell : Cee M_X7_spell yX7_spell 1 := ⟨cd_yX7_spell, ini_RX7, ⟨by decide +kernel, by decide +kernel, by decide +kernel⟩, rfl, rfl⟩
set_option maxRecDepth 20000 in
theorem ct_X7_spell (Y : Yc) {σ : Sg} {a1 : Int32} {r : Int32} {σr : Sg} (h : f_X7_spell σ a1 = some (r, σr)) : Ct M_X7_spell yX7_spell Y [.ref (ad Y 0), .int a1] σ (some (.int r)) σr := by
  refine Ct_intro [some (.ref (ad Y 0)), some (.int a1)] (by decide +kernel) rfl (Nat.le_of_ble_eq_true rfl) rfl (fun X hY => ?_) ⟨rfl, rfl⟩
  subst hY
  unfold f_X7_spell at h
  refine V_iload_n (q := 1) dX7_spell_0 rfl rfl ?_
  obtain ⟨x1, hc2, h⟩ := cP_ok h
  refine V_cs1 (q := 4) (As := [.int a1]) (rest := []) (ct_X0_isLetter (xY X) hc2) ce_X0_isLetter st_yX0_isLetter ml_RX7_59 rfl ⟨Nat.le_of_ble_eq_true rfl, Nat.le_of_ble_eq_true rfl⟩ rfl (Nat.le_of_ble_eq_true rfl) dX7_spell_1 rfl ?_
  obtain ⟨k3, ek3, h⟩ := jn_ok h
  have hk3 : k3 = some (r, σr) → V X M_X7_spell (mq X (some (.int r)) σr) 16 [some (.ref (ad (xY X) 0)), some (.int a1)] [] σ := by
    clear h
    intro  h
    rw [ek3] at h
    refine V_aload_n (q := 17) dX7_spell_16 rfl rfl ?_
    refine V_getr (k := 0) (j := 0) (q := 20) clz_6 dX7_spell_17 rfl rfl rfl (Nat.le_of_ble_eq_true rfl) fl_RX7_10 ?_
    refine V_iload_n (q := 21) dX7_spell_20 rfl rfl ?_
    obtain ⟨x4, s6, hc5, h⟩ := cA_ok h
    refine V_cv1 (k := 1) (q := 24) (As := [.int a1]) (rest := []) (ct_X5_add (xY X) hc5) ce_X5_add clz_4 rfl im_yX5_add se_yX5_add rfl ml_RX7_66 rfl ⟨Nat.le_of_ble_eq_true rfl, Nat.le_of_ble_eq_true rfl⟩ rfl (Nat.le_of_ble_eq_true rfl) dX7_spell_21 rfl ?_
    refine V_if_eq (q := 37) (q2 := 27) dX7_spell_24 rfl rfl (fun hb7 => ?_) (fun hb7 => ?_)
    · replace h := it h hb7
      refine V_ldc (q := 39) kc_RX7_73 dX7_spell_37 rfl ?_
      cases h
      exact V_iret rfl dX7_spell_39
    · replace h := ie h hb7
      refine V_aload_n (q := 28) dX7_spell_27 rfl rfl ?_
      refine V_getr (k := 0) (j := 0) (q := 31) clz_6 dX7_spell_28 rfl rfl rfl (Nat.le_of_ble_eq_true rfl) fl_RX7_10 ?_
      refine V_geti (k := 1) (j := 1) (q := 34) clz_4 dX7_spell_31 rfl rfl rfl (Nat.le_of_ble_eq_true rfl) fl_RX7_69 ?_
      refine V_goto (q := 39) dX7_spell_34 rfl ?_
      cases h
      exact V_iret rfl dX7_spell_39
  refine V_if_ne (q := 16) (q2 := 7) dX7_spell_4 rfl rfl (fun hb9 => ?_) (fun hb9 => ?_)
  · replace h := ie h hb9
    exact hk3  h
  · replace h := it h hb9
    refine V_iload_n (q := 8) dX7_spell_7 rfl rfl ?_
    refine V_bipush (q := 10) (v := 32) dX7_spell_8 rfl bipush_32 ?_
    refine V_icmp_eq (q := 16) (q2 := 13) dX7_spell_10 rfl rfl (fun hb8 => ?_) (fun hb8 => ?_)
    · replace h := it h hb8
      exact hk3  h
    · replace h := ie h hb8
      refine V_ldc (q := 15) kc_RX7_65 dX7_spell_13 rfl ?_
      cases h
      exact V_iret rfl dX7_spell_15
def M_X8_in : Mc := (RX8, cX8_in, 3, { frames := 0, cells := 0, slots := 0, locals := 0 }, (some .boolean))
theorem ce_X8_in : Cee M_X8_in yX8_in 3 := ⟨cd_yX8_in, ini_RX8, ⟨by decide +kernel, by decide +kernel, by decide +kernel⟩, rfl, rfl⟩
set_option maxRecDepth 20000 in
theorem ct_X8_in (Y : Yc) {σ : Sg} {a1 : Int32} {a2 : Int32} {a3 : Int32} {r : Int32} (h : f_X8_in σ a1 a2 a3 = some r) : Ct M_X8_in yX8_in Y [.int a1, .int a2, .int a3] σ (some (.int r)) σ := by
  refine Ct_intro [some (.int a1), some (.int a2), some (.int a3)] (by decide +kernel) rfl (Nat.le_of_ble_eq_true rfl) rfl (fun X hY => ?_) ⟨rfl, rfl⟩
  subst hY
  unfold f_X8_in at h
  refine V_iload_n (q := 1) dX8_in_0 rfl rfl ?_
  refine V_iload_n (q := 2) dX8_in_1 rfl rfl ?_
  refine V_icmp_lt (q := 14) (q2 := 5) dX8_in_2 rfl rfl (fun hb2 => ?_) (fun hb2 => ?_)
  · replace h := it h hb2
    refine V_iconst (q := 15) (v := 0) dX8_in_14 rfl iconst_0 ?_
    cases h
    exact V_zret rfl rfl dX8_in_15
  · replace h := ie h hb2
    refine V_iload_n (q := 6) dX8_in_5 rfl rfl ?_
    refine V_iload_n (q := 7) dX8_in_6 rfl rfl ?_
    refine V_icmp_gt (q := 14) (q2 := 10) dX8_in_7 rfl rfl (fun hb1 => ?_) (fun hb1 => ?_)
    · replace h := it h hb1
      refine V_iconst (q := 15) (v := 0) dX8_in_14 rfl iconst_0 ?_
      cases h
      exact V_zret rfl rfl dX8_in_15
    · replace h := ie h hb1
      refine V_iconst (q := 11) (v := 1) dX8_in_10 rfl iconst_1 ?_
      refine V_goto (q := 15) dX8_in_11 rfl ?_
      cases h
      exact V_zret rfl rfl dX8_in_15
def M_X8_isLetter : Mc := (RX8, cX8_isLetter, 1, { frames := 1, cells := 0, slots := 0, locals := 22 }, (some .boolean))
theorem ce_X8_isLetter : Cee M_X8_isLetter yX8_isLetter 1 := ⟨cd_yX8_isLetter, ini_RX8, ⟨by decide +kernel, by decide +kernel, by decide +kernel⟩, rfl, rfl⟩
set_option maxRecDepth 20000 in
theorem ct_X8_isLetter (Y : Yc) {σ : Sg} {a1 : Int32} {r : Int32} (h : f_X8_isLetter σ a1 = some r) : Ct M_X8_isLetter yX8_isLetter Y [.int a1] σ (some (.int r)) σ := by
  refine Ct_intro [some (.int a1)] (by decide +kernel) rfl (Nat.le_of_ble_eq_true rfl) rfl (fun X hY => ?_) ⟨rfl, rfl⟩
  subst hY
  unfold f_X8_isLetter at h
  refine V_iload_n (q := 1) dX8_isLetter_0 rfl rfl ?_
  refine V_bipush (q := 3) (v := 97) dX8_isLetter_1 rfl bipush_97 ?_
  refine V_bipush (q := 5) (v := 122) dX8_isLetter_3 rfl bipush_122 ?_
  obtain ⟨x1, hc2, h⟩ := cP_ok h
  refine V_cs1 (q := 8) (As := [.int a1, .int 97, .int 122]) (rest := []) (ct_X8_in (xY X) hc2) ce_X8_in st_yX8_in ml_RX8_44 rfl ⟨Nat.le_of_ble_eq_true rfl, Nat.le_of_ble_eq_true rfl⟩ rfl (Nat.le_of_ble_eq_true rfl) dX8_isLetter_5 rfl ?_
  obtain ⟨hb3, h⟩ := mH_ok h
  cases h
  exact V_zret rfl (nz01 hb3) dX8_isLetter_8
def M_X8_spell : Mc := (RX8, cX8_spell, 2, { frames := 2, cells := 0, slots := 0, locals := 42 }, (some .int))
theorem ce_X8_spell : Cee M_X8_spell yX8_spell 1 := ⟨cd_yX8_spell, ini_RX8, ⟨by decide +kernel, by decide +kernel, by decide +kernel⟩, rfl, rfl⟩
set_option maxRecDepth 20000 in
theorem ct_X8_spell (Y : Yc) {σ : Sg} {a1 : Int32} {r : Int32} {σr : Sg} (h : f_X8_spell σ a1 = some (r, σr)) : Ct M_X8_spell yX8_spell Y [.ref (ad Y 43), .int a1] σ (some (.int r)) σr := by
  refine Ct_intro [some (.ref (ad Y 43)), some (.int a1)] (by decide +kernel) rfl (Nat.le_of_ble_eq_true rfl) rfl (fun X hY => ?_) ⟨rfl, rfl⟩
  subst hY
  unfold f_X8_spell at h
  refine V_iload_n (q := 1) dX8_spell_0 rfl rfl ?_
  obtain ⟨x1, hc2, h⟩ := cP_ok h
  refine V_cs1 (q := 4) (As := [.int a1]) (rest := []) (ct_X8_isLetter (xY X) hc2) ce_X8_isLetter st_yX8_isLetter ml_RX8_48 rfl ⟨Nat.le_of_ble_eq_true rfl, Nat.le_of_ble_eq_true rfl⟩ rfl (Nat.le_of_ble_eq_true rfl) dX8_spell_1 rfl ?_
  obtain ⟨k3, ek3, h⟩ := jn_ok h
  have hk3 : k3 = some (r, σr) → V X M_X8_spell (mq X (some (.int r)) σr) 16 [some (.ref (ad (xY X) 43)), some (.int a1)] [] σ := by
    clear h
    intro  h
    rw [ek3] at h
    refine V_aload_n (q := 17) dX8_spell_16 rfl rfl ?_
    refine V_geti (k := 43) (j := 4) (q := 20) clz_7 dX8_spell_17 rfl rfl rfl (Nat.le_of_ble_eq_true rfl) fl_RX8_53 ?_
    refine V_bipush (q := 22) (v := 50) dX8_spell_20 rfl bipush_50 ?_
    refine V_icmp_ne (q := 28) (q2 := 25) dX8_spell_22 rfl rfl (fun hb9 => ?_) (fun hb9 => ?_)
    · replace h := ie h hb9
      refine V_aload_n (q := 29) dX8_spell_28 rfl rfl ?_
      refine V_getr (k := 43) (j := 3) (q := 32) clz_7 dX8_spell_29 rfl rfl rfl (Nat.le_of_ble_eq_true rfl) fl_RX8_20 ?_
      refine V_aload_n (q := 33) dX8_spell_32 rfl rfl ?_
      refine V_geti (k := 43) (j := 4) (q := 36) clz_7 dX8_spell_33 rfl rfl rfl (Nat.le_of_ble_eq_true rfl) fl_RX8_53 ?_
      refine V_iload_n (q := 37) dX8_spell_36 rfl rfl ?_
      obtain ⟨hi6, s4, e5, h⟩ := wI_ok h
      refine V_iast (k := 47) (q := 38) dX8_spell_37 rfl rfl hi6 e5 ?_
      refine V_aload_n (q := 39) dX8_spell_38 rfl rfl ?_
      refine V_dup (q := 40) dX8_spell_39 rfl rfl ?_
      refine V_geti (k := 43) (j := 4) (q := 43) clz_7 dX8_spell_40 rfl rfl rfl (Nat.le_of_ble_eq_true rfl) fl_RX8_53 ?_
      refine V_iconst (q := 44) (v := 1) dX8_spell_43 rfl iconst_1 ?_
      refine V_iadd (q := 45) dX8_spell_44 rfl ?_
      obtain ⟨s7, e8, h⟩ := pI_ok h
      refine V_puti (k := 43) (j := 4) (q := 48) clz_7 .int (by decide +kernel) rfl rfl rfl dX8_spell_45 rfl rfl rfl (Nat.le_of_ble_eq_true rfl) fl_RX8_53 e8 ?_
      refine V_aload_n (q := 49) dX8_spell_48 rfl rfl ?_
      refine V_geti (k := 43) (j := 4) (q := 52) clz_7 dX8_spell_49 rfl rfl rfl (Nat.le_of_ble_eq_true rfl) fl_RX8_53 ?_
      cases h
      exact V_iret rfl dX8_spell_52
    · replace h := it h hb9
      refine V_ldc (q := 27) kc_RX8_57 dX8_spell_25 rfl ?_
      cases h
      exact V_iret rfl dX8_spell_27
  refine V_if_ne (q := 16) (q2 := 7) dX8_spell_4 rfl rfl (fun hb11 => ?_) (fun hb11 => ?_)
  · replace h := ie h hb11
    exact hk3  h
  · replace h := it h hb11
    refine V_iload_n (q := 8) dX8_spell_7 rfl rfl ?_
    refine V_bipush (q := 10) (v := 32) dX8_spell_8 rfl bipush_32 ?_
    refine V_icmp_eq (q := 16) (q2 := 13) dX8_spell_10 rfl rfl (fun hb10 => ?_) (fun hb10 => ?_)
    · replace h := it h hb10
      exact hk3  h
    · replace h := ie h hb10
      refine V_ldc (q := 15) kc_RX8_52 dX8_spell_13 rfl ?_
      cases h
      exact V_iret rfl dX8_spell_15
def M_X7_isWeight : Mc := (RX7, cX7_isWeight, 1, { frames := 0, cells := 0, slots := 0, locals := 0 }, (some .boolean))
theorem ce_X7_isWeight : Cee M_X7_isWeight yX7_isWeight 1 := ⟨cd_yX7_isWeight, ini_RX7, ⟨by decide +kernel, by decide +kernel, by decide +kernel⟩, rfl, rfl⟩
set_option maxRecDepth 20000 in
theorem ct_X7_isWeight (Y : Yc) {σ : Sg} {a1 : Int32} {r : Int32} (h : f_X7_isWeight σ a1 = some r) : Ct M_X7_isWeight yX7_isWeight Y [.int a1] σ (some (.int r)) σ := by
  refine Ct_intro [some (.int a1)] (by decide +kernel) rfl (Nat.le_of_ble_eq_true rfl) rfl (fun X hY => ?_) ⟨rfl, rfl⟩
  subst hY
  unfold f_X7_isWeight at h
  refine V_iload_n (q := 1) dX7_isWeight_0 rfl rfl ?_
  refine V_iconst (q := 2) (v := 1) dX7_isWeight_1 rfl iconst_1 ?_
  refine V_icmp_lt (q := 15) (q2 := 5) dX7_isWeight_2 rfl rfl (fun hb2 => ?_) (fun hb2 => ?_)
  · replace h := it h hb2
    refine V_iconst (q := 16) (v := 0) dX7_isWeight_15 rfl iconst_0 ?_
    cases h
    exact V_zret rfl rfl dX7_isWeight_16
  · replace h := ie h hb2
    refine V_iload_n (q := 6) dX7_isWeight_5 rfl rfl ?_
    refine V_bipush (q := 8) (v := 9) dX7_isWeight_6 rfl bipush_9 ?_
    refine V_icmp_gt (q := 15) (q2 := 11) dX7_isWeight_8 rfl rfl (fun hb1 => ?_) (fun hb1 => ?_)
    · replace h := it h hb1
      refine V_iconst (q := 16) (v := 0) dX7_isWeight_15 rfl iconst_0 ?_
      cases h
      exact V_zret rfl rfl dX7_isWeight_16
    · replace h := ie h hb1
      refine V_iconst (q := 12) (v := 1) dX7_isWeight_11 rfl iconst_1 ?_
      refine V_goto (q := 16) dX7_isWeight_12 rfl ?_
      cases h
      exact V_zret rfl rfl dX7_isWeight_16
def M_X7_isBent : Mc := (RX7, cX7_isBent, 1, { frames := 0, cells := 0, slots := 0, locals := 0 }, (some .boolean))
theorem ce_X7_isBent : Cee M_X7_isBent yX7_isBent 1 := ⟨cd_yX7_isBent, ini_RX7, ⟨by decide +kernel, by decide +kernel, by decide +kernel⟩, rfl, rfl⟩
set_option maxRecDepth 20000 in
theorem ct_X7_isBent (Y : Yc) {σ : Sg} {a1 : Int32} {r : Int32} (h : f_X7_isBent σ a1 = some r) : Ct M_X7_isBent yX7_isBent Y [.int a1] σ (some (.int r)) σ := by
  refine Ct_intro [some (.int a1)] (by decide +kernel) rfl (Nat.le_of_ble_eq_true rfl) rfl (fun X hY => ?_) ⟨rfl, rfl⟩
  subst hY
  unfold f_X7_isBent at h
  refine V_iload_n (q := 1) dX7_isBent_0 rfl rfl ?_
  refine V_if_eq (q := 9) (q2 := 4) dX7_isBent_1 rfl rfl (fun hb2 => ?_) (fun hb2 => ?_)
  · replace h := it h hb2
    refine V_iconst (q := 10) (v := 1) dX7_isBent_9 rfl iconst_1 ?_
    refine V_goto (q := 14) dX7_isBent_10 rfl ?_
    cases h
    exact V_zret rfl rfl dX7_isBent_14
  · replace h := ie h hb2
    refine V_iload_n (q := 5) dX7_isBent_4 rfl rfl ?_
    refine V_iconst (q := 6) (v := 1) dX7_isBent_5 rfl iconst_1 ?_
    refine V_icmp_ne (q := 13) (q2 := 9) dX7_isBent_6 rfl rfl (fun hb1 => ?_) (fun hb1 => ?_)
    · replace h := ie h hb1
      refine V_iconst (q := 14) (v := 0) dX7_isBent_13 rfl iconst_0 ?_
      cases h
      exact V_zret rfl rfl dX7_isBent_14
    · replace h := it h hb1
      refine V_iconst (q := 10) (v := 1) dX7_isBent_9 rfl iconst_1 ?_
      refine V_goto (q := 14) dX7_isBent_10 rfl ?_
      cases h
      exact V_zret rfl rfl dX7_isBent_14
def M_X0_with : Mc := (RX0, cX0_with, 4, { frames := 0, cells := 0, slots := 0, locals := 0 }, (some .long))
theorem ce_X0_with : Cee M_X0_with yX0_with 3 := ⟨cd_yX0_with, ini_RX0, ⟨by decide +kernel, by decide +kernel, by decide +kernel⟩, rfl, rfl⟩
set_option maxRecDepth 20000 in
theorem ct_X0_with (Y : Yc) {σ : Sg} {a1 : Int64} {a2 : Int32} {a3 : Int32} {r : Int64} (h : f_X0_with σ a1 a2 a3 = some r) : Ct M_X0_with yX0_with Y [.long a1, .int a2, .int a3] σ (some (.long r)) σ := by
  refine Ct_intro [some (.long a1), none, some (.int a2), some (.int a3)] (by decide +kernel) rfl (Nat.le_of_ble_eq_true rfl) rfl (fun X hY => ?_) ⟨rfl, rfl⟩
  subst hY
  unfold f_X0_with at h
  refine V_iload_n (q := 1) dX0_with_0 rfl rfl ?_
  refine V_if_lt (q := 10) (q2 := 4) dX0_with_1 rfl rfl (fun hb2 => ?_) (fun hb2 => ?_)
  · replace h := it h hb2
    refine V_lload_n (q := 11) dX0_with_10 rfl rfl ?_
    cases h
    exact V_lret rfl dX0_with_11
  · replace h := ie h hb2
    refine V_iload_n (q := 5) dX0_with_4 rfl rfl ?_
    refine V_bipush (q := 7) (v := 12) dX0_with_5 rfl bipush_12 ?_
    refine V_icmp_lt (q := 12) (q2 := 10) dX0_with_7 rfl rfl (fun hb1 => ?_) (fun hb1 => ?_)
    · replace h := it h hb1
      refine V_lload_n (q := 13) dX0_with_12 rfl rfl ?_
      refine V_iload_n (q := 14) dX0_with_13 rfl rfl ?_
      refine V_bipush (q := 16) (v := 96) dX0_with_14 rfl bipush_96 ?_
      refine V_isub (q := 17) dX0_with_16 rfl ?_
      refine V_i2l (q := 18) dX0_with_17 rfl ?_
      refine V_iconst (q := 19) (v := 5) dX0_with_18 rfl iconst_5 ?_
      refine V_iload_n (q := 20) dX0_with_19 rfl rfl ?_
      refine V_imul (q := 21) dX0_with_20 rfl ?_
      refine V_lshl (q := 22) dX0_with_21 rfl ?_
      refine V_lor (q := 23) dX0_with_22 rfl ?_
      cases h
      exact V_lret rfl dX0_with_23
    · replace h := ie h hb1
      refine V_lload_n (q := 11) dX0_with_10 rfl rfl ?_
      cases h
      exact V_lret rfl dX0_with_11
def M_X5_takeWords : Mc := (RX5, cX5_takeWords, 7, { frames := 1, cells := 0, slots := 0, locals := 23 }, (some .int))
theorem ce_X5_takeWords : Cee M_X5_takeWords yX5_takeWords 0 := ⟨cd_yX5_takeWords, ini_RX5, ⟨by decide +kernel, by decide +kernel, by decide +kernel⟩, rfl, rfl⟩
set_option maxRecDepth 20000 in
theorem w_X5_takeWords_L9 {X : Xc} {r : Int32} {σr : Sg} {k : Sg → Int32 → Int32 → Option (Int32 × Sg)}
    (hk : ∀ (s : Sg) (i1 : Int32) (i3 : Int32), k s i1 i3 = some (r, σr) → V X M_X5_takeWords (mq X (some (.int r)) σr) 123 [some (.ref (ad (xY X) 1)), some (.int i1), none, some (.int i3), none, none, none] [] s) :
    ∀ (n : Nat) (s : Sg) (i1 : Int32) (i2 : Int32) (i3 : Int32) (i4 : Int32), f_X5_takeWords_L9 k n s i1 i2 i3 i4 = some (r, σr) → V X M_X5_takeWords (mq X (some (.int r)) σr) 9 [some (.ref (ad (xY X) 1)), some (.int i1), some (.int i2), some (.int i3), some (.int i4), none, none] [] s := by
  intro n
  induction n with
  | zero => intro s i1 i2 i3 i4 h; cases h
  | succ n ih =>
    intro s i1 i2 i3 i4 h
    rw [f_X5_takeWords_L9] at h
    refine V_iload (q := 11) dX5_takeWords_9 rfl rfl ?_
    refine V_aload_n (q := 12) dX5_takeWords_11 rfl rfl ?_
    refine V_geti (k := 1) (j := 1) (q := 15) clz_4 dX5_takeWords_12 rfl rfl rfl (Nat.le_of_ble_eq_true rfl) fl_RX5_21 ?_
    refine V_icmp_ge (q := 123) (q2 := 18) dX5_takeWords_15 rfl rfl (fun hb28 => ?_) (fun hb28 => ?_)
    · replace h := it h hb28
      refine V_msk (L' := [some (.ref (ad (xY X) 1)), some (.int i1), none, some (.int i3), none, none, none]) [true, true, false, true, false, true, true] rfl ?_
      exact hk (s) (i1) (i3) h
    · replace h := ie h hb28
      refine V_aload_n (q := 19) dX5_takeWords_18 rfl rfl ?_
      refine V_getr (k := 1) (j := 0) (q := 22) clz_4 dX5_takeWords_19 rfl rfl rfl (Nat.le_of_ble_eq_true rfl) fl_RX5_11 ?_
      refine V_iload (q := 24) dX5_takeWords_22 rfl rfl ?_
      obtain ⟨hi2, x1, ex3, h⟩ := rI_ok h
      refine V_iald (k := 2) (q := 25) dX5_takeWords_24 rfl rfl hi2 ex3 ?_
      refine V_bipush (q := 27) (v := 32) dX5_takeWords_25 rfl bipush_32 ?_
      refine V_icmp_ne (q := 35) (q2 := 30) dX5_takeWords_27 rfl rfl (fun hb27 => ?_) (fun hb27 => ?_)
      · replace h := ie h hb27
        refine V_iload_n (q := 36) dX5_takeWords_35 rfl rfl ?_
        obtain ⟨k4, ek4, h⟩ := jn_ok h
        have hk4 : ∀ (v5 : Int32), k4 v5 = some (r, σr) → V X M_X5_takeWords (mq X (some (.int r)) σr) 46 [some (.ref (ad (xY X) 1)), none, some (.int i2), some (.int i3), some (.int i4), none, none] [.int v5] s := by
          clear h
          intro v5 h
          rw [ek4] at h
          refine V_istore_n (q := 47) (L' := [some (.ref (ad (xY X) 1)), some (.int v5), some (.int i2), some (.int i3), some (.int i4), none, none]) dX5_takeWords_46 rfl (Nat.le_of_ble_eq_true rfl) rfl ?_
          refine V_iinc (q := 50) (v := 1) (L' := [some (.ref (ad (xY X) 1)), some (.int v5), some (.int (i2 + 1)), some (.int i3), some (.int i4), none, none]) dX5_takeWords_47 rfl rfl iconst_1 (Nat.le_of_ble_eq_true rfl) rfl ?_
          refine V_iload_n (q := 51) dX5_takeWords_50 rfl rfl ?_
          obtain ⟨k6, ek6, h⟩ := jn_ok h
          have hk6 : ∀ (v7 : Int32), k6 v7 = some (r, σr) → V X M_X5_takeWords (mq X (some (.int r)) σr) 70 [some (.ref (ad (xY X) 1)), some (.int v5), some (.int (i2 + 1)), none, some (.int i4), none, none] [.int v7] s := by
            clear h
            intro v7 h
            rw [ek6] at h
            refine V_istore_n (q := 71) (L' := [some (.ref (ad (xY X) 1)), some (.int v5), some (.int (i2 + 1)), some (.int v7), some (.int i4), none, none]) dX5_takeWords_70 rfl (Nat.le_of_ble_eq_true rfl) rfl ?_
            refine V_iload_n (q := 72) dX5_takeWords_71 rfl rfl ?_
            refine V_if_eq (q := 117) (q2 := 75) dX5_takeWords_72 rfl rfl (fun hb22 => ?_) (fun hb22 => ?_)
            · replace h := it h hb22
              refine V_iinc (q := 120) (v := 1) (L' := [some (.ref (ad (xY X) 1)), some (.int v5), some (.int (i2 + 1)), some (.int v7), some (.int (i4 + 1)), none, none]) dX5_takeWords_117 rfl rfl iconst_1 (Nat.le_of_ble_eq_true rfl) rfl ?_
              refine V_goto (q := 9) dX5_takeWords_120 rfl ?_
              exact ih (s) (v5) ((i2 + 1)) (v7) ((i4 + 1)) h
            · replace h := ie h hb22
              refine V_iload_n (q := 76) dX5_takeWords_75 rfl rfl ?_
              refine V_iconst (q := 77) (v := 1) dX5_takeWords_76 rfl iconst_1 ?_
              obtain ⟨k8, ek8, h⟩ := jn_ok h
              have hk8 : ∀ (v9 : Int64), k8 v9 = some (r, σr) → V X M_X5_takeWords (mq X (some (.int r)) σr) 92 [some (.ref (ad (xY X) 1)), some (.int v5), some (.int (i2 + 1)), some (.int v7), some (.int i4), none, none] [.long v9] s := by
                clear h
                intro v9 h
                rw [ek8] at h
                refine V_lstore (q := 94) (L' := [some (.ref (ad (xY X) 1)), some (.int v5), some (.int (i2 + 1)), some (.int v7), some (.int i4), some (.long v9), none]) dX5_takeWords_92 rfl (Nat.le_of_ble_eq_true rfl) rfl ?_
                refine V_aload_n (q := 95) dX5_takeWords_94 rfl rfl ?_
                refine V_getr (k := 1) (j := 2) (q := 98) clz_4 dX5_takeWords_95 rfl rfl rfl (Nat.le_of_ble_eq_true rfl) fl_RX5_17 ?_
                refine V_iload_n (q := 99) dX5_takeWords_98 rfl rfl ?_
                refine V_iconst (q := 100) (v := 1) dX5_takeWords_99 rfl iconst_1 ?_
                refine V_isub (q := 101) dX5_takeWords_100 rfl ?_
                refine V_lload (q := 103) dX5_takeWords_101 rfl rfl ?_
                refine V_iload_n (q := 104) dX5_takeWords_103 rfl rfl ?_
                refine V_iconst (q := 105) (v := 1) dX5_takeWords_104 rfl iconst_1 ?_
                refine V_isub (q := 106) dX5_takeWords_105 rfl ?_
                refine V_aload_n (q := 107) dX5_takeWords_106 rfl rfl ?_
                refine V_getr (k := 1) (j := 0) (q := 110) clz_4 dX5_takeWords_107 rfl rfl rfl (Nat.le_of_ble_eq_true rfl) fl_RX5_11 ?_
                refine V_iload (q := 112) dX5_takeWords_110 rfl rfl ?_
                obtain ⟨hi11, x10, ex12, h⟩ := rI_ok h
                refine V_iald (k := 2) (q := 113) dX5_takeWords_112 rfl rfl hi11 ex12 ?_
                obtain ⟨x13, hc14, h⟩ := cP_ok h
                refine V_cs1 (q := 116) (As := [.long v9, .int ((i2 + 1) - 1), .int x10]) (rest := [.int (v5 - 1), .ref (ad (xY X) 3)]) (ct_X0_with (xY X) hc14) ce_X0_with st_yX0_with ml_RX5_27 rfl ⟨Nat.le_of_ble_eq_true rfl, Nat.le_of_ble_eq_true rfl⟩ rfl (Nat.le_of_ble_eq_true rfl) dX5_takeWords_113 rfl ?_
                obtain ⟨hi17, s15, e16, h⟩ := wL_ok h
                refine V_last (k := 3) (q := 117) dX5_takeWords_116 rfl rfl hi17 e16 ?_
                refine V_iinc (q := 120) (v := 1) (L' := [some (.ref (ad (xY X) 1)), some (.int v5), some (.int (i2 + 1)), some (.int v7), some (.int (i4 + 1)), some (.long v9), none]) dX5_takeWords_117 rfl rfl iconst_1 (Nat.le_of_ble_eq_true rfl) rfl ?_
                refine V_goto (q := 9) dX5_takeWords_120 rfl ?_
                refine V_msk (L' := [some (.ref (ad (xY X) 1)), some (.int v5), some (.int (i2 + 1)), some (.int v7), some (.int (i4 + 1)), none, none]) [true, true, true, true, true, false, true] rfl ?_
                exact ih (s15) (v5) ((i2 + 1)) (v7) ((i4 + 1)) h
              refine V_icmp_ne (q := 84) (q2 := 80) dX5_takeWords_77 rfl rfl (fun hb21 => ?_) (fun hb21 => ?_)
              · replace h := ie h hb21
                refine V_aload_n (q := 85) dX5_takeWords_84 rfl rfl ?_
                refine V_getr (k := 1) (j := 2) (q := 88) clz_4 dX5_takeWords_85 rfl rfl rfl (Nat.le_of_ble_eq_true rfl) fl_RX5_17 ?_
                refine V_iload_n (q := 89) dX5_takeWords_88 rfl rfl ?_
                refine V_iconst (q := 90) (v := 1) dX5_takeWords_89 rfl iconst_1 ?_
                refine V_isub (q := 91) dX5_takeWords_90 rfl ?_
                obtain ⟨hi19, x18, ex20, h⟩ := rL_ok h
                refine V_lald (k := 3) (q := 92) dX5_takeWords_91 rfl rfl hi19 ex20 ?_
                exact hk8 (x18) h
              · replace h := it h hb21
                refine V_lconst (q := 81) (v := 0) dX5_takeWords_80 rfl rfl ?_
                refine V_goto (q := 92) dX5_takeWords_81 rfl ?_
                exact hk8 (0) h
          refine V_if_eq (q := 69) (q2 := 54) dX5_takeWords_51 rfl rfl (fun hb25 => ?_) (fun hb25 => ?_)
          · replace h := it h hb25
            refine V_iconst (q := 70) (v := 0) dX5_takeWords_69 rfl iconst_0 ?_
            refine V_msk (L' := [some (.ref (ad (xY X) 1)), some (.int v5), some (.int (i2 + 1)), none, some (.int i4), none, none]) [true, true, true, false, true, true, true] rfl ?_
            exact hk6 (0) h
          · replace h := ie h hb25
            refine V_iload_n (q := 55) dX5_takeWords_54 rfl rfl ?_
            refine V_bipush (q := 57) (v := 12) dX5_takeWords_55 rfl bipush_12 ?_
            refine V_icmp_gt (q := 69) (q2 := 60) dX5_takeWords_57 rfl rfl (fun hb24 => ?_) (fun hb24 => ?_)
            · replace h := it h hb24
              refine V_iconst (q := 70) (v := 0) dX5_takeWords_69 rfl iconst_0 ?_
              refine V_msk (L' := [some (.ref (ad (xY X) 1)), some (.int v5), some (.int (i2 + 1)), none, some (.int i4), none, none]) [true, true, true, false, true, true, true] rfl ?_
              exact hk6 (0) h
            · replace h := ie h hb24
              refine V_iload_n (q := 61) dX5_takeWords_60 rfl rfl ?_
              refine V_iconst (q := 62) (v := 4) dX5_takeWords_61 rfl iconst_4 ?_
              refine V_icmp_gt (q := 69) (q2 := 65) dX5_takeWords_62 rfl rfl (fun hb23 => ?_) (fun hb23 => ?_)
              · replace h := it h hb23
                refine V_iconst (q := 70) (v := 0) dX5_takeWords_69 rfl iconst_0 ?_
                refine V_msk (L' := [some (.ref (ad (xY X) 1)), some (.int v5), some (.int (i2 + 1)), none, some (.int i4), none, none]) [true, true, true, false, true, true, true] rfl ?_
                exact hk6 (0) h
              · replace h := ie h hb23
                refine V_iconst (q := 66) (v := 1) dX5_takeWords_65 rfl iconst_1 ?_
                refine V_goto (q := 70) dX5_takeWords_66 rfl ?_
                refine V_msk (L' := [some (.ref (ad (xY X) 1)), some (.int v5), some (.int (i2 + 1)), none, some (.int i4), none, none]) [true, true, true, false, true, true, true] rfl ?_
                exact hk6 (1) h
        refine V_if_ne (q := 45) (q2 := 39) dX5_takeWords_36 rfl rfl (fun hb26 => ?_) (fun hb26 => ?_)
        · replace h := ie h hb26
          refine V_iload_n (q := 46) dX5_takeWords_45 rfl rfl ?_
          refine V_msk (L' := [some (.ref (ad (xY X) 1)), none, some (.int i2), some (.int i3), some (.int i4), none, none]) [true, false, true, true, true, true, true] rfl ?_
          exact hk4 (i1) h
        · replace h := it h hb26
          refine V_iload_n (q := 40) dX5_takeWords_39 rfl rfl ?_
          refine V_iconst (q := 41) (v := 1) dX5_takeWords_40 rfl iconst_1 ?_
          refine V_iadd (q := 42) dX5_takeWords_41 rfl ?_
          refine V_goto (q := 46) dX5_takeWords_42 rfl ?_
          refine V_msk (L' := [some (.ref (ad (xY X) 1)), none, some (.int i2), some (.int i3), some (.int i4), none, none]) [true, false, true, true, true, true, true] rfl ?_
          exact hk4 ((i1 + 1)) h
      · replace h := it h hb27
        refine V_iconst (q := 31) (v := 0) dX5_takeWords_30 rfl iconst_0 ?_
        refine V_istore_n (q := 32) (L' := [some (.ref (ad (xY X) 1)), some (.int i1), some (.int 0), some (.int i3), some (.int i4), none, none]) dX5_takeWords_31 rfl (Nat.le_of_ble_eq_true rfl) rfl ?_
        refine V_goto (q := 117) dX5_takeWords_32 rfl ?_
        refine V_iinc (q := 120) (v := 1) (L' := [some (.ref (ad (xY X) 1)), some (.int i1), some (.int 0), some (.int i3), some (.int (i4 + 1)), none, none]) dX5_takeWords_117 rfl rfl iconst_1 (Nat.le_of_ble_eq_true rfl) rfl ?_
        refine V_goto (q := 9) dX5_takeWords_120 rfl ?_
        exact ih (s) (i1) (0) (i3) ((i4 + 1)) h
set_option maxRecDepth 20000 in
theorem ct_X5_takeWords (Y : Yc) {σ : Sg}  {r : Int32} {σr : Sg} (h : f_X5_takeWords σ  = some (r, σr)) : Ct M_X5_takeWords yX5_takeWords Y [.ref (ad Y 1)] σ (some (.int r)) σr := by
  refine Ct_intro [some (.ref (ad Y 1)), none, none, none, none, none, none] (by decide +kernel) rfl (Nat.le_of_ble_eq_true rfl) rfl (fun X hY => ?_) ⟨rfl, rfl⟩
  subst hY
  unfold f_X5_takeWords at h
  refine V_iconst (q := 1) (v := 0) dX5_takeWords_0 rfl iconst_0 ?_
  refine V_istore_n (q := 2) (L' := [some (.ref (ad (xY X) 1)), some (.int 0), none, none, none, none, none]) dX5_takeWords_1 rfl (Nat.le_of_ble_eq_true rfl) rfl ?_
  refine V_iconst (q := 3) (v := 0) dX5_takeWords_2 rfl iconst_0 ?_
  refine V_istore_n (q := 4) (L' := [some (.ref (ad (xY X) 1)), some (.int 0), some (.int 0), none, none, none, none]) dX5_takeWords_3 rfl (Nat.le_of_ble_eq_true rfl) rfl ?_
  refine V_iconst (q := 5) (v := 1) dX5_takeWords_4 rfl iconst_1 ?_
  refine V_istore_n (q := 6) (L' := [some (.ref (ad (xY X) 1)), some (.int 0), some (.int 0), some (.int 1), none, none, none]) dX5_takeWords_5 rfl (Nat.le_of_ble_eq_true rfl) rfl ?_
  refine V_iconst (q := 7) (v := 0) dX5_takeWords_6 rfl iconst_0 ?_
  refine V_istore (q := 9) (L' := [some (.ref (ad (xY X) 1)), some (.int 0), some (.int 0), some (.int 1), some (.int 0), none, none]) dX5_takeWords_7 rfl (Nat.le_of_ble_eq_true rfl) rfl ?_
  refine w_X5_takeWords_L9 (fun s29 v30 v31 h => ?_) fu (σ) (0) (0) (1) (0) h
  refine V_aload_n (q := 124) dX5_takeWords_123 rfl rfl ?_
  refine V_iconst (q := 125) (v := 0) dX5_takeWords_124 rfl iconst_0 ?_
  obtain ⟨s32, e33, h⟩ := pI_ok h
  refine V_puti (k := 1) (j := 1) (q := 128) clz_4 .int (by decide +kernel) rfl rfl rfl dX5_takeWords_125 rfl rfl rfl (Nat.le_of_ble_eq_true rfl) fl_RX5_21 e33 ?_
  refine V_iload_n (q := 129) dX5_takeWords_128 rfl rfl ?_
  refine V_if_eq (q := 136) (q2 := 132) dX5_takeWords_129 rfl rfl (fun hb34 => ?_) (fun hb34 => ?_)
  · replace h := it h hb34
    refine V_iconst (q := 137) (v := 0) dX5_takeWords_136 rfl iconst_0 ?_
    cases h
    exact V_iret rfl dX5_takeWords_137
  · replace h := ie h hb34
    refine V_iload_n (q := 133) dX5_takeWords_132 rfl rfl ?_
    refine V_goto (q := 137) dX5_takeWords_133 rfl ?_
    cases h
    exact V_iret rfl dX5_takeWords_137
def M_X1_wordOf : Mc := (RX1, cX1_wordOf, 3, { frames := 0, cells := 0, slots := 0, locals := 0 }, (some .long))
theorem ce_X1_wordOf : Cee M_X1_wordOf yX1_wordOf 2 := ⟨cd_yX1_wordOf, ini_RX1, ⟨by decide +kernel, by decide +kernel, by decide +kernel⟩, rfl, rfl⟩
set_option maxRecDepth 20000 in
theorem ct_X1_wordOf (Y : Yc) {σ : Sg} {a1 : Int32} {a2 : Int32} {r : Int64} (h : f_X1_wordOf σ a1 a2 = some r) : Ct M_X1_wordOf yX1_wordOf Y [.ref (ad Y 4), .int a1, .int a2] σ (some (.long r)) σ := by
  refine Ct_intro [some (.ref (ad Y 4)), some (.int a1), some (.int a2)] (by decide +kernel) rfl (Nat.le_of_ble_eq_true rfl) rfl (fun X hY => ?_) ⟨rfl, rfl⟩
  subst hY
  unfold f_X1_wordOf at h
  refine V_aload_n (q := 1) dX1_wordOf_0 rfl rfl ?_
  refine V_getr (k := 4) (j := 1) (q := 4) clz_0 dX1_wordOf_1 rfl rfl rfl (Nat.le_of_ble_eq_true rfl) fl_RX1_11 ?_
  refine V_iload_n (q := 5) dX1_wordOf_4 rfl rfl ?_
  refine V_iconst (q := 6) (v := 4) dX1_wordOf_5 rfl iconst_4 ?_
  refine V_imul (q := 7) dX1_wordOf_6 rfl ?_
  refine V_iload_n (q := 8) dX1_wordOf_7 rfl rfl ?_
  refine V_iadd (q := 9) dX1_wordOf_8 rfl ?_
  obtain ⟨hi2, x1, ex3, h⟩ := rL_ok h
  refine V_lald (k := 5) (q := 10) dX1_wordOf_9 rfl rfl hi2 ex3 ?_
  cases h
  exact V_lret rfl dX1_wordOf_10
def M_X1_hasWords : Mc := (RX1, cX1_hasWords, 4, { frames := 1, cells := 0, slots := 0, locals := 22 }, (some .boolean))
theorem ce_X1_hasWords : Cee M_X1_hasWords yX1_hasWords 2 := ⟨cd_yX1_hasWords, ini_RX1, ⟨by decide +kernel, by decide +kernel, by decide +kernel⟩, rfl, rfl⟩
set_option maxRecDepth 20000 in
theorem w_X1_hasWords_L2 {X : Xc} {σ : Sg} {c1 : Int32} {r : Int32} {k : Option Int32}
    (hk : k = some r → V X M_X1_hasWords (mq X (some (.int r)) σ) 39 [none, none, none, none] [] σ) :
    ∀ (n : Nat) (i3 : Int32), f_X1_hasWords_L2 k σ c1 n i3 = some r → V X M_X1_hasWords (mq X (some (.int r)) σ) 2 [some (.ref (ad (xY X) 4)), some (.int c1), some (.ref (ad (xY X) 3)), some (.int i3)] [] σ := by
  intro n
  induction n with
  | zero => intro i3 h; cases h
  | succ n ih =>
    intro i3 h
    rw [f_X1_hasWords_L2] at h
    refine V_iload_n (q := 3) dX1_hasWords_2 rfl rfl ?_
    refine V_aload_n (q := 4) dX1_hasWords_3 rfl rfl ?_
    refine V_getr (k := 4) (j := 2) (q := 7) clz_0 dX1_hasWords_4 rfl rfl rfl (Nat.le_of_ble_eq_true rfl) fl_RX1_15 ?_
    refine V_iload_n (q := 8) dX1_hasWords_7 rfl rfl ?_
    obtain ⟨hi2, x1, ex3, h⟩ := rI_ok h
    refine V_iald (k := 6) (q := 9) dX1_hasWords_8 rfl rfl hi2 ex3 ?_
    refine V_icmp_ge (q := 39) (q2 := 12) dX1_hasWords_9 rfl rfl (fun hb11 => ?_) (fun hb11 => ?_)
    · replace h := it h hb11
      refine V_msk (L' := [none, none, none, none]) [false, false, false, false] rfl ?_
      exact hk  h
    · replace h := ie h hb11
      refine V_iload_n (q := 13) dX1_hasWords_12 rfl rfl ?_
      refine V_aload_n (q := 14) dX1_hasWords_13 rfl rfl ?_
      refine V_alen (k := 3) (q := 15) (v := 4) (Nat.le_of_ble_eq_true rfl) dX1_hasWords_14 rfl rfl rfl ?_
      refine V_icmp_ge (q := 39) (q2 := 18) dX1_hasWords_15 rfl rfl (fun hb10 => ?_) (fun hb10 => ?_)
      · replace h := it h hb10
        refine V_msk (L' := [none, none, none, none]) [false, false, false, false] rfl ?_
        exact hk  h
      · replace h := ie h hb10
        refine V_aload_n (q := 19) dX1_hasWords_18 rfl rfl ?_
        refine V_iload_n (q := 20) dX1_hasWords_19 rfl rfl ?_
        refine V_iload_n (q := 21) dX1_hasWords_20 rfl rfl ?_
        obtain ⟨x4, hc5, h⟩ := cP_ok h
        refine V_cv1 (k := 4) (q := 24) (As := [.int c1, .int i3]) (rest := []) (ct_X1_wordOf (xY X) hc5) ce_X1_wordOf clz_0 rfl im_yX1_wordOf se_yX1_wordOf rfl ml_RX1_56 rfl ⟨Nat.le_of_ble_eq_true rfl, Nat.le_of_ble_eq_true rfl⟩ rfl (Nat.le_of_ble_eq_true rfl) dX1_hasWords_21 rfl ?_
        refine V_aload_n (q := 25) dX1_hasWords_24 rfl rfl ?_
        refine V_iload_n (q := 26) dX1_hasWords_25 rfl rfl ?_
        obtain ⟨hi7, x6, ex8, h⟩ := rL_ok h
        refine V_lald (k := 3) (q := 27) dX1_hasWords_26 rfl rfl hi7 ex8 ?_
        refine V_lcmp (q := 28) dX1_hasWords_27 rfl ?_
        refine V_if_eq (q := 33) (q2 := 31) dX1_hasWords_28 rfl rfl (fun hb9 => ?_) (fun hb9 => ?_)
        · replace h := it h hb9
          refine V_iinc (q := 36) (v := 1) (L' := [some (.ref (ad (xY X) 4)), some (.int c1), some (.ref (ad (xY X) 3)), some (.int (i3 + 1))]) dX1_hasWords_33 rfl rfl iconst_1 (Nat.le_of_ble_eq_true rfl) rfl ?_
          refine V_goto (q := 2) dX1_hasWords_36 rfl ?_
          exact ih ((i3 + 1)) h
        · replace h := ie h hb9
          refine V_iconst (q := 32) (v := 0) dX1_hasWords_31 rfl iconst_0 ?_
          cases h
          exact V_zret rfl rfl dX1_hasWords_32
set_option maxRecDepth 20000 in
theorem ct_X1_hasWords (Y : Yc) {σ : Sg} {a1 : Int32} {r : Int32} (h : f_X1_hasWords σ a1 = some r) : Ct M_X1_hasWords yX1_hasWords Y [.ref (ad Y 4), .int a1, .ref (ad Y 3)] σ (some (.int r)) σ := by
  refine Ct_intro [some (.ref (ad Y 4)), some (.int a1), some (.ref (ad Y 3)), none] (by decide +kernel) rfl (Nat.le_of_ble_eq_true rfl) rfl (fun X hY => ?_) ⟨rfl, rfl⟩
  subst hY
  unfold f_X1_hasWords at h
  refine V_iconst (q := 1) (v := 0) dX1_hasWords_0 rfl iconst_0 ?_
  refine V_istore_n (q := 2) (L' := [some (.ref (ad (xY X) 4)), some (.int a1), some (.ref (ad (xY X) 3)), some (.int 0)]) dX1_hasWords_1 rfl (Nat.le_of_ble_eq_true rfl) rfl ?_
  refine w_X1_hasWords_L2 (fun h => ?_) fu (0) h
  refine V_iconst (q := 40) (v := 1) dX1_hasWords_39 rfl iconst_1 ?_
  cases h
  exact V_zret rfl rfl dX1_hasWords_40
def M_X1_hasTerm : Mc := (RX1, cX1_hasTerm, 4, { frames := 2, cells := 0, slots := 0, locals := 45 }, (some .boolean))
theorem ce_X1_hasTerm : Cee M_X1_hasTerm yX1_hasTerm 2 := ⟨cd_yX1_hasTerm, ini_RX1, ⟨by decide +kernel, by decide +kernel, by decide +kernel⟩, rfl, rfl⟩
set_option maxRecDepth 20000 in
theorem w_X1_hasTerm_L2 {X : Xc} {σ : Sg} {c2 : Int32} {r : Int32} {k : Option Int32}
    (hk : k = some r → V X M_X1_hasTerm (mq X (some (.int r)) σ) 37 [none, none, none, none] [] σ) :
    ∀ (n : Nat) (i3 : Int32), f_X1_hasTerm_L2 k σ c2 n i3 = some r → V X M_X1_hasTerm (mq X (some (.int r)) σ) 2 [some (.ref (ad (xY X) 4)), some (.ref (ad (xY X) 3)), some (.int c2), some (.int i3)] [] σ := by
  intro n
  induction n with
  | zero => intro i3 h; cases h
  | succ n ih =>
    intro i3 h
    rw [f_X1_hasTerm_L2] at h
    refine V_iload_n (q := 3) dX1_hasTerm_2 rfl rfl ?_
    refine V_aload_n (q := 4) dX1_hasTerm_3 rfl rfl ?_
    refine V_geti (k := 4) (j := 0) (q := 7) clz_0 dX1_hasTerm_4 rfl rfl rfl (Nat.le_of_ble_eq_true rfl) fl_RX1_31 ?_
    refine V_icmp_ge (q := 37) (q2 := 10) dX1_hasTerm_7 rfl rfl (fun hb8 => ?_) (fun hb8 => ?_)
    · replace h := it h hb8
      refine V_msk (L' := [none, none, none, none]) [false, false, false, false] rfl ?_
      exact hk  h
    · replace h := ie h hb8
      refine V_aload_n (q := 11) dX1_hasTerm_10 rfl rfl ?_
      refine V_getr (k := 4) (j := 2) (q := 14) clz_0 dX1_hasTerm_11 rfl rfl rfl (Nat.le_of_ble_eq_true rfl) fl_RX1_15 ?_
      refine V_iload_n (q := 15) dX1_hasTerm_14 rfl rfl ?_
      obtain ⟨hi2, x1, ex3, h⟩ := rI_ok h
      refine V_iald (k := 6) (q := 16) dX1_hasTerm_15 rfl rfl hi2 ex3 ?_
      refine V_iload_n (q := 17) dX1_hasTerm_16 rfl rfl ?_
      refine V_icmp_ne (q := 31) (q2 := 20) dX1_hasTerm_17 rfl rfl (fun hb7 => ?_) (fun hb7 => ?_)
      · replace h := ie h hb7
        refine V_iinc (q := 34) (v := 1) (L' := [some (.ref (ad (xY X) 4)), some (.ref (ad (xY X) 3)), some (.int c2), some (.int (i3 + 1))]) dX1_hasTerm_31 rfl rfl iconst_1 (Nat.le_of_ble_eq_true rfl) rfl ?_
        refine V_goto (q := 2) dX1_hasTerm_34 rfl ?_
        exact ih ((i3 + 1)) h
      · replace h := it h hb7
        refine V_aload_n (q := 21) dX1_hasTerm_20 rfl rfl ?_
        refine V_iload_n (q := 22) dX1_hasTerm_21 rfl rfl ?_
        refine V_aload_n (q := 23) dX1_hasTerm_22 rfl rfl ?_
        obtain ⟨x4, hc5, h⟩ := cP_ok h
        refine V_cv1 (k := 4) (q := 26) (As := [.int i3, .ref (ad (xY X) 3)]) (rest := []) (ct_X1_hasWords (xY X) hc5) ce_X1_hasWords clz_0 rfl im_yX1_hasWords se_yX1_hasWords rfl ml_RX1_52 rfl ⟨Nat.le_of_ble_eq_true rfl, Nat.le_of_ble_eq_true rfl⟩ rfl (Nat.le_of_ble_eq_true rfl) dX1_hasTerm_23 rfl ?_
        refine V_if_eq (q := 31) (q2 := 29) dX1_hasTerm_26 rfl rfl (fun hb6 => ?_) (fun hb6 => ?_)
        · replace h := it h hb6
          refine V_iinc (q := 34) (v := 1) (L' := [some (.ref (ad (xY X) 4)), some (.ref (ad (xY X) 3)), some (.int c2), some (.int (i3 + 1))]) dX1_hasTerm_31 rfl rfl iconst_1 (Nat.le_of_ble_eq_true rfl) rfl ?_
          refine V_goto (q := 2) dX1_hasTerm_34 rfl ?_
          exact ih ((i3 + 1)) h
        · replace h := ie h hb6
          refine V_iconst (q := 30) (v := 1) dX1_hasTerm_29 rfl iconst_1 ?_
          cases h
          exact V_zret rfl rfl dX1_hasTerm_30
set_option maxRecDepth 20000 in
theorem ct_X1_hasTerm (Y : Yc) {σ : Sg} {a1 : Int32} {r : Int32} (h : f_X1_hasTerm σ a1 = some r) : Ct M_X1_hasTerm yX1_hasTerm Y [.ref (ad Y 4), .ref (ad Y 3), .int a1] σ (some (.int r)) σ := by
  refine Ct_intro [some (.ref (ad Y 4)), some (.ref (ad Y 3)), some (.int a1), none] (by decide +kernel) rfl (Nat.le_of_ble_eq_true rfl) rfl (fun X hY => ?_) ⟨rfl, rfl⟩
  subst hY
  unfold f_X1_hasTerm at h
  refine V_iconst (q := 1) (v := 0) dX1_hasTerm_0 rfl iconst_0 ?_
  refine V_istore_n (q := 2) (L' := [some (.ref (ad (xY X) 4)), some (.ref (ad (xY X) 3)), some (.int a1), some (.int 0)]) dX1_hasTerm_1 rfl (Nat.le_of_ble_eq_true rfl) rfl ?_
  refine w_X1_hasTerm_L2 (fun h => ?_) fu (0) h
  refine V_iconst (q := 38) (v := 0) dX1_hasTerm_37 rfl iconst_0 ?_
  cases h
  exact V_zret rfl rfl dX1_hasTerm_38
def M_X1_addTerm : Mc := (RX1, cX1_addTerm, 7, { frames := 0, cells := 0, slots := 0, locals := 0 }, (some .int))
theorem ce_X1_addTerm : Cee M_X1_addTerm yX1_addTerm 4 := ⟨cd_yX1_addTerm, ini_RX1, ⟨by decide +kernel, by decide +kernel, by decide +kernel⟩, rfl, rfl⟩
set_option maxRecDepth 20000 in
theorem w_X1_addTerm_4_3_L20 {X : Xc} {c2 : Int32} {c3 : Int32} {c4 : Int32} {c5 : Int32} {r : Int32} {σr : Sg} {k : Sg → Option (Int32 × Sg)}
    (hk : ∀ (s : Sg), k s = some (r, σr) → V X M_X1_addTerm (mq X (some (.int r)) σr) 54 [some (.ref (ad (xY X) 4)), none, some (.int c2), some (.int c3), some (.int c4), some (.int c5), none] [] s) :
    ∀ (n : Nat) (s : Sg) (i6 : Int32), f_X1_addTerm_4_3_L20 k c2 c3 c4 c5 n s i6 = some (r, σr) → V X M_X1_addTerm (mq X (some (.int r)) σr) 20 [some (.ref (ad (xY X) 4)), some (.ref (ad (xY X) 3)), some (.int c2), some (.int c3), some (.int c4), some (.int c5), some (.int i6)] [] s := by
  intro n
  induction n with
  | zero => intro s i6 h; cases h
  | succ n ih =>
    intro s i6 h
    rw [f_X1_addTerm_4_3_L20] at h
    refine V_iload (q := 22) dX1_addTerm_20 rfl rfl ?_
    refine V_iload_n (q := 23) dX1_addTerm_22 rfl rfl ?_
    refine V_icmp_ge (q := 54) (q2 := 26) dX1_addTerm_23 rfl rfl (fun hb8 => ?_) (fun hb8 => ?_)
    · replace h := it h hb8
      refine V_msk (L' := [some (.ref (ad (xY X) 4)), none, some (.int c2), some (.int c3), some (.int c4), some (.int c5), none]) [true, false, true, true, true, true, false] rfl ?_
      exact hk (s) h
    · replace h := ie h hb8
      refine V_iload (q := 28) dX1_addTerm_26 rfl rfl ?_
      refine V_iconst (q := 29) (v := 4) dX1_addTerm_28 rfl iconst_4 ?_
      refine V_icmp_ge (q := 54) (q2 := 32) dX1_addTerm_29 rfl rfl (fun hb7 => ?_) (fun hb7 => ?_)
      · replace h := it h hb7
        refine V_msk (L' := [some (.ref (ad (xY X) 4)), none, some (.int c2), some (.int c3), some (.int c4), some (.int c5), none]) [true, false, true, true, true, true, false] rfl ?_
        exact hk (s) h
      · replace h := ie h hb7
        refine V_aload_n (q := 33) dX1_addTerm_32 rfl rfl ?_
        refine V_getr (k := 4) (j := 1) (q := 36) clz_0 dX1_addTerm_33 rfl rfl rfl (Nat.le_of_ble_eq_true rfl) fl_RX1_11 ?_
        refine V_iload (q := 38) dX1_addTerm_36 rfl rfl ?_
        refine V_iconst (q := 39) (v := 4) dX1_addTerm_38 rfl iconst_4 ?_
        refine V_imul (q := 40) dX1_addTerm_39 rfl ?_
        refine V_iload (q := 42) dX1_addTerm_40 rfl rfl ?_
        refine V_iadd (q := 43) dX1_addTerm_42 rfl ?_
        refine V_aload_n (q := 44) dX1_addTerm_43 rfl rfl ?_
        refine V_iload (q := 46) dX1_addTerm_44 rfl rfl ?_
        obtain ⟨hi2, x1, ex3, h⟩ := rL_ok h
        refine V_lald (k := 3) (q := 47) dX1_addTerm_46 rfl rfl hi2 ex3 ?_
        obtain ⟨hi6, s4, e5, h⟩ := wL_ok h
        refine V_last (k := 5) (q := 48) dX1_addTerm_47 rfl rfl hi6 e5 ?_
        refine V_iinc (q := 51) (v := 1) (L' := [some (.ref (ad (xY X) 4)), some (.ref (ad (xY X) 3)), some (.int c2), some (.int c3), some (.int c4), some (.int c5), some (.int (i6 + 1))]) dX1_addTerm_48 rfl rfl iconst_1 (Nat.le_of_ble_eq_true rfl) rfl ?_
        refine V_goto (q := 20) dX1_addTerm_51 rfl ?_
        exact ih (s4) ((i6 + 1)) h
set_option maxRecDepth 20000 in
theorem ct_X1_addTerm_4_3 (Y : Yc) {σ : Sg} {a1 : Int32} {a2 : Int32} {a3 : Int32} {r : Int32} {σr : Sg} (h : f_X1_addTerm_4_3 σ a1 a2 a3 = some (r, σr)) : Ct M_X1_addTerm yX1_addTerm Y [.ref (ad Y 4), .ref (ad Y 3), .int a1, .int a2, .int a3] σ (some (.int r)) σr := by
  refine Ct_intro [some (.ref (ad Y 4)), some (.ref (ad Y 3)), some (.int a1), some (.int a2), some (.int a3), none, none] (by decide +kernel) rfl (Nat.le_of_ble_eq_true rfl) rfl (fun X hY => ?_) ⟨rfl, rfl⟩
  subst hY
  unfold f_X1_addTerm_4_3 at h
  refine V_aload_n (q := 1) dX1_addTerm_0 rfl rfl ?_
  refine V_geti (k := 4) (j := 0) (q := 4) clz_0 dX1_addTerm_1 rfl rfl rfl (Nat.le_of_ble_eq_true rfl) fl_RX1_31 ?_
  refine V_bipush (q := 6) (v := 8) dX1_addTerm_4 rfl bipush_8 ?_
  refine V_icmp_lt (q := 11) (q2 := 9) dX1_addTerm_6 rfl rfl (fun hb24 => ?_) (fun hb24 => ?_)
  · replace h := it h hb24
    refine V_aload_n (q := 12) dX1_addTerm_11 rfl rfl ?_
    refine V_geti (k := 4) (j := 0) (q := 15) clz_0 dX1_addTerm_12 rfl rfl rfl (Nat.le_of_ble_eq_true rfl) fl_RX1_31 ?_
    refine V_istore (q := 17) (L' := [some (.ref (ad (xY X) 4)), some (.ref (ad (xY X) 3)), some (.int a1), some (.int a2), some (.int a3), some (.int (σ.1 4 0)), none]) dX1_addTerm_15 rfl (Nat.le_of_ble_eq_true rfl) rfl ?_
    refine V_iconst (q := 18) (v := 0) dX1_addTerm_17 rfl iconst_0 ?_
    refine V_istore (q := 20) (L' := [some (.ref (ad (xY X) 4)), some (.ref (ad (xY X) 3)), some (.int a1), some (.int a2), some (.int a3), some (.int (σ.1 4 0)), some (.int 0)]) dX1_addTerm_18 rfl (Nat.le_of_ble_eq_true rfl) rfl ?_
    refine w_X1_addTerm_4_3_L20 (fun s9 h => ?_) fu (σ) (0) h
    refine V_aload_n (q := 55) dX1_addTerm_54 rfl rfl ?_
    refine V_getr (k := 4) (j := 2) (q := 58) clz_0 dX1_addTerm_55 rfl rfl rfl (Nat.le_of_ble_eq_true rfl) fl_RX1_15 ?_
    refine V_iload (q := 60) dX1_addTerm_58 rfl rfl ?_
    refine V_iload_n (q := 61) dX1_addTerm_60 rfl rfl ?_
    obtain ⟨hi12, s10, e11, h⟩ := wI_ok h
    refine V_iast (k := 6) (q := 62) dX1_addTerm_61 rfl rfl hi12 e11 ?_
    refine V_aload_n (q := 63) dX1_addTerm_62 rfl rfl ?_
    refine V_getr (k := 4) (j := 3) (q := 66) clz_0 dX1_addTerm_63 rfl rfl rfl (Nat.le_of_ble_eq_true rfl) fl_RX1_19 ?_
    refine V_iload (q := 68) dX1_addTerm_66 rfl rfl ?_
    refine V_iload_n (q := 69) dX1_addTerm_68 rfl rfl ?_
    obtain ⟨hi15, s13, e14, h⟩ := wI_ok h
    refine V_iast (k := 7) (q := 70) dX1_addTerm_69 rfl rfl hi15 e14 ?_
    refine V_aload_n (q := 71) dX1_addTerm_70 rfl rfl ?_
    refine V_getr (k := 4) (j := 4) (q := 74) clz_0 dX1_addTerm_71 rfl rfl rfl (Nat.le_of_ble_eq_true rfl) fl_RX1_22 ?_
    refine V_iload (q := 76) dX1_addTerm_74 rfl rfl ?_
    refine V_iload (q := 78) dX1_addTerm_76 rfl rfl ?_
    obtain ⟨hi18, s16, e17, h⟩ := wI_ok h
    refine V_iast (k := 8) (q := 79) dX1_addTerm_78 rfl rfl hi18 e17 ?_
    refine V_aload_n (q := 80) dX1_addTerm_79 rfl rfl ?_
    refine V_getr (k := 4) (j := 5) (q := 83) clz_0 dX1_addTerm_80 rfl rfl rfl (Nat.le_of_ble_eq_true rfl) fl_RX1_25 ?_
    refine V_iload (q := 85) dX1_addTerm_83 rfl rfl ?_
    refine V_iconst (q := 86) (v := (-1)) dX1_addTerm_85 rfl iconst_m1 ?_
    obtain ⟨hi21, s19, e20, h⟩ := wI_ok h
    refine V_iast (k := 9) (q := 87) dX1_addTerm_86 rfl rfl hi21 e20 ?_
    refine V_aload_n (q := 88) dX1_addTerm_87 rfl rfl ?_
    refine V_dup (q := 89) dX1_addTerm_88 rfl rfl ?_
    refine V_geti (k := 4) (j := 0) (q := 92) clz_0 dX1_addTerm_89 rfl rfl rfl (Nat.le_of_ble_eq_true rfl) fl_RX1_31 ?_
    refine V_iconst (q := 93) (v := 1) dX1_addTerm_92 rfl iconst_1 ?_
    refine V_iadd (q := 94) dX1_addTerm_93 rfl ?_
    obtain ⟨s22, e23, h⟩ := pI_ok h
    refine V_puti (k := 4) (j := 0) (q := 97) clz_0 .int (by decide +kernel) rfl rfl rfl dX1_addTerm_94 rfl rfl rfl (Nat.le_of_ble_eq_true rfl) fl_RX1_31 e23 ?_
    refine V_iload (q := 99) dX1_addTerm_97 rfl rfl ?_
    cases h
    exact V_iret rfl dX1_addTerm_99
  · replace h := ie h hb24
    refine V_iconst (q := 10) (v := (-1)) dX1_addTerm_9 rfl iconst_m1 ?_
    cases h
    exact V_iret rfl dX1_addTerm_10
def M_X4_forget : Mc := (RX4, cX4_forget, 1, { frames := 0, cells := 0, slots := 0, locals := 0 }, none)
theorem ce_X4_forget : Cee M_X4_forget yX4_forget 0 := ⟨cd_yX4_forget, ini_RX4, ⟨by decide +kernel, by decide +kernel, by decide +kernel⟩, rfl, rfl⟩
set_option maxRecDepth 20000 in
theorem ct_X4_forget (Y : Yc) {σ : Sg}  {r : Unit} {σr : Sg} (h : f_X4_forget σ  = some (r, σr)) : Ct M_X4_forget yX4_forget Y [.ref (ad Y 30)] σ none σr := by
  refine Ct_intro [some (.ref (ad Y 30))] (by decide +kernel) rfl (Nat.le_of_ble_eq_true rfl) rfl (fun X hY => ?_) ⟨rfl, rfl⟩
  subst hY
  unfold f_X4_forget at h
  refine V_aload_n (q := 1) dX4_forget_0 rfl rfl ?_
  refine V_iconst (q := 2) (v := 0) dX4_forget_1 rfl iconst_0 ?_
  obtain ⟨s1, e2, h⟩ := pI_ok h
  refine V_puti (k := 30) (j := 2) (q := 5) clz_3 .int (by decide +kernel) rfl rfl rfl dX4_forget_2 rfl rfl rfl (Nat.le_of_ble_eq_true rfl) fl_RX4_52 e2 ?_
  refine V_aload_n (q := 6) dX4_forget_5 rfl rfl ?_
  refine V_iconst (q := 7) (v := 0) dX4_forget_6 rfl iconst_0 ?_
  obtain ⟨s3, e4, h⟩ := pI_ok h
  refine V_puti (k := 30) (j := 3) (q := 10) clz_3 .boolean (by decide +kernel) rfl rfl rfl dX4_forget_7 rfl rfl rfl (Nat.le_of_ble_eq_true rfl) fl_RX4_56 e4 ?_
  cases h
  exact V_vret rfl dX4_forget_10
def M_X3_forget : Mc := (RX3, cX3_forget, 1, { frames := 0, cells := 0, slots := 0, locals := 0 }, none)
theorem ce_X3_forget : Cee M_X3_forget yX3_forget 0 := ⟨cd_yX3_forget, ini_RX3, ⟨by decide +kernel, by decide +kernel, by decide +kernel⟩, rfl, rfl⟩
set_option maxRecDepth 20000 in
theorem ct_X3_forget (Y : Yc) {σ : Sg}  {r : Unit} {σr : Sg} (h : f_X3_forget σ  = some (r, σr)) : Ct M_X3_forget yX3_forget Y [.ref (ad Y 40)] σ none σr := by
  refine Ct_intro [some (.ref (ad Y 40))] (by decide +kernel) rfl (Nat.le_of_ble_eq_true rfl) rfl (fun X hY => ?_) ⟨rfl, rfl⟩
  subst hY
  unfold f_X3_forget at h
  refine V_aload_n (q := 1) dX3_forget_0 rfl rfl ?_
  refine V_iconst (q := 2) (v := 0) dX3_forget_1 rfl iconst_0 ?_
  obtain ⟨s1, e2, h⟩ := pI_ok h
  refine V_puti (k := 40) (j := 5) (q := 5) clz_2 .boolean (by decide +kernel) rfl rfl rfl dX3_forget_2 rfl rfl rfl (Nat.le_of_ble_eq_true rfl) fl_RX3_31 e2 ?_
  cases h
  exact V_vret rfl dX3_forget_5
def M_X7_termsChanged : Mc := (RX7, cX7_termsChanged, 1, { frames := 1, cells := 0, slots := 0, locals := 20 }, none)
theorem ce_X7_termsChanged : Cee M_X7_termsChanged yX7_termsChanged 0 := ⟨cd_yX7_termsChanged, ini_RX7, ⟨by decide +kernel, by decide +kernel, by decide +kernel⟩, rfl, rfl⟩
set_option maxRecDepth 20000 in
theorem ct_X7_termsChanged (Y : Yc) {σ : Sg}  {r : Unit} {σr : Sg} (h : f_X7_termsChanged σ  = some (r, σr)) : Ct M_X7_termsChanged yX7_termsChanged Y [.ref (ad Y 0)] σ none σr := by
  refine Ct_intro [some (.ref (ad Y 0))] (by decide +kernel) rfl (Nat.le_of_ble_eq_true rfl) rfl (fun X hY => ?_) ⟨rfl, rfl⟩
  subst hY
  unfold f_X7_termsChanged at h
  refine V_aload_n (q := 1) dX7_termsChanged_0 rfl rfl ?_
  refine V_getr (k := 0) (j := 4) (q := 4) clz_6 dX7_termsChanged_1 rfl rfl rfl (Nat.le_of_ble_eq_true rfl) fl_RX7_39 ?_
  obtain ⟨x1, s3, hc2, h⟩ := cA_ok h
  refine V_cv0 (k := 30) (q := 7) (As := []) (rest := []) (ct_X4_forget (xY X) hc2) ce_X4_forget clz_3 rfl im_yX4_forget se_yX4_forget rfl ml_RX7_196 rfl ⟨Nat.le_of_ble_eq_true rfl, Nat.le_of_ble_eq_true rfl⟩ rfl (Nat.le_of_ble_eq_true rfl) dX7_termsChanged_4 rfl ?_
  refine V_aload_n (q := 8) dX7_termsChanged_7 rfl rfl ?_
  refine V_getr (k := 0) (j := 5) (q := 11) clz_6 dX7_termsChanged_8 rfl rfl rfl (Nat.le_of_ble_eq_true rfl) fl_RX7_48 ?_
  obtain ⟨x4, s6, hc5, h⟩ := cA_ok h
  refine V_cv0 (k := 40) (q := 14) (As := []) (rest := []) (ct_X3_forget (xY X) hc5) ce_X3_forget clz_2 rfl im_yX3_forget se_yX3_forget rfl ml_RX7_291 rfl ⟨Nat.le_of_ble_eq_true rfl, Nat.le_of_ble_eq_true rfl⟩ rfl (Nat.le_of_ble_eq_true rfl) dX7_termsChanged_11 rfl ?_
  cases h
  exact V_vret rfl dX7_termsChanged_14
def M_X7_term : Mc := (RX7, cX7_term, 5, { frames := 3, cells := 0, slots := 0, locals := 68 }, (some .int))
theorem ce_X7_term : Cee M_X7_term yX7_term 2 := ⟨cd_yX7_term, ini_RX7, ⟨by decide +kernel, by decide +kernel, by decide +kernel⟩, rfl, rfl⟩
set_option maxRecDepth 20000 in
theorem ct_X7_term (Y : Yc) {σ : Sg} {a1 : Int32} {a2 : Int32} {r : Int32} {σr : Sg} (h : f_X7_term σ a1 a2 = some (r, σr)) : Ct M_X7_term yX7_term Y [.ref (ad Y 0), .int a1, .int a2] σ (some (.int r)) σr := by
  refine Ct_intro [some (.ref (ad Y 0)), some (.int a1), some (.int a2), none, none] (by decide +kernel) rfl (Nat.le_of_ble_eq_true rfl) rfl (fun X hY => ?_) ⟨rfl, rfl⟩
  subst hY
  unfold f_X7_term at h
  refine V_iload_n (q := 1) dX7_term_0 rfl rfl ?_
  obtain ⟨x1, hc2, h⟩ := cP_ok h
  refine V_cs1 (q := 4) (As := [.int a1]) (rest := []) (ct_X7_isWeight (xY X) hc2) ce_X7_isWeight st_yX7_isWeight ml_RX7_74 rfl ⟨Nat.le_of_ble_eq_true rfl, Nat.le_of_ble_eq_true rfl⟩ rfl (Nat.le_of_ble_eq_true rfl) dX7_term_1 rfl ?_
  refine V_if_eq (q := 14) (q2 := 7) dX7_term_4 rfl rfl (fun hb20 => ?_) (fun hb20 => ?_)
  · replace h := it h hb20
    refine V_ldc (q := 16) kc_RX7_65 dX7_term_14 rfl ?_
    cases h
    exact V_iret rfl dX7_term_16
  · replace h := ie h hb20
    refine V_iload_n (q := 8) dX7_term_7 rfl rfl ?_
    obtain ⟨x3, hc4, h⟩ := cP_ok h
    refine V_cs1 (q := 11) (As := [.int a2]) (rest := []) (ct_X7_isBent (xY X) hc4) ce_X7_isBent st_yX7_isBent ml_RX7_77 rfl ⟨Nat.le_of_ble_eq_true rfl, Nat.le_of_ble_eq_true rfl⟩ rfl (Nat.le_of_ble_eq_true rfl) dX7_term_8 rfl ?_
    refine V_if_ne (q := 17) (q2 := 14) dX7_term_11 rfl rfl (fun hb19 => ?_) (fun hb19 => ?_)
    · replace h := ie h hb19
      refine V_aload_n (q := 18) dX7_term_17 rfl rfl ?_
      refine V_getr (k := 0) (j := 0) (q := 21) clz_6 dX7_term_18 rfl rfl rfl (Nat.le_of_ble_eq_true rfl) fl_RX7_10 ?_
      obtain ⟨x5, s7, hc6, h⟩ := cA_ok h
      refine V_cv1 (k := 1) (q := 24) (As := []) (rest := []) (ct_X5_takeWords (xY X) hc6) ce_X5_takeWords clz_4 rfl im_yX5_takeWords se_yX5_takeWords rfl ml_RX7_80 rfl ⟨Nat.le_of_ble_eq_true rfl, Nat.le_of_ble_eq_true rfl⟩ rfl (Nat.le_of_ble_eq_true rfl) dX7_term_21 rfl ?_
      refine V_istore_n (q := 25) (L' := [some (.ref (ad (xY X) 0)), some (.int a1), some (.int a2), some (.int x5), none]) dX7_term_24 rfl (Nat.le_of_ble_eq_true rfl) rfl ?_
      refine V_iload_n (q := 26) dX7_term_25 rfl rfl ?_
      refine V_if_eq (q := 47) (q2 := 29) dX7_term_26 rfl rfl (fun hb18 => ?_) (fun hb18 => ?_)
      · replace h := it h hb18
        refine V_ldc (q := 49) kc_RX7_92 dX7_term_47 rfl ?_
        cases h
        exact V_iret rfl dX7_term_49
      · replace h := ie h hb18
        refine V_aload_n (q := 30) dX7_term_29 rfl rfl ?_
        refine V_getr (k := 0) (j := 1) (q := 33) clz_6 dX7_term_30 rfl rfl rfl (Nat.le_of_ble_eq_true rfl) fl_RX7_19 ?_
        refine V_aload_n (q := 34) dX7_term_33 rfl rfl ?_
        refine V_getr (k := 0) (j := 0) (q := 37) clz_6 dX7_term_34 rfl rfl rfl (Nat.le_of_ble_eq_true rfl) fl_RX7_10 ?_
        refine V_getr (k := 1) (j := 2) (q := 40) clz_4 dX7_term_37 rfl rfl rfl (Nat.le_of_ble_eq_true rfl) fl_RX7_84 ?_
        refine V_iload_n (q := 41) dX7_term_40 rfl rfl ?_
        obtain ⟨x8, hc9, h⟩ := cP_ok h
        refine V_cv1 (k := 4) (q := 44) (As := [.ref (ad (xY X) 3), .int x5]) (rest := []) (ct_X1_hasTerm (xY X) hc9) ce_X1_hasTerm clz_0 rfl im_yX1_hasTerm se_yX1_hasTerm rfl ml_RX7_88 rfl ⟨Nat.le_of_ble_eq_true rfl, Nat.le_of_ble_eq_true rfl⟩ rfl (Nat.le_of_ble_eq_true rfl) dX7_term_41 rfl ?_
        refine V_if_eq (q := 50) (q2 := 47) dX7_term_44 rfl rfl (fun hb17 => ?_) (fun hb17 => ?_)
        · replace h := it h hb17
          refine V_aload_n (q := 51) dX7_term_50 rfl rfl ?_
          refine V_getr (k := 0) (j := 1) (q := 54) clz_6 dX7_term_51 rfl rfl rfl (Nat.le_of_ble_eq_true rfl) fl_RX7_19 ?_
          refine V_aload_n (q := 55) dX7_term_54 rfl rfl ?_
          refine V_getr (k := 0) (j := 0) (q := 58) clz_6 dX7_term_55 rfl rfl rfl (Nat.le_of_ble_eq_true rfl) fl_RX7_10 ?_
          refine V_getr (k := 1) (j := 2) (q := 61) clz_4 dX7_term_58 rfl rfl rfl (Nat.le_of_ble_eq_true rfl) fl_RX7_84 ?_
          refine V_iload_n (q := 62) dX7_term_61 rfl rfl ?_
          refine V_iload_n (q := 63) dX7_term_62 rfl rfl ?_
          refine V_iload_n (q := 64) dX7_term_63 rfl rfl ?_
          obtain ⟨x10, s12, hc11, h⟩ := cA_ok h
          refine V_cv1 (k := 4) (q := 67) (As := [.ref (ad (xY X) 3), .int x5, .int a1, .int a2]) (rest := []) (ct_X1_addTerm_4_3 (xY X) hc11) ce_X1_addTerm clz_0 rfl im_yX1_addTerm se_yX1_addTerm rfl ml_RX7_93 rfl ⟨Nat.le_of_ble_eq_true rfl, Nat.le_of_ble_eq_true rfl⟩ rfl (Nat.le_of_ble_eq_true rfl) dX7_term_64 rfl ?_
          refine V_istore (q := 69) (L' := [some (.ref (ad (xY X) 0)), some (.int a1), some (.int a2), some (.int x5), some (.int x10)]) dX7_term_67 rfl (Nat.le_of_ble_eq_true rfl) rfl ?_
          refine V_iload (q := 71) dX7_term_69 rfl rfl ?_
          refine V_iconst (q := 72) (v := (-1)) dX7_term_71 rfl iconst_m1 ?_
          refine V_icmp_ne (q := 78) (q2 := 75) dX7_term_72 rfl rfl (fun hb16 => ?_) (fun hb16 => ?_)
          · replace h := ie h hb16
            refine V_aload_n (q := 79) dX7_term_78 rfl rfl ?_
            obtain ⟨x13, s15, hc14, h⟩ := cA_ok h
            refine V_cv0 (k := 0) (q := 82) (As := []) (rest := []) (ct_X7_termsChanged (xY X) hc14) ce_X7_termsChanged clz_6 rfl im_yX7_termsChanged se_yX7_termsChanged rfl ml_RX7_97 rfl ⟨Nat.le_of_ble_eq_true rfl, Nat.le_of_ble_eq_true rfl⟩ rfl (Nat.le_of_ble_eq_true rfl) dX7_term_79 rfl ?_
            refine V_iload (q := 84) dX7_term_82 rfl rfl ?_
            cases h
            exact V_iret rfl dX7_term_84
          · replace h := it h hb16
            refine V_ldc (q := 77) kc_RX7_73 dX7_term_75 rfl ?_
            cases h
            exact V_iret rfl dX7_term_77
        · replace h := ie h hb17
          refine V_ldc (q := 49) kc_RX7_92 dX7_term_47 rfl ?_
          cases h
          exact V_iret rfl dX7_term_49
    · replace h := it h hb19
      refine V_ldc (q := 16) kc_RX7_65 dX7_term_14 rfl ?_
      cases h
      exact V_iret rfl dX7_term_16
def M_X8_parts : Mc := (RX8, cX8_parts, 5, { frames := 0, cells := 0, slots := 0, locals := 0 }, (some .int))
theorem ce_X8_parts : Cee M_X8_parts yX8_parts 0 := ⟨cd_yX8_parts, ini_RX8, ⟨by decide +kernel, by decide +kernel, by decide +kernel⟩, rfl, rfl⟩
set_option maxRecDepth 20000 in
theorem w_X8_parts_L6 {X : Xc} {r : Int32} {σr : Sg} {k : Sg → Int32 → Option (Int32 × Sg)}
    (hk : ∀ (s : Sg) (i1 : Int32), k s i1 = some (r, σr) → V X M_X8_parts (mq X (some (.int r)) σr) 84 [none, some (.int i1), none, none, none] [] s) :
    ∀ (n : Nat) (s : Sg) (i1 : Int32) (i2 : Int32) (i3 : Int32), f_X8_parts_L6 k n s i1 i2 i3 = some (r, σr) → V X M_X8_parts (mq X (some (.int r)) σr) 6 [some (.ref (ad (xY X) 43)), some (.int i1), some (.int i2), some (.int i3), none] [] s := by
  intro n
  induction n with
  | zero => intro s i1 i2 i3 h; cases h
  | succ n ih =>
    intro s i1 i2 i3 h
    rw [f_X8_parts_L6] at h
    refine V_iload_n (q := 7) dX8_parts_6 rfl rfl ?_
    refine V_aload_n (q := 8) dX8_parts_7 rfl rfl ?_
    refine V_geti (k := 43) (j := 4) (q := 11) clz_7 dX8_parts_8 rfl rfl rfl (Nat.le_of_ble_eq_true rfl) fl_RX8_53 ?_
    refine V_icmp_ge (q := 84) (q2 := 14) dX8_parts_11 rfl rfl (fun hb27 => ?_) (fun hb27 => ?_)
    · replace h := it h hb27
      refine V_msk (L' := [none, some (.int i1), none, none, none]) [false, true, false, false, true] rfl ?_
      exact hk (s) (i1) h
    · replace h := ie h hb27
      refine V_aload_n (q := 15) dX8_parts_14 rfl rfl ?_
      refine V_getr (k := 43) (j := 3) (q := 18) clz_7 dX8_parts_15 rfl rfl rfl (Nat.le_of_ble_eq_true rfl) fl_RX8_20 ?_
      refine V_iload_n (q := 19) dX8_parts_18 rfl rfl ?_
      obtain ⟨hi2, x1, ex3, h⟩ := rI_ok h
      refine V_iald (k := 47) (q := 20) dX8_parts_19 rfl rfl hi2 ex3 ?_
      refine V_bipush (q := 22) (v := 32) dX8_parts_20 rfl bipush_32 ?_
      obtain ⟨k4, ek4, h⟩ := jn_ok h
      have hk4 : ∀ (v5 : Int32), k4 v5 = some (r, σr) → V X M_X8_parts (mq X (some (.int r)) σr) 30 [some (.ref (ad (xY X) 43)), some (.int i1), some (.int i2), some (.int i3), none] [.int v5] s := by
        clear h
        intro v5 h
        rw [ek4] at h
        refine V_istore (q := 32) (L' := [some (.ref (ad (xY X) 43)), some (.int i1), some (.int i2), some (.int i3), some (.int v5)]) dX8_parts_30 rfl (Nat.le_of_ble_eq_true rfl) rfl ?_
        refine V_iload (q := 34) dX8_parts_32 rfl rfl ?_
        obtain ⟨k6, ek6, h⟩ := jn_ok h
        have hk6 : ∀ (s7 : Sg) (v8 : Int32), k6 s7 v8 = some (r, σr) → V X M_X8_parts (mq X (some (.int r)) σr) 58 [some (.ref (ad (xY X) 43)), some (.int v8), none, some (.int i3), some (.int v5)] [] s7 := by
          clear h
          intro s7 v8 h
          rw [ek6] at h
          refine V_iload (q := 60) dX8_parts_58 rfl rfl ?_
          obtain ⟨k9, ek9, h⟩ := jn_ok h
          have hk9 : ∀ (s10 : Sg), k9 s10 = some (r, σr) → V X M_X8_parts (mq X (some (.int r)) σr) 75 [some (.ref (ad (xY X) 43)), some (.int v8), none, some (.int i3), some (.int v5)] [] s10 := by
            clear h
            intro s10 h
            rw [ek9] at h
            refine V_iload (q := 77) dX8_parts_75 rfl rfl ?_
            refine V_istore_n (q := 78) (L' := [some (.ref (ad (xY X) 43)), some (.int v8), some (.int v5), some (.int i3), some (.int v5)]) dX8_parts_77 rfl (Nat.le_of_ble_eq_true rfl) rfl ?_
            refine V_iinc (q := 81) (v := 1) (L' := [some (.ref (ad (xY X) 43)), some (.int v8), some (.int v5), some (.int (i3 + 1)), some (.int v5)]) dX8_parts_78 rfl rfl iconst_1 (Nat.le_of_ble_eq_true rfl) rfl ?_
            refine V_goto (q := 6) dX8_parts_81 rfl ?_
            refine V_msk (L' := [some (.ref (ad (xY X) 43)), some (.int v8), some (.int v5), some (.int (i3 + 1)), none]) [true, true, true, true, false] rfl ?_
            exact ih (s10) (v8) (v5) ((i3 + 1)) h
          refine V_if_eq (q := 75) (q2 := 63) dX8_parts_60 rfl rfl (fun hb17 => ?_) (fun hb17 => ?_)
          · replace h := it h hb17
            exact hk9 (s7) h
          · replace h := ie h hb17
            refine V_aload_n (q := 64) dX8_parts_63 rfl rfl ?_
            refine V_getr (k := 43) (j := 9) (q := 67) clz_7 dX8_parts_64 rfl rfl rfl (Nat.le_of_ble_eq_true rfl) fl_RX8_29 ?_
            refine V_iload_n (q := 68) dX8_parts_67 rfl rfl ?_
            refine V_iconst (q := 69) (v := 1) dX8_parts_68 rfl iconst_1 ?_
            refine V_isub (q := 70) dX8_parts_69 rfl ?_
            refine V_dup2 (q := 71) dX8_parts_70 rfl rfl rfl ?_
            obtain ⟨hi12, x11, ex13, h⟩ := rI_ok h
            refine V_iald (k := 50) (q := 72) dX8_parts_71 rfl rfl hi12 ex13 ?_
            refine V_iconst (q := 73) (v := 1) dX8_parts_72 rfl iconst_1 ?_
            refine V_iadd (q := 74) dX8_parts_73 rfl ?_
            obtain ⟨hi16, s14, e15, h⟩ := wI_ok h
            refine V_iast (k := 50) (q := 75) dX8_parts_74 rfl rfl hi16 e15 ?_
            exact hk9 (s14) h
        refine V_if_eq (q := 58) (q2 := 37) dX8_parts_34 rfl rfl (fun hb25 => ?_) (fun hb25 => ?_)
        · replace h := it h hb25
          refine V_msk (L' := [some (.ref (ad (xY X) 43)), some (.int i1), none, some (.int i3), some (.int v5)]) [true, true, false, true, true] rfl ?_
          exact hk6 (s) (i1) h
        · replace h := ie h hb25
          refine V_iload_n (q := 38) dX8_parts_37 rfl rfl ?_
          refine V_if_ne (q := 58) (q2 := 41) dX8_parts_38 rfl rfl (fun hb24 => ?_) (fun hb24 => ?_)
          · replace h := ie h hb24
            refine V_msk (L' := [some (.ref (ad (xY X) 43)), some (.int i1), none, some (.int i3), some (.int v5)]) [true, true, false, true, true] rfl ?_
            exact hk6 (s) (i1) h
          · replace h := it h hb24
            refine V_aload_n (q := 42) dX8_parts_41 rfl rfl ?_
            refine V_getr (k := 43) (j := 8) (q := 45) clz_7 dX8_parts_42 rfl rfl rfl (Nat.le_of_ble_eq_true rfl) fl_RX8_26 ?_
            refine V_iload_n (q := 46) dX8_parts_45 rfl rfl ?_
            refine V_iload_n (q := 47) dX8_parts_46 rfl rfl ?_
            obtain ⟨hi20, s18, e19, h⟩ := wI_ok h
            refine V_iast (k := 49) (q := 48) dX8_parts_47 rfl rfl hi20 e19 ?_
            refine V_aload_n (q := 49) dX8_parts_48 rfl rfl ?_
            refine V_getr (k := 43) (j := 9) (q := 52) clz_7 dX8_parts_49 rfl rfl rfl (Nat.le_of_ble_eq_true rfl) fl_RX8_29 ?_
            refine V_iload_n (q := 53) dX8_parts_52 rfl rfl ?_
            refine V_iconst (q := 54) (v := 0) dX8_parts_53 rfl iconst_0 ?_
            obtain ⟨hi23, s21, e22, h⟩ := wI_ok h
            refine V_iast (k := 50) (q := 55) dX8_parts_54 rfl rfl hi23 e22 ?_
            refine V_iinc (q := 58) (v := 1) (L' := [some (.ref (ad (xY X) 43)), some (.int (i1 + 1)), some (.int i2), some (.int i3), some (.int v5)]) dX8_parts_55 rfl rfl iconst_1 (Nat.le_of_ble_eq_true rfl) rfl ?_
            refine V_msk (L' := [some (.ref (ad (xY X) 43)), some (.int (i1 + 1)), none, some (.int i3), some (.int v5)]) [true, true, false, true, true] rfl ?_
            exact hk6 (s21) ((i1 + 1)) h
      refine V_icmp_eq (q := 29) (q2 := 25) dX8_parts_22 rfl rfl (fun hb26 => ?_) (fun hb26 => ?_)
      · replace h := it h hb26
        refine V_iconst (q := 30) (v := 0) dX8_parts_29 rfl iconst_0 ?_
        exact hk4 (0) h
      · replace h := ie h hb26
        refine V_iconst (q := 26) (v := 1) dX8_parts_25 rfl iconst_1 ?_
        refine V_goto (q := 30) dX8_parts_26 rfl ?_
        exact hk4 (1) h
set_option maxRecDepth 20000 in
theorem ct_X8_parts (Y : Yc) {σ : Sg}  {r : Int32} {σr : Sg} (h : f_X8_parts σ  = some (r, σr)) : Ct M_X8_parts yX8_parts Y [.ref (ad Y 43)] σ (some (.int r)) σr := by
  refine Ct_intro [some (.ref (ad Y 43)), none, none, none, none] (by decide +kernel) rfl (Nat.le_of_ble_eq_true rfl) rfl (fun X hY => ?_) ⟨rfl, rfl⟩
  subst hY
  unfold f_X8_parts at h
  refine V_iconst (q := 1) (v := 0) dX8_parts_0 rfl iconst_0 ?_
  refine V_istore_n (q := 2) (L' := [some (.ref (ad (xY X) 43)), some (.int 0), none, none, none]) dX8_parts_1 rfl (Nat.le_of_ble_eq_true rfl) rfl ?_
  refine V_iconst (q := 3) (v := 0) dX8_parts_2 rfl iconst_0 ?_
  refine V_istore_n (q := 4) (L' := [some (.ref (ad (xY X) 43)), some (.int 0), some (.int 0), none, none]) dX8_parts_3 rfl (Nat.le_of_ble_eq_true rfl) rfl ?_
  refine V_iconst (q := 5) (v := 0) dX8_parts_4 rfl iconst_0 ?_
  refine V_istore_n (q := 6) (L' := [some (.ref (ad (xY X) 43)), some (.int 0), some (.int 0), some (.int 0), none]) dX8_parts_5 rfl (Nat.le_of_ble_eq_true rfl) rfl ?_
  refine w_X8_parts_L6 (fun s28 v29 h => ?_) fu (σ) (0) (0) (0) h
  refine V_iload_n (q := 85) dX8_parts_84 rfl rfl ?_
  cases h
  exact V_iret rfl dX8_parts_85
def M_X8_termAt : Mc := (RX8, cX8_termAt, 1, { frames := 0, cells := 0, slots := 0, locals := 0 }, (some .int))
theorem ce_X8_termAt : Cee M_X8_termAt yX8_termAt 1 := ⟨cd_yX8_termAt, ini_RX8, ⟨by decide +kernel, by decide +kernel, by decide +kernel⟩, rfl, rfl⟩
set_option maxRecDepth 20000 in
theorem ct_X8_termAt (Y : Yc) {σ : Sg} {a1 : Int32} {r : Int32} (h : f_X8_termAt σ a1 = some r) : Ct M_X8_termAt yX8_termAt Y [.int a1] σ (some (.int r)) σ := by
  refine Ct_intro [some (.int a1)] (by decide +kernel) rfl (Nat.le_of_ble_eq_true rfl) rfl (fun X hY => ?_) ⟨rfl, rfl⟩
  subst hY
  unfold f_X8_termAt at h
  refine V_iconst (q := 1) (v := 2) dX8_termAt_0 rfl iconst_2 ?_
  refine V_bipush (q := 3) (v := 56) dX8_termAt_1 rfl bipush_56 ?_
  refine V_iload_n (q := 4) dX8_termAt_3 rfl rfl ?_
  refine V_imul (q := 5) dX8_termAt_4 rfl ?_
  refine V_iadd (q := 6) dX8_termAt_5 rfl ?_
  cases h
  exact V_iret rfl dX8_termAt_6
def M_X8_wordAt : Mc := (RX8, cX8_wordAt, 2, { frames := 0, cells := 0, slots := 0, locals := 0 }, (some .int))
theorem ce_X8_wordAt : Cee M_X8_wordAt yX8_wordAt 2 := ⟨cd_yX8_wordAt, ini_RX8, ⟨by decide +kernel, by decide +kernel, by decide +kernel⟩, rfl, rfl⟩
set_option maxRecDepth 20000 in
theorem ct_X8_wordAt (Y : Yc) {σ : Sg} {a1 : Int32} {a2 : Int32} {r : Int32} (h : f_X8_wordAt σ a1 a2 = some r) : Ct M_X8_wordAt yX8_wordAt Y [.int a1, .int a2] σ (some (.int r)) σ := by
  refine Ct_intro [some (.int a1), some (.int a2)] (by decide +kernel) rfl (Nat.le_of_ble_eq_true rfl) rfl (fun X hY => ?_) ⟨rfl, rfl⟩
  subst hY
  unfold f_X8_wordAt at h
  refine V_iconst (q := 1) (v := 2) dX8_wordAt_0 rfl iconst_2 ?_
  refine V_bipush (q := 3) (v := 56) dX8_wordAt_1 rfl bipush_56 ?_
  refine V_iload_n (q := 4) dX8_wordAt_3 rfl rfl ?_
  refine V_imul (q := 5) dX8_wordAt_4 rfl ?_
  refine V_iadd (q := 6) dX8_wordAt_5 rfl ?_
  refine V_iconst (q := 7) (v := 4) dX8_wordAt_6 rfl iconst_4 ?_
  refine V_iadd (q := 8) dX8_wordAt_7 rfl ?_
  refine V_bipush (q := 10) (v := 13) dX8_wordAt_8 rfl bipush_13 ?_
  refine V_iload_n (q := 11) dX8_wordAt_10 rfl rfl ?_
  refine V_imul (q := 12) dX8_wordAt_11 rfl ?_
  refine V_iadd (q := 13) dX8_wordAt_12 rfl ?_
  cases h
  exact V_iret rfl dX8_wordAt_13
def M_X8_isSame : Mc := (RX8, cX8_isSame, 5, { frames := 0, cells := 0, slots := 0, locals := 0 }, (some .boolean))
theorem ce_X8_isSame : Cee M_X8_isSame yX8_isSame 2 := ⟨cd_yX8_isSame, ini_RX8, ⟨by decide +kernel, by decide +kernel, by decide +kernel⟩, rfl, rfl⟩
set_option maxRecDepth 20000 in
theorem w_X8_isSame_L24 {X : Xc} {σ : Sg} {c1 : Int32} {c2 : Int32} {r : Int32} {k : Int32 → Option Int32}
    (hk : ∀ (i3 : Int32), k i3 = some r → V X M_X8_isSame (mq X (some (.int r)) σ) 79 [none, none, none, some (.int i3), none] [] σ) :
    ∀ (n : Nat) (i3 : Int32) (i4 : Int32), f_X8_isSame_L24 k σ c1 c2 n i3 i4 = some r → V X M_X8_isSame (mq X (some (.int r)) σ) 24 [some (.ref (ad (xY X) 43)), some (.int c1), some (.int c2), some (.int i3), some (.int i4)] [] σ := by
  intro n
  induction n with
  | zero => intro i3 i4 h; cases h
  | succ n ih =>
    intro i3 i4 h
    rw [f_X8_isSame_L24] at h
    refine V_iload (q := 26) dX8_isSame_24 rfl rfl ?_
    refine V_aload_n (q := 27) dX8_isSame_26 rfl rfl ?_
    refine V_getr (k := 43) (j := 9) (q := 30) clz_7 dX8_isSame_27 rfl rfl rfl (Nat.le_of_ble_eq_true rfl) fl_RX8_29 ?_
    refine V_iload_n (q := 31) dX8_isSame_30 rfl rfl ?_
    obtain ⟨hi10, x9, ex11, h⟩ := rI_ok h
    refine V_iald (k := 50) (q := 32) dX8_isSame_31 rfl rfl hi10 ex11 ?_
    refine V_icmp_ge (q := 79) (q2 := 35) dX8_isSame_32 rfl rfl (fun hb23 => ?_) (fun hb23 => ?_)
    · replace h := it h hb23
      refine V_msk (L' := [none, none, none, some (.int i3), none]) [false, false, false, true, false] rfl ?_
      exact hk (i3) h
    · replace h := ie h hb23
      refine V_iload_n (q := 36) dX8_isSame_35 rfl rfl ?_
      refine V_if_eq (q := 79) (q2 := 39) dX8_isSame_36 rfl rfl (fun hb22 => ?_) (fun hb22 => ?_)
      · replace h := it h hb22
        refine V_msk (L' := [none, none, none, some (.int i3), none]) [false, false, false, true, false] rfl ?_
        exact hk (i3) h
      · replace h := ie h hb22
        refine V_aload_n (q := 40) dX8_isSame_39 rfl rfl ?_
        refine V_getr (k := 43) (j := 3) (q := 43) clz_7 dX8_isSame_40 rfl rfl rfl (Nat.le_of_ble_eq_true rfl) fl_RX8_20 ?_
        refine V_aload_n (q := 44) dX8_isSame_43 rfl rfl ?_
        refine V_getr (k := 43) (j := 8) (q := 47) clz_7 dX8_isSame_44 rfl rfl rfl (Nat.le_of_ble_eq_true rfl) fl_RX8_26 ?_
        refine V_iload_n (q := 48) dX8_isSame_47 rfl rfl ?_
        obtain ⟨hi13, x12, ex14, h⟩ := rI_ok h
        refine V_iald (k := 49) (q := 49) dX8_isSame_48 rfl rfl hi13 ex14 ?_
        refine V_iload (q := 51) dX8_isSame_49 rfl rfl ?_
        refine V_iadd (q := 52) dX8_isSame_51 rfl ?_
        obtain ⟨hi16, x15, ex17, h⟩ := rI_ok h
        refine V_iald (k := 47) (q := 53) dX8_isSame_52 rfl rfl hi16 ex17 ?_
        refine V_aload_n (q := 54) dX8_isSame_53 rfl rfl ?_
        refine V_getr (k := 43) (j := 0) (q := 57) clz_7 dX8_isSame_54 rfl rfl rfl (Nat.le_of_ble_eq_true rfl) fl_RX8_7 ?_
        refine V_iload_n (q := 58) dX8_isSame_57 rfl rfl ?_
        refine V_iconst (q := 59) (v := 1) dX8_isSame_58 rfl iconst_1 ?_
        refine V_iadd (q := 60) dX8_isSame_59 rfl ?_
        refine V_iload (q := 62) dX8_isSame_60 rfl rfl ?_
        refine V_iadd (q := 63) dX8_isSame_62 rfl ?_
        obtain ⟨hi19, x18, ex20, h⟩ := rI_ok h
        refine V_iald (k := 44) (q := 64) dX8_isSame_63 rfl rfl hi19 ex20 ?_
        refine V_icmp_ne (q := 71) (q2 := 67) dX8_isSame_64 rfl rfl (fun hb21 => ?_) (fun hb21 => ?_)
        · replace h := ie h hb21
          refine V_iconst (q := 72) (v := 0) dX8_isSame_71 rfl iconst_0 ?_
          refine V_istore_n (q := 73) (L' := [some (.ref (ad (xY X) 43)), some (.int c1), some (.int c2), some (.int 0), some (.int i4)]) dX8_isSame_72 rfl (Nat.le_of_ble_eq_true rfl) rfl ?_
          refine V_iinc (q := 76) (v := 1) (L' := [some (.ref (ad (xY X) 43)), some (.int c1), some (.int c2), some (.int 0), some (.int (i4 + 1))]) dX8_isSame_73 rfl rfl iconst_1 (Nat.le_of_ble_eq_true rfl) rfl ?_
          refine V_goto (q := 24) dX8_isSame_76 rfl ?_
          exact ih (0) ((i4 + 1)) h
        · replace h := it h hb21
          refine V_iconst (q := 68) (v := 1) dX8_isSame_67 rfl iconst_1 ?_
          refine V_goto (q := 72) dX8_isSame_68 rfl ?_
          refine V_istore_n (q := 73) (L' := [some (.ref (ad (xY X) 43)), some (.int c1), some (.int c2), some (.int 1), some (.int i4)]) dX8_isSame_72 rfl (Nat.le_of_ble_eq_true rfl) rfl ?_
          refine V_iinc (q := 76) (v := 1) (L' := [some (.ref (ad (xY X) 43)), some (.int c1), some (.int c2), some (.int 1), some (.int (i4 + 1))]) dX8_isSame_73 rfl rfl iconst_1 (Nat.le_of_ble_eq_true rfl) rfl ?_
          refine V_goto (q := 24) dX8_isSame_76 rfl ?_
          exact ih (1) ((i4 + 1)) h
set_option maxRecDepth 20000 in
theorem ct_X8_isSame (Y : Yc) {σ : Sg} {a1 : Int32} {a2 : Int32} {r : Int32} (h : f_X8_isSame σ a1 a2 = some r) : Ct M_X8_isSame yX8_isSame Y [.ref (ad Y 43), .int a1, .int a2] σ (some (.int r)) σ := by
  refine Ct_intro [some (.ref (ad Y 43)), some (.int a1), some (.int a2), none, none] (by decide +kernel) rfl (Nat.le_of_ble_eq_true rfl) rfl (fun X hY => ?_) ⟨rfl, rfl⟩
  subst hY
  unfold f_X8_isSame at h
  refine V_aload_n (q := 1) dX8_isSame_0 rfl rfl ?_
  refine V_getr (k := 43) (j := 9) (q := 4) clz_7 dX8_isSame_1 rfl rfl rfl (Nat.le_of_ble_eq_true rfl) fl_RX8_29 ?_
  refine V_iload_n (q := 5) dX8_isSame_4 rfl rfl ?_
  obtain ⟨hi2, x1, ex3, h⟩ := rI_ok h
  refine V_iald (k := 50) (q := 6) dX8_isSame_5 rfl rfl hi2 ex3 ?_
  refine V_aload_n (q := 7) dX8_isSame_6 rfl rfl ?_
  refine V_getr (k := 43) (j := 0) (q := 10) clz_7 dX8_isSame_7 rfl rfl rfl (Nat.le_of_ble_eq_true rfl) fl_RX8_7 ?_
  refine V_iload_n (q := 11) dX8_isSame_10 rfl rfl ?_
  obtain ⟨hi5, x4, ex6, h⟩ := rI_ok h
  refine V_iald (k := 44) (q := 12) dX8_isSame_11 rfl rfl hi5 ex6 ?_
  obtain ⟨k7, ek7, h⟩ := jn_ok h
  have hk7 : ∀ (v8 : Int32), k7 v8 = some r → V X M_X8_isSame (mq X (some (.int r)) σ) 20 [some (.ref (ad (xY X) 43)), some (.int a1), some (.int a2), none, none] [.int v8] σ := by
    clear h
    intro v8 h
    rw [ek7] at h
    refine V_istore_n (q := 21) (L' := [some (.ref (ad (xY X) 43)), some (.int a1), some (.int a2), some (.int v8), none]) dX8_isSame_20 rfl (Nat.le_of_ble_eq_true rfl) rfl ?_
    refine V_iconst (q := 22) (v := 0) dX8_isSame_21 rfl iconst_0 ?_
    refine V_istore (q := 24) (L' := [some (.ref (ad (xY X) 43)), some (.int a1), some (.int a2), some (.int v8), some (.int 0)]) dX8_isSame_22 rfl (Nat.le_of_ble_eq_true rfl) rfl ?_
    refine w_X8_isSame_L24 (fun v24 h => ?_) fu (v8) (0) h
    refine V_iload_n (q := 80) dX8_isSame_79 rfl rfl ?_
    obtain ⟨hb25, h⟩ := mH_ok h
    cases h
    exact V_zret rfl (nz01 hb25) dX8_isSame_80
  refine V_icmp_ne (q := 19) (q2 := 15) dX8_isSame_12 rfl rfl (fun hb26 => ?_) (fun hb26 => ?_)
  · replace h := ie h hb26
    refine V_iconst (q := 20) (v := 0) dX8_isSame_19 rfl iconst_0 ?_
    exact hk7 (0) h
  · replace h := it h hb26
    refine V_iconst (q := 16) (v := 1) dX8_isSame_15 rfl iconst_1 ?_
    refine V_goto (q := 20) dX8_isSame_16 rfl ?_
    exact hk7 (1) h
def M_X8_isTermThere : Mc := (RX8, cX8_isTermThere, 6, { frames := 1, cells := 0, slots := 0, locals := 24 }, (some .boolean))
theorem ce_X8_isTermThere : Cee M_X8_isTermThere yX8_isTermThere 1 := ⟨cd_yX8_isTermThere, ini_RX8, ⟨by decide +kernel, by decide +kernel, by decide +kernel⟩, rfl, rfl⟩
set_option maxRecDepth 20000 in
theorem w_X8_isTermThere_L39 {X : Xc} {σ : Sg} {c1 : Int32} {c2 : Int32} {c3 : Int32} {r : Int32} {k : Int32 → Option Int32}
    (hk : ∀ (i4 : Int32), k i4 = some r → V X M_X8_isTermThere (mq X (some (.int r)) σ) 70 [some (.ref (ad (xY X) 43)), some (.int c1), some (.int c2), some (.int c3), some (.int i4), none] [] σ) :
    ∀ (n : Nat) (i4 : Int32) (i5 : Int32), f_X8_isTermThere_L39 k σ c1 c2 c3 n i4 i5 = some r → V X M_X8_isTermThere (mq X (some (.int r)) σ) 39 [some (.ref (ad (xY X) 43)), some (.int c1), some (.int c2), some (.int c3), some (.int i4), some (.int i5)] [] σ := by
  intro n
  induction n with
  | zero => intro i4 i5 h; cases h
  | succ n ih =>
    intro i4 i5 h
    rw [f_X8_isTermThere_L39] at h
    refine V_iload (q := 41) dX8_isTermThere_39 rfl rfl ?_
    refine V_iload_n (q := 42) dX8_isTermThere_41 rfl rfl ?_
    refine V_icmp_ge (q := 70) (q2 := 45) dX8_isTermThere_42 rfl rfl (fun hb16 => ?_) (fun hb16 => ?_)
    · replace h := it h hb16
      refine V_msk (L' := [some (.ref (ad (xY X) 43)), some (.int c1), some (.int c2), some (.int c3), some (.int i4), none]) [true, true, true, true, true, false] rfl ?_
      exact hk (i4) h
    · replace h := ie h hb16
      refine V_iload (q := 47) dX8_isTermThere_45 rfl rfl ?_
      refine V_if_eq (q := 70) (q2 := 50) dX8_isTermThere_47 rfl rfl (fun hb15 => ?_) (fun hb15 => ?_)
      · replace h := it h hb15
        refine V_msk (L' := [some (.ref (ad (xY X) 43)), some (.int c1), some (.int c2), some (.int c3), some (.int i4), none]) [true, true, true, true, true, false] rfl ?_
        exact hk (i4) h
      · replace h := ie h hb15
        refine V_aload_n (q := 51) dX8_isTermThere_50 rfl rfl ?_
        refine V_iload (q := 53) dX8_isTermThere_51 rfl rfl ?_
        refine V_iload_n (q := 54) dX8_isTermThere_53 rfl rfl ?_
        refine V_iload (q := 56) dX8_isTermThere_54 rfl rfl ?_
        obtain ⟨x11, hc12, h⟩ := cP_ok h
        refine V_cs1 (q := 59) (As := [.int c3, .int i5]) (rest := [.int i5, .ref (ad (xY X) 43)]) (ct_X8_wordAt (xY X) hc12) ce_X8_wordAt st_yX8_wordAt ml_RX8_62 rfl ⟨Nat.le_of_ble_eq_true rfl, Nat.le_of_ble_eq_true rfl⟩ rfl (Nat.le_of_ble_eq_true rfl) dX8_isTermThere_56 rfl ?_
        obtain ⟨x13, hc14, h⟩ := cP_ok h
        refine V_cv1 (k := 43) (q := 62) (As := [.int i5, .int x11]) (rest := []) (ct_X8_isSame (xY X) hc14) ce_X8_isSame clz_7 rfl im_yX8_isSame se_yX8_isSame rfl ml_RX8_66 rfl ⟨Nat.le_of_ble_eq_true rfl, Nat.le_of_ble_eq_true rfl⟩ rfl (Nat.le_of_ble_eq_true rfl) dX8_isTermThere_59 rfl ?_
        refine V_istore (q := 64) (L' := [some (.ref (ad (xY X) 43)), some (.int c1), some (.int c2), some (.int c3), some (.int x13), some (.int i5)]) dX8_isTermThere_62 rfl (Nat.le_of_ble_eq_true rfl) rfl ?_
        refine V_iinc (q := 67) (v := 1) (L' := [some (.ref (ad (xY X) 43)), some (.int c1), some (.int c2), some (.int c3), some (.int x13), some (.int (i5 + 1))]) dX8_isTermThere_64 rfl rfl iconst_1 (Nat.le_of_ble_eq_true rfl) rfl ?_
        refine V_goto (q := 39) dX8_isTermThere_67 rfl ?_
        exact ih (x13) ((i5 + 1)) h
set_option maxRecDepth 20000 in
theorem w_X8_isTermThere_L4 {X : Xc} {σ : Sg} {c1 : Int32} {r : Int32} {k : Int32 → Option Int32}
    (hk : ∀ (i2 : Int32), k i2 = some r → V X M_X8_isTermThere (mq X (some (.int r)) σ) 91 [none, none, some (.int i2), none, none, none] [] σ) :
    ∀ (n : Nat) (i2 : Int32) (i3 : Int32), f_X8_isTermThere_L4 k σ c1 n i2 i3 = some r → V X M_X8_isTermThere (mq X (some (.int r)) σ) 4 [some (.ref (ad (xY X) 43)), some (.int c1), some (.int i2), some (.int i3), none, none] [] σ := by
  intro n
  induction n with
  | zero => intro i2 i3 h; cases h
  | succ n ih =>
    intro i2 i3 h
    rw [f_X8_isTermThere_L4] at h
    refine V_iload_n (q := 5) dX8_isTermThere_4 rfl rfl ?_
    refine V_aload_n (q := 6) dX8_isTermThere_5 rfl rfl ?_
    refine V_getr (k := 43) (j := 0) (q := 9) clz_7 dX8_isTermThere_6 rfl rfl rfl (Nat.le_of_ble_eq_true rfl) fl_RX8_7 ?_
    refine V_iconst (q := 10) (v := 0) dX8_isTermThere_9 rfl iconst_0 ?_
    obtain ⟨hi2, x1, ex3, h⟩ := rI_ok h
    refine V_iald (k := 44) (q := 11) dX8_isTermThere_10 rfl rfl hi2 ex3 ?_
    refine V_icmp_ge (q := 91) (q2 := 14) dX8_isTermThere_11 rfl rfl (fun hb23 => ?_) (fun hb23 => ?_)
    · replace h := it h hb23
      refine V_msk (L' := [none, none, some (.int i2), none, none, none]) [false, false, true, false, true, true] rfl ?_
      exact hk (i2) h
    · replace h := ie h hb23
      refine V_aload_n (q := 15) dX8_isTermThere_14 rfl rfl ?_
      refine V_getr (k := 43) (j := 0) (q := 18) clz_7 dX8_isTermThere_15 rfl rfl rfl (Nat.le_of_ble_eq_true rfl) fl_RX8_7 ?_
      refine V_iload_n (q := 19) dX8_isTermThere_18 rfl rfl ?_
      obtain ⟨x4, hc5, h⟩ := cP_ok h
      refine V_cs1 (q := 22) (As := [.int i3]) (rest := [.ref (ad (xY X) 44)]) (ct_X8_termAt (xY X) hc5) ce_X8_termAt st_yX8_termAt ml_RX8_58 rfl ⟨Nat.le_of_ble_eq_true rfl, Nat.le_of_ble_eq_true rfl⟩ rfl (Nat.le_of_ble_eq_true rfl) dX8_isTermThere_19 rfl ?_
      refine V_iconst (q := 23) (v := 0) dX8_isTermThere_22 rfl iconst_0 ?_
      refine V_iadd (q := 24) dX8_isTermThere_23 rfl ?_
      obtain ⟨hi7, x6, ex8, h⟩ := rI_ok h
      refine V_iald (k := 44) (q := 25) dX8_isTermThere_24 rfl rfl hi7 ex8 ?_
      refine V_iload_n (q := 26) dX8_isTermThere_25 rfl rfl ?_
      obtain ⟨k9, ek9, h⟩ := jn_ok h
      have hk9 : ∀ (v10 : Int32), k9 v10 = some r → V X M_X8_isTermThere (mq X (some (.int r)) σ) 34 [some (.ref (ad (xY X) 43)), some (.int c1), some (.int i2), some (.int i3), none, none] [.int v10] σ := by
        clear h
        intro v10 h
        rw [ek9] at h
        refine V_istore (q := 36) (L' := [some (.ref (ad (xY X) 43)), some (.int c1), some (.int i2), some (.int i3), some (.int v10), none]) dX8_isTermThere_34 rfl (Nat.le_of_ble_eq_true rfl) rfl ?_
        refine V_iconst (q := 37) (v := 0) dX8_isTermThere_36 rfl iconst_0 ?_
        refine V_istore (q := 39) (L' := [some (.ref (ad (xY X) 43)), some (.int c1), some (.int i2), some (.int i3), some (.int v10), some (.int 0)]) dX8_isTermThere_37 rfl (Nat.le_of_ble_eq_true rfl) rfl ?_
        refine w_X8_isTermThere_L39 (fun v17 h => ?_) fu (v10) (0) h
        refine V_iload_n (q := 71) dX8_isTermThere_70 rfl rfl ?_
        obtain ⟨k18, ek18, h⟩ := jn_ok h
        have hk18 : ∀ (v19 : Int32), k18 v19 = some r → V X M_X8_isTermThere (mq X (some (.int r)) σ) 79 [some (.ref (ad (xY X) 43)), some (.int c1), none, some (.int v19), none, none] [] σ := by
          clear h
          intro v19 h
          rw [ek18] at h
          refine V_iconst (q := 80) (v := 1) dX8_isTermThere_79 rfl iconst_1 ?_
          refine V_goto (q := 84) dX8_isTermThere_80 rfl ?_
          refine V_istore_n (q := 85) (L' := [some (.ref (ad (xY X) 43)), some (.int c1), some (.int 1), some (.int v19), none, none]) dX8_isTermThere_84 rfl (Nat.le_of_ble_eq_true rfl) rfl ?_
          refine V_iinc (q := 88) (v := 1) (L' := [some (.ref (ad (xY X) 43)), some (.int c1), some (.int 1), some (.int (v19 + 1)), none, none]) dX8_isTermThere_85 rfl rfl iconst_1 (Nat.le_of_ble_eq_true rfl) rfl ?_
          refine V_goto (q := 4) dX8_isTermThere_88 rfl ?_
          exact ih (1) ((v19 + 1)) h
        refine V_if_ne (q := 79) (q2 := 74) dX8_isTermThere_71 rfl rfl (fun hb21 => ?_) (fun hb21 => ?_)
        · replace h := ie h hb21
          refine V_msk (L' := [some (.ref (ad (xY X) 43)), some (.int c1), none, some (.int i3), none, none]) [true, true, false, true, false, true] rfl ?_
          exact hk18 (i3) h
        · replace h := it h hb21
          refine V_iload (q := 76) dX8_isTermThere_74 rfl rfl ?_
          refine V_if_eq (q := 83) (q2 := 79) dX8_isTermThere_76 rfl rfl (fun hb20 => ?_) (fun hb20 => ?_)
          · replace h := it h hb20
            refine V_iconst (q := 84) (v := 0) dX8_isTermThere_83 rfl iconst_0 ?_
            refine V_istore_n (q := 85) (L' := [some (.ref (ad (xY X) 43)), some (.int c1), some (.int 0), some (.int i3), some (.int v17), none]) dX8_isTermThere_84 rfl (Nat.le_of_ble_eq_true rfl) rfl ?_
            refine V_iinc (q := 88) (v := 1) (L' := [some (.ref (ad (xY X) 43)), some (.int c1), some (.int 0), some (.int (i3 + 1)), some (.int v17), none]) dX8_isTermThere_85 rfl rfl iconst_1 (Nat.le_of_ble_eq_true rfl) rfl ?_
            refine V_goto (q := 4) dX8_isTermThere_88 rfl ?_
            refine V_msk (L' := [some (.ref (ad (xY X) 43)), some (.int c1), some (.int 0), some (.int (i3 + 1)), none, none]) [true, true, true, true, false, true] rfl ?_
            exact ih (0) ((i3 + 1)) h
          · replace h := ie h hb20
            refine V_msk (L' := [some (.ref (ad (xY X) 43)), some (.int c1), none, some (.int i3), none, none]) [true, true, false, true, false, true] rfl ?_
            exact hk18 (i3) h
      refine V_icmp_ne (q := 33) (q2 := 29) dX8_isTermThere_26 rfl rfl (fun hb22 => ?_) (fun hb22 => ?_)
      · replace h := ie h hb22
        refine V_iconst (q := 34) (v := 0) dX8_isTermThere_33 rfl iconst_0 ?_
        exact hk9 (0) h
      · replace h := it h hb22
        refine V_iconst (q := 30) (v := 1) dX8_isTermThere_29 rfl iconst_1 ?_
        refine V_goto (q := 34) dX8_isTermThere_30 rfl ?_
        exact hk9 (1) h
set_option maxRecDepth 20000 in
theorem ct_X8_isTermThere (Y : Yc) {σ : Sg} {a1 : Int32} {r : Int32} (h : f_X8_isTermThere σ a1 = some r) : Ct M_X8_isTermThere yX8_isTermThere Y [.ref (ad Y 43), .int a1] σ (some (.int r)) σ := by
  refine Ct_intro [some (.ref (ad Y 43)), some (.int a1), none, none, none, none] (by decide +kernel) rfl (Nat.le_of_ble_eq_true rfl) rfl (fun X hY => ?_) ⟨rfl, rfl⟩
  subst hY
  unfold f_X8_isTermThere at h
  refine V_iconst (q := 1) (v := 0) dX8_isTermThere_0 rfl iconst_0 ?_
  refine V_istore_n (q := 2) (L' := [some (.ref (ad (xY X) 43)), some (.int a1), some (.int 0), none, none, none]) dX8_isTermThere_1 rfl (Nat.le_of_ble_eq_true rfl) rfl ?_
  refine V_iconst (q := 3) (v := 0) dX8_isTermThere_2 rfl iconst_0 ?_
  refine V_istore_n (q := 4) (L' := [some (.ref (ad (xY X) 43)), some (.int a1), some (.int 0), some (.int 0), none, none]) dX8_isTermThere_3 rfl (Nat.le_of_ble_eq_true rfl) rfl ?_
  refine w_X8_isTermThere_L4 (fun v24 h => ?_) fu (0) (0) h
  refine V_iload_n (q := 92) dX8_isTermThere_91 rfl rfl ?_
  obtain ⟨hb25, h⟩ := mH_ok h
  cases h
  exact V_zret rfl (nz01 hb25) dX8_isTermThere_92
def M_X8_writes : Mc := (RX8, cX8_writes, 4, { frames := 0, cells := 0, slots := 0, locals := 0 }, none)
theorem ce_X8_writes : Cee M_X8_writes yX8_writes 2 := ⟨cd_yX8_writes, ini_RX8, ⟨by decide +kernel, by decide +kernel, by decide +kernel⟩, rfl, rfl⟩
set_option maxRecDepth 20000 in
theorem w_X8_writes_L14 {X : Xc} {c1 : Int32} {c2 : Int32} {r : Unit} {σr : Sg} {k : Sg → Option (Unit × Sg)}
    (hk : ∀ (s : Sg), k s = some (r, σr) → V X M_X8_writes (mq X none σr) 53 [none, none, none, none] [] s) :
    ∀ (n : Nat) (s : Sg) (i3 : Int32), f_X8_writes_L14 k c1 c2 n s i3 = some (r, σr) → V X M_X8_writes (mq X none σr) 14 [some (.ref (ad (xY X) 43)), some (.int c1), some (.int c2), some (.int i3)] [] s := by
  intro n
  induction n with
  | zero => intro s i3 h; cases h
  | succ n ih =>
    intro s i3 h
    rw [f_X8_writes_L14] at h
    refine V_iload_n (q := 15) dX8_writes_14 rfl rfl ?_
    refine V_aload_n (q := 16) dX8_writes_15 rfl rfl ?_
    refine V_getr (k := 43) (j := 9) (q := 19) clz_7 dX8_writes_16 rfl rfl rfl (Nat.le_of_ble_eq_true rfl) fl_RX8_29 ?_
    refine V_iload_n (q := 20) dX8_writes_19 rfl rfl ?_
    obtain ⟨hi8, x7, ex9, h⟩ := rI_ok h
    refine V_iald (k := 50) (q := 21) dX8_writes_20 rfl rfl hi8 ex9 ?_
    refine V_icmp_ge (q := 53) (q2 := 24) dX8_writes_21 rfl rfl (fun hb19 => ?_) (fun hb19 => ?_)
    · replace h := it h hb19
      refine V_msk (L' := [none, none, none, none]) [false, false, false, false] rfl ?_
      exact hk (s) h
    · replace h := ie h hb19
      refine V_aload_n (q := 25) dX8_writes_24 rfl rfl ?_
      refine V_getr (k := 43) (j := 0) (q := 28) clz_7 dX8_writes_25 rfl rfl rfl (Nat.le_of_ble_eq_true rfl) fl_RX8_7 ?_
      refine V_iload_n (q := 29) dX8_writes_28 rfl rfl ?_
      refine V_iconst (q := 30) (v := 1) dX8_writes_29 rfl iconst_1 ?_
      refine V_iadd (q := 31) dX8_writes_30 rfl ?_
      refine V_iload_n (q := 32) dX8_writes_31 rfl rfl ?_
      refine V_iadd (q := 33) dX8_writes_32 rfl ?_
      refine V_aload_n (q := 34) dX8_writes_33 rfl rfl ?_
      refine V_getr (k := 43) (j := 3) (q := 37) clz_7 dX8_writes_34 rfl rfl rfl (Nat.le_of_ble_eq_true rfl) fl_RX8_20 ?_
      refine V_aload_n (q := 38) dX8_writes_37 rfl rfl ?_
      refine V_getr (k := 43) (j := 8) (q := 41) clz_7 dX8_writes_38 rfl rfl rfl (Nat.le_of_ble_eq_true rfl) fl_RX8_26 ?_
      refine V_iload_n (q := 42) dX8_writes_41 rfl rfl ?_
      obtain ⟨hi11, x10, ex12, h⟩ := rI_ok h
      refine V_iald (k := 49) (q := 43) dX8_writes_42 rfl rfl hi11 ex12 ?_
      refine V_iload_n (q := 44) dX8_writes_43 rfl rfl ?_
      refine V_iadd (q := 45) dX8_writes_44 rfl ?_
      obtain ⟨hi14, x13, ex15, h⟩ := rI_ok h
      refine V_iald (k := 47) (q := 46) dX8_writes_45 rfl rfl hi14 ex15 ?_
      obtain ⟨hi18, s16, e17, h⟩ := wI_ok h
      refine V_iast (k := 44) (q := 47) dX8_writes_46 rfl rfl hi18 e17 ?_
      refine V_iinc (q := 50) (v := 1) (L' := [some (.ref (ad (xY X) 43)), some (.int c1), some (.int c2), some (.int (i3 + 1))]) dX8_writes_47 rfl rfl iconst_1 (Nat.le_of_ble_eq_true rfl) rfl ?_
      refine V_goto (q := 14) dX8_writes_50 rfl ?_
      exact ih (s16) ((i3 + 1)) h
set_option maxRecDepth 20000 in
theorem ct_X8_writes (Y : Yc) {σ : Sg} {a1 : Int32} {a2 : Int32} {r : Unit} {σr : Sg} (h : f_X8_writes σ a1 a2 = some (r, σr)) : Ct M_X8_writes yX8_writes Y [.ref (ad Y 43), .int a1, .int a2] σ none σr := by
  refine Ct_intro [some (.ref (ad Y 43)), some (.int a1), some (.int a2), none] (by decide +kernel) rfl (Nat.le_of_ble_eq_true rfl) rfl (fun X hY => ?_) ⟨rfl, rfl⟩
  subst hY
  unfold f_X8_writes at h
  refine V_aload_n (q := 1) dX8_writes_0 rfl rfl ?_
  refine V_getr (k := 43) (j := 0) (q := 4) clz_7 dX8_writes_1 rfl rfl rfl (Nat.le_of_ble_eq_true rfl) fl_RX8_7 ?_
  refine V_iload_n (q := 5) dX8_writes_4 rfl rfl ?_
  refine V_aload_n (q := 6) dX8_writes_5 rfl rfl ?_
  refine V_getr (k := 43) (j := 9) (q := 9) clz_7 dX8_writes_6 rfl rfl rfl (Nat.le_of_ble_eq_true rfl) fl_RX8_29 ?_
  refine V_iload_n (q := 10) dX8_writes_9 rfl rfl ?_
  obtain ⟨hi2, x1, ex3, h⟩ := rI_ok h
  refine V_iald (k := 50) (q := 11) dX8_writes_10 rfl rfl hi2 ex3 ?_
  obtain ⟨hi6, s4, e5, h⟩ := wI_ok h
  refine V_iast (k := 44) (q := 12) dX8_writes_11 rfl rfl hi6 e5 ?_
  refine V_iconst (q := 13) (v := 0) dX8_writes_12 rfl iconst_0 ?_
  refine V_istore_n (q := 14) (L' := [some (.ref (ad (xY X) 43)), some (.int a1), some (.int a2), some (.int 0)]) dX8_writes_13 rfl (Nat.le_of_ble_eq_true rfl) rfl ?_
  refine w_X8_writes_L14 (fun s20 h => ?_) fu (s4) (0) h
  cases h
  exact V_vret rfl dX8_writes_53
def M_X8_term : Mc := (RX8, cX8_term, 7, { frames := 2, cells := 0, slots := 0, locals := 49 }, (some .int))
theorem ce_X8_term : Cee M_X8_term yX8_term 2 := ⟨cd_yX8_term, ini_RX8, ⟨by decide +kernel, by decide +kernel, by decide +kernel⟩, rfl, rfl⟩
set_option maxRecDepth 20000 in
theorem w_X8_term_L43 {X : Xc} {σ : Sg} {c1 : Int32} {c2 : Int32} {c3 : Int32} {r : Int32} {σr : Sg} {k : Int32 → Option (Int32 × Sg)}
    (hk : ∀ (i4 : Int32), k i4 = some (r, σr) → V X M_X8_term (mq X (some (.int r)) σr) 79 [some (.ref (ad (xY X) 43)), some (.int c1), some (.int c2), some (.int c3), some (.int i4), none, none] [] σ) :
    ∀ (n : Nat) (i4 : Int32) (i5 : Int32), f_X8_term_L43 k σ c1 c2 c3 n i4 i5 = some (r, σr) → V X M_X8_term (mq X (some (.int r)) σr) 43 [some (.ref (ad (xY X) 43)), some (.int c1), some (.int c2), some (.int c3), some (.int i4), some (.int i5), none] [] σ := by
  intro n
  induction n with
  | zero => intro i4 i5 h; cases h
  | succ n ih =>
    intro i4 i5 h
    rw [f_X8_term_L43] at h
    refine V_iload (q := 45) dX8_term_43 rfl rfl ?_
    refine V_iload_n (q := 46) dX8_term_45 rfl rfl ?_
    refine V_icmp_ge (q := 79) (q2 := 49) dX8_term_46 rfl rfl (fun hb19 => ?_) (fun hb19 => ?_)
    · replace h := it h hb19
      refine V_msk (L' := [some (.ref (ad (xY X) 43)), some (.int c1), some (.int c2), some (.int c3), some (.int i4), none, none]) [true, true, true, true, true, false, true] rfl ?_
      exact hk (i4) h
    · replace h := ie h hb19
      refine V_iload (q := 51) dX8_term_49 rfl rfl ?_
      obtain ⟨k12, ek12, h⟩ := jn_ok h
      have hk12 : ∀ (v13 : Int32), k12 v13 = some (r, σr) → V X M_X8_term (mq X (some (.int r)) σr) 70 [some (.ref (ad (xY X) 43)), some (.int c1), some (.int c2), some (.int c3), none, some (.int v13), none] [] σ := by
        clear h
        intro v13 h
        rw [ek12] at h
        refine V_iconst (q := 71) (v := 0) dX8_term_70 rfl iconst_0 ?_
        refine V_istore (q := 73) (L' := [some (.ref (ad (xY X) 43)), some (.int c1), some (.int c2), some (.int c3), some (.int 0), some (.int v13), none]) dX8_term_71 rfl (Nat.le_of_ble_eq_true rfl) rfl ?_
        refine V_iinc (q := 76) (v := 1) (L' := [some (.ref (ad (xY X) 43)), some (.int c1), some (.int c2), some (.int c3), some (.int 0), some (.int (v13 + 1)), none]) dX8_term_73 rfl rfl iconst_1 (Nat.le_of_ble_eq_true rfl) rfl ?_
        refine V_goto (q := 43) dX8_term_76 rfl ?_
        exact ih (0) ((v13 + 1)) h
      refine V_if_eq (q := 70) (q2 := 54) dX8_term_51 rfl rfl (fun hb18 => ?_) (fun hb18 => ?_)
      · replace h := it h hb18
        refine V_msk (L' := [some (.ref (ad (xY X) 43)), some (.int c1), some (.int c2), some (.int c3), none, some (.int i5), none]) [true, true, true, true, false, true, true] rfl ?_
        exact hk12 (i5) h
      · replace h := ie h hb18
        refine V_aload_n (q := 55) dX8_term_54 rfl rfl ?_
        refine V_getr (k := 43) (j := 9) (q := 58) clz_7 dX8_term_55 rfl rfl rfl (Nat.le_of_ble_eq_true rfl) fl_RX8_29 ?_
        refine V_iload (q := 60) dX8_term_58 rfl rfl ?_
        obtain ⟨hi15, x14, ex16, h⟩ := rI_ok h
        refine V_iald (k := 50) (q := 61) dX8_term_60 rfl rfl hi15 ex16 ?_
        refine V_bipush (q := 63) (v := 12) dX8_term_61 rfl bipush_12 ?_
        refine V_icmp_gt (q := 70) (q2 := 66) dX8_term_63 rfl rfl (fun hb17 => ?_) (fun hb17 => ?_)
        · replace h := it h hb17
          refine V_msk (L' := [some (.ref (ad (xY X) 43)), some (.int c1), some (.int c2), some (.int c3), none, some (.int i5), none]) [true, true, true, true, false, true, true] rfl ?_
          exact hk12 (i5) h
        · replace h := ie h hb17
          refine V_iconst (q := 67) (v := 1) dX8_term_66 rfl iconst_1 ?_
          refine V_goto (q := 71) dX8_term_67 rfl ?_
          refine V_istore (q := 73) (L' := [some (.ref (ad (xY X) 43)), some (.int c1), some (.int c2), some (.int c3), some (.int 1), some (.int i5), none]) dX8_term_71 rfl (Nat.le_of_ble_eq_true rfl) rfl ?_
          refine V_iinc (q := 76) (v := 1) (L' := [some (.ref (ad (xY X) 43)), some (.int c1), some (.int c2), some (.int c3), some (.int 1), some (.int (i5 + 1)), none]) dX8_term_73 rfl rfl iconst_1 (Nat.le_of_ble_eq_true rfl) rfl ?_
          refine V_goto (q := 43) dX8_term_76 rfl ?_
          exact ih (1) ((i5 + 1)) h
set_option maxRecDepth 20000 in
theorem w_X8_term_L172 {X : Xc} {c3 : Int32} {c5 : Int32} {r : Int32} {σr : Sg} {k : Sg → Option (Int32 × Sg)}
    (hk : ∀ (s : Sg), k s = some (r, σr) → V X M_X8_term (mq X (some (.int r)) σr) 197 [some (.ref (ad (xY X) 43)), none, none, none, none, some (.int c5), none] [] s) :
    ∀ (n : Nat) (s : Sg) (i6 : Int32), f_X8_term_L172 k c3 c5 n s i6 = some (r, σr) → V X M_X8_term (mq X (some (.int r)) σr) 172 [some (.ref (ad (xY X) 43)), none, none, some (.int c3), none, some (.int c5), some (.int i6)] [] s := by
  intro n
  induction n with
  | zero => intro s i6 h; cases h
  | succ n ih =>
    intro s i6 h
    rw [f_X8_term_L172] at h
    refine V_iload (q := 174) dX8_term_172 rfl rfl ?_
    refine V_iload_n (q := 175) dX8_term_174 rfl rfl ?_
    refine V_icmp_ge (q := 197) (q2 := 178) dX8_term_175 rfl rfl (fun hb54 => ?_) (fun hb54 => ?_)
    · replace h := it h hb54
      refine V_msk (L' := [some (.ref (ad (xY X) 43)), none, none, none, none, some (.int c5), none]) [true, true, true, false, true, true, false] rfl ?_
      exact hk (s) h
    · replace h := ie h hb54
      refine V_aload_n (q := 179) dX8_term_178 rfl rfl ?_
      refine V_iload (q := 181) dX8_term_179 rfl rfl ?_
      refine V_iload (q := 183) dX8_term_181 rfl rfl ?_
      refine V_iload (q := 185) dX8_term_183 rfl rfl ?_
      obtain ⟨x49, hc50, h⟩ := cP_ok h
      refine V_cs1 (q := 188) (As := [.int c5, .int i6]) (rest := [.int i6, .ref (ad (xY X) 43)]) (ct_X8_wordAt (xY X) hc50) ce_X8_wordAt st_yX8_wordAt ml_RX8_62 rfl ⟨Nat.le_of_ble_eq_true rfl, Nat.le_of_ble_eq_true rfl⟩ rfl (Nat.le_of_ble_eq_true rfl) dX8_term_185 rfl ?_
      obtain ⟨x51, s53, hc52, h⟩ := cA_ok h
      refine V_cv0 (k := 43) (q := 191) (As := [.int i6, .int x49]) (rest := []) (ct_X8_writes (xY X) hc52) ce_X8_writes clz_7 rfl im_yX8_writes se_yX8_writes rfl ml_RX8_78 rfl ⟨Nat.le_of_ble_eq_true rfl, Nat.le_of_ble_eq_true rfl⟩ rfl (Nat.le_of_ble_eq_true rfl) dX8_term_188 rfl ?_
      refine V_iinc (q := 194) (v := 1) (L' := [some (.ref (ad (xY X) 43)), none, none, some (.int c3), none, some (.int c5), some (.int (i6 + 1))]) dX8_term_191 rfl rfl iconst_1 (Nat.le_of_ble_eq_true rfl) rfl ?_
      refine V_goto (q := 172) dX8_term_194 rfl ?_
      exact ih (s53) ((i6 + 1)) h
set_option maxRecDepth 20000 in
theorem ct_X8_term (Y : Yc) {σ : Sg} {a1 : Int32} {a2 : Int32} {r : Int32} {σr : Sg} (h : f_X8_term σ a1 a2 = some (r, σr)) : Ct M_X8_term yX8_term Y [.ref (ad Y 43), .int a1, .int a2] σ (some (.int r)) σr := by
  refine Ct_intro [some (.ref (ad Y 43)), some (.int a1), some (.int a2), none, none, none, none] (by decide +kernel) rfl (Nat.le_of_ble_eq_true rfl) rfl (fun X hY => ?_) ⟨rfl, rfl⟩
  subst hY
  unfold f_X8_term at h
  refine V_iload_n (q := 1) dX8_term_0 rfl rfl ?_
  refine V_iconst (q := 2) (v := 1) dX8_term_1 rfl iconst_1 ?_
  refine V_bipush (q := 4) (v := 9) dX8_term_2 rfl bipush_9 ?_
  obtain ⟨x1, hc2, h⟩ := cP_ok h
  refine V_cs1 (q := 7) (As := [.int a1, .int 1, .int 9]) (rest := []) (ct_X8_in (xY X) hc2) ce_X8_in st_yX8_in ml_RX8_44 rfl ⟨Nat.le_of_ble_eq_true rfl, Nat.le_of_ble_eq_true rfl⟩ rfl (Nat.le_of_ble_eq_true rfl) dX8_term_4 rfl ?_
  refine V_if_eq (q := 19) (q2 := 10) dX8_term_7 rfl rfl (fun hb66 => ?_) (fun hb66 => ?_)
  · replace h := it h hb66
    refine V_ldc (q := 21) kc_RX8_52 dX8_term_19 rfl ?_
    cases h
    exact V_iret rfl dX8_term_21
  · replace h := ie h hb66
    refine V_iload_n (q := 11) dX8_term_10 rfl rfl ?_
    refine V_iconst (q := 12) (v := 0) dX8_term_11 rfl iconst_0 ?_
    refine V_iconst (q := 13) (v := 1) dX8_term_12 rfl iconst_1 ?_
    obtain ⟨x3, hc4, h⟩ := cP_ok h
    refine V_cs1 (q := 16) (As := [.int a2, .int 0, .int 1]) (rest := []) (ct_X8_in (xY X) hc4) ce_X8_in st_yX8_in ml_RX8_44 rfl ⟨Nat.le_of_ble_eq_true rfl, Nat.le_of_ble_eq_true rfl⟩ rfl (Nat.le_of_ble_eq_true rfl) dX8_term_13 rfl ?_
    refine V_if_ne (q := 22) (q2 := 19) dX8_term_16 rfl rfl (fun hb65 => ?_) (fun hb65 => ?_)
    · replace h := ie h hb65
      refine V_aload_n (q := 23) dX8_term_22 rfl rfl ?_
      obtain ⟨x5, s7, hc6, h⟩ := cA_ok h
      refine V_cv1 (k := 43) (q := 26) (As := []) (rest := []) (ct_X8_parts (xY X) hc6) ce_X8_parts clz_7 rfl im_yX8_parts se_yX8_parts rfl ml_RX8_70 rfl ⟨Nat.le_of_ble_eq_true rfl, Nat.le_of_ble_eq_true rfl⟩ rfl (Nat.le_of_ble_eq_true rfl) dX8_term_23 rfl ?_
      refine V_istore_n (q := 27) (L' := [some (.ref (ad (xY X) 43)), some (.int a1), some (.int a2), some (.int x5), none, none, none]) dX8_term_26 rfl (Nat.le_of_ble_eq_true rfl) rfl ?_
      refine V_aload_n (q := 28) dX8_term_27 rfl rfl ?_
      refine V_iconst (q := 29) (v := 0) dX8_term_28 rfl iconst_0 ?_
      obtain ⟨s8, e9, h⟩ := pI_ok h
      refine V_puti (k := 43) (j := 4) (q := 32) clz_7 .int (by decide +kernel) rfl rfl rfl dX8_term_29 rfl rfl rfl (Nat.le_of_ble_eq_true rfl) fl_RX8_53 e9 ?_
      refine V_iload_n (q := 33) dX8_term_32 rfl rfl ?_
      refine V_iconst (q := 34) (v := 1) dX8_term_33 rfl iconst_1 ?_
      refine V_iconst (q := 35) (v := 4) dX8_term_34 rfl iconst_4 ?_
      obtain ⟨x10, hc11, h⟩ := cP_ok h
      refine V_cs1 (q := 38) (As := [.int x5, .int 1, .int 4]) (rest := []) (ct_X8_in (xY X) hc11) ce_X8_in st_yX8_in ml_RX8_44 rfl ⟨Nat.le_of_ble_eq_true rfl, Nat.le_of_ble_eq_true rfl⟩ rfl (Nat.le_of_ble_eq_true rfl) dX8_term_35 rfl ?_
      refine V_istore (q := 40) (L' := [some (.ref (ad (xY X) 43)), some (.int a1), some (.int a2), some (.int x5), some (.int x10), none, none]) dX8_term_38 rfl (Nat.le_of_ble_eq_true rfl) rfl ?_
      refine V_iconst (q := 41) (v := 0) dX8_term_40 rfl iconst_0 ?_
      refine V_istore (q := 43) (L' := [some (.ref (ad (xY X) 43)), some (.int a1), some (.int a2), some (.int x5), some (.int x10), some (.int 0), none]) dX8_term_41 rfl (Nat.le_of_ble_eq_true rfl) rfl ?_
      refine w_X8_term_L43 (fun v20 h => ?_) fu (x10) (0) h
      refine V_iload (q := 81) dX8_term_79 rfl rfl ?_
      refine V_if_eq (q := 92) (q2 := 84) dX8_term_81 rfl rfl (fun hb64 => ?_) (fun hb64 => ?_)
      · replace h := it h hb64
        refine V_ldc (q := 94) kc_RX8_77 dX8_term_92 rfl ?_
        cases h
        exact V_iret rfl dX8_term_94
      · replace h := ie h hb64
        refine V_aload_n (q := 85) dX8_term_84 rfl rfl ?_
        refine V_iload_n (q := 86) dX8_term_85 rfl rfl ?_
        obtain ⟨x21, hc22, h⟩ := cP_ok h
        refine V_cv1 (k := 43) (q := 89) (As := [.int x5]) (rest := []) (ct_X8_isTermThere (xY X) hc22) ce_X8_isTermThere clz_7 rfl im_yX8_isTermThere se_yX8_isTermThere rfl ml_RX8_74 rfl ⟨Nat.le_of_ble_eq_true rfl, Nat.le_of_ble_eq_true rfl⟩ rfl (Nat.le_of_ble_eq_true rfl) dX8_term_86 rfl ?_
        refine V_if_eq (q := 95) (q2 := 92) dX8_term_89 rfl rfl (fun hb63 => ?_) (fun hb63 => ?_)
        · replace h := it h hb63
          refine V_aload_n (q := 96) dX8_term_95 rfl rfl ?_
          refine V_getr (k := 43) (j := 0) (q := 99) clz_7 dX8_term_96 rfl rfl rfl (Nat.le_of_ble_eq_true rfl) fl_RX8_7 ?_
          refine V_iconst (q := 100) (v := 0) dX8_term_99 rfl iconst_0 ?_
          obtain ⟨hi24, x23, ex25, h⟩ := rI_ok h
          refine V_iald (k := 44) (q := 101) dX8_term_100 rfl rfl hi24 ex25 ?_
          refine V_bipush (q := 103) (v := 8) dX8_term_101 rfl bipush_8 ?_
          refine V_icmp_ne (q := 109) (q2 := 106) dX8_term_103 rfl rfl (fun hb62 => ?_) (fun hb62 => ?_)
          · replace h := ie h hb62
            refine V_aload_n (q := 110) dX8_term_109 rfl rfl ?_
            refine V_getr (k := 43) (j := 0) (q := 113) clz_7 dX8_term_110 rfl rfl rfl (Nat.le_of_ble_eq_true rfl) fl_RX8_7 ?_
            refine V_iconst (q := 114) (v := 0) dX8_term_113 rfl iconst_0 ?_
            obtain ⟨hi27, x26, ex28, h⟩ := rI_ok h
            refine V_iald (k := 44) (q := 115) dX8_term_114 rfl rfl hi27 ex28 ?_
            refine V_istore (q := 117) (L' := [some (.ref (ad (xY X) 43)), some (.int a1), some (.int a2), some (.int x5), some (.int v20), some (.int x26), none]) dX8_term_115 rfl (Nat.le_of_ble_eq_true rfl) rfl ?_
            refine V_aload_n (q := 118) dX8_term_117 rfl rfl ?_
            refine V_getr (k := 43) (j := 0) (q := 121) clz_7 dX8_term_118 rfl rfl rfl (Nat.le_of_ble_eq_true rfl) fl_RX8_7 ?_
            refine V_iload (q := 123) dX8_term_121 rfl rfl ?_
            obtain ⟨x29, hc30, h⟩ := cP_ok h
            refine V_cs1 (q := 126) (As := [.int x26]) (rest := [.ref (ad (xY X) 44)]) (ct_X8_termAt (xY X) hc30) ce_X8_termAt st_yX8_termAt ml_RX8_58 rfl ⟨Nat.le_of_ble_eq_true rfl, Nat.le_of_ble_eq_true rfl⟩ rfl (Nat.le_of_ble_eq_true rfl) dX8_term_123 rfl ?_
            refine V_iconst (q := 127) (v := 0) dX8_term_126 rfl iconst_0 ?_
            refine V_iadd (q := 128) dX8_term_127 rfl ?_
            refine V_iload_n (q := 129) dX8_term_128 rfl rfl ?_
            obtain ⟨hi33, s31, e32, h⟩ := wI_ok h
            refine V_iast (k := 44) (q := 130) dX8_term_129 rfl rfl hi33 e32 ?_
            refine V_aload_n (q := 131) dX8_term_130 rfl rfl ?_
            refine V_getr (k := 43) (j := 0) (q := 134) clz_7 dX8_term_131 rfl rfl rfl (Nat.le_of_ble_eq_true rfl) fl_RX8_7 ?_
            refine V_iload (q := 136) dX8_term_134 rfl rfl ?_
            obtain ⟨x34, hc35, h⟩ := cP_ok h
            refine V_cs1 (q := 139) (As := [.int x26]) (rest := [.ref (ad (xY X) 44)]) (ct_X8_termAt (xY X) hc35) ce_X8_termAt st_yX8_termAt ml_RX8_58 rfl ⟨Nat.le_of_ble_eq_true rfl, Nat.le_of_ble_eq_true rfl⟩ rfl (Nat.le_of_ble_eq_true rfl) dX8_term_136 rfl ?_
            refine V_iconst (q := 140) (v := 1) dX8_term_139 rfl iconst_1 ?_
            refine V_iadd (q := 141) dX8_term_140 rfl ?_
            refine V_iload_n (q := 142) dX8_term_141 rfl rfl ?_
            obtain ⟨hi38, s36, e37, h⟩ := wI_ok h
            refine V_iast (k := 44) (q := 143) dX8_term_142 rfl rfl hi38 e37 ?_
            refine V_aload_n (q := 144) dX8_term_143 rfl rfl ?_
            refine V_getr (k := 43) (j := 0) (q := 147) clz_7 dX8_term_144 rfl rfl rfl (Nat.le_of_ble_eq_true rfl) fl_RX8_7 ?_
            refine V_iload (q := 149) dX8_term_147 rfl rfl ?_
            obtain ⟨x39, hc40, h⟩ := cP_ok h
            refine V_cs1 (q := 152) (As := [.int x26]) (rest := [.ref (ad (xY X) 44)]) (ct_X8_termAt (xY X) hc40) ce_X8_termAt st_yX8_termAt ml_RX8_58 rfl ⟨Nat.le_of_ble_eq_true rfl, Nat.le_of_ble_eq_true rfl⟩ rfl (Nat.le_of_ble_eq_true rfl) dX8_term_149 rfl ?_
            refine V_iconst (q := 153) (v := 2) dX8_term_152 rfl iconst_2 ?_
            refine V_iadd (q := 154) dX8_term_153 rfl ?_
            refine V_iload_n (q := 155) dX8_term_154 rfl rfl ?_
            obtain ⟨hi43, s41, e42, h⟩ := wI_ok h
            refine V_iast (k := 44) (q := 156) dX8_term_155 rfl rfl hi43 e42 ?_
            refine V_aload_n (q := 157) dX8_term_156 rfl rfl ?_
            refine V_getr (k := 43) (j := 0) (q := 160) clz_7 dX8_term_157 rfl rfl rfl (Nat.le_of_ble_eq_true rfl) fl_RX8_7 ?_
            refine V_iload (q := 162) dX8_term_160 rfl rfl ?_
            obtain ⟨x44, hc45, h⟩ := cP_ok h
            refine V_cs1 (q := 165) (As := [.int x26]) (rest := [.ref (ad (xY X) 44)]) (ct_X8_termAt (xY X) hc45) ce_X8_termAt st_yX8_termAt ml_RX8_58 rfl ⟨Nat.le_of_ble_eq_true rfl, Nat.le_of_ble_eq_true rfl⟩ rfl (Nat.le_of_ble_eq_true rfl) dX8_term_162 rfl ?_
            refine V_iconst (q := 166) (v := 3) dX8_term_165 rfl iconst_3 ?_
            refine V_iadd (q := 167) dX8_term_166 rfl ?_
            refine V_iconst (q := 168) (v := (-1)) dX8_term_167 rfl iconst_m1 ?_
            obtain ⟨hi48, s46, e47, h⟩ := wI_ok h
            refine V_iast (k := 44) (q := 169) dX8_term_168 rfl rfl hi48 e47 ?_
            refine V_iconst (q := 170) (v := 0) dX8_term_169 rfl iconst_0 ?_
            refine V_istore (q := 172) (L' := [some (.ref (ad (xY X) 43)), some (.int a1), some (.int a2), some (.int x5), some (.int v20), some (.int x26), some (.int 0)]) dX8_term_170 rfl (Nat.le_of_ble_eq_true rfl) rfl ?_
            refine V_msk (L' := [some (.ref (ad (xY X) 43)), none, none, some (.int x5), none, some (.int x26), some (.int 0)]) [true, false, false, true, false, true, true] rfl ?_
            refine w_X8_term_L172 (fun s55 h => ?_) fu (s46) (0) h
            refine V_aload_n (q := 198) dX8_term_197 rfl rfl ?_
            refine V_getr (k := 43) (j := 0) (q := 201) clz_7 dX8_term_198 rfl rfl rfl (Nat.le_of_ble_eq_true rfl) fl_RX8_7 ?_
            refine V_iconst (q := 202) (v := 0) dX8_term_201 rfl iconst_0 ?_
            refine V_dup2 (q := 203) dX8_term_202 rfl rfl rfl ?_
            obtain ⟨hi57, x56, ex58, h⟩ := rI_ok h
            refine V_iald (k := 44) (q := 204) dX8_term_203 rfl rfl hi57 ex58 ?_
            refine V_iconst (q := 205) (v := 1) dX8_term_204 rfl iconst_1 ?_
            refine V_iadd (q := 206) dX8_term_205 rfl ?_
            obtain ⟨hi61, s59, e60, h⟩ := wI_ok h
            refine V_iast (k := 44) (q := 207) dX8_term_206 rfl rfl hi61 e60 ?_
            refine V_iload (q := 209) dX8_term_207 rfl rfl ?_
            cases h
            exact V_iret rfl dX8_term_209
          · replace h := it h hb62
            refine V_ldc (q := 108) kc_RX8_57 dX8_term_106 rfl ?_
            cases h
            exact V_iret rfl dX8_term_108
        · replace h := ie h hb63
          refine V_ldc (q := 94) kc_RX8_77 dX8_term_92 rfl ?_
          cases h
          exact V_iret rfl dX8_term_94
    · replace h := it h hb65
      refine V_ldc (q := 21) kc_RX8_52 dX8_term_19 rfl ?_
      cases h
      exact V_iret rfl dX8_term_21
def M_X0_sizeOf : Mc := (RX0, cX0_sizeOf, 3, { frames := 0, cells := 0, slots := 0, locals := 0 }, (some .int))
theorem ce_X0_sizeOf : Cee M_X0_sizeOf yX0_sizeOf 1 := ⟨cd_yX0_sizeOf, ini_RX0, ⟨by decide +kernel, by decide +kernel, by decide +kernel⟩, rfl, rfl⟩
set_option maxRecDepth 20000 in
theorem w_X0_sizeOf_L2 {X : Xc} {σ : Sg} {c0 : Int64} {r : Int32} {k : Option Int32}
    (hk : k = some r → V X M_X0_sizeOf (mq X (some (.int r)) σ) 26 [none, none, none] [] σ) :
    ∀ (n : Nat) (i2 : Int32), f_X0_sizeOf_L2 k σ c0 n i2 = some r → V X M_X0_sizeOf (mq X (some (.int r)) σ) 2 [some (.long c0), none, some (.int i2)] [] σ := by
  intro n
  induction n with
  | zero => intro i2 h; cases h
  | succ n ih =>
    intro i2 h
    rw [f_X0_sizeOf_L2] at h
    refine V_iload_n (q := 3) dX0_sizeOf_2 rfl rfl ?_
    refine V_bipush (q := 5) (v := 12) dX0_sizeOf_3 rfl bipush_12 ?_
    refine V_icmp_ge (q := 26) (q2 := 8) dX0_sizeOf_5 rfl rfl (fun hb2 => ?_) (fun hb2 => ?_)
    · replace h := it h hb2
      refine V_msk (L' := [none, none, none]) [false, true, false] rfl ?_
      exact hk  h
    · replace h := ie h hb2
      refine V_lload_n (q := 9) dX0_sizeOf_8 rfl rfl ?_
      refine V_iconst (q := 10) (v := 5) dX0_sizeOf_9 rfl iconst_5 ?_
      refine V_iload_n (q := 11) dX0_sizeOf_10 rfl rfl ?_
      refine V_imul (q := 12) dX0_sizeOf_11 rfl ?_
      refine V_lushr (q := 13) dX0_sizeOf_12 rfl ?_
      refine V_lconst (q := 14) (v := 0) dX0_sizeOf_13 rfl rfl ?_
      refine V_lcmp (q := 15) dX0_sizeOf_14 rfl ?_
      refine V_if_ne (q := 20) (q2 := 18) dX0_sizeOf_15 rfl rfl (fun hb1 => ?_) (fun hb1 => ?_)
      · replace h := ie h hb1
        refine V_iinc (q := 23) (v := 1) (L' := [some (.long c0), none, some (.int (i2 + 1))]) dX0_sizeOf_20 rfl rfl iconst_1 (Nat.le_of_ble_eq_true rfl) rfl ?_
        refine V_goto (q := 2) dX0_sizeOf_23 rfl ?_
        exact ih ((i2 + 1)) h
      · replace h := it h hb1
        refine V_iload_n (q := 19) dX0_sizeOf_18 rfl rfl ?_
        cases h
        exact V_iret rfl dX0_sizeOf_19
set_option maxRecDepth 20000 in
theorem ct_X0_sizeOf (Y : Yc) {σ : Sg} {a1 : Int64} {r : Int32} (h : f_X0_sizeOf σ a1 = some r) : Ct M_X0_sizeOf yX0_sizeOf Y [.long a1] σ (some (.int r)) σ := by
  refine Ct_intro [some (.long a1), none, none] (by decide +kernel) rfl (Nat.le_of_ble_eq_true rfl) rfl (fun X hY => ?_) ⟨rfl, rfl⟩
  subst hY
  unfold f_X0_sizeOf at h
  refine V_iconst (q := 1) (v := 0) dX0_sizeOf_0 rfl iconst_0 ?_
  refine V_istore_n (q := 2) (L' := [some (.long a1), none, some (.int 0)]) dX0_sizeOf_1 rfl (Nat.le_of_ble_eq_true rfl) rfl ?_
  refine w_X0_sizeOf_L2 (fun h => ?_) fu (0) h
  refine V_bipush (q := 28) (v := 12) dX0_sizeOf_26 rfl bipush_12 ?_
  cases h
  exact V_iret rfl dX0_sizeOf_28
def M_X1_hasEnding : Mc := (RX1, cX1_hasEnding, 4, { frames := 0, cells := 0, slots := 0, locals := 0 }, (some .boolean))
theorem ce_X1_hasEnding : Cee M_X1_hasEnding yX1_hasEnding 1 := ⟨cd_yX1_hasEnding, ini_RX1, ⟨by decide +kernel, by decide +kernel, by decide +kernel⟩, rfl, rfl⟩
set_option maxRecDepth 20000 in
theorem w_X1_hasEnding_L2 {X : Xc} {σ : Sg} {c1 : Int64} {r : Int32} {k : Option Int32}
    (hk : k = some r → V X M_X1_hasEnding (mq X (some (.int r)) σ) 29 [none, none, none, none] [] σ) :
    ∀ (n : Nat) (i3 : Int32), f_X1_hasEnding_L2 k σ c1 n i3 = some r → V X M_X1_hasEnding (mq X (some (.int r)) σ) 2 [some (.ref (ad (xY X) 4)), some (.long c1), none, some (.int i3)] [] σ := by
  intro n
  induction n with
  | zero => intro i3 h; cases h
  | succ n ih =>
    intro i3 h
    rw [f_X1_hasEnding_L2] at h
    refine V_iload_n (q := 3) dX1_hasEnding_2 rfl rfl ?_
    refine V_aload_n (q := 4) dX1_hasEnding_3 rfl rfl ?_
    refine V_geti (k := 4) (j := 6) (q := 7) clz_0 dX1_hasEnding_4 rfl rfl rfl (Nat.le_of_ble_eq_true rfl) fl_RX1_39 ?_
    refine V_icmp_ge (q := 29) (q2 := 10) dX1_hasEnding_7 rfl rfl (fun hb5 => ?_) (fun hb5 => ?_)
    · replace h := it h hb5
      refine V_msk (L' := [none, none, none, none]) [false, false, true, false] rfl ?_
      exact hk  h
    · replace h := ie h hb5
      refine V_aload_n (q := 11) dX1_hasEnding_10 rfl rfl ?_
      refine V_getr (k := 4) (j := 7) (q := 14) clz_0 dX1_hasEnding_11 rfl rfl rfl (Nat.le_of_ble_eq_true rfl) fl_RX1_28 ?_
      refine V_iload_n (q := 15) dX1_hasEnding_14 rfl rfl ?_
      obtain ⟨hi2, x1, ex3, h⟩ := rL_ok h
      refine V_lald (k := 10) (q := 16) dX1_hasEnding_15 rfl rfl hi2 ex3 ?_
      refine V_lload_n (q := 17) dX1_hasEnding_16 rfl rfl ?_
      refine V_lcmp (q := 18) dX1_hasEnding_17 rfl ?_
      refine V_if_ne (q := 23) (q2 := 21) dX1_hasEnding_18 rfl rfl (fun hb4 => ?_) (fun hb4 => ?_)
      · replace h := ie h hb4
        refine V_iinc (q := 26) (v := 1) (L' := [some (.ref (ad (xY X) 4)), some (.long c1), none, some (.int (i3 + 1))]) dX1_hasEnding_23 rfl rfl iconst_1 (Nat.le_of_ble_eq_true rfl) rfl ?_
        refine V_goto (q := 2) dX1_hasEnding_26 rfl ?_
        exact ih ((i3 + 1)) h
      · replace h := it h hb4
        refine V_iconst (q := 22) (v := 1) dX1_hasEnding_21 rfl iconst_1 ?_
        cases h
        exact V_zret rfl rfl dX1_hasEnding_22
set_option maxRecDepth 20000 in
theorem ct_X1_hasEnding (Y : Yc) {σ : Sg} {a1 : Int64} {r : Int32} (h : f_X1_hasEnding σ a1 = some r) : Ct M_X1_hasEnding yX1_hasEnding Y [.ref (ad Y 4), .long a1] σ (some (.int r)) σ := by
  refine Ct_intro [some (.ref (ad Y 4)), some (.long a1), none, none] (by decide +kernel) rfl (Nat.le_of_ble_eq_true rfl) rfl (fun X hY => ?_) ⟨rfl, rfl⟩
  subst hY
  unfold f_X1_hasEnding at h
  refine V_iconst (q := 1) (v := 0) dX1_hasEnding_0 rfl iconst_0 ?_
  refine V_istore_n (q := 2) (L' := [some (.ref (ad (xY X) 4)), some (.long a1), none, some (.int 0)]) dX1_hasEnding_1 rfl (Nat.le_of_ble_eq_true rfl) rfl ?_
  refine w_X1_hasEnding_L2 (fun h => ?_) fu (0) h
  refine V_iconst (q := 30) (v := 0) dX1_hasEnding_29 rfl iconst_0 ?_
  cases h
  exact V_zret rfl rfl dX1_hasEnding_30
def M_X1_addEnding : Mc := (RX1, cX1_addEnding, 3, { frames := 0, cells := 0, slots := 0, locals := 0 }, (some .int))
theorem ce_X1_addEnding : Cee M_X1_addEnding yX1_addEnding 1 := ⟨cd_yX1_addEnding, ini_RX1, ⟨by decide +kernel, by decide +kernel, by decide +kernel⟩, rfl, rfl⟩
set_option maxRecDepth 20000 in
theorem ct_X1_addEnding (Y : Yc) {σ : Sg} {a1 : Int64} {r : Int32} {σr : Sg} (h : f_X1_addEnding σ a1 = some (r, σr)) : Ct M_X1_addEnding yX1_addEnding Y [.ref (ad Y 4), .long a1] σ (some (.int r)) σr := by
  refine Ct_intro [some (.ref (ad Y 4)), some (.long a1), none] (by decide +kernel) rfl (Nat.le_of_ble_eq_true rfl) rfl (fun X hY => ?_) ⟨rfl, rfl⟩
  subst hY
  unfold f_X1_addEnding at h
  refine V_aload_n (q := 1) dX1_addEnding_0 rfl rfl ?_
  refine V_geti (k := 4) (j := 6) (q := 4) clz_0 dX1_addEnding_1 rfl rfl rfl (Nat.le_of_ble_eq_true rfl) fl_RX1_39 ?_
  refine V_iconst (q := 5) (v := 5) dX1_addEnding_4 rfl iconst_5 ?_
  refine V_icmp_lt (q := 10) (q2 := 8) dX1_addEnding_5 rfl rfl (fun hb6 => ?_) (fun hb6 => ?_)
  · replace h := it h hb6
    refine V_aload_n (q := 11) dX1_addEnding_10 rfl rfl ?_
    refine V_getr (k := 4) (j := 7) (q := 14) clz_0 dX1_addEnding_11 rfl rfl rfl (Nat.le_of_ble_eq_true rfl) fl_RX1_28 ?_
    refine V_aload_n (q := 15) dX1_addEnding_14 rfl rfl ?_
    refine V_geti (k := 4) (j := 6) (q := 18) clz_0 dX1_addEnding_15 rfl rfl rfl (Nat.le_of_ble_eq_true rfl) fl_RX1_39 ?_
    refine V_lload_n (q := 19) dX1_addEnding_18 rfl rfl ?_
    obtain ⟨hi3, s1, e2, h⟩ := wL_ok h
    refine V_last (k := 10) (q := 20) dX1_addEnding_19 rfl rfl hi3 e2 ?_
    refine V_aload_n (q := 21) dX1_addEnding_20 rfl rfl ?_
    refine V_dup (q := 22) dX1_addEnding_21 rfl rfl ?_
    refine V_geti (k := 4) (j := 6) (q := 25) clz_0 dX1_addEnding_22 rfl rfl rfl (Nat.le_of_ble_eq_true rfl) fl_RX1_39 ?_
    refine V_iconst (q := 26) (v := 1) dX1_addEnding_25 rfl iconst_1 ?_
    refine V_iadd (q := 27) dX1_addEnding_26 rfl ?_
    obtain ⟨s4, e5, h⟩ := pI_ok h
    refine V_puti (k := 4) (j := 6) (q := 30) clz_0 .int (by decide +kernel) rfl rfl rfl dX1_addEnding_27 rfl rfl rfl (Nat.le_of_ble_eq_true rfl) fl_RX1_39 e5 ?_
    refine V_aload_n (q := 31) dX1_addEnding_30 rfl rfl ?_
    refine V_geti (k := 4) (j := 6) (q := 34) clz_0 dX1_addEnding_31 rfl rfl rfl (Nat.le_of_ble_eq_true rfl) fl_RX1_39 ?_
    refine V_iconst (q := 35) (v := 1) dX1_addEnding_34 rfl iconst_1 ?_
    refine V_isub (q := 36) dX1_addEnding_35 rfl ?_
    cases h
    exact V_iret rfl dX1_addEnding_36
  · replace h := ie h hb6
    refine V_iconst (q := 9) (v := (-1)) dX1_addEnding_8 rfl iconst_m1 ?_
    cases h
    exact V_iret rfl dX1_addEnding_9
def M_X7_ending : Mc := (RX7, cX7_ending, 5, { frames := 2, cells := 0, slots := 0, locals := 49 }, (some .int))
theorem ce_X7_ending : Cee M_X7_ending yX7_ending 0 := ⟨cd_yX7_ending, ini_RX7, ⟨by decide +kernel, by decide +kernel, by decide +kernel⟩, rfl, rfl⟩
set_option maxRecDepth 20000 in
theorem ct_X7_ending (Y : Yc) {σ : Sg}  {r : Int32} {σr : Sg} (h : f_X7_ending σ  = some (r, σr)) : Ct M_X7_ending yX7_ending Y [.ref (ad Y 0)] σ (some (.int r)) σr := by
  refine Ct_intro [some (.ref (ad Y 0)), none, none, none, none] (by decide +kernel) rfl (Nat.le_of_ble_eq_true rfl) rfl (fun X hY => ?_) ⟨rfl, rfl⟩
  subst hY
  unfold f_X7_ending at h
  refine V_aload_n (q := 1) dX7_ending_0 rfl rfl ?_
  refine V_getr (k := 0) (j := 0) (q := 4) clz_6 dX7_ending_1 rfl rfl rfl (Nat.le_of_ble_eq_true rfl) fl_RX7_10 ?_
  obtain ⟨x1, s3, hc2, h⟩ := cA_ok h
  refine V_cv1 (k := 1) (q := 7) (As := []) (rest := []) (ct_X5_takeWords (xY X) hc2) ce_X5_takeWords clz_4 rfl im_yX5_takeWords se_yX5_takeWords rfl ml_RX7_80 rfl ⟨Nat.le_of_ble_eq_true rfl, Nat.le_of_ble_eq_true rfl⟩ rfl (Nat.le_of_ble_eq_true rfl) dX7_ending_4 rfl ?_
  refine V_istore_n (q := 8) (L' := [some (.ref (ad (xY X) 0)), some (.int x1), none, none, none]) dX7_ending_7 rfl (Nat.le_of_ble_eq_true rfl) rfl ?_
  refine V_aload_n (q := 9) dX7_ending_8 rfl rfl ?_
  refine V_getr (k := 0) (j := 0) (q := 12) clz_6 dX7_ending_9 rfl rfl rfl (Nat.le_of_ble_eq_true rfl) fl_RX7_10 ?_
  refine V_getr (k := 1) (j := 2) (q := 15) clz_4 dX7_ending_12 rfl rfl rfl (Nat.le_of_ble_eq_true rfl) fl_RX7_84 ?_
  refine V_iconst (q := 16) (v := 0) dX7_ending_15 rfl iconst_0 ?_
  obtain ⟨hi5, x4, ex6, h⟩ := rL_ok h
  refine V_lald (k := 3) (q := 17) dX7_ending_16 rfl rfl hi5 ex6 ?_
  refine V_lstore_n (q := 18) (L' := [some (.ref (ad (xY X) 0)), some (.int x1), some (.long x4), none, none]) dX7_ending_17 rfl (Nat.le_of_ble_eq_true rfl) rfl ?_
  refine V_iload_n (q := 19) dX7_ending_18 rfl rfl ?_
  refine V_iconst (q := 20) (v := 1) dX7_ending_19 rfl iconst_1 ?_
  refine V_icmp_ne (q := 42) (q2 := 23) dX7_ending_20 rfl rfl (fun hb20 => ?_) (fun hb20 => ?_)
  · replace h := ie h hb20
    refine V_ldc (q := 44) kc_RX7_92 dX7_ending_42 rfl ?_
    cases h
    exact V_iret rfl dX7_ending_44
  · replace h := it h hb20
    refine V_lload_n (q := 24) dX7_ending_23 rfl rfl ?_
    obtain ⟨x7, hc8, h⟩ := cP_ok h
    refine V_cs1 (q := 27) (As := [.long x4]) (rest := []) (ct_X0_sizeOf (xY X) hc8) ce_X0_sizeOf st_yX0_sizeOf ml_RX7_100 rfl ⟨Nat.le_of_ble_eq_true rfl, Nat.le_of_ble_eq_true rfl⟩ rfl (Nat.le_of_ble_eq_true rfl) dX7_ending_24 rfl ?_
    refine V_iconst (q := 28) (v := 4) dX7_ending_27 rfl iconst_4 ?_
    refine V_icmp_gt (q := 42) (q2 := 31) dX7_ending_28 rfl rfl (fun hb19 => ?_) (fun hb19 => ?_)
    · replace h := it h hb19
      refine V_ldc (q := 44) kc_RX7_92 dX7_ending_42 rfl ?_
      cases h
      exact V_iret rfl dX7_ending_44
    · replace h := ie h hb19
      refine V_aload_n (q := 32) dX7_ending_31 rfl rfl ?_
      refine V_getr (k := 0) (j := 1) (q := 35) clz_6 dX7_ending_32 rfl rfl rfl (Nat.le_of_ble_eq_true rfl) fl_RX7_19 ?_
      refine V_lload_n (q := 36) dX7_ending_35 rfl rfl ?_
      obtain ⟨x9, hc10, h⟩ := cP_ok h
      refine V_cv1 (k := 4) (q := 39) (As := [.long x4]) (rest := []) (ct_X1_hasEnding (xY X) hc10) ce_X1_hasEnding clz_0 rfl im_yX1_hasEnding se_yX1_hasEnding rfl ml_RX7_104 rfl ⟨Nat.le_of_ble_eq_true rfl, Nat.le_of_ble_eq_true rfl⟩ rfl (Nat.le_of_ble_eq_true rfl) dX7_ending_36 rfl ?_
      refine V_if_eq (q := 45) (q2 := 42) dX7_ending_39 rfl rfl (fun hb18 => ?_) (fun hb18 => ?_)
      · replace h := it h hb18
        refine V_aload_n (q := 46) dX7_ending_45 rfl rfl ?_
        refine V_getr (k := 0) (j := 1) (q := 49) clz_6 dX7_ending_46 rfl rfl rfl (Nat.le_of_ble_eq_true rfl) fl_RX7_19 ?_
        refine V_lload_n (q := 50) dX7_ending_49 rfl rfl ?_
        obtain ⟨x11, s13, hc12, h⟩ := cA_ok h
        refine V_cv1 (k := 4) (q := 53) (As := [.long x4]) (rest := []) (ct_X1_addEnding (xY X) hc12) ce_X1_addEnding clz_0 rfl im_yX1_addEnding se_yX1_addEnding rfl ml_RX7_108 rfl ⟨Nat.le_of_ble_eq_true rfl, Nat.le_of_ble_eq_true rfl⟩ rfl (Nat.le_of_ble_eq_true rfl) dX7_ending_50 rfl ?_
        refine V_istore (q := 55) (L' := [some (.ref (ad (xY X) 0)), some (.int x1), some (.long x4), none, some (.int x11)]) dX7_ending_53 rfl (Nat.le_of_ble_eq_true rfl) rfl ?_
        refine V_iload (q := 57) dX7_ending_55 rfl rfl ?_
        refine V_iconst (q := 58) (v := (-1)) dX7_ending_57 rfl iconst_m1 ?_
        refine V_icmp_ne (q := 64) (q2 := 61) dX7_ending_58 rfl rfl (fun hb17 => ?_) (fun hb17 => ?_)
        · replace h := ie h hb17
          refine V_aload_n (q := 65) dX7_ending_64 rfl rfl ?_
          obtain ⟨x14, s16, hc15, h⟩ := cA_ok h
          refine V_cv0 (k := 0) (q := 68) (As := []) (rest := []) (ct_X7_termsChanged (xY X) hc15) ce_X7_termsChanged clz_6 rfl im_yX7_termsChanged se_yX7_termsChanged rfl ml_RX7_97 rfl ⟨Nat.le_of_ble_eq_true rfl, Nat.le_of_ble_eq_true rfl⟩ rfl (Nat.le_of_ble_eq_true rfl) dX7_ending_65 rfl ?_
          refine V_iload (q := 70) dX7_ending_68 rfl rfl ?_
          cases h
          exact V_iret rfl dX7_ending_70
        · replace h := it h hb17
          refine V_ldc (q := 63) kc_RX7_73 dX7_ending_61 rfl ?_
          cases h
          exact V_iret rfl dX7_ending_63
      · replace h := ie h hb18
        refine V_ldc (q := 44) kc_RX7_92 dX7_ending_42 rfl ?_
        cases h
        exact V_iret rfl dX7_ending_44
