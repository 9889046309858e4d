/-- the step of spell: both answer alike, and the invariant stands behind them -/
def Ps_spell (Inv : Sg → Prop) : Prop := ∀ (σ : Sg) (a1 : Int32), Inv σ → ∃ (r : Int32) (σ1 σ2 : Sg), f_X7_spell σ a1 = some (r, σ1) ∧ f_X8_spell σ1 a1 = some (r, σ2) ∧ Inv σ2
/-- the step of term: both answer alike, and the invariant stands behind them -/
def Ps_term (Inv : Sg → Prop) : Prop := ∀ (σ : Sg) (a1 a2 : Int32), Inv σ → ∃ (r : Int32) (σ1 σ2 : Sg), f_X7_term σ a1 a2 = some (r, σ1) ∧ f_X8_term σ1 a1 a2 = some (r, σ2) ∧ Inv σ2
/-- the step of ending: both answer alike, and the invariant stands behind them -/
def Ps_ending (Inv : Sg → Prop) : Prop := ∀ (σ : Sg), Inv σ → ∃ (r : Int32) (σ1 σ2 : Sg), f_X7_ending σ  = some (r, σ1) ∧ f_X8_ending σ1  = some (r, σ2) ∧ Inv σ2
/-- the step of dropTerm: both answer alike, and the invariant stands behind them -/
def Ps_dropTerm (Inv : Sg → Prop) : Prop := ∀ (σ : Sg) (a1 : Int32), Inv σ → ∃ (r : Int32) (σ1 σ2 : Sg), f_X7_dropTerm σ a1 = some (r, σ1) ∧ f_X8_dropTerm σ1 a1 = some (r, σ2) ∧ Inv σ2
/-- the step of dropEnding: both answer alike, and the invariant stands behind them -/
def Ps_dropEnding (Inv : Sg → Prop) : Prop := ∀ (σ : Sg) (a1 : Int32), Inv σ → ∃ (r : Int32) (σ1 σ2 : Sg), f_X7_dropEnding σ a1 = some (r, σ1) ∧ f_X8_dropEnding σ1 a1 = some (r, σ2) ∧ Inv σ2
/-- the step of forbid: both answer alike, and the invariant stands behind them -/
def Ps_forbid (Inv : Sg → Prop) : Prop := ∀ (σ : Sg) (a1 a2 : Int32), Inv σ → ∃ (r : Int32) (σ1 σ2 : Sg), f_X7_forbid σ a1 a2 = some (r, σ1) ∧ f_X8_forbid σ1 a1 a2 = some (r, σ2) ∧ Inv σ2
/-- the step of allow: both answer alike, and the invariant stands behind them -/
def Ps_allow (Inv : Sg → Prop) : Prop := ∀ (σ : Sg) (a1 : Int32), Inv σ → ∃ (r : Int32) (σ1 σ2 : Sg), f_X7_allow σ a1 = some (r, σ1) ∧ f_X8_allow σ1 a1 = some (r, σ2) ∧ Inv σ2
/-- the step of change: both answer alike, and the invariant stands behind them -/
def Ps_change (Inv : Sg → Prop) : Prop := ∀ (σ : Sg) (a1 a2 a3 : Int32), Inv σ → ∃ (r : Int32) (σ1 σ2 : Sg), f_X7_change σ a1 a2 a3 = some (r, σ1) ∧ f_X8_change σ1 a1 a2 a3 = some (r, σ2) ∧ Inv σ2
/-- the step of termOf: both answer alike, and the invariant stands behind them -/
def Ps_termOf (Inv : Sg → Prop) : Prop := ∀ (σ : Sg) (a1 a2 : Int32), Inv σ → ∃ (r : Int32) (σ1 σ2 : Sg), f_X7_termOf σ a1 a2 = some (r, σ1) ∧ f_X8_termOf σ1 a1 a2 = some (r, σ2) ∧ Inv σ2
/-- the step of letter: both answer alike, and the invariant stands behind them -/
def Ps_letter (Inv : Sg → Prop) : Prop := ∀ (σ : Sg) (a1 a2 a3 : Int32), Inv σ → ∃ r : Int32, f_X7_letter σ a1 a2 a3 = some r ∧ f_X8_letter σ a1 a2 a3 = some r
/-- the step of read: both answer alike, and the invariant stands behind them -/
def Ps_read (Inv : Sg → Prop) : Prop := ∀ (σ : Sg) (a1 : Int32), Inv σ → ∃ (r : Int32) (σ1 σ2 : Sg), f_X7_read σ a1 = some (r, σ1) ∧ f_X8_read σ1 a1 = some (r, σ2) ∧ Inv σ2
/-- the step of wipe: both answer alike, and the invariant stands behind them -/
def Ps_wipe (Inv : Sg → Prop) : Prop := ∀ (σ : Sg), Inv σ → ∃ (r : Int32) (σ1 σ2 : Sg), f_X7_wipe σ  = some (r, σ1) ∧ f_X8_wipe σ1  = some (r, σ2) ∧ Inv σ2
/-- the step of drift: both answer alike, and the invariant stands behind them -/
def Ps_drift (Inv : Sg → Prop) : Prop := ∀ (σ : Sg) (a1 a2 : Int32), Inv σ → ∃ (r : Int32) (σ1 σ2 : Sg), f_X7_drift σ a1 a2 = some (r, σ1) ∧ f_X8_drift σ1 a1 a2 = some (r, σ2) ∧ Inv σ2
/-- the step of word: both answer alike, and the invariant stands behind them -/
def Ps_word (Inv : Sg → Prop) : Prop := ∀ (σ : Sg) (a1 a2 : Int32), Inv σ → ∃ (r : Int32) (σ1 σ2 : Sg), f_X7_word σ a1 a2 = some (r, σ1) ∧ f_X8_word σ1 a1 a2 = some (r, σ2) ∧ Inv σ2
/-- the step of told: both answer alike, and the invariant stands behind them -/
def Ps_told (Inv : Sg → Prop) : Prop := ∀ (σ : Sg) (a1 : Int32), Inv σ → ∃ (r : Int32) (σ1 σ2 : Sg), f_X7_told σ a1 = some (r, σ1) ∧ f_X8_told σ1 a1 = some (r, σ2) ∧ Inv σ2
/-- the step of found: both answer alike, and the invariant stands behind them -/
def Ps_found (Inv : Sg → Prop) : Prop := ∀ (σ : Sg) (a1 a2 : Int32), Inv σ → ∃ (r : Int32) (σ1 σ2 : Sg), f_X7_found σ a1 a2 = some (r, σ1) ∧ f_X8_found σ1 a1 a2 = some (r, σ2) ∧ Inv σ2
/-- the step of chosen: both answer alike, and the invariant stands behind them -/
def Ps_chosen (Inv : Sg → Prop) : Prop := ∀ (σ : Sg) (a1 a2 : Int32), Inv σ → ∃ (r : Int32) (σ1 σ2 : Sg), f_X7_chosen σ a1 a2 = some (r, σ1) ∧ f_X8_chosen σ1 a1 a2 = some (r, σ2) ∧ Inv σ2
/-- the step of longest: both answer alike, and the invariant stands behind them -/
def Ps_longest (Inv : Sg → Prop) : Prop := ∀ (σ : Sg) (a1 : Int32), Inv σ → ∃ (r : Int32) (σ1 : Sg), f_X7_longest σ a1 = some (r, σ1) ∧ f_X8_longest σ1 a1 = some r ∧ Inv σ1
/-- the step of sign: both answer alike, and the invariant stands behind them -/
def Ps_sign (Inv : Sg → Prop) : Prop := ∀ (σ : Sg) (a1 : Int32), Inv σ → ∃ (r : Int32) (σ1 σ2 : Sg), f_X7_sign σ a1 = some (r, σ1) ∧ f_X8_sign σ1 a1 = some (r, σ2) ∧ Inv σ2
/-- the step of same: both answer alike, and the invariant stands behind them -/
def Ps_same (Inv : Sg → Prop) : Prop := ∀ (σ : Sg) (a1 a2 : Int32), Inv σ → ∃ r : Int32, f_X7_same σ a1 a2 = some r ∧ f_X8_same σ a1 a2 = some r
/-- the step of keep: both answer alike, and the invariant stands behind them -/
def Ps_keep (Inv : Sg → Prop) : Prop := ∀ (σ : Sg) (a1 : Int32), Inv σ → ∃ (r : Int32) (σ1 σ2 : Sg), f_X7_keep σ a1 = some (r, σ1) ∧ f_X8_keep σ1 a1 = some (r, σ2) ∧ Inv σ2
/-- the step of goBack: both answer alike, and the invariant stands behind them -/
def Ps_goBack (Inv : Sg → Prop) : Prop := ∀ (σ : Sg) (a1 : Int32), Inv σ → ∃ (r : Int32) (σ1 σ2 : Sg), f_X7_goBack σ a1 = some (r, σ1) ∧ f_X8_goBack σ1 a1 = some (r, σ2) ∧ Inv σ2
def PStep (Inv : Sg → Prop) : Prop := Ps_spell Inv ∧ Ps_term Inv ∧ Ps_ending Inv ∧ Ps_dropTerm Inv ∧ Ps_dropEnding Inv ∧ Ps_forbid Inv ∧ Ps_allow Inv ∧ Ps_change Inv ∧ Ps_termOf Inv ∧ Ps_letter Inv ∧ Ps_read Inv ∧ Ps_wipe Inv ∧ Ps_drift Inv ∧ Ps_word Inv ∧ Ps_told Inv ∧ Ps_found Inv ∧ Ps_chosen Inv ∧ Ps_longest Inv ∧ Ps_sign Inv ∧ Ps_same Inv ∧ Ps_keep Inv ∧ Ps_goBack Inv
theorem law_more {m L : Nat} (hL : L ≤ 2048) (hm : m ≤ L) (h : ¬ (Int32.ofNat L - 4 < nI m)) : m + 4 ≤ L := by
  rcases Nat.lt_or_ge L (m + 4) with g | g
  · refine absurd (Int32.lt_iff_toInt_lt.mpr ?_) h
    show (nI L - nI 4).toInt < (nI m).toInt
    rw [pk_sub_toInt (by omega) (by omega), nI_toInt (by omega)]
    omega
  · exact g
theorem law_in {m k L : Nat} (h : m + k < L) (hL : L ≤ 2048) : vp_in (nI m + nI k) L := by
  rw [nI_add]
  exact vp_in_nI h (by omega)
theorem V_sld {X : Xc} {M : Mc} {Q : State → Prop} {pc q : Nat} {L : List (Option Value)} {st : List Value} {σ : Sg} {b n : Nat} {sc : Nat → Int32} {i : Int32} (hX : va_X b n sc (xs X) (xs X).heap) (hbl : b < (xs X).heap.size) (hbA : ¬ xA X b) (hin : vp_in i n) (d : decode M.2.1 pc = .ok (.iaload, 1)) (e : pc + 1 = q) (k : V X M Q q L (.int (sc i.toNatClampNeg) :: st) σ) : V X M Q pc L (.int i :: .ref b :: st) σ := fun ok H locs ls h1 h2 h3 h4 => by
  subst e
  exact va_sld ok.1 ok.2.1 hX hbl hbA h4 hin d (k ok H locs ls h1 h2 h3 h4)
theorem V_slen {X : Xc} {M : Mc} {Q : State → Prop} {pc q : Nat} {L : List (Option Value)} {st : List Value} {σ : Sg} {b n : Nat} {sc : Nat → Int32} (hX : va_X b n sc (xs X) (xs X).heap) (hbl : b < (xs X).heap.size) (hbA : ¬ xA X b) (d : decode M.2.1 pc = .ok (.arraylength, 1)) (e : pc + 1 = q) (k : V X M Q q L (.int (Int32.ofNat n) :: st) σ) : V X M Q pc L (.ref b :: st) σ := fun ok H locs ls h1 h2 h3 h4 => by
  subst e
  exact va_slen ok.1 ok.2.1 hX hbl hbA h4 d (k ok H locs ls h1 h2 h3 h4)
def M_law : Mc := (RL, cL_law, 4, room_1, some .boolean)
set_option maxRecDepth 20000 in
theorem law_loop {X : Xc} {Q : State → Prop} {b L : Nat} {sc : Nat → Int32} {Inv : Sg → Prop} (hp : PStep Inv) (hL : L ≤ 2048) (hX : va_X b L sc (xs X) (xs X).heap) (hbl : b < (xs X).heap.size) (hbA : ¬ xA X b) (hend : ∀ (σ : Sg) (i : Int32), V X M_law Q 748 [some (.ref b), some (.ref (ad (xY X) 0)), some (.ref (ad (xY X) 43)), some (.int i)] [] σ) :
    ∀ (n m : Nat) (σ : Sg), m ≤ L → L - m < n → Inv σ → V X M_law Q 18 [some (.ref b), some (.ref (ad (xY X) 0)), some (.ref (ad (xY X) 43)), some (.int (nI m))] [] σ := by
  obtain ⟨p_spell, p_term, p_ending, p_dropTerm, p_dropEnding, p_forbid, p_allow, p_change, p_termOf, p_letter, p_read, p_wipe, p_drift, p_word, p_told, p_found, p_chosen, p_longest, p_sign, p_same, p_keep, p_goBack⟩ := hp
  intro n
  induction n with
  | zero => intro m σ _ h; exact absurd h (Nat.not_lt_zero _)
  | succ n ih =>
    intro m σ hm hn hI
    refine V_iload_n (q := 19) dL_law_18 rfl rfl ?_
    refine V_aload_n (q := 20) dL_law_19 rfl rfl ?_
    refine V_slen (q := 21) hX hbl hbA dL_law_20 rfl ?_
    refine V_iconst (q := 22) (v := 4) dL_law_21 rfl iconst_4 ?_
    refine V_isub (q := 23) dL_law_22 rfl ?_
    refine V_icmp_gt (q := 748) (q2 := 26) dL_law_23 rfl rfl (fun _ => hend σ (nI m)) (fun hc => ?_)
    have h4 : m + 4 ≤ L := law_more hL hm hc
    refine V_aload_n (q := 27) dL_law_26 rfl rfl ?_
    refine V_iload_n (q := 28) dL_law_27 rfl rfl ?_
    refine V_sld (q := 29) hX hbl hbA (vp_in_nI (show m < L by omega) (by omega)) dL_law_28 rfl ?_
    refine V_bipush (q := 31) (v := 31) dL_law_29 rfl bipush_31 ?_
    refine V_iand (q := 32) dL_law_31 rfl ?_
    have hnext : ∀ σ2 : Sg, Inv σ2 → V X M_law Q 742 [some (.ref b), some (.ref (ad (xY X) 0)), some (.ref (ad (xY X) 43)), some (.int (nI m))] [] σ2 := by
      intro σ2 hI2
      refine V_iinc (q := 745) (v := 4) (L' := [some (.ref b), some (.ref (ad (xY X) 0)), some (.ref (ad (xY X) 43)), some (.int (nI m + 4))]) dL_law_742 rfl rfl iconst_4 (Nat.le_of_ble_eq_true rfl) rfl ?_
      refine V_goto (q := 18) dL_law_745 rfl ?_
      have e4 : nI m + 4 = nI (m + 4) := nI_add m 4
      rw [e4]
      exact ih (m + 4) σ2 h4 (by omega) hI2
    generalize hx : (sc (nI m).toNatClampNeg &&& 31) = x
    by_cases hb0 : x = 0
    · refine V_tsIn (q := 136) 0 hb0 dL_law_32 (by decide) (by decide) rfl rfl ?_
      obtain ⟨r, σ1, σ2, e1, e2, hI2⟩ := p_spell σ (sc (nI m + 1).toNatClampNeg) hI
      refine V_aload_n (q := 137) dL_law_136 rfl rfl ?_
      refine V_aload_n (q := 138) dL_law_137 rfl rfl ?_
      refine V_iload_n (q := 139) dL_law_138 rfl rfl ?_
      refine V_iconst (q := 140) (v := 1) dL_law_139 rfl iconst_1 ?_
      refine V_iadd (q := 141) dL_law_140 rfl ?_
      refine V_sld (q := 142) hX hbl hbA (law_in (k := 1) (by omega) hL) dL_law_141 rfl ?_
      refine V_cv1 (k := 0) (q := 145) (As := [.int (sc (nI m + 1).toNatClampNeg)]) (rest := []) (ct_X7_spell (xY X) e1) ce_X7_spell clz_6 rfl im_yX7_spell se_yX7_spell rfl ml_RL_13 rfl ⟨Nat.le_of_ble_eq_true rfl, Nat.le_of_ble_eq_true rfl⟩ rfl (Nat.le_of_ble_eq_true rfl) dL_law_142 rfl ?_
      refine V_aload_n (q := 146) dL_law_145 rfl rfl ?_
      refine V_aload_n (q := 147) dL_law_146 rfl rfl ?_
      refine V_iload_n (q := 148) dL_law_147 rfl rfl ?_
      refine V_iconst (q := 149) (v := 1) dL_law_148 rfl iconst_1 ?_
      refine V_iadd (q := 150) dL_law_149 rfl ?_
      refine V_sld (q := 151) hX hbl hbA (law_in (k := 1) (by omega) hL) dL_law_150 rfl ?_
      refine V_cv1 (k := 43) (q := 154) (As := [.int (sc (nI m + 1).toNatClampNeg)]) (rest := [.int r]) (ct_X8_spell (xY X) e2) ce_X8_spell clz_7 rfl im_yX8_spell se_yX8_spell rfl ml_RL_17 rfl ⟨Nat.le_of_ble_eq_true rfl, Nat.le_of_ble_eq_true rfl⟩ rfl (Nat.le_of_ble_eq_true rfl) dL_law_151 rfl ?_
      exact V_icmp_eq (q := 742) (q2 := 157) dL_law_154 rfl rfl (fun _ => hnext σ2 hI2) (fun hne => absurd rfl hne)
    by_cases hb1 : x = 1
    · refine V_tsIn (q := 159) 1 hb1 dL_law_32 (by decide) (by decide) rfl rfl ?_
      obtain ⟨r, σ1, σ2, e1, e2, hI2⟩ := p_term σ (sc (nI m + 1).toNatClampNeg) (sc (nI m + 2).toNatClampNeg) hI
      refine V_aload_n (q := 160) dL_law_159 rfl rfl ?_
      refine V_aload_n (q := 161) dL_law_160 rfl rfl ?_
      refine V_iload_n (q := 162) dL_law_161 rfl rfl ?_
      refine V_iconst (q := 163) (v := 1) dL_law_162 rfl iconst_1 ?_
      refine V_iadd (q := 164) dL_law_163 rfl ?_
      refine V_sld (q := 165) hX hbl hbA (law_in (k := 1) (by omega) hL) dL_law_164 rfl ?_
      refine V_aload_n (q := 166) dL_law_165 rfl rfl ?_
      refine V_iload_n (q := 167) dL_law_166 rfl rfl ?_
      refine V_iconst (q := 168) (v := 2) dL_law_167 rfl iconst_2 ?_
      refine V_iadd (q := 169) dL_law_168 rfl ?_
      refine V_sld (q := 170) hX hbl hbA (law_in (k := 2) (by omega) hL) dL_law_169 rfl ?_
      refine V_cv1 (k := 0) (q := 173) (As := [.int (sc (nI m + 1).toNatClampNeg), .int (sc (nI m + 2).toNatClampNeg)]) (rest := []) (ct_X7_term (xY X) e1) ce_X7_term clz_6 rfl im_yX7_term se_yX7_term rfl ml_RL_18 rfl ⟨Nat.le_of_ble_eq_true rfl, Nat.le_of_ble_eq_true rfl⟩ rfl (Nat.le_of_ble_eq_true rfl) dL_law_170 rfl ?_
      refine V_aload_n (q := 174) dL_law_173 rfl rfl ?_
      refine V_aload_n (q := 175) dL_law_174 rfl rfl ?_
      refine V_iload_n (q := 176) dL_law_175 rfl rfl ?_
      refine V_iconst (q := 177) (v := 1) dL_law_176 rfl iconst_1 ?_
      refine V_iadd (q := 178) dL_law_177 rfl ?_
      refine V_sld (q := 179) hX hbl hbA (law_in (k := 1) (by omega) hL) dL_law_178 rfl ?_
      refine V_aload_n (q := 180) dL_law_179 rfl rfl ?_
      refine V_iload_n (q := 181) dL_law_180 rfl rfl ?_
      refine V_iconst (q := 182) (v := 2) dL_law_181 rfl iconst_2 ?_
      refine V_iadd (q := 183) dL_law_182 rfl ?_
      refine V_sld (q := 184) hX hbl hbA (law_in (k := 2) (by omega) hL) dL_law_183 rfl ?_
      refine V_cv1 (k := 43) (q := 187) (As := [.int (sc (nI m + 1).toNatClampNeg), .int (sc (nI m + 2).toNatClampNeg)]) (rest := [.int r]) (ct_X8_term (xY X) e2) ce_X8_term clz_7 rfl im_yX8_term se_yX8_term rfl ml_RL_22 rfl ⟨Nat.le_of_ble_eq_true rfl, Nat.le_of_ble_eq_true rfl⟩ rfl (Nat.le_of_ble_eq_true rfl) dL_law_184 rfl ?_
      exact V_icmp_eq (q := 742) (q2 := 190) dL_law_187 rfl rfl (fun _ => hnext σ2 hI2) (fun hne => absurd rfl hne)
    by_cases hb2 : x = 2
    · refine V_tsIn (q := 192) 2 hb2 dL_law_32 (by decide) (by decide) rfl rfl ?_
      obtain ⟨r, σ1, σ2, e1, e2, hI2⟩ := p_ending σ  hI
      refine V_aload_n (q := 193) dL_law_192 rfl rfl ?_
      refine V_cv1 (k := 0) (q := 196) (As := []) (rest := []) (ct_X7_ending (xY X) e1) ce_X7_ending clz_6 rfl im_yX7_ending se_yX7_ending rfl ml_RL_23 rfl ⟨Nat.le_of_ble_eq_true rfl, Nat.le_of_ble_eq_true rfl⟩ rfl (Nat.le_of_ble_eq_true rfl) dL_law_193 rfl ?_
      refine V_aload_n (q := 197) dL_law_196 rfl rfl ?_
      refine V_cv1 (k := 43) (q := 200) (As := []) (rest := [.int r]) (ct_X8_ending (xY X) e2) ce_X8_ending clz_7 rfl im_yX8_ending se_yX8_ending rfl ml_RL_27 rfl ⟨Nat.le_of_ble_eq_true rfl, Nat.le_of_ble_eq_true rfl⟩ rfl (Nat.le_of_ble_eq_true rfl) dL_law_197 rfl ?_
      exact V_icmp_eq (q := 742) (q2 := 203) dL_law_200 rfl rfl (fun _ => hnext σ2 hI2) (fun hne => absurd rfl hne)
    by_cases hb3 : x = 3
    · refine V_tsIn (q := 205) 3 hb3 dL_law_32 (by decide) (by decide) rfl rfl ?_
      obtain ⟨r, σ1, σ2, e1, e2, hI2⟩ := p_dropTerm σ (sc (nI m + 1).toNatClampNeg) hI
      refine V_aload_n (q := 206) dL_law_205 rfl rfl ?_
      refine V_aload_n (q := 207) dL_law_206 rfl rfl ?_
      refine V_iload_n (q := 208) dL_law_207 rfl rfl ?_
      refine V_iconst (q := 209) (v := 1) dL_law_208 rfl iconst_1 ?_
      refine V_iadd (q := 210) dL_law_209 rfl ?_
      refine V_sld (q := 211) hX hbl hbA (law_in (k := 1) (by omega) hL) dL_law_210 rfl ?_
      refine V_cv1 (k := 0) (q := 214) (As := [.int (sc (nI m + 1).toNatClampNeg)]) (rest := []) (ct_X7_dropTerm (xY X) e1) ce_X7_dropTerm clz_6 rfl im_yX7_dropTerm se_yX7_dropTerm rfl ml_RL_28 rfl ⟨Nat.le_of_ble_eq_true rfl, Nat.le_of_ble_eq_true rfl⟩ rfl (Nat.le_of_ble_eq_true rfl) dL_law_211 rfl ?_
      refine V_aload_n (q := 215) dL_law_214 rfl rfl ?_
      refine V_aload_n (q := 216) dL_law_215 rfl rfl ?_
      refine V_iload_n (q := 217) dL_law_216 rfl rfl ?_
      refine V_iconst (q := 218) (v := 1) dL_law_217 rfl iconst_1 ?_
      refine V_iadd (q := 219) dL_law_218 rfl ?_
      refine V_sld (q := 220) hX hbl hbA (law_in (k := 1) (by omega) hL) dL_law_219 rfl ?_
      refine V_cv1 (k := 43) (q := 223) (As := [.int (sc (nI m + 1).toNatClampNeg)]) (rest := [.int r]) (ct_X8_dropTerm (xY X) e2) ce_X8_dropTerm clz_7 rfl im_yX8_dropTerm se_yX8_dropTerm rfl ml_RL_31 rfl ⟨Nat.le_of_ble_eq_true rfl, Nat.le_of_ble_eq_true rfl⟩ rfl (Nat.le_of_ble_eq_true rfl) dL_law_220 rfl ?_
      exact V_icmp_eq (q := 742) (q2 := 226) dL_law_223 rfl rfl (fun _ => hnext σ2 hI2) (fun hne => absurd rfl hne)
    by_cases hb4 : x = 4
    · refine V_tsIn (q := 228) 4 hb4 dL_law_32 (by decide) (by decide) rfl rfl ?_
      obtain ⟨r, σ1, σ2, e1, e2, hI2⟩ := p_dropEnding σ (sc (nI m + 1).toNatClampNeg) hI
      refine V_aload_n (q := 229) dL_law_228 rfl rfl ?_
      refine V_aload_n (q := 230) dL_law_229 rfl rfl ?_
      refine V_iload_n (q := 231) dL_law_230 rfl rfl ?_
      refine V_iconst (q := 232) (v := 1) dL_law_231 rfl iconst_1 ?_
      refine V_iadd (q := 233) dL_law_232 rfl ?_
      refine V_sld (q := 234) hX hbl hbA (law_in (k := 1) (by omega) hL) dL_law_233 rfl ?_
      refine V_cv1 (k := 0) (q := 237) (As := [.int (sc (nI m + 1).toNatClampNeg)]) (rest := []) (ct_X7_dropEnding (xY X) e1) ce_X7_dropEnding clz_6 rfl im_yX7_dropEnding se_yX7_dropEnding rfl ml_RL_32 rfl ⟨Nat.le_of_ble_eq_true rfl, Nat.le_of_ble_eq_true rfl⟩ rfl (Nat.le_of_ble_eq_true rfl) dL_law_234 rfl ?_
      refine V_aload_n (q := 238) dL_law_237 rfl rfl ?_
      refine V_aload_n (q := 239) dL_law_238 rfl rfl ?_
      refine V_iload_n (q := 240) dL_law_239 rfl rfl ?_
      refine V_iconst (q := 241) (v := 1) dL_law_240 rfl iconst_1 ?_
      refine V_iadd (q := 242) dL_law_241 rfl ?_
      refine V_sld (q := 243) hX hbl hbA (law_in (k := 1) (by omega) hL) dL_law_242 rfl ?_
      refine V_cv1 (k := 43) (q := 246) (As := [.int (sc (nI m + 1).toNatClampNeg)]) (rest := [.int r]) (ct_X8_dropEnding (xY X) e2) ce_X8_dropEnding clz_7 rfl im_yX8_dropEnding se_yX8_dropEnding rfl ml_RL_35 rfl ⟨Nat.le_of_ble_eq_true rfl, Nat.le_of_ble_eq_true rfl⟩ rfl (Nat.le_of_ble_eq_true rfl) dL_law_243 rfl ?_
      exact V_icmp_eq (q := 742) (q2 := 249) dL_law_246 rfl rfl (fun _ => hnext σ2 hI2) (fun hne => absurd rfl hne)
    by_cases hb5 : x = 5
    · refine V_tsIn (q := 251) 5 hb5 dL_law_32 (by decide) (by decide) rfl rfl ?_
      obtain ⟨r, σ1, σ2, e1, e2, hI2⟩ := p_forbid σ (sc (nI m + 1).toNatClampNeg) (sc (nI m + 2).toNatClampNeg) hI
      refine V_aload_n (q := 252) dL_law_251 rfl rfl ?_
      refine V_aload_n (q := 253) dL_law_252 rfl rfl ?_
      refine V_iload_n (q := 254) dL_law_253 rfl rfl ?_
      refine V_iconst (q := 255) (v := 1) dL_law_254 rfl iconst_1 ?_
      refine V_iadd (q := 256) dL_law_255 rfl ?_
      refine V_sld (q := 257) hX hbl hbA (law_in (k := 1) (by omega) hL) dL_law_256 rfl ?_
      refine V_aload_n (q := 258) dL_law_257 rfl rfl ?_
      refine V_iload_n (q := 259) dL_law_258 rfl rfl ?_
      refine V_iconst (q := 260) (v := 2) dL_law_259 rfl iconst_2 ?_
      refine V_iadd (q := 261) dL_law_260 rfl ?_
      refine V_sld (q := 262) hX hbl hbA (law_in (k := 2) (by omega) hL) dL_law_261 rfl ?_
      refine V_cv1 (k := 0) (q := 265) (As := [.int (sc (nI m + 1).toNatClampNeg), .int (sc (nI m + 2).toNatClampNeg)]) (rest := []) (ct_X7_forbid (xY X) e1) ce_X7_forbid clz_6 rfl im_yX7_forbid se_yX7_forbid rfl ml_RL_36 rfl ⟨Nat.le_of_ble_eq_true rfl, Nat.le_of_ble_eq_true rfl⟩ rfl (Nat.le_of_ble_eq_true rfl) dL_law_262 rfl ?_
      refine V_aload_n (q := 266) dL_law_265 rfl rfl ?_
      refine V_aload_n (q := 267) dL_law_266 rfl rfl ?_
      refine V_iload_n (q := 268) dL_law_267 rfl rfl ?_
      refine V_iconst (q := 269) (v := 1) dL_law_268 rfl iconst_1 ?_
      refine V_iadd (q := 270) dL_law_269 rfl ?_
      refine V_sld (q := 271) hX hbl hbA (law_in (k := 1) (by omega) hL) dL_law_270 rfl ?_
      refine V_aload_n (q := 272) dL_law_271 rfl rfl ?_
      refine V_iload_n (q := 273) dL_law_272 rfl rfl ?_
      refine V_iconst (q := 274) (v := 2) dL_law_273 rfl iconst_2 ?_
      refine V_iadd (q := 275) dL_law_274 rfl ?_
      refine V_sld (q := 276) hX hbl hbA (law_in (k := 2) (by omega) hL) dL_law_275 rfl ?_
      refine V_cv1 (k := 43) (q := 279) (As := [.int (sc (nI m + 1).toNatClampNeg), .int (sc (nI m + 2).toNatClampNeg)]) (rest := [.int r]) (ct_X8_forbid (xY X) e2) ce_X8_forbid clz_7 rfl im_yX8_forbid se_yX8_forbid rfl ml_RL_39 rfl ⟨Nat.le_of_ble_eq_true rfl, Nat.le_of_ble_eq_true rfl⟩ rfl (Nat.le_of_ble_eq_true rfl) dL_law_276 rfl ?_
      exact V_icmp_eq (q := 742) (q2 := 282) dL_law_279 rfl rfl (fun _ => hnext σ2 hI2) (fun hne => absurd rfl hne)
    by_cases hb6 : x = 6
    · refine V_tsIn (q := 284) 6 hb6 dL_law_32 (by decide) (by decide) rfl rfl ?_
      obtain ⟨r, σ1, σ2, e1, e2, hI2⟩ := p_allow σ (sc (nI m + 1).toNatClampNeg) hI
      refine V_aload_n (q := 285) dL_law_284 rfl rfl ?_
      refine V_aload_n (q := 286) dL_law_285 rfl rfl ?_
      refine V_iload_n (q := 287) dL_law_286 rfl rfl ?_
      refine V_iconst (q := 288) (v := 1) dL_law_287 rfl iconst_1 ?_
      refine V_iadd (q := 289) dL_law_288 rfl ?_
      refine V_sld (q := 290) hX hbl hbA (law_in (k := 1) (by omega) hL) dL_law_289 rfl ?_
      refine V_cv1 (k := 0) (q := 293) (As := [.int (sc (nI m + 1).toNatClampNeg)]) (rest := []) (ct_X7_allow (xY X) e1) ce_X7_allow clz_6 rfl im_yX7_allow se_yX7_allow rfl ml_RL_40 rfl ⟨Nat.le_of_ble_eq_true rfl, Nat.le_of_ble_eq_true rfl⟩ rfl (Nat.le_of_ble_eq_true rfl) dL_law_290 rfl ?_
      refine V_aload_n (q := 294) dL_law_293 rfl rfl ?_
      refine V_aload_n (q := 295) dL_law_294 rfl rfl ?_
      refine V_iload_n (q := 296) dL_law_295 rfl rfl ?_
      refine V_iconst (q := 297) (v := 1) dL_law_296 rfl iconst_1 ?_
      refine V_iadd (q := 298) dL_law_297 rfl ?_
      refine V_sld (q := 299) hX hbl hbA (law_in (k := 1) (by omega) hL) dL_law_298 rfl ?_
      refine V_cv1 (k := 43) (q := 302) (As := [.int (sc (nI m + 1).toNatClampNeg)]) (rest := [.int r]) (ct_X8_allow (xY X) e2) ce_X8_allow clz_7 rfl im_yX8_allow se_yX8_allow rfl ml_RL_43 rfl ⟨Nat.le_of_ble_eq_true rfl, Nat.le_of_ble_eq_true rfl⟩ rfl (Nat.le_of_ble_eq_true rfl) dL_law_299 rfl ?_
      exact V_icmp_eq (q := 742) (q2 := 305) dL_law_302 rfl rfl (fun _ => hnext σ2 hI2) (fun hne => absurd rfl hne)
    by_cases hb7 : x = 7
    · refine V_tsIn (q := 307) 7 hb7 dL_law_32 (by decide) (by decide) rfl rfl ?_
      obtain ⟨r, σ1, σ2, e1, e2, hI2⟩ := p_change σ (sc (nI m + 1).toNatClampNeg) (sc (nI m + 2).toNatClampNeg) (sc (nI m + 3).toNatClampNeg) hI
      refine V_aload_n (q := 308) dL_law_307 rfl rfl ?_
      refine V_aload_n (q := 309) dL_law_308 rfl rfl ?_
      refine V_iload_n (q := 310) dL_law_309 rfl rfl ?_
      refine V_iconst (q := 311) (v := 1) dL_law_310 rfl iconst_1 ?_
      refine V_iadd (q := 312) dL_law_311 rfl ?_
      refine V_sld (q := 313) hX hbl hbA (law_in (k := 1) (by omega) hL) dL_law_312 rfl ?_
      refine V_aload_n (q := 314) dL_law_313 rfl rfl ?_
      refine V_iload_n (q := 315) dL_law_314 rfl rfl ?_
      refine V_iconst (q := 316) (v := 2) dL_law_315 rfl iconst_2 ?_
      refine V_iadd (q := 317) dL_law_316 rfl ?_
      refine V_sld (q := 318) hX hbl hbA (law_in (k := 2) (by omega) hL) dL_law_317 rfl ?_
      refine V_aload_n (q := 319) dL_law_318 rfl rfl ?_
      refine V_iload_n (q := 320) dL_law_319 rfl rfl ?_
      refine V_iconst (q := 321) (v := 3) dL_law_320 rfl iconst_3 ?_
      refine V_iadd (q := 322) dL_law_321 rfl ?_
      refine V_sld (q := 323) hX hbl hbA (law_in (k := 3) (by omega) hL) dL_law_322 rfl ?_
      refine V_cv1 (k := 0) (q := 326) (As := [.int (sc (nI m + 1).toNatClampNeg), .int (sc (nI m + 2).toNatClampNeg), .int (sc (nI m + 3).toNatClampNeg)]) (rest := []) (ct_X7_change (xY X) e1) ce_X7_change clz_6 rfl im_yX7_change se_yX7_change rfl ml_RL_44 rfl ⟨Nat.le_of_ble_eq_true rfl, Nat.le_of_ble_eq_true rfl⟩ rfl (Nat.le_of_ble_eq_true rfl) dL_law_323 rfl ?_
      refine V_aload_n (q := 327) dL_law_326 rfl rfl ?_
      refine V_aload_n (q := 328) dL_law_327 rfl rfl ?_
      refine V_iload_n (q := 329) dL_law_328 rfl rfl ?_
      refine V_iconst (q := 330) (v := 1) dL_law_329 rfl iconst_1 ?_
      refine V_iadd (q := 331) dL_law_330 rfl ?_
      refine V_sld (q := 332) hX hbl hbA (law_in (k := 1) (by omega) hL) dL_law_331 rfl ?_
      refine V_aload_n (q := 333) dL_law_332 rfl rfl ?_
      refine V_iload_n (q := 334) dL_law_333 rfl rfl ?_
      refine V_iconst (q := 335) (v := 2) dL_law_334 rfl iconst_2 ?_
      refine V_iadd (q := 336) dL_law_335 rfl ?_
      refine V_sld (q := 337) hX hbl hbA (law_in (k := 2) (by omega) hL) dL_law_336 rfl ?_
      refine V_aload_n (q := 338) dL_law_337 rfl rfl ?_
      refine V_iload_n (q := 339) dL_law_338 rfl rfl ?_
      refine V_iconst (q := 340) (v := 3) dL_law_339 rfl iconst_3 ?_
      refine V_iadd (q := 341) dL_law_340 rfl ?_
      refine V_sld (q := 342) hX hbl hbA (law_in (k := 3) (by omega) hL) dL_law_341 rfl ?_
      refine V_cv1 (k := 43) (q := 345) (As := [.int (sc (nI m + 1).toNatClampNeg), .int (sc (nI m + 2).toNatClampNeg), .int (sc (nI m + 3).toNatClampNeg)]) (rest := [.int r]) (ct_X8_change (xY X) e2) ce_X8_change clz_7 rfl im_yX8_change se_yX8_change rfl ml_RL_48 rfl ⟨Nat.le_of_ble_eq_true rfl, Nat.le_of_ble_eq_true rfl⟩ rfl (Nat.le_of_ble_eq_true rfl) dL_law_342 rfl ?_
      exact V_icmp_eq (q := 742) (q2 := 348) dL_law_345 rfl rfl (fun _ => hnext σ2 hI2) (fun hne => absurd rfl hne)
    by_cases hb8 : x = 8
    · refine V_tsIn (q := 350) 8 hb8 dL_law_32 (by decide) (by decide) rfl rfl ?_
      obtain ⟨r, σ1, σ2, e1, e2, hI2⟩ := p_termOf σ (sc (nI m + 1).toNatClampNeg) (sc (nI m + 2).toNatClampNeg) hI
      refine V_aload_n (q := 351) dL_law_350 rfl rfl ?_
      refine V_aload_n (q := 352) dL_law_351 rfl rfl ?_
      refine V_iload_n (q := 353) dL_law_352 rfl rfl ?_
      refine V_iconst (q := 354) (v := 1) dL_law_353 rfl iconst_1 ?_
      refine V_iadd (q := 355) dL_law_354 rfl ?_
      refine V_sld (q := 356) hX hbl hbA (law_in (k := 1) (by omega) hL) dL_law_355 rfl ?_
      refine V_aload_n (q := 357) dL_law_356 rfl rfl ?_
      refine V_iload_n (q := 358) dL_law_357 rfl rfl ?_
      refine V_iconst (q := 359) (v := 2) dL_law_358 rfl iconst_2 ?_
      refine V_iadd (q := 360) dL_law_359 rfl ?_
      refine V_sld (q := 361) hX hbl hbA (law_in (k := 2) (by omega) hL) dL_law_360 rfl ?_
      refine V_cv1 (k := 0) (q := 364) (As := [.int (sc (nI m + 1).toNatClampNeg), .int (sc (nI m + 2).toNatClampNeg)]) (rest := []) (ct_X7_termOf (xY X) e1) ce_X7_termOf clz_6 rfl im_yX7_termOf se_yX7_termOf rfl ml_RL_49 rfl ⟨Nat.le_of_ble_eq_true rfl, Nat.le_of_ble_eq_true rfl⟩ rfl (Nat.le_of_ble_eq_true rfl) dL_law_361 rfl ?_
      refine V_aload_n (q := 365) dL_law_364 rfl rfl ?_
      refine V_aload_n (q := 366) dL_law_365 rfl rfl ?_
      refine V_iload_n (q := 367) dL_law_366 rfl rfl ?_
      refine V_iconst (q := 368) (v := 1) dL_law_367 rfl iconst_1 ?_
      refine V_iadd (q := 369) dL_law_368 rfl ?_
      refine V_sld (q := 370) hX hbl hbA (law_in (k := 1) (by omega) hL) dL_law_369 rfl ?_
      refine V_aload_n (q := 371) dL_law_370 rfl rfl ?_
      refine V_iload_n (q := 372) dL_law_371 rfl rfl ?_
      refine V_iconst (q := 373) (v := 2) dL_law_372 rfl iconst_2 ?_
      refine V_iadd (q := 374) dL_law_373 rfl ?_
      refine V_sld (q := 375) hX hbl hbA (law_in (k := 2) (by omega) hL) dL_law_374 rfl ?_
      refine V_cv1 (k := 43) (q := 378) (As := [.int (sc (nI m + 1).toNatClampNeg), .int (sc (nI m + 2).toNatClampNeg)]) (rest := [.int r]) (ct_X8_termOf (xY X) e2) ce_X8_termOf clz_7 rfl im_yX8_termOf se_yX8_termOf rfl ml_RL_52 rfl ⟨Nat.le_of_ble_eq_true rfl, Nat.le_of_ble_eq_true rfl⟩ rfl (Nat.le_of_ble_eq_true rfl) dL_law_375 rfl ?_
      exact V_icmp_eq (q := 742) (q2 := 381) dL_law_378 rfl rfl (fun _ => hnext σ2 hI2) (fun hne => absurd rfl hne)
    by_cases hb9 : x = 9
    · refine V_tsIn (q := 383) 9 hb9 dL_law_32 (by decide) (by decide) rfl rfl ?_
      obtain ⟨r, e1, e2⟩ := p_letter σ (sc (nI m + 1).toNatClampNeg) (sc (nI m + 2).toNatClampNeg) (sc (nI m + 3).toNatClampNeg) hI
      refine V_aload_n (q := 384) dL_law_383 rfl rfl ?_
      refine V_aload_n (q := 385) dL_law_384 rfl rfl ?_
      refine V_iload_n (q := 386) dL_law_385 rfl rfl ?_
      refine V_iconst (q := 387) (v := 1) dL_law_386 rfl iconst_1 ?_
      refine V_iadd (q := 388) dL_law_387 rfl ?_
      refine V_sld (q := 389) hX hbl hbA (law_in (k := 1) (by omega) hL) dL_law_388 rfl ?_
      refine V_aload_n (q := 390) dL_law_389 rfl rfl ?_
      refine V_iload_n (q := 391) dL_law_390 rfl rfl ?_
      refine V_iconst (q := 392) (v := 2) dL_law_391 rfl iconst_2 ?_
      refine V_iadd (q := 393) dL_law_392 rfl ?_
      refine V_sld (q := 394) hX hbl hbA (law_in (k := 2) (by omega) hL) dL_law_393 rfl ?_
      refine V_aload_n (q := 395) dL_law_394 rfl rfl ?_
      refine V_iload_n (q := 396) dL_law_395 rfl rfl ?_
      refine V_iconst (q := 397) (v := 3) dL_law_396 rfl iconst_3 ?_
      refine V_iadd (q := 398) dL_law_397 rfl ?_
      refine V_sld (q := 399) hX hbl hbA (law_in (k := 3) (by omega) hL) dL_law_398 rfl ?_
      refine V_cv1 (k := 0) (q := 402) (As := [.int (sc (nI m + 1).toNatClampNeg), .int (sc (nI m + 2).toNatClampNeg), .int (sc (nI m + 3).toNatClampNeg)]) (rest := []) (ct_X7_letter (xY X) e1) ce_X7_letter clz_6 rfl im_yX7_letter se_yX7_letter rfl ml_RL_53 rfl ⟨Nat.le_of_ble_eq_true rfl, Nat.le_of_ble_eq_true rfl⟩ rfl (Nat.le_of_ble_eq_true rfl) dL_law_399 rfl ?_
      refine V_aload_n (q := 403) dL_law_402 rfl rfl ?_
      refine V_aload_n (q := 404) dL_law_403 rfl rfl ?_
      refine V_iload_n (q := 405) dL_law_404 rfl rfl ?_
      refine V_iconst (q := 406) (v := 1) dL_law_405 rfl iconst_1 ?_
      refine V_iadd (q := 407) dL_law_406 rfl ?_
      refine V_sld (q := 408) hX hbl hbA (law_in (k := 1) (by omega) hL) dL_law_407 rfl ?_
      refine V_aload_n (q := 409) dL_law_408 rfl rfl ?_
      refine V_iload_n (q := 410) dL_law_409 rfl rfl ?_
      refine V_iconst (q := 411) (v := 2) dL_law_410 rfl iconst_2 ?_
      refine V_iadd (q := 412) dL_law_411 rfl ?_
      refine V_sld (q := 413) hX hbl hbA (law_in (k := 2) (by omega) hL) dL_law_412 rfl ?_
      refine V_aload_n (q := 414) dL_law_413 rfl rfl ?_
      refine V_iload_n (q := 415) dL_law_414 rfl rfl ?_
      refine V_iconst (q := 416) (v := 3) dL_law_415 rfl iconst_3 ?_
      refine V_iadd (q := 417) dL_law_416 rfl ?_
      refine V_sld (q := 418) hX hbl hbA (law_in (k := 3) (by omega) hL) dL_law_417 rfl ?_
      refine V_cv1 (k := 43) (q := 421) (As := [.int (sc (nI m + 1).toNatClampNeg), .int (sc (nI m + 2).toNatClampNeg), .int (sc (nI m + 3).toNatClampNeg)]) (rest := [.int r]) (ct_X8_letter (xY X) e2) ce_X8_letter clz_7 rfl im_yX8_letter se_yX8_letter rfl ml_RL_56 rfl ⟨Nat.le_of_ble_eq_true rfl, Nat.le_of_ble_eq_true rfl⟩ rfl (Nat.le_of_ble_eq_true rfl) dL_law_418 rfl ?_
      exact V_icmp_eq (q := 742) (q2 := 424) dL_law_421 rfl rfl (fun _ => hnext σ hI) (fun hne => absurd rfl hne)
    by_cases hb10 : x = 10
    · refine V_tsIn (q := 426) 10 hb10 dL_law_32 (by decide) (by decide) rfl rfl ?_
      obtain ⟨r, σ1, σ2, e1, e2, hI2⟩ := p_read σ (sc (nI m + 1).toNatClampNeg) hI
      refine V_aload_n (q := 427) dL_law_426 rfl rfl ?_
      refine V_aload_n (q := 428) dL_law_427 rfl rfl ?_
      refine V_iload_n (q := 429) dL_law_428 rfl rfl ?_
      refine V_iconst (q := 430) (v := 1) dL_law_429 rfl iconst_1 ?_
      refine V_iadd (q := 431) dL_law_430 rfl ?_
      refine V_sld (q := 432) hX hbl hbA (law_in (k := 1) (by omega) hL) dL_law_431 rfl ?_
      refine V_cv1 (k := 0) (q := 435) (As := [.int (sc (nI m + 1).toNatClampNeg)]) (rest := []) (ct_X7_read (xY X) e1) ce_X7_read clz_6 rfl im_yX7_read se_yX7_read rfl ml_RL_57 rfl ⟨Nat.le_of_ble_eq_true rfl, Nat.le_of_ble_eq_true rfl⟩ rfl (Nat.le_of_ble_eq_true rfl) dL_law_432 rfl ?_
      refine V_aload_n (q := 436) dL_law_435 rfl rfl ?_
      refine V_aload_n (q := 437) dL_law_436 rfl rfl ?_
      refine V_iload_n (q := 438) dL_law_437 rfl rfl ?_
      refine V_iconst (q := 439) (v := 1) dL_law_438 rfl iconst_1 ?_
      refine V_iadd (q := 440) dL_law_439 rfl ?_
      refine V_sld (q := 441) hX hbl hbA (law_in (k := 1) (by omega) hL) dL_law_440 rfl ?_
      refine V_cv1 (k := 43) (q := 444) (As := [.int (sc (nI m + 1).toNatClampNeg)]) (rest := [.int r]) (ct_X8_read (xY X) e2) ce_X8_read clz_7 rfl im_yX8_read se_yX8_read rfl ml_RL_60 rfl ⟨Nat.le_of_ble_eq_true rfl, Nat.le_of_ble_eq_true rfl⟩ rfl (Nat.le_of_ble_eq_true rfl) dL_law_441 rfl ?_
      exact V_icmp_eq (q := 742) (q2 := 447) dL_law_444 rfl rfl (fun _ => hnext σ2 hI2) (fun hne => absurd rfl hne)
    by_cases hb11 : x = 11
    · refine V_tsIn (q := 449) 11 hb11 dL_law_32 (by decide) (by decide) rfl rfl ?_
      obtain ⟨r, σ1, σ2, e1, e2, hI2⟩ := p_wipe σ  hI
      refine V_aload_n (q := 450) dL_law_449 rfl rfl ?_
      refine V_cv1 (k := 0) (q := 453) (As := []) (rest := []) (ct_X7_wipe (xY X) e1) ce_X7_wipe clz_6 rfl im_yX7_wipe se_yX7_wipe rfl ml_RL_61 rfl ⟨Nat.le_of_ble_eq_true rfl, Nat.le_of_ble_eq_true rfl⟩ rfl (Nat.le_of_ble_eq_true rfl) dL_law_450 rfl ?_
      refine V_aload_n (q := 454) dL_law_453 rfl rfl ?_
      refine V_cv1 (k := 43) (q := 457) (As := []) (rest := [.int r]) (ct_X8_wipe (xY X) e2) ce_X8_wipe clz_7 rfl im_yX8_wipe se_yX8_wipe rfl ml_RL_64 rfl ⟨Nat.le_of_ble_eq_true rfl, Nat.le_of_ble_eq_true rfl⟩ rfl (Nat.le_of_ble_eq_true rfl) dL_law_454 rfl ?_
      exact V_icmp_eq (q := 742) (q2 := 460) dL_law_457 rfl rfl (fun _ => hnext σ2 hI2) (fun hne => absurd rfl hne)
    by_cases hb12 : x = 12
    · refine V_tsIn (q := 462) 12 hb12 dL_law_32 (by decide) (by decide) rfl rfl ?_
      obtain ⟨r, σ1, σ2, e1, e2, hI2⟩ := p_drift σ (sc (nI m + 1).toNatClampNeg) (sc (nI m + 2).toNatClampNeg) hI
      refine V_aload_n (q := 463) dL_law_462 rfl rfl ?_
      refine V_aload_n (q := 464) dL_law_463 rfl rfl ?_
      refine V_iload_n (q := 465) dL_law_464 rfl rfl ?_
      refine V_iconst (q := 466) (v := 1) dL_law_465 rfl iconst_1 ?_
      refine V_iadd (q := 467) dL_law_466 rfl ?_
      refine V_sld (q := 468) hX hbl hbA (law_in (k := 1) (by omega) hL) dL_law_467 rfl ?_
      refine V_aload_n (q := 469) dL_law_468 rfl rfl ?_
      refine V_iload_n (q := 470) dL_law_469 rfl rfl ?_
      refine V_iconst (q := 471) (v := 2) dL_law_470 rfl iconst_2 ?_
      refine V_iadd (q := 472) dL_law_471 rfl ?_
      refine V_sld (q := 473) hX hbl hbA (law_in (k := 2) (by omega) hL) dL_law_472 rfl ?_
      refine V_cv1 (k := 0) (q := 476) (As := [.int (sc (nI m + 1).toNatClampNeg), .int (sc (nI m + 2).toNatClampNeg)]) (rest := []) (ct_X7_drift (xY X) e1) ce_X7_drift clz_6 rfl im_yX7_drift se_yX7_drift rfl ml_RL_65 rfl ⟨Nat.le_of_ble_eq_true rfl, Nat.le_of_ble_eq_true rfl⟩ rfl (Nat.le_of_ble_eq_true rfl) dL_law_473 rfl ?_
      refine V_aload_n (q := 477) dL_law_476 rfl rfl ?_
      refine V_aload_n (q := 478) dL_law_477 rfl rfl ?_
      refine V_iload_n (q := 479) dL_law_478 rfl rfl ?_
      refine V_iconst (q := 480) (v := 1) dL_law_479 rfl iconst_1 ?_
      refine V_iadd (q := 481) dL_law_480 rfl ?_
      refine V_sld (q := 482) hX hbl hbA (law_in (k := 1) (by omega) hL) dL_law_481 rfl ?_
      refine V_aload_n (q := 483) dL_law_482 rfl rfl ?_
      refine V_iload_n (q := 484) dL_law_483 rfl rfl ?_
      refine V_iconst (q := 485) (v := 2) dL_law_484 rfl iconst_2 ?_
      refine V_iadd (q := 486) dL_law_485 rfl ?_
      refine V_sld (q := 487) hX hbl hbA (law_in (k := 2) (by omega) hL) dL_law_486 rfl ?_
      refine V_cv1 (k := 43) (q := 490) (As := [.int (sc (nI m + 1).toNatClampNeg), .int (sc (nI m + 2).toNatClampNeg)]) (rest := [.int r]) (ct_X8_drift (xY X) e2) ce_X8_drift clz_7 rfl im_yX8_drift se_yX8_drift rfl ml_RL_68 rfl ⟨Nat.le_of_ble_eq_true rfl, Nat.le_of_ble_eq_true rfl⟩ rfl (Nat.le_of_ble_eq_true rfl) dL_law_487 rfl ?_
      exact V_icmp_eq (q := 742) (q2 := 493) dL_law_490 rfl rfl (fun _ => hnext σ2 hI2) (fun hne => absurd rfl hne)
    by_cases hb13 : x = 13
    · refine V_tsIn (q := 495) 13 hb13 dL_law_32 (by decide) (by decide) rfl rfl ?_
      obtain ⟨r, σ1, σ2, e1, e2, hI2⟩ := p_word σ (sc (nI m + 1).toNatClampNeg) (sc (nI m + 2).toNatClampNeg) hI
      refine V_aload_n (q := 496) dL_law_495 rfl rfl ?_
      refine V_aload_n (q := 497) dL_law_496 rfl rfl ?_
      refine V_iload_n (q := 498) dL_law_497 rfl rfl ?_
      refine V_iconst (q := 499) (v := 1) dL_law_498 rfl iconst_1 ?_
      refine V_iadd (q := 500) dL_law_499 rfl ?_
      refine V_sld (q := 501) hX hbl hbA (law_in (k := 1) (by omega) hL) dL_law_500 rfl ?_
      refine V_aload_n (q := 502) dL_law_501 rfl rfl ?_
      refine V_iload_n (q := 503) dL_law_502 rfl rfl ?_
      refine V_iconst (q := 504) (v := 2) dL_law_503 rfl iconst_2 ?_
      refine V_iadd (q := 505) dL_law_504 rfl ?_
      refine V_sld (q := 506) hX hbl hbA (law_in (k := 2) (by omega) hL) dL_law_505 rfl ?_
      refine V_cv1 (k := 0) (q := 509) (As := [.int (sc (nI m + 1).toNatClampNeg), .int (sc (nI m + 2).toNatClampNeg)]) (rest := []) (ct_X7_word (xY X) e1) ce_X7_word clz_6 rfl im_yX7_word se_yX7_word rfl ml_RL_69 rfl ⟨Nat.le_of_ble_eq_true rfl, Nat.le_of_ble_eq_true rfl⟩ rfl (Nat.le_of_ble_eq_true rfl) dL_law_506 rfl ?_
      refine V_aload_n (q := 510) dL_law_509 rfl rfl ?_
      refine V_aload_n (q := 511) dL_law_510 rfl rfl ?_
      refine V_iload_n (q := 512) dL_law_511 rfl rfl ?_
      refine V_iconst (q := 513) (v := 1) dL_law_512 rfl iconst_1 ?_
      refine V_iadd (q := 514) dL_law_513 rfl ?_
      refine V_sld (q := 515) hX hbl hbA (law_in (k := 1) (by omega) hL) dL_law_514 rfl ?_
      refine V_aload_n (q := 516) dL_law_515 rfl rfl ?_
      refine V_iload_n (q := 517) dL_law_516 rfl rfl ?_
      refine V_iconst (q := 518) (v := 2) dL_law_517 rfl iconst_2 ?_
      refine V_iadd (q := 519) dL_law_518 rfl ?_
      refine V_sld (q := 520) hX hbl hbA (law_in (k := 2) (by omega) hL) dL_law_519 rfl ?_
      refine V_cv1 (k := 43) (q := 523) (As := [.int (sc (nI m + 1).toNatClampNeg), .int (sc (nI m + 2).toNatClampNeg)]) (rest := [.int r]) (ct_X8_word (xY X) e2) ce_X8_word clz_7 rfl im_yX8_word se_yX8_word rfl ml_RL_72 rfl ⟨Nat.le_of_ble_eq_true rfl, Nat.le_of_ble_eq_true rfl⟩ rfl (Nat.le_of_ble_eq_true rfl) dL_law_520 rfl ?_
      exact V_icmp_eq (q := 742) (q2 := 526) dL_law_523 rfl rfl (fun _ => hnext σ2 hI2) (fun hne => absurd rfl hne)
    by_cases hb14 : x = 14
    · refine V_tsIn (q := 528) 14 hb14 dL_law_32 (by decide) (by decide) rfl rfl ?_
      obtain ⟨r, σ1, σ2, e1, e2, hI2⟩ := p_told σ (sc (nI m + 1).toNatClampNeg) hI
      refine V_aload_n (q := 529) dL_law_528 rfl rfl ?_
      refine V_aload_n (q := 530) dL_law_529 rfl rfl ?_
      refine V_iload_n (q := 531) dL_law_530 rfl rfl ?_
      refine V_iconst (q := 532) (v := 1) dL_law_531 rfl iconst_1 ?_
      refine V_iadd (q := 533) dL_law_532 rfl ?_
      refine V_sld (q := 534) hX hbl hbA (law_in (k := 1) (by omega) hL) dL_law_533 rfl ?_
      refine V_cv1 (k := 0) (q := 537) (As := [.int (sc (nI m + 1).toNatClampNeg)]) (rest := []) (ct_X7_told (xY X) e1) ce_X7_told clz_6 rfl im_yX7_told se_yX7_told rfl ml_RL_73 rfl ⟨Nat.le_of_ble_eq_true rfl, Nat.le_of_ble_eq_true rfl⟩ rfl (Nat.le_of_ble_eq_true rfl) dL_law_534 rfl ?_
      refine V_aload_n (q := 538) dL_law_537 rfl rfl ?_
      refine V_aload_n (q := 539) dL_law_538 rfl rfl ?_
      refine V_iload_n (q := 540) dL_law_539 rfl rfl ?_
      refine V_iconst (q := 541) (v := 1) dL_law_540 rfl iconst_1 ?_
      refine V_iadd (q := 542) dL_law_541 rfl ?_
      refine V_sld (q := 543) hX hbl hbA (law_in (k := 1) (by omega) hL) dL_law_542 rfl ?_
      refine V_cv1 (k := 43) (q := 546) (As := [.int (sc (nI m + 1).toNatClampNeg)]) (rest := [.int r]) (ct_X8_told (xY X) e2) ce_X8_told clz_7 rfl im_yX8_told se_yX8_told rfl ml_RL_76 rfl ⟨Nat.le_of_ble_eq_true rfl, Nat.le_of_ble_eq_true rfl⟩ rfl (Nat.le_of_ble_eq_true rfl) dL_law_543 rfl ?_
      exact V_icmp_eq (q := 742) (q2 := 549) dL_law_546 rfl rfl (fun _ => hnext σ2 hI2) (fun hne => absurd rfl hne)
    by_cases hb15 : x = 15
    · refine V_tsIn (q := 551) 15 hb15 dL_law_32 (by decide) (by decide) rfl rfl ?_
      obtain ⟨r, σ1, σ2, e1, e2, hI2⟩ := p_found σ (sc (nI m + 1).toNatClampNeg) (sc (nI m + 2).toNatClampNeg) hI
      refine V_aload_n (q := 552) dL_law_551 rfl rfl ?_
      refine V_aload_n (q := 553) dL_law_552 rfl rfl ?_
      refine V_iload_n (q := 554) dL_law_553 rfl rfl ?_
      refine V_iconst (q := 555) (v := 1) dL_law_554 rfl iconst_1 ?_
      refine V_iadd (q := 556) dL_law_555 rfl ?_
      refine V_sld (q := 557) hX hbl hbA (law_in (k := 1) (by omega) hL) dL_law_556 rfl ?_
      refine V_aload_n (q := 558) dL_law_557 rfl rfl ?_
      refine V_iload_n (q := 559) dL_law_558 rfl rfl ?_
      refine V_iconst (q := 560) (v := 2) dL_law_559 rfl iconst_2 ?_
      refine V_iadd (q := 561) dL_law_560 rfl ?_
      refine V_sld (q := 562) hX hbl hbA (law_in (k := 2) (by omega) hL) dL_law_561 rfl ?_
      refine V_cv1 (k := 0) (q := 565) (As := [.int (sc (nI m + 1).toNatClampNeg), .int (sc (nI m + 2).toNatClampNeg)]) (rest := []) (ct_X7_found (xY X) e1) ce_X7_found clz_6 rfl im_yX7_found se_yX7_found rfl ml_RL_77 rfl ⟨Nat.le_of_ble_eq_true rfl, Nat.le_of_ble_eq_true rfl⟩ rfl (Nat.le_of_ble_eq_true rfl) dL_law_562 rfl ?_
      refine V_aload_n (q := 566) dL_law_565 rfl rfl ?_
      refine V_aload_n (q := 567) dL_law_566 rfl rfl ?_
      refine V_iload_n (q := 568) dL_law_567 rfl rfl ?_
      refine V_iconst (q := 569) (v := 1) dL_law_568 rfl iconst_1 ?_
      refine V_iadd (q := 570) dL_law_569 rfl ?_
      refine V_sld (q := 571) hX hbl hbA (law_in (k := 1) (by omega) hL) dL_law_570 rfl ?_
      refine V_aload_n (q := 572) dL_law_571 rfl rfl ?_
      refine V_iload_n (q := 573) dL_law_572 rfl rfl ?_
      refine V_iconst (q := 574) (v := 2) dL_law_573 rfl iconst_2 ?_
      refine V_iadd (q := 575) dL_law_574 rfl ?_
      refine V_sld (q := 576) hX hbl hbA (law_in (k := 2) (by omega) hL) dL_law_575 rfl ?_
      refine V_cv1 (k := 43) (q := 579) (As := [.int (sc (nI m + 1).toNatClampNeg), .int (sc (nI m + 2).toNatClampNeg)]) (rest := [.int r]) (ct_X8_found (xY X) e2) ce_X8_found clz_7 rfl im_yX8_found se_yX8_found rfl ml_RL_80 rfl ⟨Nat.le_of_ble_eq_true rfl, Nat.le_of_ble_eq_true rfl⟩ rfl (Nat.le_of_ble_eq_true rfl) dL_law_576 rfl ?_
      exact V_icmp_eq (q := 742) (q2 := 582) dL_law_579 rfl rfl (fun _ => hnext σ2 hI2) (fun hne => absurd rfl hne)
    by_cases hb16 : x = 16
    · refine V_tsIn (q := 584) 16 hb16 dL_law_32 (by decide) (by decide) rfl rfl ?_
      obtain ⟨r, σ1, σ2, e1, e2, hI2⟩ := p_chosen σ (sc (nI m + 1).toNatClampNeg) (sc (nI m + 2).toNatClampNeg) hI
      refine V_aload_n (q := 585) dL_law_584 rfl rfl ?_
      refine V_aload_n (q := 586) dL_law_585 rfl rfl ?_
      refine V_iload_n (q := 587) dL_law_586 rfl rfl ?_
      refine V_iconst (q := 588) (v := 1) dL_law_587 rfl iconst_1 ?_
      refine V_iadd (q := 589) dL_law_588 rfl ?_
      refine V_sld (q := 590) hX hbl hbA (law_in (k := 1) (by omega) hL) dL_law_589 rfl ?_
      refine V_aload_n (q := 591) dL_law_590 rfl rfl ?_
      refine V_iload_n (q := 592) dL_law_591 rfl rfl ?_
      refine V_iconst (q := 593) (v := 2) dL_law_592 rfl iconst_2 ?_
      refine V_iadd (q := 594) dL_law_593 rfl ?_
      refine V_sld (q := 595) hX hbl hbA (law_in (k := 2) (by omega) hL) dL_law_594 rfl ?_
      refine V_cv1 (k := 0) (q := 598) (As := [.int (sc (nI m + 1).toNatClampNeg), .int (sc (nI m + 2).toNatClampNeg)]) (rest := []) (ct_X7_chosen (xY X) e1) ce_X7_chosen clz_6 rfl im_yX7_chosen se_yX7_chosen rfl ml_RL_81 rfl ⟨Nat.le_of_ble_eq_true rfl, Nat.le_of_ble_eq_true rfl⟩ rfl (Nat.le_of_ble_eq_true rfl) dL_law_595 rfl ?_
      refine V_aload_n (q := 599) dL_law_598 rfl rfl ?_
      refine V_aload_n (q := 600) dL_law_599 rfl rfl ?_
      refine V_iload_n (q := 601) dL_law_600 rfl rfl ?_
      refine V_iconst (q := 602) (v := 1) dL_law_601 rfl iconst_1 ?_
      refine V_iadd (q := 603) dL_law_602 rfl ?_
      refine V_sld (q := 604) hX hbl hbA (law_in (k := 1) (by omega) hL) dL_law_603 rfl ?_
      refine V_aload_n (q := 605) dL_law_604 rfl rfl ?_
      refine V_iload_n (q := 606) dL_law_605 rfl rfl ?_
      refine V_iconst (q := 607) (v := 2) dL_law_606 rfl iconst_2 ?_
      refine V_iadd (q := 608) dL_law_607 rfl ?_
      refine V_sld (q := 609) hX hbl hbA (law_in (k := 2) (by omega) hL) dL_law_608 rfl ?_
      refine V_cv1 (k := 43) (q := 612) (As := [.int (sc (nI m + 1).toNatClampNeg), .int (sc (nI m + 2).toNatClampNeg)]) (rest := [.int r]) (ct_X8_chosen (xY X) e2) ce_X8_chosen clz_7 rfl im_yX8_chosen se_yX8_chosen rfl ml_RL_84 rfl ⟨Nat.le_of_ble_eq_true rfl, Nat.le_of_ble_eq_true rfl⟩ rfl (Nat.le_of_ble_eq_true rfl) dL_law_609 rfl ?_
      exact V_icmp_eq (q := 742) (q2 := 615) dL_law_612 rfl rfl (fun _ => hnext σ2 hI2) (fun hne => absurd rfl hne)
    by_cases hb17 : x = 17
    · refine V_tsIn (q := 617) 17 hb17 dL_law_32 (by decide) (by decide) rfl rfl ?_
      obtain ⟨r, σ1, e1, e2, hI2⟩ := p_longest σ (sc (nI m + 1).toNatClampNeg) hI
      refine V_aload_n (q := 618) dL_law_617 rfl rfl ?_
      refine V_aload_n (q := 619) dL_law_618 rfl rfl ?_
      refine V_iload_n (q := 620) dL_law_619 rfl rfl ?_
      refine V_iconst (q := 621) (v := 1) dL_law_620 rfl iconst_1 ?_
      refine V_iadd (q := 622) dL_law_621 rfl ?_
      refine V_sld (q := 623) hX hbl hbA (law_in (k := 1) (by omega) hL) dL_law_622 rfl ?_
      refine V_cv1 (k := 0) (q := 626) (As := [.int (sc (nI m + 1).toNatClampNeg)]) (rest := []) (ct_X7_longest (xY X) e1) ce_X7_longest clz_6 rfl im_yX7_longest se_yX7_longest rfl ml_RL_85 rfl ⟨Nat.le_of_ble_eq_true rfl, Nat.le_of_ble_eq_true rfl⟩ rfl (Nat.le_of_ble_eq_true rfl) dL_law_623 rfl ?_
      refine V_aload_n (q := 627) dL_law_626 rfl rfl ?_
      refine V_aload_n (q := 628) dL_law_627 rfl rfl ?_
      refine V_iload_n (q := 629) dL_law_628 rfl rfl ?_
      refine V_iconst (q := 630) (v := 1) dL_law_629 rfl iconst_1 ?_
      refine V_iadd (q := 631) dL_law_630 rfl ?_
      refine V_sld (q := 632) hX hbl hbA (law_in (k := 1) (by omega) hL) dL_law_631 rfl ?_
      refine V_cv1 (k := 43) (q := 635) (As := [.int (sc (nI m + 1).toNatClampNeg)]) (rest := [.int r]) (ct_X8_longest (xY X) e2) ce_X8_longest clz_7 rfl im_yX8_longest se_yX8_longest rfl ml_RL_88 rfl ⟨Nat.le_of_ble_eq_true rfl, Nat.le_of_ble_eq_true rfl⟩ rfl (Nat.le_of_ble_eq_true rfl) dL_law_632 rfl ?_
      exact V_icmp_eq (q := 742) (q2 := 638) dL_law_635 rfl rfl (fun _ => hnext σ1 hI2) (fun hne => absurd rfl hne)
    by_cases hb18 : x = 18
    · refine V_tsIn (q := 640) 18 hb18 dL_law_32 (by decide) (by decide) rfl rfl ?_
      obtain ⟨r, σ1, σ2, e1, e2, hI2⟩ := p_sign σ (sc (nI m + 1).toNatClampNeg) hI
      refine V_aload_n (q := 641) dL_law_640 rfl rfl ?_
      refine V_aload_n (q := 642) dL_law_641 rfl rfl ?_
      refine V_iload_n (q := 643) dL_law_642 rfl rfl ?_
      refine V_iconst (q := 644) (v := 1) dL_law_643 rfl iconst_1 ?_
      refine V_iadd (q := 645) dL_law_644 rfl ?_
      refine V_sld (q := 646) hX hbl hbA (law_in (k := 1) (by omega) hL) dL_law_645 rfl ?_
      refine V_cv1 (k := 0) (q := 649) (As := [.int (sc (nI m + 1).toNatClampNeg)]) (rest := []) (ct_X7_sign (xY X) e1) ce_X7_sign clz_6 rfl im_yX7_sign se_yX7_sign rfl ml_RL_89 rfl ⟨Nat.le_of_ble_eq_true rfl, Nat.le_of_ble_eq_true rfl⟩ rfl (Nat.le_of_ble_eq_true rfl) dL_law_646 rfl ?_
      refine V_aload_n (q := 650) dL_law_649 rfl rfl ?_
      refine V_aload_n (q := 651) dL_law_650 rfl rfl ?_
      refine V_iload_n (q := 652) dL_law_651 rfl rfl ?_
      refine V_iconst (q := 653) (v := 1) dL_law_652 rfl iconst_1 ?_
      refine V_iadd (q := 654) dL_law_653 rfl ?_
      refine V_sld (q := 655) hX hbl hbA (law_in (k := 1) (by omega) hL) dL_law_654 rfl ?_
      refine V_cv1 (k := 43) (q := 658) (As := [.int (sc (nI m + 1).toNatClampNeg)]) (rest := [.int r]) (ct_X8_sign (xY X) e2) ce_X8_sign clz_7 rfl im_yX8_sign se_yX8_sign rfl ml_RL_92 rfl ⟨Nat.le_of_ble_eq_true rfl, Nat.le_of_ble_eq_true rfl⟩ rfl (Nat.le_of_ble_eq_true rfl) dL_law_655 rfl ?_
      exact V_icmp_eq (q := 742) (q2 := 661) dL_law_658 rfl rfl (fun _ => hnext σ2 hI2) (fun hne => absurd rfl hne)
    by_cases hb19 : x = 19
    · refine V_tsIn (q := 663) 19 hb19 dL_law_32 (by decide) (by decide) rfl rfl ?_
      obtain ⟨r, e1, e2⟩ := p_same σ (sc (nI m + 1).toNatClampNeg) (sc (nI m + 2).toNatClampNeg) hI
      refine V_aload_n (q := 664) dL_law_663 rfl rfl ?_
      refine V_aload_n (q := 665) dL_law_664 rfl rfl ?_
      refine V_iload_n (q := 666) dL_law_665 rfl rfl ?_
      refine V_iconst (q := 667) (v := 1) dL_law_666 rfl iconst_1 ?_
      refine V_iadd (q := 668) dL_law_667 rfl ?_
      refine V_sld (q := 669) hX hbl hbA (law_in (k := 1) (by omega) hL) dL_law_668 rfl ?_
      refine V_aload_n (q := 670) dL_law_669 rfl rfl ?_
      refine V_iload_n (q := 671) dL_law_670 rfl rfl ?_
      refine V_iconst (q := 672) (v := 2) dL_law_671 rfl iconst_2 ?_
      refine V_iadd (q := 673) dL_law_672 rfl ?_
      refine V_sld (q := 674) hX hbl hbA (law_in (k := 2) (by omega) hL) dL_law_673 rfl ?_
      refine V_cv1 (k := 0) (q := 677) (As := [.int (sc (nI m + 1).toNatClampNeg), .int (sc (nI m + 2).toNatClampNeg)]) (rest := []) (ct_X7_same (xY X) e1) ce_X7_same clz_6 rfl im_yX7_same se_yX7_same rfl ml_RL_93 rfl ⟨Nat.le_of_ble_eq_true rfl, Nat.le_of_ble_eq_true rfl⟩ rfl (Nat.le_of_ble_eq_true rfl) dL_law_674 rfl ?_
      refine V_aload_n (q := 678) dL_law_677 rfl rfl ?_
      refine V_aload_n (q := 679) dL_law_678 rfl rfl ?_
      refine V_iload_n (q := 680) dL_law_679 rfl rfl ?_
      refine V_iconst (q := 681) (v := 1) dL_law_680 rfl iconst_1 ?_
      refine V_iadd (q := 682) dL_law_681 rfl ?_
      refine V_sld (q := 683) hX hbl hbA (law_in (k := 1) (by omega) hL) dL_law_682 rfl ?_
      refine V_aload_n (q := 684) dL_law_683 rfl rfl ?_
      refine V_iload_n (q := 685) dL_law_684 rfl rfl ?_
      refine V_iconst (q := 686) (v := 2) dL_law_685 rfl iconst_2 ?_
      refine V_iadd (q := 687) dL_law_686 rfl ?_
      refine V_sld (q := 688) hX hbl hbA (law_in (k := 2) (by omega) hL) dL_law_687 rfl ?_
      refine V_cv1 (k := 43) (q := 691) (As := [.int (sc (nI m + 1).toNatClampNeg), .int (sc (nI m + 2).toNatClampNeg)]) (rest := [.int r]) (ct_X8_same (xY X) e2) ce_X8_same clz_7 rfl im_yX8_same se_yX8_same rfl ml_RL_96 rfl ⟨Nat.le_of_ble_eq_true rfl, Nat.le_of_ble_eq_true rfl⟩ rfl (Nat.le_of_ble_eq_true rfl) dL_law_688 rfl ?_
      exact V_icmp_eq (q := 742) (q2 := 694) dL_law_691 rfl rfl (fun _ => hnext σ hI) (fun hne => absurd rfl hne)
    by_cases hb20 : x = 20
    · refine V_tsIn (q := 696) 20 hb20 dL_law_32 (by decide) (by decide) rfl rfl ?_
      obtain ⟨r, σ1, σ2, e1, e2, hI2⟩ := p_keep σ (sc (nI m + 1).toNatClampNeg) hI
      refine V_aload_n (q := 697) dL_law_696 rfl rfl ?_
      refine V_aload_n (q := 698) dL_law_697 rfl rfl ?_
      refine V_iload_n (q := 699) dL_law_698 rfl rfl ?_
      refine V_iconst (q := 700) (v := 1) dL_law_699 rfl iconst_1 ?_
      refine V_iadd (q := 701) dL_law_700 rfl ?_
      refine V_sld (q := 702) hX hbl hbA (law_in (k := 1) (by omega) hL) dL_law_701 rfl ?_
      refine V_cv1 (k := 0) (q := 705) (As := [.int (sc (nI m + 1).toNatClampNeg)]) (rest := []) (ct_X7_keep (xY X) e1) ce_X7_keep clz_6 rfl im_yX7_keep se_yX7_keep rfl ml_RL_97 rfl ⟨Nat.le_of_ble_eq_true rfl, Nat.le_of_ble_eq_true rfl⟩ rfl (Nat.le_of_ble_eq_true rfl) dL_law_702 rfl ?_
      refine V_aload_n (q := 706) dL_law_705 rfl rfl ?_
      refine V_aload_n (q := 707) dL_law_706 rfl rfl ?_
      refine V_iload_n (q := 708) dL_law_707 rfl rfl ?_
      refine V_iconst (q := 709) (v := 1) dL_law_708 rfl iconst_1 ?_
      refine V_iadd (q := 710) dL_law_709 rfl ?_
      refine V_sld (q := 711) hX hbl hbA (law_in (k := 1) (by omega) hL) dL_law_710 rfl ?_
      refine V_cv1 (k := 43) (q := 714) (As := [.int (sc (nI m + 1).toNatClampNeg)]) (rest := [.int r]) (ct_X8_keep (xY X) e2) ce_X8_keep clz_7 rfl im_yX8_keep se_yX8_keep rfl ml_RL_100 rfl ⟨Nat.le_of_ble_eq_true rfl, Nat.le_of_ble_eq_true rfl⟩ rfl (Nat.le_of_ble_eq_true rfl) dL_law_711 rfl ?_
      exact V_icmp_eq (q := 742) (q2 := 717) dL_law_714 rfl rfl (fun _ => hnext σ2 hI2) (fun hne => absurd rfl hne)
    by_cases hb21 : x = 21
    · refine V_tsIn (q := 719) 21 hb21 dL_law_32 (by decide) (by decide) rfl rfl ?_
      obtain ⟨r, σ1, σ2, e1, e2, hI2⟩ := p_goBack σ (sc (nI m + 1).toNatClampNeg) hI
      refine V_aload_n (q := 720) dL_law_719 rfl rfl ?_
      refine V_aload_n (q := 721) dL_law_720 rfl rfl ?_
      refine V_iload_n (q := 722) dL_law_721 rfl rfl ?_
      refine V_iconst (q := 723) (v := 1) dL_law_722 rfl iconst_1 ?_
      refine V_iadd (q := 724) dL_law_723 rfl ?_
      refine V_sld (q := 725) hX hbl hbA (law_in (k := 1) (by omega) hL) dL_law_724 rfl ?_
      refine V_cv1 (k := 0) (q := 728) (As := [.int (sc (nI m + 1).toNatClampNeg)]) (rest := []) (ct_X7_goBack (xY X) e1) ce_X7_goBack clz_6 rfl im_yX7_goBack se_yX7_goBack rfl ml_RL_101 rfl ⟨Nat.le_of_ble_eq_true rfl, Nat.le_of_ble_eq_true rfl⟩ rfl (Nat.le_of_ble_eq_true rfl) dL_law_725 rfl ?_
      refine V_aload_n (q := 729) dL_law_728 rfl rfl ?_
      refine V_aload_n (q := 730) dL_law_729 rfl rfl ?_
      refine V_iload_n (q := 731) dL_law_730 rfl rfl ?_
      refine V_iconst (q := 732) (v := 1) dL_law_731 rfl iconst_1 ?_
      refine V_iadd (q := 733) dL_law_732 rfl ?_
      refine V_sld (q := 734) hX hbl hbA (law_in (k := 1) (by omega) hL) dL_law_733 rfl ?_
      refine V_cv1 (k := 43) (q := 737) (As := [.int (sc (nI m + 1).toNatClampNeg)]) (rest := [.int r]) (ct_X8_goBack (xY X) e2) ce_X8_goBack clz_7 rfl im_yX8_goBack se_yX8_goBack rfl ml_RL_104 rfl ⟨Nat.le_of_ble_eq_true rfl, Nat.le_of_ble_eq_true rfl⟩ rfl (Nat.le_of_ble_eq_true rfl) dL_law_734 rfl ?_
      exact V_icmp_eq (q := 742) (q2 := 740) dL_law_737 rfl rfl (fun _ => hnext σ2 hI2) (fun hne => absurd rfl hne)
    exact V_tsOut (q := 742) 21 ⟨hb21, hb20, hb19, hb18, hb17, hb16, hb15, hb14, hb13, hb12, hb11, hb10, hb9, hb8, hb7, hb6, hb5, hb4, hb3, hb2, hb1, hb0, trivial⟩ (by decide) rfl rfl dL_law_32 rfl (hnext σ hI)
