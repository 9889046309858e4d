/-! THE CLAIM OUT OF ONE WALK OF THE LAW'S BODY. Your part is whole_start (and what it stands on); all else here is the same for every law, but numbers. -/
def R_law : String := "TermScanLaw"
def lw_P (b : Addr) (xs : List Int32) (args : Array Value) (s : State) : Prop := args = #[.ref b] ∧ s.IntsAt b xs ∧ xs.length ≤ 2048 ∧ (Jvm.Cond.and given_1 narrow_1).before args s = true
def lw_Q (_ : Array Value) (s : State) (o : Outcome) (t : State) : Prop := o = .returned (some (.int 1)) ∧ Framed s o t [] 600000 7302250
def lw_Z (below : List Frame) (a : Array Value) (s : State) : State → Prop := fun t => ∃ o, t.status = .running ∧ Ended t below o ∧ lw_Q a s o t
/-- the law's own end, with 1 on the stack, nothing written that was there before, its room as the claim has it -/
theorem lw_ret {p : Program} {l : Launch} {e : Env} {s : State} {m : MethodId} {below : List Frame} {meth : Method} {c : Code} {b : Nat} (hx : p.tables.exec = Jvm.exec) (hb : c.code = code) (hr : meth.sig.returnType = ret) (hlocks : meth.locks = false) {pc : Nat} {H : Heap} {ls : Array Slot} (hdg : decode code pc = .ok (.ireturn, 1)) : W p l e room_1 s m #[Value.ref b] below meth c H [] 600000 7302250 (lw_Z below #[Value.ref b] s) (F0 m pc ls [.int 1]) := by
  intro T hT X
  obtain ⟨fs, hret, hrun, hended, hW, hframe⟩ := X.leave (v := some (.int 1)) (hlocks := hlocks) (fun h => by rw [hr] at h; cases h)
  have hmeth' : T.vm.method? m = some meth := X.method'
  refine ⟨T.setFrames fs, ?_, .returned (some (.int 1)), hrun, hended, rfl, ⟨_, rfl⟩, hW, hframe⟩
  jvm_step X.here [X.here.top, hx, hb, hdg, hmeth', hr, ret, narrow_b1]
  (try refine ⟨rfl, ?_⟩); (try refine ⟨rfl, ?_⟩)
  first | (intro acts; rw [hret _ acts rfl rfl rfl]) | rw [hret _ _ rfl rfl rfl]
  exact Steps.refl _
/-- what holds at the law's entry: the machine, the code, the tables' words (any of lw_tbl by 'hts w (by decide +kernel)'), the script of L ints xs at the cell b, what the Statement gives of the start (any of its parts by flat_of_before) -/
def lw_At (p : Program) (s : State) (m : MethodId) (meth : Method) (c : Code) (b L : Nat) (xs : Nat → Int32) : Prop :=
  p.tables.exec = Jvm.exec ∧ c.code = code ∧ meth.sig.returnType = ret ∧ c.maxLocals = 4 ∧ s.vm.findClass R_law = some m.cls ∧ (∀ w ∈ lw_tbl, w.before #[Value.ref b] s = true) ∧ va_X b L xs s s.heap ∧ b < s.heap.size ∧ meth.locks = false ∧ (Jvm.Cond.and given_1 narrow_1).before #[Value.ref b] s = true
theorem arr_known {args : Array Value} {s : State} {ty : FieldType} (h : (Cond.arrayClass ty).before args s = true) : ∃ cA : ClassId, ArrOfT s cA ty ∧ s.vm.findClass ("[" ++ ty.toString) = some cA := by
  obtain ⟨cA, kA, comp, h1, h2, h3⟩ := Cond.arrayClass_spec h
  exact ⟨cA, fun n z => ⟨fun k h => (by cases h), kA, h2, comp, h3⟩, h1⟩
/-- the kinds of the rows -/
def cids (cI cZ cC cJ cO : ClassId) : Nat → ClassId := fun k => match k with
  | 0 => cI
  | 1 => cZ
  | 2 => cC
  | 3 => cJ
  | _ => cO
/-- where the cells lie -/
def adr (q0 q1 : Nat) (f g : Nat → Nat) : Nat → Nat := fun k => if k = 0 then q0 else if k < 43 then f (k - 1) else if k = 43 then q1 else g (k - 44)
/-- all cells at their beginning -/
def sg0 : Sg := (fun _ _ => 0, fun _ _ => 0)
def wlg (Y : Yc) (σ : Sg) : List (Nat × Nat × List (Nat × Nat)) → Nat → va_W
  | [], _ => []
  | q :: r, k => (Y.2.1 k, cel Y σ k q) :: wlg Y σ r (k + 1)
theorem wlg_at (Y : Yc) (σ : Sg) : ∀ (l : List (Nat × Nat × List (Nat × Nat))) (j i : Nat), (wlg Y σ l j)[i]? = (l[i]?).map (fun q => (Y.2.1 (j + i), cel Y σ (j + i) q))
  | [], j, i => by simp [wlg]
  | q :: r, j, 0 => by simp [wlg]
  | q :: r, j, i + 1 => by
    have h := wlg_at Y σ r (j + 1) i
    simp only [wlg, List.getElem?_cons_succ, h]
    rw [show j + 1 + i = j + (i + 1) by omega]
theorem wl_wlg (Y : Yc) (σ : Sg) : wl Y σ = wlg Y σ shp 0 := by
  apply List.ext_getElem?
  intro i
  rw [wlg_at]
  simp [wl, List.getElem?_mapIdx]
theorem img_row (q0 q1 : Nat) (f g : Nat → Nat) : va_up (va_up (fun _ => none) 0 (some (f 11))) 1 (some (f 18)) = (fun i => (([(2, 12), (2, 19)] : List (Nat × Nat))[i]?).map (fun x => adr q0 q1 f g x.2)) := by
  funext i
  match i with
  | 0 => rfl
  | 1 => rfl
  | i + 2 => simp [va_up]
set_option maxRecDepth 20000 in
theorem wl_start (D : va_G) (cI cZ cC cJ cO0 cO cO2 : ClassId) (q0 q1 a0 : Nat) (f g : Nat → Nat) : w1_X7_init (D, fun _ => a0, cids cI cZ cC cJ cO0) q0 f cO ++ w1_X8_init (D, fun _ => a0, cids cI cZ cC cJ cO0) q1 g cO2 = wl (D, adr q0 q1 f g, cids cI cZ cC cJ cO) sg0 := by
  rw [wl_wlg]
  unfold w1_X7_init
  rw [img_row q0 q1 f g]
  rfl
theorem start_of {Inv : Sg → Prop} (hp : PStep Inv) (h0 : Inv sg0) {p : Program} {e : Env} {s : State} {m : MethodId} {below : List Frame} {meth : Method} {c : Code} (l : Launch) {b L : Nat} {sc : Nat → Int32} (hL : L ≤ 2048) (C0 : lw_At p s m meth c b L sc) : W p l e room_1 s m #[Value.ref b] below meth c s.heap [] 0 0 (lw_Z below #[Value.ref b] s) (entryFrame m ([Value.ref b] : List Value).toArray 4) := by
  obtain ⟨hx, hb, hr, hml, hown, hts, hX, hbl, hlocks, hgv⟩ := C0
  have htg : ∀ w ∈ gtb, w.before #[Value.ref b] s = true := fun w hw => hts w (List.mem_filter.mp hw).1
  have hA : ∀ q : Nat, s.heap.size ≤ q → (fun q : Nat => s.heap.size ≤ q) q := fun _ h => h
  have hbA : ¬ (fun q : Nat => s.heap.size ≤ q) b := Nat.not_le.mpr hbl
  obtain ⟨cI, aI, nI_⟩ := arr_known (htg _ arr_int)
  obtain ⟨cZ, aZ, nZ⟩ := arr_known (htg _ arr_boolean)
  obtain ⟨cC, aC, nC⟩ := arr_known (htg _ arr_char)
  obtain ⟨cJ, aJ, nJ⟩ := arr_known (htg _ arr_long)
  obtain ⟨k0, i0, u0⟩ := u_known (C := RX1) (T := TX1) (N := 9) (n := 9) htg inX1 (htg _ ia_RX1)
  obtain ⟨k1, i1, u1⟩ := u_known (C := RX2) (T := TX2) (N := 1) (n := 1) htg inX2 (htg _ ia_RX2)
  obtain ⟨k2, i2, u2⟩ := u_known (C := RX3) (T := TX3) (N := 6) (n := 6) htg inX3 (htg _ ia_RX3)
  obtain ⟨k3, i3, u3⟩ := u_known (C := RX4) (T := TX4) (N := 15) (n := 15) htg inX4 (htg _ ia_RX4)
  obtain ⟨k4, i4, u4⟩ := u_known (C := RX5) (T := TX5) (N := 3) (n := 3) htg inX5 (htg _ ia_RX5)
  obtain ⟨k5, i5, u5⟩ := u_known (C := RX6) (T := TX6) (N := 7) (n := 7) htg inX6 (htg _ ia_RX6)
  obtain ⟨k6, i6, u6⟩ := u_known (C := RX7) (T := TX7) (N := 7) (n := 7) htg inX7 (htg _ ia_RX7)
  obtain ⟨k7, i7, u7⟩ := u_known (C := RX8) (T := TX8) (N := 14) (n := 14) htg inX8 (htg _ ia_RX8)
  obtain ⟨dC, dI, hKc⟩ : ∃ (dC : Nat → ClassId) (dI : Nat → Nat → Nat), ∀ (k : Nat) (q : vw_C), vcl[k]? = some q → u_Kn s q.1 q.2.1 q.2.2 (dC k) (dI k) := by
    refine ⟨fun k => ([k0, k1, k2, k3, k4, k5, k6, k7] : List ClassId).getD k 0, fun k => ([i0, i1, i2, i3, i4, i5, i6, i7] : List (Nat → Nat)).getD k (fun _ => 0), ?_⟩
    intro k q hq
    match k, hq with
    | 0, hq => cases hq; exact u0
    | 1, hq => cases hq; exact u1
    | 2, hq => cases hq; exact u2
    | 3, hq => cases hq; exact u3
    | 4, hq => cases hq; exact u4
    | 5, hq => cases hq; exact u5
    | 6, hq => cases hq; exact u6
    | 7, hq => cases hq; exact u7
    | k + 8, hq => simp [vcl] at hq
  have hKp : va_K (dC, dI) vcl [(cI, .int), (cZ, .boolean), (cC, .char), (cJ, .long)] s := by
    refine ⟨hKc, fun k q hq => ?_⟩
    match k, hq with
    | 0, hq => cases hq; exact ⟨aI, nI_⟩
    | 1, hq => cases hq; exact ⟨aZ, nZ⟩
    | 2, hq => cases hq; exact ⟨aC, nC⟩
    | 3, hq => cases hq; exact ⟨aJ, nJ⟩
    | k + 4, hq => simp at hq
  have hnest : va_Nw (.methodLinkNest RX7 54 yX2_init "TermScan") s := va_Nw.of rfl (hts _ nest_lots)
  have hover : va_AO "TermScan$Lexicon" s := va_AO.of (hts _ over_lex)
  have hP : va_P (dC, dI) vcl [] s.heap := fun k q h => by simp at h
  have hD : va_D (fun q : Nat => s.heap.size ≤ q) [] := ⟨fun i j p q h => by simp at h, fun k q h => by simp at h⟩
  have hl := lv_entry ([.ref b]) (n := 4) (Nat.le_of_ble_eq_true rfl)
  rw [lg_entry_eq]
  generalize (lg_sl ([.ref b]) ++ List.replicate (4 - (lg_sl ([.ref b])).length) Slot.unset).toArray = ls at hl ⊢
  have hlok : lok ls 4 [some (.ref b), none, none, none] := by
    refine ⟨hl.1, hl.2.1, fun i v hi => ?_⟩
    match i, hi with
    | 0, hi => cases hi; exact hl.2.2 (0, .ref b) List.mem_cons_self
    | 1, hi => cases hi
    | 2, hi => cases hi
    | 3, hi => cases hi
    | i + 4, hi => simp at hi
  generalize hXe : ((p, l, e, s, m, #[Value.ref b], below, meth, c, (fun q : Nat => s.heap.size ≤ q), ((dC, dI), (fun _ => 0), cids cI cZ cC cJ 0), 0, 0) : Xc) = X
  have hYe : xY X = ((dC, dI), (fun _ => 0), cids cI cZ cC cJ 0) := by rw [← hXe]
  have hse : xs X = s := by rw [← hXe]
  have key : U X M_law (lw_Z below #[Value.ref b] s) 0 0 0 [some (.ref b), none, none, none] [] [] := by
    refine U_new (q := 3) (fs := [.null, .null, .null, .null, .null, .null, .null]) clz_6 ck_RL_7 ia_RX7 ini_RX7 (fun j hj => by rcases (show j = 0 ∨ j = 1 ∨ j = 2 ∨ j = 3 ∨ j = 4 ∨ j = 5 ∨ j = 6 by omega) with rfl | rfl | rfl | rfl | rfl | rfl | rfl <;> rfl) dL_law_0 rfl (Nat.le_of_ble_eq_true rfl) (Nat.le_of_ble_eq_true rfl) (fun q0 => ?_)
    refine U_ws (ws' := [(q0, .inr (6, [.null, .null, .null, .null, .null, .null, .null]))]) rfl ?_
    refine U_dup (q := 4) dL_law_3 rfl rfl ?_
    refine U_ci 0 [] (q := 7) (As := []) (rest := [.ref q0]) (wr := []) (cn_X7_init (xY X) q0) ci_X7_init (fun U hU => ⟨va_Nw.warmM hU (by rw [hse]; exact hnest), va_AO.moved hU.alike (by rw [hse]; exact hover)⟩) (fun a U g mk h => ⟨va_Nw.same rfl rfl h.1, va_AO.moved (u := U) (U := U.calling g mk a) (Vm.Alike.refl U.vm) h.2⟩) ml_RL_9 rfl ⟨Nat.le_of_ble_eq_true rfl, Nat.le_of_ble_eq_true rfl⟩ rfl (Nat.le_of_ble_eq_true rfl) dL_law_4 rfl rfl rfl (by decide) (by decide) (Nat.le_of_ble_eq_true rfl) (Nat.le_of_ble_eq_true rfl) (fun f cO hpo => ?_)
    refine U_astore_n (q := 8) (L' := [some (.ref b), some (.ref q0), none, none]) dL_law_7 rfl (Nat.le_of_ble_eq_true rfl) rfl ?_
    refine U_new (q := 11) (fs := [.null, .null, .null, .null, .int 0, .null, .int 0, .int 0, .null, .null, .null, .null, .null, .null]) clz_7 ck_RL_10 ia_RX8 ini_RX8 (fun j hj => by rcases (show j = 0 ∨ j = 1 ∨ j = 2 ∨ j = 3 ∨ j = 4 ∨ j = 5 ∨ j = 6 ∨ j = 7 ∨ j = 8 ∨ j = 9 ∨ j = 10 ∨ j = 11 ∨ j = 12 ∨ j = 13 by omega) with rfl | rfl | rfl | rfl | rfl | rfl | rfl | rfl | rfl | rfl | rfl | rfl | rfl | rfl <;> rfl) dL_law_8 rfl (Nat.le_of_ble_eq_true rfl) (Nat.le_of_ble_eq_true rfl) (fun q1 => ?_)
    refine U_dup (q := 12) dL_law_11 rfl rfl ?_
    refine U_ci 43 (List.range 43) (q := 15) (As := []) (rest := [.ref q1]) (wr := w1_X7_init (xY X) q0 f cO) (b := q1) (e0 := .inr (7, [.null, .null, .null, .null, .int 0, .null, .int 0, .int 0, .null, .null, .null, .null, .null, .null])) (cn_X8_init (xY X) q1) ci_X8_init (fun _ _ => trivial) (fun _ _ _ _ h => h) ml_RL_12 rfl ⟨Nat.le_of_ble_eq_true rfl, Nat.le_of_ble_eq_true rfl⟩ rfl (Nat.le_of_ble_eq_true rfl) dL_law_12 rfl rfl rfl (by decide) (by decide) (Nat.le_of_ble_eq_true rfl) (Nat.le_of_ble_eq_true rfl) (fun g cO2 _ => ?_)
    refine U_astore_n (q := 16) (L' := [some (.ref b), some (.ref q0), some (.ref q1), none]) dL_law_15 rfl (Nat.le_of_ble_eq_true rfl) rfl ?_
    refine U_iconst (q := 17) (v := 0) dL_law_16 rfl (by decide) ?_
    refine U_istore_n (q := 18) (L' := [some (.ref b), some (.ref q0), some (.ref q1), some (.int 0)]) dL_law_17 rfl (Nat.le_of_ble_eq_true rfl) rfl ?_
    have hKO : va_K (dC, dI) vcl [(cO, .object "TermScan$Lexicon")] s := by
      obtain ⟨t0, ht0, hk0⟩ := hpo s (by rw [hse]; exact Vm.Alike.refl s.vm)
      rw [hYe] at hk0
      exact va_K.moved ht0 hk0
    have hK5 : va_K (dC, dI) vcl (tysY ((dC, dI), adr q0 q1 f g, cids cI cZ cC cJ cO)) s := hKp.app hKO
    intro ok H locs ls h1 h2 h3 h4
    generalize hX1 : ((p, l, e, s, m, #[Value.ref b], below, meth, c, (fun q : Nat => s.heap.size ≤ q), ((dC, dI), adr q0 q1 f g, cids cI cZ cC cJ cO), 55, 10063) : Xc) = X1
    rw [hYe, wl_start] at h2 h3
    subst hXe
    have hV : V X1 M_law (lw_Z below #[Value.ref b] s) 18 [some (.ref b), some (.ref (ad (xY X1) 0)), some (.ref (ad (xY X1) 43)), some (.int (nI 0))] [] sg0 := by
      refine law_loop (b := b) (L := L) (sc := sc) hp hL (by rw [← hX1]; exact hX) (by rw [← hX1]; exact hbl) (by rw [← hX1]; exact hbA) (fun σ i => ?_) (L + 1) 0 sg0 (Nat.zero_le _) (by omega) h0
      refine V_iconst (q := 749) (v := 1) dL_law_748 rfl iconst_1 ?_
      intro ok H locs ls h1 h2 h3 h4
      subst hX1
      refine va_forget (fun q hq => h4.2.2 q hq) ?_
      refine W.widen (k := 600000) (n := 7302250) (Nat.le_of_ble_eq_true rfl) (Nat.le_of_ble_eq_true rfl) ?_
      exact lw_ret hx hb hr hlocks dL_law_749
    subst hX1
    exact hV ⟨hx, hb, hml, hown, htg, hK5, hA, hr, hlocks, Nat.le_of_ble_eq_true rfl, Nat.le_of_ble_eq_true rfl⟩ H locs ls h1 h2 h3 h4
  subst hXe
  exact key ⟨hx, hb, hml, hown, htg, hKp, hA, hr, hlocks⟩ s.heap [] ls hlok hP hD va_S.rf
