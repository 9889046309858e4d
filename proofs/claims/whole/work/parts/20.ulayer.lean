/-! U: the machine in a constructor, over a world that grows -/
def tysP (Y : Yc) : List (ClassId × FieldType) := [(Y.2.2 0, .int), (Y.2.2 1, .boolean), (Y.2.2 2, .char), (Y.2.2 3, .long)]
def Uok (X : Xc) (M : Mc) : Prop := (xp X).tables.exec = Jvm.exec ∧ (xc X).code = M.2.1 ∧ (xc X).maxLocals = M.2.2.1 ∧ (xs X).vm.findClass M.1 = some (xm X).cls ∧ (∀ w ∈ gtb, w.before (xa X) (xs X) = true) ∧ va_K (xY X).1 vcl (tysP (xY X)) (xs X) ∧ (∀ q, (xs X).heap.size ≤ q → xA X q) ∧ (xh X).sig.returnType = M.2.2.2.2 ∧ (xh X).locks = false
def U (X : Xc) (M : Mc) (Q : State → Prop) (cn sn : Nat) (pc : Nat) (L : List (Option Value)) (st : List Value) (ws : va_W) : Prop :=
  Uok X M → ∀ (H : Heap) (locs : List Loc) (ls : Array Slot), lok ls M.2.2.1 L → va_P (xY X).1 vcl ws H → va_D (xA X) ws → va_S (xA X) (xs X).heap H locs →
    W (xp X) (xl X) (xe X) M.2.2.2.1 (xs X) (xm X) (xa X) (xb X) (xh X) (xc X) H locs cn sn Q (F0 (xm X) pc ls st)
section UR
variable {X : Xc} {M : Mc} {Q : State → Prop} {cn sn pc q : Nat} {L L' : List (Option Value)} {st : List Value} {ws ws' : va_W}
theorem U_ws (h : ws = ws') (k : U X M Q cn sn pc L st ws') : U X M Q cn sn pc L st ws := h ▸ k
theorem U_iconst {n : Int} {v : Int32} (d : decode M.2.1 pc = .ok (.iconst n, 1)) (e : pc + 1 = q) (hv : Int32.ofInt n = v) (k : U X M Q cn sn q L (.int v :: st) ws) : U X M Q cn sn pc L st ws := fun ok H locs ls h1 h2 h3 h4 => by
  subst e
  exact lv_iconst ok.1 ok.2.1 d hv (k ok H locs ls h1 h2 h3 h4)
theorem U_bipush {n : Int} {v : Int32} (d : decode M.2.1 pc = .ok (.bipush n, 2)) (e : pc + 2 = q) (hv : (Int8.ofInt n).toInt32 = v) (k : U X M Q cn sn q L (.int v :: st) ws) : U X M Q cn sn pc L st ws := fun ok H locs ls h1 h2 h3 h4 => by
  subst e
  exact lv_bipush ok.1 ok.2.1 d hv (k ok H locs ls h1 h2 h3 h4)
theorem U_sipush {n : Int} {v : Int32} (d : decode M.2.1 pc = .ok (.sipush n, 3)) (e : pc + 3 = q) (hv : (Int16.ofInt n).toInt32 = v) (k : U X M Q cn sn q L (.int v :: st) ws) : U X M Q cn sn pc L st ws := fun ok H locs ls h1 h2 h3 h4 => by
  subst e
  exact lv_sipush ok.1 ok.2.1 d hv (k ok H locs ls h1 h2 h3 h4)
theorem U_dup {va : Value} (d : decode M.2.1 pc = .ok (.dup, 1)) (e : pc + 1 = q) (hva : va.category = 1) (k : U X M Q cn sn q L (va :: va :: st) ws) : U X M Q cn sn pc L (va :: st) ws := fun ok H locs ls h1 h2 h3 h4 => by
  subst e
  exact lv_dup ok.1 ok.2.1 d hva (k ok H locs ls h1 h2 h3 h4)
theorem U_iload_n {k0 : Fin 4} {x : Int32} (d : decode M.2.1 pc = .ok (.iload_n k0, 1)) (e : pc + 1 = q) (hl : L[(k0 : Nat)]? = some (some (.int x))) (k : U X M Q cn sn q L (.int x :: st) ws) : U X M Q cn sn pc L st ws := fun ok H locs ls h1 h2 h3 h4 => by
  subst e
  exact lv_iload_n ok.1 ok.2.1 d rfl (h1.2.2 _ _ hl) (k ok H locs ls h1 h2 h3 h4)
theorem U_aload_n {k0 : Fin 4} {x : Nat} (d : decode M.2.1 pc = .ok (.aload_n k0, 1)) (e : pc + 1 = q) (hl : L[(k0 : Nat)]? = some (some (.ref x))) (k : U X M Q cn sn q L (.ref x :: st) ws) : U X M Q cn sn pc L st ws := fun ok H locs ls h1 h2 h3 h4 => by
  subst e
  exact lv_aload_n ok.1 ok.2.1 d rfl (h1.2.2 _ _ hl) (k ok H locs ls h1 h2 h3 h4)
theorem U_istore_n {k0 : Fin 4} {x : Int32} (d : decode M.2.1 pc = .ok (.istore_n k0, 1)) (e : pc + 1 = q) (hn : (k0 : Nat) < M.2.2.1) (hL : stL L (k0 : Nat) (.int x) = L') (k : U X M Q cn sn q L' st ws) : U X M Q cn sn pc L (.int x :: st) ws := fun ok H locs ls h1 h2 h3 h4 => by
  subst e; subst hL
  exact lv_istore_n ok.1 ok.2.1 d rfl h1.has hn rfl (fun ls' h' => k ok H locs ls' (stL_ok h') h2 h3 h4)
theorem U_astore_n {k0 : Fin 4} {x : Nat} (d : decode M.2.1 pc = .ok (.astore_n k0, 1)) (e : pc + 1 = q) (hn : (k0 : Nat) < M.2.2.1) (hL : stL L (k0 : Nat) (.ref x) = L') (k : U X M Q cn sn q L' st ws) : U X M Q cn sn pc L (.ref x :: st) ws := fun ok H locs ls h1 h2 h3 h4 => by
  subst e; subst hL
  exact lv_astore_n ok.1 ok.2.1 d rfl h1.has hn rfl (fun ls' h' => k ok H locs ls' (stL_ok h') h2 h3 h4)
theorem U_iinc {i : Nat} {n : Int} {x v w : Int32} (d : decode M.2.1 pc = .ok (.iinc i n, 3)) (e : pc + 3 = q) (hl : L[i]? = some (some (.int x))) (hv : Int32.ofInt n = v) (hw : x + v = w) (hn : i < M.2.2.1) (hL : stL L i (.int w) = L') (k : U X M Q cn sn q L' st ws) : U X M Q cn sn pc L st ws := fun ok H locs ls h1 h2 h3 h4 => by
  subst e; subst hL; subst hw
  obtain ⟨a, ha⟩ := List.getElem?_of_mem (lvo_mem.mpr hl)
  exact lv_iinc ok.1 ok.2.1 d h1.has ha (by rw [hv]) hn rfl (fun ls' h' => k ok H locs ls' (stL_ok h') h2 h3 h4)
theorem U_goto {off : Int} (d : decode M.2.1 pc = .ok (.goto off, 3)) (e : (pc : Int) + off = (q : Int)) (k : U X M Q cn sn q L st ws) : U X M Q cn sn pc L st ws := fun ok H locs ls h1 h2 h3 h4 => lv_goto ok.1 ok.2.1 d e (k ok H locs ls h1 h2 h3 h4)
theorem U_icmp_ge_t {x y : Int32} {off : Int} (d : decode M.2.1 pc = .ok (.if_icmp .ge off, 3)) (e : (pc : Int) + off = (q : Int)) (hc : y ≤ x) (kt : U X M Q cn sn q L st ws) : U X M Q cn sn pc L (.int y :: .int x :: st) ws := fun ok H locs ls h1 h2 h3 h4 => lv_icmp_ge ok.1 ok.2.1 d e (fun _ => kt ok H locs ls h1 h2 h3 h4) (fun c => absurd hc c)
theorem U_icmp_ge_f {x y : Int32} {off : Int} {t : Nat} (d : decode M.2.1 pc = .ok (.if_icmp .ge off, 3)) (e : (pc : Int) + off = (t : Int)) (e2 : pc + 3 = q) (hc : ¬ y ≤ x) (kf : U X M Q cn sn q L st ws) : U X M Q cn sn pc L (.int y :: .int x :: st) ws := fun ok H locs ls h1 h2 h3 h4 => by
  subst e2
  exact lv_icmp_ge ok.1 ok.2.1 d e (fun c => absurd c hc) (fun _ => kf ok H locs ls h1 h2 h3 h4)
theorem U_obj {idx x : Nat} (lk : Cond.methodLink M.1 idx objectInit ∈ gtb) (d : decode M.2.1 pc = .ok (.invokespecial idx, 3)) (e : pc + 3 = q) (hfr : 1 ≤ M.2.2.2.1.frames) (hlo : (st.map fun v => v.category).sum + 12 ≤ M.2.2.2.1.locals) (k : U X M Q cn sn q L st ws) : U X M Q cn sn pc L (.ref x :: st) ws := fun ok H locs ls h1 h2 h3 h4 => by
  subst e
  refine W.objInit ok.1 ok.2.1 ok.2.2.2.1 (ok.2.2.2.2.1 _ lk) (ok.2.2.2.2.1 _ obj_im) (ok.2.2.2.2.1 _ obj_cd) rfl (h1.1.trans ok.2.2.1.symm) rfl d hfr (by simpa [JFrame.monitorRoom] using hlo) (k ok H locs ls h1 h2 h3 h4)
theorem U_new {index ci N : Nat} {C : String} {T : u_T} {ty : Nat → FieldType} {fs : List Value} (cz : Clz ci C T N ty) (lk : Cond.classLink M.1 index C ∈ gtb) (li : Cond.instantiable C N ∈ gtb) (lini : Cond.initialized C ∈ gtb) (hfs : ∀ j, j < N → defaultValue (ty j) = vp_V fs j) (d : decode M.2.1 pc = .ok (.new index, 3)) (e : pc + 3 = q) (hc : cn + 1 ≤ M.2.2.2.1.cells) (hs : sn + N ≤ M.2.2.2.1.slots)
    (kk : ∀ a : Nat, U X M Q (cn + 1) (sn + N) q L (.ref a :: st) (ws ++ [(a, .inr (ci, fs))])) : U X M Q cn sn pc L st ws := fun ok H locs ls h1 h2 h3 h4 => by
  subst e
  exact va_new (D := (xY X).1) (cl := vcl) (tys := tysP (xY X)) ok.1 ok.2.1 ok.2.2.2.2.1 cz.2.1 ty cz.2.2.1 ok.2.2.2.1 (ok.2.2.2.2.1 _ lk) (ok.2.2.2.2.1 _ li) (ok.2.2.2.2.1 _ lini) ok.2.2.2.2.2.1 h2 h3 h4 ok.2.2.2.2.2.2.1 cz.1 hfs hc hs d (fun a H1 g1 g2 g3 => kk a ok H1 locs ls h1 g1 g2 g3)
theorem U_newaI {n : Int32} {N : Nat} (d : decode M.2.1 pc = .ok (.newarray .int, 2)) (e : pc + 2 = q) (hn : ¬ n < 0) (hN : n.toNatClampNeg = N) (hb : N * componentBytes .int ≤ 536870912) (hc : cn + 1 ≤ M.2.2.2.1.cells) (hs : sn + N ≤ M.2.2.2.1.slots)
    (kk : ∀ a : Nat, U X M Q (cn + 1) (sn + N) q L (.ref a :: st) (ws ++ [(a, .inl ((xY X).2.2 0, N, .inl (fun _ => 0)))])) : U X M Q cn sn pc L (.int n :: st) ws := fun ok H locs ls h1 h2 h3 h4 => by
  subst e
  refine va_newa (atype := .int) (ty := .int) (D := (xY X).1) (cl := vcl) (tys := tysP (xY X)) (a0 := (N, .inl (fun _ => 0))) ok.1 ok.2.1 (ok.2.2.2.2.1 _ arr_int) rfl ok.2.2.2.2.2.1 h2 h3 h4 ok.2.2.2.2.2.2.1 (fun cA => rfl) hn hN hb hc hs d (fun a cA H1 gk g1 g2 g3 => ?_)
  have e1 := (gk.2 4 (cA, .int) rfl).2
  have e2 := (ok.2.2.2.2.2.1.2 0 ((xY X).2.2 0, .int) rfl).2
  have e3 : cA = (xY X).2.2 0 := Option.some.inj (e1.symm.trans e2)
  subst e3
  exact kk a ok H1 locs ls h1 g1 g2 g3
theorem U_newaZ {n : Int32} {N : Nat} (d : decode M.2.1 pc = .ok (.newarray .boolean, 2)) (e : pc + 2 = q) (hn : ¬ n < 0) (hN : n.toNatClampNeg = N) (hb : N * componentBytes .boolean ≤ 536870912) (hc : cn + 1 ≤ M.2.2.2.1.cells) (hs : sn + N ≤ M.2.2.2.1.slots)
    (kk : ∀ a : Nat, U X M Q (cn + 1) (sn + N) q L (.ref a :: st) (ws ++ [(a, .inl ((xY X).2.2 1, N, .inl (fun _ => 0)))])) : U X M Q cn sn pc L (.int n :: st) ws := fun ok H locs ls h1 h2 h3 h4 => by
  subst e
  refine va_newa (atype := .boolean) (ty := .boolean) (D := (xY X).1) (cl := vcl) (tys := tysP (xY X)) (a0 := (N, .inl (fun _ => 0))) ok.1 ok.2.1 (ok.2.2.2.2.1 _ arr_boolean) rfl ok.2.2.2.2.2.1 h2 h3 h4 ok.2.2.2.2.2.2.1 (fun cA => rfl) hn hN hb hc hs d (fun a cA H1 gk g1 g2 g3 => ?_)
  have e1 := (gk.2 4 (cA, .boolean) rfl).2
  have e2 := (ok.2.2.2.2.2.1.2 1 ((xY X).2.2 1, .boolean) rfl).2
  have e3 : cA = (xY X).2.2 1 := Option.some.inj (e1.symm.trans e2)
  subst e3
  exact kk a ok H1 locs ls h1 g1 g2 g3
theorem U_newaC {n : Int32} {N : Nat} (d : decode M.2.1 pc = .ok (.newarray .char, 2)) (e : pc + 2 = q) (hn : ¬ n < 0) (hN : n.toNatClampNeg = N) (hb : N * componentBytes .char ≤ 536870912) (hc : cn + 1 ≤ M.2.2.2.1.cells) (hs : sn + N ≤ M.2.2.2.1.slots)
    (kk : ∀ a : Nat, U X M Q (cn + 1) (sn + N) q L (.ref a :: st) (ws ++ [(a, .inl ((xY X).2.2 2, N, .inl (fun _ => 0)))])) : U X M Q cn sn pc L (.int n :: st) ws := fun ok H locs ls h1 h2 h3 h4 => by
  subst e
  refine va_newa (atype := .char) (ty := .char) (D := (xY X).1) (cl := vcl) (tys := tysP (xY X)) (a0 := (N, .inl (fun _ => 0))) ok.1 ok.2.1 (ok.2.2.2.2.1 _ arr_char) rfl ok.2.2.2.2.2.1 h2 h3 h4 ok.2.2.2.2.2.2.1 (fun cA => rfl) hn hN hb hc hs d (fun a cA H1 gk g1 g2 g3 => ?_)
  have e1 := (gk.2 4 (cA, .char) rfl).2
  have e2 := (ok.2.2.2.2.2.1.2 2 ((xY X).2.2 2, .char) rfl).2
  have e3 : cA = (xY X).2.2 2 := Option.some.inj (e1.symm.trans e2)
  subst e3
  exact kk a ok H1 locs ls h1 g1 g2 g3
theorem U_newaJ {n : Int32} {N : Nat} (d : decode M.2.1 pc = .ok (.newarray .long, 2)) (e : pc + 2 = q) (hn : ¬ n < 0) (hN : n.toNatClampNeg = N) (hb : N * componentBytes .long ≤ 536870912) (hc : cn + 1 ≤ M.2.2.2.1.cells) (hs : sn + N ≤ M.2.2.2.1.slots)
    (kk : ∀ a : Nat, U X M Q (cn + 1) (sn + N) q L (.ref a :: st) (ws ++ [(a, .inl ((xY X).2.2 3, N, .inr (.inl (fun _ => 0))))])) : U X M Q cn sn pc L (.int n :: st) ws := fun ok H locs ls h1 h2 h3 h4 => by
  subst e
  refine va_newa (atype := .long) (ty := .long) (D := (xY X).1) (cl := vcl) (tys := tysP (xY X)) (a0 := (N, .inr (.inl (fun _ => 0)))) ok.1 ok.2.1 (ok.2.2.2.2.1 _ arr_long) rfl ok.2.2.2.2.2.1 h2 h3 h4 ok.2.2.2.2.2.2.1 (fun cA => rfl) hn hN hb hc hs d (fun a cA H1 gk g1 g2 g3 => ?_)
  have e1 := (gk.2 4 (cA, .long) rfl).2
  have e2 := (ok.2.2.2.2.2.1.2 3 ((xY X).2.2 3, .long) rfl).2
  have e3 : cA = (xY X).2.2 3 := Option.some.inj (e1.symm.trans e2)
  subst e3
  exact kk a ok H1 locs ls h1 g1 g2 g3
theorem U_newq {index : Nat} {n : Int32} {N : Nat} (ho : va_AO "TermScan$Lexicon" (xs X)) (lk : Cond.classLink M.1 index "TermScan$Lexicon" ∈ gtb) (d : decode M.2.1 pc = .ok (.anewarray index, 3)) (e : pc + 3 = q) (hn : ¬ n < 0) (hN : n.toNatClampNeg = N) (hb : N * 4 ≤ 536870912) (hc : cn + 1 ≤ M.2.2.2.1.cells) (hs : sn + N ≤ M.2.2.2.1.slots)
    (kk : ∀ (a : Nat) (cO : ClassId), va_K (xY X).1 vcl [(cO, .object "TermScan$Lexicon")] (xs X) → U X M Q (cn + 1) (sn + N) q L (.ref a :: st) (ws ++ [(a, .inl (cO, N, .inr (.inr (.inr (.inr (fun _ => none))))))])) : U X M Q cn sn pc L (.int n :: st) ws := fun ok H locs ls h1 h2 h3 h4 => by
  subst e
  exact va_newq (D := (xY X).1) (cl := vcl) (tys := tysP (xY X)) ok.1 ok.2.1 ok.2.2.2.1 (ok.2.2.2.2.1 _ lk) ho ok.2.2.2.2.2.1 h2 h3 h4 ok.2.2.2.2.2.2.1 hn hN hb hc hs d (fun a cA H1 gk g1 g2 g3 => kk a cA (gk.sub [4] rfl) ok H1 locs ls h1 g1 g2 g3)
theorem U_putr {index i j ci N v a : Nat} {C : String} {T : u_T} {ty : Nat → FieldType} {fs fs' : List Value} (hin : (xh X).name = "<init>") (cz : Clz ci C T N ty) (hnr : narrow (ty j) (.ref v) = .ref v) (hf : fits (ty j) (.ref v) = true) (hfin : (T j).2.2.2 = true) (hdecl : (T j).1 = M.1) (hN : j < N) (lk : Cond.fieldLink M.1 index (T j).1 (T j).2.1 (T j).2.2.1 ∈ gtb) (d : decode M.2.1 pc = .ok (.putfield index, 3)) (e : pc + 3 = q) (hi : ws[i]? = some (a, .inr (ci, fs))) (hj : j < fs.length) (hfs : fs.set j (.ref v) = fs') (hws : ws.set i (a, .inr (ci, fs')) = ws')
    (kk : U X M Q cn sn q L st ws') : U X M Q cn sn pc L (.ref v :: .ref a :: st) ws := fun ok H locs ls h1 h2 h3 h4 => by
  subst e; subst hws; subst hfs
  exact va_putF (D := (xY X).1) (cl := vcl) (tys := tysP (xY X)) (ci := ci) (ty := ty j) ok.1 ok.2.1 ok.2.2.2.2.1 cz.2.1 ty cz.2.2.1 cz.2.2.2 ok.2.2.2.1 ok.2.2.2.2.2.1 h2 h3 h4 i hi cz.1 j hN (ok.2.2.2.2.1 _ lk) (fun _ h9 => h9) hfin hin hdecl (cz.2.2.1 j hN) hnr hf hj d (fun H1 locs1 g1 g2 g3 => kk ok H1 locs1 ls h1 g1 g2 g3)
theorem U_get {index i j ci N a : Nat} {C : String} {T : u_T} {ty : Nat → FieldType} {fs : List Value} {v : Value} (cz : Clz ci C T N ty) (hN : j < N) (lk : Cond.fieldLink M.1 index (T j).1 (T j).2.1 (T j).2.2.1 ∈ gtb) (d : decode M.2.1 pc = .ok (.getfield index, 3)) (e : pc + 3 = q) (hi : ws[i]? = some (a, .inr (ci, fs))) (hv : fs[j]? = some v)
    (kk : U X M Q cn sn q L (v :: st) ws) : U X M Q cn sn pc L (.ref a :: st) ws := fun ok H locs ls h1 h2 h3 h4 => by
  subst e
  exact va_get (D := (xY X).1) (cl := vcl) (tys := tysP (xY X)) (ci := ci) ok.1 ok.2.1 ok.2.2.2.2.1 cz.2.1 ok.2.2.2.1 ok.2.2.2.2.2.1 h2 i hi cz.1 j hN (ok.2.2.2.2.1 _ lk) (fun _ h9 => h9) hv d (kk ok H locs ls h1 h2 h3 h4)
theorem U_aast {i qk a v n : Nat} {cO : ClassId} {vs : List Value} {f f' : Nat → Option Nat} {x : Int32} (hK : va_K (xY X).1 vcl [(cO, .object "TermScan$Lexicon")] (xs X)) (d : decode M.2.1 pc = .ok (.aastore, 1)) (e : pc + 1 = q) (hi : ws[i]? = some (a, .inl (cO, n, .inr (.inr (.inr (.inr f)))))) (hv : ws[qk]? = some (v, .inr (0, vs))) (hx : vp_in x n) (hf : va_up f x.toNatClampNeg (some v) = f') (hws : ws.set i (a, .inl (cO, n, .inr (.inr (.inr (.inr f'))))) = ws')
    (kk : U X M Q cn sn q L st ws') : U X M Q cn sn pc L (.ref v :: .int x :: .ref a :: st) ws := fun ok H locs ls h1 h2 h3 h4 => by
  subst e; subst hws; subst hf
  exact va_astq (D := (xY X).1) (cl := vcl) (tys := [(cO, .object "TermScan$Lexicon")]) (r := (RX1, TX1, 9)) ok.1 ok.2.1 hK h2 h3 h4 i 0 qk 0 hi rfl hv rfl hx d (fun H1 locs1 g1 g2 g3 => kk ok H1 locs1 ls h1 g1 g2 g3)
end UR
/-- a constructor's contract: from its own cell w0 to the cells w1, of new addresses f and the row's kind cO -/
def Pn (Y : Yc) (ex : State → Prop) (av : List Value) (w0 : va_W) (sz : Nat) : Array Value → State → Prop := va_Pc av (fun U => U.heap.size = sz ∧ va_P Y.1 vcl w0 U.heap ∧ va_K Y.1 vcl (tysP Y) U ∧ va_D (fun _ => True) w0 ∧ ex U)
def Qn (Y : Yc) (A : Nat → Prop) (w1 : (Nat → Nat) → ClassId → va_W) (po : ClassId → State → Prop) : Array Value → State → Outcome → State → Prop := fun _ st oc t => (∃ (f : Nat → Nat) (cO : ClassId), oc = .returned none ∧ va_P Y.1 vcl (w1 f cO) t.heap ∧ va_D A (w1 f cO) ∧ po cO t) ∧ va_F A st t
def Cn (M : Mc) (y : MethodName) (Y : Yc) (mc ms : Nat) (ex : State → Prop) (av : List Value) (w0 : va_W) (w1 : (Nat → Nat) → ClassId → va_W) (po : ClassId → State → Prop) : Prop :=
  ∀ (l : Launch) (sz : Nat), Met l y (Cond.code y M.2.1 M.2.2.1 M.2.2.2.2 :: gtb) M.2.2.2.1 (Pn Y ex av w0 sz) (Qn Y (va_A w0 sz) w1 po) mc ms (va_A w0 sz)
def mqn (X : Xc) (w1 : (Nat → Nat) → ClassId → va_W) (po : ClassId → State → Prop) (mc ms : Nat) : State → Prop := MQ (xb X) (Qn (xY X) (xA X) w1 po) (xa X) (xs X) mc ms (xA X)
theorem U_vret {X : Xc} {M : Mc} {cn sn pc : Nat} {L : List (Option Value)} {ws : va_W} {w1 : (Nat → Nat) → ClassId → va_W} {po : ClassId → State → Prop} (f : Nat → Nat) (cO : ClassId) (hw : ws = w1 f cO) (hpo : ∀ t, (xs X).WarmedH t.vm → po cO t) (hr : M.2.2.2.2 = none) (d : decode M.2.1 pc = .ok (.return_, 1)) : U X M (mqn X w1 po cn sn) cn sn pc L [] ws := fun ok H locs ls h1 h2 h3 h4 => by
  subst hw
  exact W.vret ok.1 ok.2.1 (ok.2.2.2.2.2.2.2.1.trans hr) (fun t ht hW => ⟨⟨f, cO, rfl, by rw [ht]; exact h2, h3, hpo t hW⟩, h4.F ht⟩) h4.2.2 d ok.2.2.2.2.2.2.2.2
theorem Cn_intro {M : Mc} {y : MethodName} {Y : Yc} {mc ms : Nat} {ex : State → Prop} {av : List Value} {w0 : va_W} {w1 : (Nat → Nat) → ClassId → va_W} {po : ClassId → State → Prop} (L0 : List (Option Value)) (hy : plainName y.cls = true) (hown : M.1 = y.cls) (hyn : y.name = "<init>") (hn : (lg_sl av).length ≤ M.2.2.1) (hL : lvL av ++ List.replicate (M.2.2.1 - (lvL av).length) none = L0)
    (h : ∀ X : Xc, xY X = Y → (xh X).name = "<init>" → ex (xs X) → U X M (mqn X w1 po mc ms) 0 0 0 L0 [] w0) : Cn M y Y mc ms ex av w0 w1 po := by
  intro l sz
  refine Met.ofW (cc := M.2.1) (maxL := M.2.2.1) (ret := M.2.2.2.2) hy rfl ?_
  intro p e s m args below meth c s₁ B hml hv
  obtain ⟨rfl, hsz, hP, hK, hD0, hex⟩ := hv
  have hts := atoms_spec (ws := Cond.code y M.2.1 M.2.2.1 M.2.2.2.2 :: gtb) B.pre
  have hfc : s.vm.findClass y.cls = some m.cls := findClass_of_methodNamed B.named
  have hin : meth.name = "<init>" := ((name_of_methodNamed B.named B.method).1).trans hyn
  subst hsz
  have hD := hD0.self (sz := s.heap.size)
  have key := h (p, l, e, s, m, av.toArray, below, meth, c, va_A w0 s.heap.size, Y, 0, 0) rfl hin hex
    ⟨B.exec, B.bytes, hml, by rw [hown]; exact hfc, fun w hw => hts w (List.mem_cons_of_mem _ hw), hK, fun q h => Or.inr h, B.returns, B.notSynchronized⟩
  have hl := lv_entry av hn
  rw [lg_entry_eq]
  generalize (lg_sl av ++ List.replicate (M.2.2.1 - (lg_sl av).length) Slot.unset).toArray = ls at hl ⊢
  have hlok : lok ls M.2.2.1 L0 := by
    refine ⟨hl.1, hl.2.1, fun i v hi => ?_⟩
    subst hL
    rw [List.getElem?_append] at hi
    split at hi
    · have := lvL_at av 0 i v hi
      rw [Nat.zero_add] at this
      exact hl.2.2 _ this
    · rw [List.getElem?_replicate] at hi
      split at hi <;> cases hi
  exact key s.heap [] ls hlok hP hD va_S.rf
/-- what the tables say of a constructor that is called -/
def Cei (M : Mc) (y : MethodName) (n mc ms : Nat) : Prop := Cond.code y M.2.1 M.2.2.1 M.2.2.2.2 ∈ gtb ∧ Cond.initialized y.cls ∈ gtb ∧ (y.cls ≠ "java/lang/invoke/MethodHandle" ∧ y.cls ≠ "java/lang/invoke/VarHandle" ∧ (parseMethodDescriptor y.desc).map (fun d => d.parameters.length) = some n) ∧ M.2.2.2.1.cells = mc ∧ M.2.2.2.1.slots = ms ∧ y.name = "<init>" ∧ Cond.instanceMethod y ∈ gtb ∧ M.2.2.2.2 = none
section UC
variable {X : Xc} {M : Mc} {Q : State → Prop} {cn sn pc q : Nat} {L : List (Option Value)} {st rest : List Value} {ws wr : va_W} {y : MethodName} {My : Mc} {index n mc ms : Nat} {As : List Value} {ex : State → Prop} {w1 : (Nat → Nat) → ClassId → va_W} {po : ClassId → State → Prop} {b : Nat} {e0 : va_E}
theorem U_back {i : Nat} {isR : List Nat} {av : Array Value} {H : Heap} {locs : List Loc} {ls : Array Slot} (ok : Uok X M) (h1 : lok ls M.2.2.1 L) (h2 : va_P (xY X).1 vcl ws H) (h3 : va_D (xA X) ws) (h4 : va_S (xA X) (xs X).heap H locs) (hi : ws[i]? = some (b, e0)) (hR : isR.map (fun j => ws[j]?) = wr.map some) (hnd : va_nd isR = true) (hdis : ∀ j ∈ isR, j ∉ [i])
    (hr : va_Run (xp X) (xl X) (xe X) M.2.2.2.1 (xs X) (xm X) (xa X) (xb X) (xh X) (xc X) H locs cn sn mc ms (F0 (xm X) pc ls st) rest (Qn (xY X) (va_A [(b, e0)] H.size) w1 po av) (va_A [(b, e0)] H.size))
    (kk : ∀ (f : Nat → Nat) (cO : ClassId), (∀ t : State, (xs X).vm.Alike t.vm → ∃ t0 : State, t0.vm.Alike t.vm ∧ po cO t0) → U X M Q (cn + mc) (sn + ms) (pc + 3) L rest (wr ++ w1 f cO)) : W (xp X) (xl X) (xe X) M.2.2.2.1 (xs X) (xm X) (xa X) (xb X) (xh X) (xc X) H locs cn sn Q (F0 (xm X) pc ls st) := by
  intro T hT Xs
  obtain ⟨v, st₀, t, T', Lc, h0, X', hL, e1, e2, ⟨⟨f, cO, hv, hp, hd, hpo⟩, hz, hk⟩, stp⟩ := hr T hT Xs
  cases hv
  rw [h0] at hz hk
  have hC : [i].map (fun j => ws[j]?) = [(b, e0)].map some := by simp [hi]
  have hF : ∀ q, va_A [(b, e0)] H.size q → xA X q := va_free h3 h4 ok.2.2.2.2.2.2.1 [i] hC
  obtain ⟨hP, hD⟩ := va_join (w1 := w1 f cO) h2 h3 [i] isR hC hR hnd hdis hk hF hp hd
  have h4' : va_S (xA X) (xs X).heap T'.heap (locs ++ Lc) := by
    refine ⟨Nat.le_trans h4.1 (by rw [e1]; exact hz), fun q a1 a2 => ?_, fun q hq => ?_⟩
    · rw [e1, hk q (Nat.lt_of_lt_of_le a1 h4.1) (fun z => a2 (hF q z))]
      exact h4.2.1 q a1 a2
    · rcases List.mem_append.mp hq with h | h
      · exact h4.2.2 q h
      · exact hF _ (hL q h)
  have hal : (xs X).vm.Alike t.vm := by rw [← e2]; exact X'.warmed.alike
  obtain ⟨t2, a1, b1⟩ := kk f cO (fun u hu => ⟨t, hal.symm.trans hu, hpo⟩) ok T'.heap (locs ++ Lc) ls h1 (by rw [e1]; exact hP) hD h4' T' rfl X'
  exact ⟨t2, stp t2 a1, b1⟩
theorem Pn_pre {i : Nat} {av : List Value} {H : Heap} (ok : Uok X M) (h2 : va_P (xY X).1 vcl ws H) (h3 : va_D (xA X) ws) (hi : ws[i]? = some (b, e0)) (hex : ∀ U : State, (xs X).WarmedH U.vm → ex U) (hbl : ∀ (a : Array Value) (U : State) (g : JFrame) (mk : MethodId), ex U → ex (U.calling g mk a)) : PreS (xs X) H (Pn (xY X) ex av [(b, e0)] H.size) av := by
  have hs : [i].filterMap (fun j => ws[j]?) = [(b, e0)] := by simp [hi]
  have hs2 : [i].map (fun j => ws[j]?) = [(b, e0)].map some := by simp [hi]
  refine ⟨fun a U g mk hq => ?_, fun U hU hW => ⟨rfl, by rw [hU], by rw [hU]; exact h2.sub [i] hs, va_K.moved hW.alike ok.2.2.2.2.2.1, (h3.sub [i] rfl hs2).weaken (fun _ _ _ _ => trivial), hex U hW⟩⟩
  obtain ⟨q0, q1, qP, qK, qD, qe⟩ := hq
  exact ⟨q0, q1, qP, va_K.moved (u := U) (U := U.calling g mk a) (Vm.Alike.refl U.vm) qK, qD, hbl a U g mk qe⟩
theorem U_ci (i : Nat) (isR : List Nat) (ct : Cn My y (xY X) mc ms ex (.ref b :: As) [(b, e0)] w1 po) (ce : Cei My y n mc ms) (hex : ∀ U : State, (xs X).WarmedH U.vm → ex U) (hbl : ∀ (a : Array Value) (U : State) (g : JFrame) (mk : MethodId), ex U → ex (U.calling g mk a)) (lm : Cond.methodLink M.1 index y ∈ gtb) (hn : As.length = n)
    (hRm : My.2.2.2.1.frames + 1 ≤ M.2.2.2.1.frames ∧ 8 + (My.2.2.1 + 11) + My.2.2.2.1.locals ≤ M.2.2.2.1.locals) (hst : st = As.reverse ++ .ref b :: rest) (hrest : (rest.map fun v => v.category).sum ≤ 8) (d : decode M.2.1 pc = .ok (.invokespecial index, 3)) (e : pc + 3 = q) (hi : ws[i]? = some (b, e0)) (hR : isR.map (fun j => ws[j]?) = wr.map some) (hnd : va_nd isR = true) (hdis : ∀ j ∈ isR, j ∉ [i]) (hc : cn + mc ≤ M.2.2.2.1.cells) (hs : sn + ms ≤ M.2.2.2.1.slots)
    (kk : ∀ (f : Nat → Nat) (cO : ClassId), (∀ t : State, (xs X).vm.Alike t.vm → ∃ t0 : State, t0.vm.Alike t.vm ∧ po cO t0) → U X M Q (cn + mc) (sn + ms) q L rest (wr ++ w1 f cO)) : U X M Q cn sn pc L st ws := fun ok H locs ls h1 h2 h3 h4 => by
  subst e; subst hst
  have hts := ok.2.2.2.2.1
  have hcd : Cond.code y My.2.1 My.2.2.1 none ∈ gtb := by rw [← ce.2.2.2.2.2.2.2]; exact ce.1
  have cb : CallB M.2.2.2.1 (xs X) (xa X) M.1 index y My.2.1 My.2.2.1 none (Cond.code y My.2.1 My.2.2.1 none :: gtb) My.2.2.2.1 mc ms n := callB_of n hts (good_all hcd) rfl ce.2.2.2.1 ce.2.2.2.2.1 (hts _ ce.2.1) (hts _ lm) ce.2.2.1 hRm
  have pr := Pn_pre (av := .ref b :: As) ok h2 h3 hi hex hbl
  have hM := ct (xl X) H.size
  rw [ce.2.2.2.2.2.2.2] at hM
  refine U_back (av := (Value.ref b :: As).toArray) (i := i) (isR := isR) ok h1 h2 h3 h4 hi hR hnd hdis (va_runI (As := As) (rest := rest) (Ts := gtb) (b := b) ⟨ok.1, ok.2.1, ok.2.2.1, ok.2.2.2.1, hts⟩ hM ⟨cb, ce.2.2.2.2.2.1, hts _ ce.2.2.2.2.2.2.1⟩ pr rfl hn h1.1 rfl (lv_room hrest) d ⟨hc, hs⟩) kk
theorem U_cin (host : String) (i : Nat) (isR : List Nat) (ct : Cn My y (xY X) mc ms ex (.ref b :: As) [(b, e0)] w1 po) (ce : Cei My y n mc ms) (hex : ∀ U : State, (xs X).WarmedH U.vm → ex U) (hbl : ∀ (a : Array Value) (U : State) (g : JFrame) (mk : MethodId), ex U → ex (U.calling g mk a)) (lm : va_Nw (.methodLinkNest M.1 index y host) (xs X)) (hn : As.length = n)
    (hRm : My.2.2.2.1.frames + 1 ≤ M.2.2.2.1.frames ∧ 8 + (My.2.2.1 + 11) + My.2.2.2.1.locals ≤ M.2.2.2.1.locals) (hst : st = As.reverse ++ .ref b :: rest) (hrest : (rest.map fun v => v.category).sum ≤ 8) (d : decode M.2.1 pc = .ok (.invokespecial index, 3)) (e : pc + 3 = q) (hi : ws[i]? = some (b, e0)) (hR : isR.map (fun j => ws[j]?) = wr.map some) (hnd : va_nd isR = true) (hdis : ∀ j ∈ isR, j ∉ [i]) (hc : cn + mc ≤ M.2.2.2.1.cells) (hs : sn + ms ≤ M.2.2.2.1.slots)
    (kk : ∀ (f : Nat → Nat) (cO : ClassId), (∀ t : State, (xs X).vm.Alike t.vm → ∃ t0 : State, t0.vm.Alike t.vm ∧ po cO t0) → U X M Q (cn + mc) (sn + ms) q L rest (wr ++ w1 f cO)) : U X M Q cn sn pc L st ws := fun ok H locs ls h1 h2 h3 h4 => by
  subst e; subst hst
  have hts := ok.2.2.2.2.1
  have hcd : Cond.code y My.2.1 My.2.2.1 none ∈ gtb := by rw [← ce.2.2.2.2.2.2.2]; exact ce.1
  have pr := Pn_pre (av := .ref b :: As) ok h2 h3 hi hex hbl
  have hM := ct (xl X) H.size
  rw [ce.2.2.2.2.2.2.2] at hM
  refine U_back (av := (Value.ref b :: As).toArray) (i := i) (isR := isR) ok h1 h2 h3 h4 hi hR hnd hdis (va_runIN (host := host) (As := As) (rest := rest) (Ts := gtb) (b := b) ⟨ok.1, ok.2.1, ok.2.2.1, ok.2.2.2.1, hts⟩ hM ⟨va_cnB n hts (good_all hcd) rfl ce.2.2.2.1 ce.2.2.2.2.1 lm (hts _ ce.2.1) ce.2.2.1 hRm, ce.2.2.2.2.2.1, hts _ ce.2.2.2.2.2.2.1⟩ pr rfl hn h1.1 rfl (lv_room hrest) d ⟨hc, hs⟩) kk
end UC
