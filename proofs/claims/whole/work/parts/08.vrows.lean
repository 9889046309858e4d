/-! V: the machine at a place of a method's code, over the fixed world of cells 'wl Y σ' -/
abbrev Yc : Type := va_G × (Nat → Nat) × (Nat → ClassId)
abbrev Mc : Type := String × ByteArray × Nat × Room × Option FieldType
abbrev Xc : Type := Program × Launch × Env × State × MethodId × Array Value × List Frame × Method × Code × (Nat → Prop) × Yc × Nat × Nat
abbrev xp (X : Xc) : Program := X.1
abbrev xl (X : Xc) : Launch := X.2.1
abbrev xe (X : Xc) : Env := X.2.2.1
abbrev xs (X : Xc) : State := X.2.2.2.1
abbrev xm (X : Xc) : MethodId := X.2.2.2.2.1
abbrev xa (X : Xc) : Array Value := X.2.2.2.2.2.1
abbrev xb (X : Xc) : List Frame := X.2.2.2.2.2.2.1
abbrev xh (X : Xc) : Method := X.2.2.2.2.2.2.2.1
abbrev xc (X : Xc) : Code := X.2.2.2.2.2.2.2.2.1
abbrev xA (X : Xc) : Nat → Prop := X.2.2.2.2.2.2.2.2.2.1
abbrev xY (X : Xc) : Yc := X.2.2.2.2.2.2.2.2.2.2.1
abbrev xn (X : Xc) : Nat := X.2.2.2.2.2.2.2.2.2.2.2.1
abbrev xz (X : Xc) : Nat := X.2.2.2.2.2.2.2.2.2.2.2.2
/-- a cell's address -/
abbrev ad (Y : Yc) (k : Nat) : Nat := Y.2.1 k
def tysY (Y : Yc) : List (ClassId × FieldType) := [(Y.2.2 0, .int), (Y.2.2 1, .boolean), (Y.2.2 2, .char), (Y.2.2 3, .long), (Y.2.2 4, .object "TermScan$Lexicon")]
def vcl : List vw_C := [(RX1, TX1, 9), (RX2, TX2, 1), (RX3, TX3, 6), (RX4, TX4, 15), (RX5, TX5, 3), (RX6, TX6, 7), (RX7, TX7, 7), (RX8, TX8, 14)]
def fv (Y : Yc) (σ : Sg) (k j : Nat) (f : Nat × Nat) : Value := match f.1 with
  | 0 => .int (σ.1 k j)
  | 1 => .long (σ.2 k j)
  | _ => .ref (Y.2.1 f.2)
def flds (Y : Yc) (σ : Sg) (k : Nat) : List (Nat × Nat) → Nat → List Value
  | [], _ => []
  | f :: r, j => fv Y σ k j f :: flds Y σ k r (j + 1)
theorem flds_at (Y : Yc) (σ : Sg) (k : Nat) : ∀ (fs : List (Nat × Nat)) (j i : Nat), (flds Y σ k fs j)[i]? = (fs[i]?).map (fv Y σ k (j + i))
  | [], j, i => by simp [flds]
  | f :: r, j, 0 => by simp [flds]
  | f :: r, j, i + 1 => by
    have h := flds_at Y σ k r (j + 1) i
    simp only [flds, List.getElem?_cons_succ, h]
    rw [show j + 1 + i = j + (i + 1) by omega]
theorem flds_len (Y : Yc) (σ : Sg) (k : Nat) : ∀ (fs : List (Nat × Nat)) (j : Nat), (flds Y σ k fs j).length = fs.length
  | [], j => rfl
  | f :: r, j => by simp [flds, flds_len Y σ k r (j + 1)]
def cel (Y : Yc) (σ : Sg) (k : Nat) (q : Nat × Nat × List (Nat × Nat)) : va_E := match q.1 with
  | 0 => .inl (Y.2.2 0, q.2.1, .inl (σ.1 k))
  | 1 => .inl (Y.2.2 1, q.2.1, .inl (σ.1 k))
  | 2 => .inl (Y.2.2 2, q.2.1, .inl (σ.1 k))
  | 3 => .inl (Y.2.2 3, q.2.1, .inr (.inl (σ.2 k)))
  | 4 => .inl (Y.2.2 4, q.2.1, .inr (.inr (.inr (.inr (fun i => (q.2.2[i]?).map (fun f => Y.2.1 f.2))))))
  | c + 5 => .inr (c, flds Y σ k q.2.2 0)
def wl (Y : Yc) (σ : Sg) : va_W := shp.mapIdx (fun k q => (Y.2.1 k, cel Y σ k q))
theorem wl_at {Y : Yc} {σ : Sg} {k : Nat} {q : Nat × Nat × List (Nat × Nat)} (h : shp[k]? = some q) : (wl Y σ)[k]? = some (Y.2.1 k, cel Y σ k q) := by
  simp [wl, List.getElem?_mapIdx, h]
theorem wl_any {Y : Yc} {σ : Sg} {k : Nat} {r : Nat × va_E} (h : (wl Y σ)[k]? = some r) : ∃ q, shp[k]? = some q ∧ r = (Y.2.1 k, cel Y σ k q) := by
  simp only [wl, List.getElem?_mapIdx] at h
  cases hq : shp[k]? with
  | none => rw [hq] at h; cases h
  | some q => rw [hq] at h; exact ⟨q, rfl, (Option.some.inj h).symm⟩
theorem flds_cg {Y : Yc} {σ σ' : Sg} {k : Nat} (h1 : σ'.1 k = σ.1 k) (h2 : σ'.2 k = σ.2 k) : ∀ (fs : List (Nat × Nat)) (j : Nat), flds Y σ' k fs j = flds Y σ k fs j
  | [], _ => rfl
  | f :: r, j => by simp only [flds, flds_cg h1 h2 r (j + 1), fv, h1, h2]
theorem cel_cg {Y : Yc} {σ σ' : Sg} {k : Nat} {q : Nat × Nat × List (Nat × Nat)} (h1 : σ'.1 k = σ.1 k) (h2 : σ'.2 k = σ.2 k) : cel Y σ' k q = cel Y σ k q := by
  unfold cel
  rw [h1, h2, flds_cg h1 h2]
theorem wl_set {Y : Yc} {σ σ' : Sg} {k : Nat} {q : Nat × Nat × List (Nat × Nat)} (h : shp[k]? = some q) (h1 : ∀ a, a ≠ k → σ'.1 a = σ.1 a ∧ σ'.2 a = σ.2 a) {e : va_E} (he : cel Y σ' k q = e) : (wl Y σ).set k (Y.2.1 k, e) = wl Y σ' := by
  subst he
  apply List.ext_getElem?
  intro i
  rw [List.getElem?_set]
  have hk : k < (wl Y σ).length := (List.getElem?_eq_some_iff.mp (wl_at (Y := Y) (σ := σ) h)).1
  by_cases hi : k = i
  · subst hi
    rw [if_pos rfl, if_pos hk]
    exact (wl_at h).symm
  · rw [if_neg hi]
    cases hq : shp[i]? with
    | none => simp [wl, List.getElem?_mapIdx, hq]
    | some r => rw [wl_at hq, wl_at hq, cel_cg (h1 i (fun z => hi z.symm)).1 (h1 i (fun z => hi z.symm)).2]
theorem wl_D {Y : Yc} {σ σ' : Sg} {A : Nat → Prop} (h : va_D A (wl Y σ)) : va_D A (wl Y σ') := by
  refine ⟨fun i j p q hp hq hpq => ?_, fun k q hk => ?_⟩
  · obtain ⟨a, ha, rfl⟩ := wl_any hp
    obtain ⟨b, hb, rfl⟩ := wl_any hq
    exact h.1 i j (Y.2.1 i, cel Y σ i a) (Y.2.1 j, cel Y σ j b) (wl_at ha) (wl_at hb) hpq
  · obtain ⟨a, ha, rfl⟩ := wl_any hk
    exact h.2 k (Y.2.1 k, cel Y σ k a) (wl_at ha)
theorem wl_A {Y : Yc} {σ σ' : Sg} {sz q : Nat} (h : va_A (wl Y σ) sz q) : va_A (wl Y σ') sz q := by
  rcases h with ⟨k, e, h⟩ | h
  · obtain ⟨a, ha, he⟩ := wl_any h
    refine Or.inl ⟨k, cel Y σ' k a, ?_⟩
    rw [wl_at ha]
    have : q = Y.2.1 k := congrArg Prod.fst he
    rw [this]
  · exact Or.inr h
/-- the locals -/
def lok (ls : Array Slot) (nL : Nat) (L : List (Option Value)) : Prop := ls.size = nL ∧ lv_wf ls ∧ ∀ (i : Nat) (v : Value), L[i]? = some (some v) → ls[i]? = some (.val v)
def lvo (L : List (Option Value)) : List (Nat × Value) := (List.range L.length).filterMap (fun i => match L[i]? with
  | some (some v) => some (i, v)
  | _ => none)
theorem lvo_mem {L : List (Option Value)} {i : Nat} {v : Value} : (i, v) ∈ lvo L ↔ L[i]? = some (some v) := by
  unfold lvo
  rw [List.mem_filterMap]
  constructor
  · rintro ⟨a, -, h⟩
    split at h
    · cases h; assumption
    · cases h
  · intro h
    refine ⟨i, List.mem_range.mpr (List.getElem?_eq_some_iff.mp h).1, ?_⟩
    rw [h]
theorem lok.has {ls : Array Slot} {nL : Nat} {L : List (Option Value)} (h : lok ls nL L) : lv_has ls nL (lvo L) := ⟨h.1, h.2.1, fun q hq => h.2.2 q.1 q.2 (lvo_mem.mp hq)⟩
/-- a value is stored: a long ahead of it is gone -/
def clL (L : List (Option Value)) (i : Nat) : List (Option Value) := match i with
  | 0 => L
  | j + 1 => match L[j]? with
    | some (some w) => if w.category = 2 then L.set j none else L
    | _ => L
def stL (L : List (Option Value)) (i : Nat) (v : Value) : List (Option Value) := (clL L i).set i (some v)
def stL2 (L : List (Option Value)) (i : Nat) (v : Value) : List (Option Value) := ((clL L i).set (i + 1) none).set i (some v)
theorem clL_at {L : List (Option Value)} {i j : Nat} {w : Value} (h : (clL L i)[j]? = some (some w)) : L[j]? = some (some w) ∧ ¬ (j + 1 = i ∧ w.category = 2) := by
  unfold clL at h
  cases i with
  | zero => exact ⟨h, fun q => by omega⟩
  | succ a =>
    dsimp only at h
    split at h
    · rename_i w2 hw2
      split at h
      · rw [List.getElem?_set] at h
        split at h
        · split at h <;> cases h
        · rename_i hne
          exact ⟨h, fun q => hne (by omega)⟩
      · rename_i hc
        refine ⟨h, fun q => ?_⟩
        have hja : j = a := by omega
        subst hja
        rw [hw2] at h
        cases h
        exact hc q.2
    · rename_i hno
      refine ⟨h, fun q => ?_⟩
      have hja : j = a := by omega
      subst hja
      exact hno w h
theorem stL_ok {ls : Array Slot} {nL : Nat} {L : List (Option Value)} {i : Nat} {v : Value} (h : lv_has ls nL ((i, v) :: (lvo L).filter (fun q => !(q.1 == i) && !(q.1 + 1 == i && q.2.category == 2)))) : lok ls nL (stL L i v) := by
  refine ⟨h.1, h.2.1, fun j w hj => ?_⟩
  unfold stL at hj
  rw [List.getElem?_set] at hj
  split at hj
  · rename_i hij
    subst hij
    split at hj
    · cases hj
      exact h.2.2 _ List.mem_cons_self
    · cases hj
  · rename_i hij
    obtain ⟨h1, h2⟩ := clL_at hj
    refine h.2.2 (j, w) (List.mem_cons_of_mem _ (List.mem_filter.mpr ⟨lvo_mem.mpr h1, ?_⟩))
    have a1 : (j == i) = false := by simpa using fun z => hij z.symm
    have a2 : (j + 1 == i && w.category == 2) = false := by
      rw [Bool.eq_false_iff]
      intro z
      simp only [Bool.and_eq_true, beq_iff_eq] at z
      exact h2 z
    dsimp only
    rw [a1, a2]
    rfl
theorem stL2_ok {ls : Array Slot} {nL : Nat} {L : List (Option Value)} {i : Nat} {v : Value} (h : lv_has ls nL ((i, v) :: (lvo L).filter (fun q => !(q.1 == i) && (!(q.1 == i + 1) && !(q.1 + 1 == i && q.2.category == 2))))) : lok ls nL (stL2 L i v) := by
  refine ⟨h.1, h.2.1, fun j w hj => ?_⟩
  unfold stL2 at hj
  rw [List.getElem?_set] at hj
  split at hj
  · rename_i hij
    subst hij
    split at hj
    · cases hj
      exact h.2.2 _ List.mem_cons_self
    · cases hj
  · rename_i hij
    rw [List.getElem?_set] at hj
    split at hj
    · split at hj <;> cases hj
    · rename_i hij2
      obtain ⟨h1, h2⟩ := clL_at hj
      refine h.2.2 (j, w) (List.mem_cons_of_mem _ (List.mem_filter.mpr ⟨lvo_mem.mpr h1, ?_⟩))
      have a1 : (j == i) = false := by simpa using fun z => hij z.symm
      have a3 : (j == i + 1) = false := by simpa using fun z => hij2 z.symm
      have a2 : (j + 1 == i && w.category == 2) = false := by
        rw [Bool.eq_false_iff]
        intro z
        simp only [Bool.and_eq_true, beq_iff_eq] at z
        exact h2 z
      dsimp only
      rw [a1, a2, a3]
      rfl
/-- what a walk stands on -/
def Vok (X : Xc) (M : Mc) : Prop := (xp X).tables.exec = Jvm.exec ∧ (xc X).code = M.2.1 ∧ (xc X).maxLocals = M.2.2.1 ∧ (xs X).vm.findClass M.1 = some (xm X).cls ∧ (∀ w ∈ gtb, w.before (xa X) (xs X) = true) ∧ va_K (xY X).1 vcl (tysY (xY X)) (xs X) ∧ (∀ q, (xs X).heap.size ≤ q → xA X q) ∧ (xh X).sig.returnType = M.2.2.2.2 ∧ (xh X).locks = false ∧ xn X ≤ M.2.2.2.1.cells ∧ xz X ≤ M.2.2.2.1.slots
def V (X : Xc) (M : Mc) (Q : State → Prop) (pc : Nat) (L : List (Option Value)) (st : List Value) (σ : Sg) : Prop :=
  Vok X M → ∀ (H : Heap) (locs : List Loc) (ls : Array Slot), lok ls M.2.2.1 L → va_P (xY X).1 vcl (wl (xY X) σ) H → va_D (xA X) (wl (xY X) σ) → va_S (xA X) (xs X).heap H locs →
    W (xp X) (xl X) (xe X) M.2.2.2.1 (xs X) (xm X) (xa X) (xb X) (xh X) (xc X) H locs (xn X) (xz X) Q (F0 (xm X) pc ls st)
section VR
variable {X : Xc} {M : Mc} {Q : State → Prop} {pc q : Nat} {L L' : List (Option Value)} {st : List Value} {σ : Sg}
theorem V_iadd {x y : Int32} (d : decode M.2.1 pc = .ok (.iadd, 1)) (e : pc + 1 = q)  (k : V X M Q q L (.int (x + y) :: st) σ) : V X M Q pc L (.int y :: .int x :: st) σ := fun ok H locs ls h1 h2 h3 h4 => by
  subst e
  exact lv_iadd ok.1 ok.2.1 d  (k ok H locs ls h1 h2 h3 h4)
theorem V_isub {x y : Int32} (d : decode M.2.1 pc = .ok (.isub, 1)) (e : pc + 1 = q)  (k : V X M Q q L (.int (x - y) :: st) σ) : V X M Q pc L (.int y :: .int x :: st) σ := fun ok H locs ls h1 h2 h3 h4 => by
  subst e
  exact lv_isub ok.1 ok.2.1 d  (k ok H locs ls h1 h2 h3 h4)
theorem V_imul {x y : Int32} (d : decode M.2.1 pc = .ok (.imul, 1)) (e : pc + 1 = q)  (k : V X M Q q L (.int (x * y) :: st) σ) : V X M Q pc L (.int y :: .int x :: st) σ := fun ok H locs ls h1 h2 h3 h4 => by
  subst e
  exact lv_imul ok.1 ok.2.1 d  (k ok H locs ls h1 h2 h3 h4)
theorem V_iand {x y : Int32} (d : decode M.2.1 pc = .ok (.iand, 1)) (e : pc + 1 = q)  (k : V X M Q q L (.int (x &&& y) :: st) σ) : V X M Q pc L (.int y :: .int x :: st) σ := fun ok H locs ls h1 h2 h3 h4 => by
  subst e
  exact lv_iand ok.1 ok.2.1 d  (k ok H locs ls h1 h2 h3 h4)
theorem V_ior {x y : Int32} (d : decode M.2.1 pc = .ok (.ior, 1)) (e : pc + 1 = q)  (k : V X M Q q L (.int (x ||| y) :: st) σ) : V X M Q pc L (.int y :: .int x :: st) σ := fun ok H locs ls h1 h2 h3 h4 => by
  subst e
  exact lv_ior ok.1 ok.2.1 d  (k ok H locs ls h1 h2 h3 h4)
theorem V_ishl {x y : Int32} (d : decode M.2.1 pc = .ok (.ishl, 1)) (e : pc + 1 = q)  (k : V X M Q q L (.int (x <<< (y &&& 31)) :: st) σ) : V X M Q pc L (.int y :: .int x :: st) σ := fun ok H locs ls h1 h2 h3 h4 => by
  subst e
  exact lv_ishl ok.1 ok.2.1 d  (k ok H locs ls h1 h2 h3 h4)
theorem V_ishr {x y : Int32} (d : decode M.2.1 pc = .ok (.ishr, 1)) (e : pc + 1 = q)  (k : V X M Q q L (.int (x >>> (y &&& 31)) :: st) σ) : V X M Q pc L (.int y :: .int x :: st) σ := fun ok H locs ls h1 h2 h3 h4 => by
  subst e
  exact lv_ishr ok.1 ok.2.1 d  (k ok H locs ls h1 h2 h3 h4)
theorem V_idiv {x y : Int32} (d : decode M.2.1 pc = .ok (.idiv, 1)) (e : pc + 1 = q) (hne : ¬ y = 0) (k : V X M Q q L (.int (x / y) :: st) σ) : V X M Q pc L (.int y :: .int x :: st) σ := fun ok H locs ls h1 h2 h3 h4 => by
  subst e
  exact lv_idiv ok.1 ok.2.1 d hne (k ok H locs ls h1 h2 h3 h4)
theorem V_irem {x y : Int32} (d : decode M.2.1 pc = .ok (.irem, 1)) (e : pc + 1 = q) (hne : ¬ y = 0) (k : V X M Q q L (.int (x - x / y * y) :: st) σ) : V X M Q pc L (.int y :: .int x :: st) σ := fun ok H locs ls h1 h2 h3 h4 => by
  subst e
  exact lv_irem ok.1 ok.2.1 d hne (k ok H locs ls h1 h2 h3 h4)
theorem V_lrem {x y : Int64} (d : decode M.2.1 pc = .ok (.lrem, 1)) (e : pc + 1 = q) (hne : ¬ y = 0) (k : V X M Q q L (.long (x - x / y * y) :: st) σ) : V X M Q pc L (.long y :: .long x :: st) σ := fun ok H locs ls h1 h2 h3 h4 => by
  subst e
  exact lv_lrem ok.1 ok.2.1 d hne (k ok H locs ls h1 h2 h3 h4)
theorem V_ladd {x y : Int64} (d : decode M.2.1 pc = .ok (.ladd, 1)) (e : pc + 1 = q)  (k : V X M Q q L (.long (x + y) :: st) σ) : V X M Q pc L (.long y :: .long x :: st) σ := fun ok H locs ls h1 h2 h3 h4 => by
  subst e
  exact lv_ladd ok.1 ok.2.1 d  (k ok H locs ls h1 h2 h3 h4)
theorem V_lsub {x y : Int64} (d : decode M.2.1 pc = .ok (.lsub, 1)) (e : pc + 1 = q)  (k : V X M Q q L (.long (x - y) :: st) σ) : V X M Q pc L (.long y :: .long x :: st) σ := fun ok H locs ls h1 h2 h3 h4 => by
  subst e
  exact lv_lsub ok.1 ok.2.1 d  (k ok H locs ls h1 h2 h3 h4)
theorem V_lmul {x y : Int64} (d : decode M.2.1 pc = .ok (.lmul, 1)) (e : pc + 1 = q)  (k : V X M Q q L (.long (x * y) :: st) σ) : V X M Q pc L (.long y :: .long x :: st) σ := fun ok H locs ls h1 h2 h3 h4 => by
  subst e
  exact lv_lmul ok.1 ok.2.1 d  (k ok H locs ls h1 h2 h3 h4)
theorem V_land {x y : Int64} (d : decode M.2.1 pc = .ok (.land, 1)) (e : pc + 1 = q)  (k : V X M Q q L (.long (x &&& y) :: st) σ) : V X M Q pc L (.long y :: .long x :: st) σ := fun ok H locs ls h1 h2 h3 h4 => by
  subst e
  exact lv_land ok.1 ok.2.1 d  (k ok H locs ls h1 h2 h3 h4)
theorem V_lor {x y : Int64} (d : decode M.2.1 pc = .ok (.lor, 1)) (e : pc + 1 = q)  (k : V X M Q q L (.long (x ||| y) :: st) σ) : V X M Q pc L (.long y :: .long x :: st) σ := fun ok H locs ls h1 h2 h3 h4 => by
  subst e
  exact lv_lor ok.1 ok.2.1 d  (k ok H locs ls h1 h2 h3 h4)
theorem V_lcmp {x y : Int64} (d : decode M.2.1 pc = .ok (.lcmp, 1)) (e : pc + 1 = q)  (k : V X M Q q L (.int (lg_cmp x y) :: st) σ) : V X M Q pc L (.long y :: .long x :: st) σ := fun ok H locs ls h1 h2 h3 h4 => by
  subst e
  exact W.lcmp ok.1 ok.2.1 d  (k ok H locs ls h1 h2 h3 h4)
theorem V_i2l {x : Int32} (d : decode M.2.1 pc = .ok (.i2l, 1)) (e : pc + 1 = q)  (k : V X M Q q L (.long x.toInt64 :: st) σ) : V X M Q pc L (.int x :: st) σ := fun ok H locs ls h1 h2 h3 h4 => by
  subst e
  exact lv_i2l ok.1 ok.2.1 d rfl (k ok H locs ls h1 h2 h3 h4)
theorem V_l2i {x : Int64} (d : decode M.2.1 pc = .ok (.l2i, 1)) (e : pc + 1 = q)  (k : V X M Q q L (.int x.toInt32 :: st) σ) : V X M Q pc L (.long x :: st) σ := fun ok H locs ls h1 h2 h3 h4 => by
  subst e
  exact lv_l2i ok.1 ok.2.1 d rfl (k ok H locs ls h1 h2 h3 h4)
theorem V_i2c {x : Int32} (d : decode M.2.1 pc = .ok (.i2c, 1)) (e : pc + 1 = q)  (k : V X M Q q L (.int (x.toUInt32 % 65536).toInt32 :: st) σ) : V X M Q pc L (.int x :: st) σ := fun ok H locs ls h1 h2 h3 h4 => by
  subst e
  exact lv_i2c ok.1 ok.2.1 d rfl (k ok H locs ls h1 h2 h3 h4)
theorem V_iushr {x y : Int32} (d : decode M.2.1 pc = .ok (.iushr, 1)) (e : pc + 1 = q)  (k : V X M Q q L (.int (x.toUInt32 >>> (y.toUInt32 &&& Int32.toUInt32 31)).toInt32 :: st) σ) : V X M Q pc L (.int y :: .int x :: st) σ := fun ok H locs ls h1 h2 h3 h4 => by
  subst e
  exact lv_iushr ok.1 ok.2.1 d rfl (k ok H locs ls h1 h2 h3 h4)
theorem V_lushr {x : Int64} {y : Int32} (d : decode M.2.1 pc = .ok (.lushr, 1)) (e : pc + 1 = q)  (k : V X M Q q L (.long (x.toUInt64 >>> (y.toInt64.toUInt64 &&& Int64.toUInt64 63)).toInt64 :: st) σ) : V X M Q pc L (.int y :: .long x :: st) σ := fun ok H locs ls h1 h2 h3 h4 => by
  subst e
  exact lv_lushr ok.1 ok.2.1 d rfl (k ok H locs ls h1 h2 h3 h4)
theorem V_lshl {x : Int64} {y : Int32} (d : decode M.2.1 pc = .ok (.lshl, 1)) (e : pc + 1 = q)  (k : V X M Q q L (.long (x <<< (y.toInt64 &&& 63)) :: st) σ) : V X M Q pc L (.int y :: .long x :: st) σ := fun ok H locs ls h1 h2 h3 h4 => by
  subst e
  exact lv_lshl ok.1 ok.2.1 d rfl (k ok H locs ls h1 h2 h3 h4)
theorem V_dup {va : Value} (d : decode M.2.1 pc = .ok (.dup, 1)) (e : pc + 1 = q) (hva : va.category = 1) (k : V X M Q q L (va :: va :: st) σ) : V X M Q pc L (va :: st) σ := fun ok H locs ls h1 h2 h3 h4 => by
  subst e
  exact lv_dup ok.1 ok.2.1 d hva (k ok H locs ls h1 h2 h3 h4)
theorem V_dup2 {va vb : Value} (d : decode M.2.1 pc = .ok (.dup2, 1)) (e : pc + 1 = q) (hva : va.category = 1) (hvb : vb.category = 1) (k : V X M Q q L (va :: vb :: va :: vb :: st) σ) : V X M Q pc L (va :: vb :: st) σ := fun ok H locs ls h1 h2 h3 h4 => by
  subst e
  exact lv_dup2_11 ok.1 ok.2.1 d hva hvb (k ok H locs ls h1 h2 h3 h4)
theorem V_iconst {n : Int} {v : Int32} (d : decode M.2.1 pc = .ok (.iconst n, 1)) (e : pc + 1 = q) (hv : Int32.ofInt n = v) (k : V X M Q q L (.int v :: st) σ) : V X M Q pc L (st) σ := fun ok H locs ls h1 h2 h3 h4 => by
  subst e
  exact lv_iconst ok.1 ok.2.1 d hv (k ok H locs ls h1 h2 h3 h4)
theorem V_lconst {n : Fin 2} {v : Int64} (d : decode M.2.1 pc = .ok (.lconst n, 1)) (e : pc + 1 = q) (hv : Int64.ofNat (n : Nat) = v) (k : V X M Q q L (.long v :: st) σ) : V X M Q pc L (st) σ := fun ok H locs ls h1 h2 h3 h4 => by
  subst e
  exact lv_lconst ok.1 ok.2.1 d hv (k ok H locs ls h1 h2 h3 h4)
theorem V_bipush {n : Int} {v : Int32} (d : decode M.2.1 pc = .ok (.bipush n, 2)) (e : pc + 2 = q) (hv : (Int8.ofInt n).toInt32 = v) (k : V X M Q q L (.int v :: st) σ) : V X M Q pc L (st) σ := fun ok H locs ls h1 h2 h3 h4 => by
  subst e
  exact lv_bipush ok.1 ok.2.1 d hv (k ok H locs ls h1 h2 h3 h4)
theorem V_sipush {n : Int} {v : Int32} (d : decode M.2.1 pc = .ok (.sipush n, 3)) (e : pc + 3 = q) (hv : (Int16.ofInt n).toInt32 = v) (k : V X M Q q L (.int v :: st) σ) : V X M Q pc L (st) σ := fun ok H locs ls h1 h2 h3 h4 => by
  subst e
  exact lv_sipush ok.1 ok.2.1 d hv (k ok H locs ls h1 h2 h3 h4)
theorem V_null  (d : decode M.2.1 pc = .ok (.aconst_null, 1)) (e : pc + 1 = q)  (k : V X M Q q L (.null :: st) σ) : V X M Q pc L (st) σ := fun ok H locs ls h1 h2 h3 h4 => by
  subst e
  exact lv_null ok.1 ok.2.1 d  (k ok H locs ls h1 h2 h3 h4)
theorem V_iload_n {k0 : Fin 4} {x : Int32} (d : decode M.2.1 pc = .ok (.iload_n k0, 1)) (e : pc + 1 = q) (hl : L[(k0 : Nat)]? = some (some (.int x))) (k : V X M Q q L (.int x :: st) σ) : V X M Q pc L st σ := fun ok H locs ls h1 h2 h3 h4 => by
  subst e
  exact lv_iload_n ok.1 ok.2.1 d rfl (h1.2.2 _ _ hl) (k ok H locs ls h1 h2 h3 h4)
theorem V_iload {i : Nat} {x : Int32} (d : decode M.2.1 pc = .ok (.iload i, 2)) (e : pc + 2 = q) (hl : L[i]? = some (some (.int x))) (k : V X M Q q L (.int x :: st) σ) : V X M Q pc L st σ := fun ok H locs ls h1 h2 h3 h4 => by
  subst e
  exact lv_iload ok.1 ok.2.1 d (h1.2.2 _ _ hl) (k ok H locs ls h1 h2 h3 h4)
theorem V_istore_n {k0 : Fin 4} {x : Int32} (d : decode M.2.1 pc = .ok (.istore_n k0, 1)) (e : pc + 1 = q) (hn : (k0 : Nat) < M.2.2.1) (hL : stL L (k0 : Nat) (.int x) = L') (k : V X M Q q L' st σ) : V X M Q pc L (.int x :: st) σ := fun ok H locs ls h1 h2 h3 h4 => by
  subst e; subst hL
  exact lv_istore_n ok.1 ok.2.1 d rfl h1.has hn rfl (fun ls' h' => k ok H locs ls' (stL_ok h') h2 h3 h4)
theorem V_istore {i : Nat} {x : Int32} (d : decode M.2.1 pc = .ok (.istore i, 2)) (e : pc + 2 = q) (hn : i < M.2.2.1) (hL : stL L i (.int x) = L') (k : V X M Q q L' st σ) : V X M Q pc L (.int x :: st) σ := fun ok H locs ls h1 h2 h3 h4 => by
  subst e; subst hL
  exact lv_istore ok.1 ok.2.1 d h1.has hn rfl (fun ls' h' => k ok H locs ls' (stL_ok h') h2 h3 h4)
theorem V_lload_n {k0 : Fin 4} {x : Int64} (d : decode M.2.1 pc = .ok (.lload_n k0, 1)) (e : pc + 1 = q) (hl : L[(k0 : Nat)]? = some (some (.long x))) (k : V X M Q q L (.long x :: st) σ) : V X M Q pc L st σ := fun ok H locs ls h1 h2 h3 h4 => by
  subst e
  exact lv_lload_n ok.1 ok.2.1 d rfl (h1.2.2 _ _ hl) (k ok H locs ls h1 h2 h3 h4)
theorem V_lload {i : Nat} {x : Int64} (d : decode M.2.1 pc = .ok (.lload i, 2)) (e : pc + 2 = q) (hl : L[i]? = some (some (.long x))) (k : V X M Q q L (.long x :: st) σ) : V X M Q pc L st σ := fun ok H locs ls h1 h2 h3 h4 => by
  subst e
  exact lv_lload ok.1 ok.2.1 d (h1.2.2 _ _ hl) (k ok H locs ls h1 h2 h3 h4)
theorem V_lstore_n {k0 : Fin 4} {x : Int64} (d : decode M.2.1 pc = .ok (.lstore_n k0, 1)) (e : pc + 1 = q) (hn : (k0 : Nat) + 1 < M.2.2.1) (hL : stL2 L (k0 : Nat) (.long x) = L') (k : V X M Q q L' st σ) : V X M Q pc L (.long x :: st) σ := fun ok H locs ls h1 h2 h3 h4 => by
  subst e; subst hL
  exact lv_lstore_n ok.1 ok.2.1 d rfl h1.has hn rfl (fun ls' h' => k ok H locs ls' (stL2_ok h') h2 h3 h4)
theorem V_lstore {i : Nat} {x : Int64} (d : decode M.2.1 pc = .ok (.lstore i, 2)) (e : pc + 2 = q) (hn : i + 1 < M.2.2.1) (hL : stL2 L i (.long x) = L') (k : V X M Q q L' st σ) : V X M Q pc L (.long x :: st) σ := fun ok H locs ls h1 h2 h3 h4 => by
  subst e; subst hL
  exact lv_lstore ok.1 ok.2.1 d h1.has hn rfl (fun ls' h' => k ok H locs ls' (stL2_ok h') h2 h3 h4)
theorem V_aload_n {k0 : Fin 4} {x : Nat} (d : decode M.2.1 pc = .ok (.aload_n k0, 1)) (e : pc + 1 = q) (hl : L[(k0 : Nat)]? = some (some (.ref x))) (k : V X M Q q L (.ref x :: st) σ) : V X M Q pc L st σ := fun ok H locs ls h1 h2 h3 h4 => by
  subst e
  exact lv_aload_n ok.1 ok.2.1 d rfl (h1.2.2 _ _ hl) (k ok H locs ls h1 h2 h3 h4)
theorem V_aload {i : Nat} {x : Nat} (d : decode M.2.1 pc = .ok (.aload i, 2)) (e : pc + 2 = q) (hl : L[i]? = some (some (.ref x))) (k : V X M Q q L (.ref x :: st) σ) : V X M Q pc L st σ := fun ok H locs ls h1 h2 h3 h4 => by
  subst e
  exact lv_aload ok.1 ok.2.1 d (h1.2.2 _ _ hl) (k ok H locs ls h1 h2 h3 h4)
theorem V_astore_n {k0 : Fin 4} {x : Nat} (d : decode M.2.1 pc = .ok (.astore_n k0, 1)) (e : pc + 1 = q) (hn : (k0 : Nat) < M.2.2.1) (hL : stL L (k0 : Nat) (.ref x) = L') (k : V X M Q q L' st σ) : V X M Q pc L (.ref x :: st) σ := fun ok H locs ls h1 h2 h3 h4 => by
  subst e; subst hL
  exact lv_astore_n ok.1 ok.2.1 d rfl h1.has hn rfl (fun ls' h' => k ok H locs ls' (stL_ok h') h2 h3 h4)
theorem V_astore {i : Nat} {x : Nat} (d : decode M.2.1 pc = .ok (.astore i, 2)) (e : pc + 2 = q) (hn : i < M.2.2.1) (hL : stL L i (.ref x) = L') (k : V X M Q q L' st σ) : V X M Q pc L (.ref x :: st) σ := fun ok H locs ls h1 h2 h3 h4 => by
  subst e; subst hL
  exact lv_astore ok.1 ok.2.1 d h1.has hn rfl (fun ls' h' => k ok H locs ls' (stL_ok h') h2 h3 h4)
theorem V_astoreN_n {k0 : Fin 4} (d : decode M.2.1 pc = .ok (.astore_n k0, 1)) (e : pc + 1 = q) (hn : (k0 : Nat) < M.2.2.1) (hL : stL L (k0 : Nat) .null = L') (k : V X M Q q L' st σ) : V X M Q pc L (.null :: st) σ := fun ok H locs ls h1 h2 h3 h4 => by
  subst e; subst hL
  exact lv_astore_nN ok.1 ok.2.1 d rfl h1.has hn rfl (fun ls' h' => k ok H locs ls' (stL_ok h') h2 h3 h4)
theorem V_aloadN_n {k0 : Fin 4} (d : decode M.2.1 pc = .ok (.aload_n k0, 1)) (e : pc + 1 = q) (hl : L[(k0 : Nat)]? = some (some .null)) (k : V X M Q q L (.null :: st) σ) : V X M Q pc L st σ := fun ok H locs ls h1 h2 h3 h4 => by
  subst e
  exact lv_aload_nN ok.1 ok.2.1 d rfl (h1.2.2 _ _ hl) (k ok H locs ls h1 h2 h3 h4)
theorem V_iinc {i : Nat} {n : Int} {x v : Int32} (d : decode M.2.1 pc = .ok (.iinc i n, 3)) (e : pc + 3 = q) (hl : L[i]? = some (some (.int x))) (hv : Int32.ofInt n = v) (hn : i < M.2.2.1) (hL : stL L i (.int (x + v)) = L') (k : V X M Q q L' st σ) : V X M Q pc L st σ := fun ok H locs ls h1 h2 h3 h4 => by
  subst e; subst hL
  obtain ⟨a, ha⟩ := List.getElem?_of_mem (lvo_mem.mpr hl)
  exact lv_iinc ok.1 ok.2.1 d h1.has ha (by rw [hv]) hn rfl (fun ls' h' => k ok H locs ls' (stL_ok h') h2 h3 h4)
theorem V_goto {off : Int} (d : decode M.2.1 pc = .ok (.goto off, 3)) (e : (pc : Int) + off = (q : Int)) (k : V X M Q q L st σ) : V X M Q pc L st σ := fun ok H locs ls h1 h2 h3 h4 => lv_goto ok.1 ok.2.1 d e (k ok H locs ls h1 h2 h3 h4)
theorem V_ldc {index : Nat} {v : Int32} (hc : Jvm.Cond.constant M.1 index v ∈ gtb) (d : decode M.2.1 pc = .ok (.ldc index, 2)) (e : pc + 2 = q) (k : V X M Q q L (.int v :: st) σ) : V X M Q pc L st σ := fun ok H locs ls h1 h2 h3 h4 => by
  subst e
  exact lv_ldc ok.1 ok.2.1 ok.2.2.2.1 (ok.2.2.2.2.1 _ hc) d (k ok H locs ls h1 h2 h3 h4)
theorem V_ldcw {index : Nat} {v : Int32} (hc : Jvm.Cond.constant M.1 index v ∈ gtb) (d : decode M.2.1 pc = .ok (.ldc_w index, 3)) (e : pc + 3 = q) (k : V X M Q q L (.int v :: st) σ) : V X M Q pc L st σ := fun ok H locs ls h1 h2 h3 h4 => by
  subst e
  exact lv_ldcw ok.1 ok.2.1 ok.2.2.2.1 (ok.2.2.2.2.1 _ hc) d (k ok H locs ls h1 h2 h3 h4)
theorem V_ldc2 {index : Nat} {v : Int64} (hc : Jvm.Cond.constantLong M.1 index v ∈ gtb) (d : decode M.2.1 pc = .ok (.ldc2_w index, 3)) (e : pc + 3 = q) (k : V X M Q q L (.long v :: st) σ) : V X M Q pc L st σ := fun ok H locs ls h1 h2 h3 h4 => by
  subst e
  exact lv_ldc2 ok.1 ok.2.1 ok.2.2.2.1 (ok.2.2.2.2.1 _ hc) d (k ok H locs ls h1 h2 h3 h4)
theorem V_ifnonnull {x : Nat} {off : Int} (d : decode M.2.1 pc = .ok (.ifnonnull off, 3)) (e : (pc : Int) + off = (q : Int)) (k : V X M Q q L st σ) : V X M Q pc L (.ref x :: st) σ := fun ok H locs ls h1 h2 h3 h4 => lv_ifnonnull ok.1 ok.2.1 d e (k ok H locs ls h1 h2 h3 h4)
theorem V_ifnonnullN {off : Int} (d : decode M.2.1 pc = .ok (.ifnonnull off, 3)) (e : pc + 3 = q) (k : V X M Q q L st σ) : V X M Q pc L (.null :: st) σ := fun ok H locs ls h1 h2 h3 h4 => by
  subst e
  exact lv_ifnonnullN ok.1 ok.2.1 d (k ok H locs ls h1 h2 h3 h4)
theorem V_if_eq {x : Int32} {off : Int} {q2 : Nat} (d : decode M.2.1 pc = .ok (.ifCond .eq off, 3)) (e : (pc : Int) + off = (q : Int)) (e2 : pc + 3 = q2) (kt : x = 0 → V X M Q q L st σ) (kf : ¬ x = 0 → V X M Q q2 L st σ) : V X M Q pc L (.int x :: st) σ := fun ok H locs ls h1 h2 h3 h4 => by
  subst e2
  exact lv_if_eq ok.1 ok.2.1 d e (fun c => kt c ok H locs ls h1 h2 h3 h4) (fun c => kf (by simpa using c) ok H locs ls h1 h2 h3 h4)
theorem V_icmp_eq {x y : Int32} {off : Int} {q2 : Nat} (d : decode M.2.1 pc = .ok (.if_icmp .eq off, 3)) (e : (pc : Int) + off = (q : Int)) (e2 : pc + 3 = q2) (kt : x = y → V X M Q q L st σ) (kf : ¬ x = y → V X M Q q2 L st σ) : V X M Q pc L (.int y :: .int x :: st) σ := fun ok H locs ls h1 h2 h3 h4 => by
  subst e2
  exact lv_icmp_eq ok.1 ok.2.1 d e (fun c => kt c ok H locs ls h1 h2 h3 h4) (fun c => kf (by simpa using c) ok H locs ls h1 h2 h3 h4)
theorem V_if_ne {x : Int32} {off : Int} {q2 : Nat} (d : decode M.2.1 pc = .ok (.ifCond .ne off, 3)) (e : (pc : Int) + off = (q : Int)) (e2 : pc + 3 = q2) (kt : ¬ x = 0 → V X M Q q L st σ) (kf : x = 0 → V X M Q q2 L st σ) : V X M Q pc L (.int x :: st) σ := fun ok H locs ls h1 h2 h3 h4 => by
  subst e2
  exact lv_if_ne ok.1 ok.2.1 d e (fun c => kt c ok H locs ls h1 h2 h3 h4) (fun c => kf (by simpa using c) ok H locs ls h1 h2 h3 h4)
theorem V_icmp_ne {x y : Int32} {off : Int} {q2 : Nat} (d : decode M.2.1 pc = .ok (.if_icmp .ne off, 3)) (e : (pc : Int) + off = (q : Int)) (e2 : pc + 3 = q2) (kt : ¬ x = y → V X M Q q L st σ) (kf : x = y → V X M Q q2 L st σ) : V X M Q pc L (.int y :: .int x :: st) σ := fun ok H locs ls h1 h2 h3 h4 => by
  subst e2
  exact lv_icmp_ne ok.1 ok.2.1 d e (fun c => kt c ok H locs ls h1 h2 h3 h4) (fun c => kf (by simpa using c) ok H locs ls h1 h2 h3 h4)
theorem V_if_lt {x : Int32} {off : Int} {q2 : Nat} (d : decode M.2.1 pc = .ok (.ifCond .lt off, 3)) (e : (pc : Int) + off = (q : Int)) (e2 : pc + 3 = q2) (kt : x < 0 → V X M Q q L st σ) (kf : ¬ x < 0 → V X M Q q2 L st σ) : V X M Q pc L (.int x :: st) σ := fun ok H locs ls h1 h2 h3 h4 => by
  subst e2
  exact lv_if_lt ok.1 ok.2.1 d e (fun c => kt c ok H locs ls h1 h2 h3 h4) (fun c => kf (by simpa using c) ok H locs ls h1 h2 h3 h4)
theorem V_icmp_lt {x y : Int32} {off : Int} {q2 : Nat} (d : decode M.2.1 pc = .ok (.if_icmp .lt off, 3)) (e : (pc : Int) + off = (q : Int)) (e2 : pc + 3 = q2) (kt : x < y → V X M Q q L st σ) (kf : ¬ x < y → V X M Q q2 L st σ) : V X M Q pc L (.int y :: .int x :: st) σ := fun ok H locs ls h1 h2 h3 h4 => by
  subst e2
  exact lv_icmp_lt ok.1 ok.2.1 d e (fun c => kt c ok H locs ls h1 h2 h3 h4) (fun c => kf (by simpa using c) ok H locs ls h1 h2 h3 h4)
theorem V_if_ge {x : Int32} {off : Int} {q2 : Nat} (d : decode M.2.1 pc = .ok (.ifCond .ge off, 3)) (e : (pc : Int) + off = (q : Int)) (e2 : pc + 3 = q2) (kt : 0 ≤ x → V X M Q q L st σ) (kf : ¬ 0 ≤ x → V X M Q q2 L st σ) : V X M Q pc L (.int x :: st) σ := fun ok H locs ls h1 h2 h3 h4 => by
  subst e2
  exact lv_if_ge ok.1 ok.2.1 d e (fun c => kt c ok H locs ls h1 h2 h3 h4) (fun c => kf (by simpa using c) ok H locs ls h1 h2 h3 h4)
theorem V_icmp_ge {x y : Int32} {off : Int} {q2 : Nat} (d : decode M.2.1 pc = .ok (.if_icmp .ge off, 3)) (e : (pc : Int) + off = (q : Int)) (e2 : pc + 3 = q2) (kt : y ≤ x → V X M Q q L st σ) (kf : ¬ y ≤ x → V X M Q q2 L st σ) : V X M Q pc L (.int y :: .int x :: st) σ := fun ok H locs ls h1 h2 h3 h4 => by
  subst e2
  exact lv_icmp_ge ok.1 ok.2.1 d e (fun c => kt c ok H locs ls h1 h2 h3 h4) (fun c => kf (by simpa using c) ok H locs ls h1 h2 h3 h4)
theorem V_if_gt {x : Int32} {off : Int} {q2 : Nat} (d : decode M.2.1 pc = .ok (.ifCond .gt off, 3)) (e : (pc : Int) + off = (q : Int)) (e2 : pc + 3 = q2) (kt : 0 < x → V X M Q q L st σ) (kf : ¬ 0 < x → V X M Q q2 L st σ) : V X M Q pc L (.int x :: st) σ := fun ok H locs ls h1 h2 h3 h4 => by
  subst e2
  exact lv_if_gt ok.1 ok.2.1 d e (fun c => kt c ok H locs ls h1 h2 h3 h4) (fun c => kf (by simpa using c) ok H locs ls h1 h2 h3 h4)
theorem V_icmp_gt {x y : Int32} {off : Int} {q2 : Nat} (d : decode M.2.1 pc = .ok (.if_icmp .gt off, 3)) (e : (pc : Int) + off = (q : Int)) (e2 : pc + 3 = q2) (kt : y < x → V X M Q q L st σ) (kf : ¬ y < x → V X M Q q2 L st σ) : V X M Q pc L (.int y :: .int x :: st) σ := fun ok H locs ls h1 h2 h3 h4 => by
  subst e2
  exact lv_icmp_gt ok.1 ok.2.1 d e (fun c => kt c ok H locs ls h1 h2 h3 h4) (fun c => kf (by simpa using c) ok H locs ls h1 h2 h3 h4)
theorem V_if_le {x : Int32} {off : Int} {q2 : Nat} (d : decode M.2.1 pc = .ok (.ifCond .le off, 3)) (e : (pc : Int) + off = (q : Int)) (e2 : pc + 3 = q2) (kt : x ≤ 0 → V X M Q q L st σ) (kf : ¬ x ≤ 0 → V X M Q q2 L st σ) : V X M Q pc L (.int x :: st) σ := fun ok H locs ls h1 h2 h3 h4 => by
  subst e2
  exact lv_if_le ok.1 ok.2.1 d e (fun c => kt c ok H locs ls h1 h2 h3 h4) (fun c => kf (by simpa using c) ok H locs ls h1 h2 h3 h4)
theorem V_icmp_le {x y : Int32} {off : Int} {q2 : Nat} (d : decode M.2.1 pc = .ok (.if_icmp .le off, 3)) (e : (pc : Int) + off = (q : Int)) (e2 : pc + 3 = q2) (kt : x ≤ y → V X M Q q L st σ) (kf : ¬ x ≤ y → V X M Q q2 L st σ) : V X M Q pc L (.int y :: .int x :: st) σ := fun ok H locs ls h1 h2 h3 h4 => by
  subst e2
  exact lv_icmp_le ok.1 ok.2.1 d e (fun c => kt c ok H locs ls h1 h2 h3 h4) (fun c => kf (by simpa using c) ok H locs ls h1 h2 h3 h4)
theorem V_tsIn {dflt lo hi : Int} {offs : Array Int} {len : Nat} {x : Int32} {off : Int} (j : Int32) (hx : x = j) (d : decode M.2.1 pc = .ok (.tableswitch dflt lo hi offs, len)) (g1 : ¬ j.toInt < lo) (g2 : ¬ hi < j.toInt) (ho : offs[(j.toInt - lo).toNat]? = some off) (e : (pc : Int) + off = (q : Int)) (k : V X M Q q L st σ) : V X M Q pc L (.int x :: st) σ := fun ok H locs ls h1 h2 h3 h4 => by
  subst hx
  exact lv_tableIn ok.1 ok.2.1 d g1 g2 ho e (k ok H locs ls h1 h2 h3 h4)
def neAll (x : Int32) : Nat → Prop
  | 0 => True
  | n + 1 => ¬ x = nI n ∧ neAll x n
theorem neAll_at {x : Int32} : ∀ {n : Nat}, neAll x n → ∀ j, j < n → ¬ x = nI j
  | 0, _, j, h => absurd h (Nat.not_lt_zero j)
  | n + 1, h, j, hj => by
    rcases Nat.lt_succ_iff_lt_or_eq.mp hj with g | g
    · exact neAll_at h.2 j g
    · rw [g]; exact h.1
theorem neAll_out {x : Int32} {n : Nat} (h : neAll x (n + 1)) (hn : n + 1 < 2 ^ 31) : x.toInt < 0 ∨ (n : Int) < x.toInt := by
  by_cases h0 : x < 0
  · left; exact Int32.lt_iff_toInt_lt.mp h0
  · right
    obtain ⟨j, hj, rfl⟩ := nI_of h0
    rw [nI_toInt hj]
    rcases Nat.lt_or_ge j (n + 1) with g | g
    · exact absurd rfl (neAll_at h j g)
    · omega
theorem V_tsOut {dflt lo hi : Int} {offs : Array Int} {len : Nat} {x : Int32} (n : Nat) (hx : neAll x (n + 1)) (hn : n + 1 < 2 ^ 31) (h0 : lo = 0) (hh : hi = (n : Int)) (d : decode M.2.1 pc = .ok (.tableswitch dflt lo hi offs, len)) (e : (pc : Int) + dflt = (q : Int)) (k : V X M Q q L st σ) : V X M Q pc L (.int x :: st) σ := fun ok H locs ls h1 h2 h3 h4 => by
  subst h0; subst hh
  exact lv_tableOut ok.1 ok.2.1 d (neAll_out hx hn) e (k ok H locs ls h1 h2 h3 h4)
/-- fewer locals are known -/
def msk : List Bool → List (Option Value) → List (Option Value)
  | true :: bs, v :: L => v :: msk bs L
  | false :: bs, _ :: L => none :: msk bs L
  | _, _ => []
theorem msk_at : ∀ (bs : List Bool) (L : List (Option Value)) (i : Nat) (v : Value), (msk bs L)[i]? = some (some v) → L[i]? = some (some v)
  | [], L, i, v, h => by simp [msk] at h
  | true :: bs, [], i, v, h => by simp [msk] at h
  | false :: bs, [], i, v, h => by simp [msk] at h
  | true :: bs, w :: L, 0, v, h => by simpa [msk] using h
  | true :: bs, w :: L, i + 1, v, h => by
    simp only [msk, List.getElem?_cons_succ] at h ⊢
    exact msk_at bs L i v h
  | false :: bs, w :: L, 0, v, h => by simp [msk] at h
  | false :: bs, w :: L, i + 1, v, h => by
    simp only [msk, List.getElem?_cons_succ] at h ⊢
    exact msk_at bs L i v h
theorem V_msk (bs : List Bool) (hL : msk bs L = L') (k : V X M Q pc L' st σ) : V X M Q pc L st σ := fun ok H locs ls h1 h2 h3 h4 => by
  subst hL
  exact k ok H locs ls ⟨h1.1, h1.2.1, fun i v h => h1.2.2 i v (msk_at bs L i v h)⟩ h2 h3 h4
/-- a class of the worlds -/
def Clz (ci : Nat) (C : String) (T : u_T) (N : Nat) (ty : Nat → FieldType) : Prop := vcl[ci]? = some (C, T, N) ∧ (∀ w ∈ u_ws C T N, w ∈ gtb) ∧ (∀ k, k < N → parseFieldDescriptor (T k).2.2.1 = some (ty k)) ∧ (∀ a, a < N → ∀ b, b < N → a ≠ b → (T a).2.1 ≠ (T b).2.1)
theorem V_get {index k j ci n N : Nat} {C : String} {T : u_T} {ty : Nat → FieldType} {fs : List (Nat × Nat)} {f : Nat × Nat} (cz : Clz ci C T N ty) (d : decode M.2.1 pc = .ok (.getfield index, 3)) (e : pc + 3 = q) (hk : shp[k]? = some (ci + 5, n, fs)) (hj : fs[j]? = some f) (hN : j < N) (lk : Cond.fieldLink M.1 index (T j).1 (T j).2.1 (T j).2.2.1 ∈ gtb)
    (kk : V X M Q q L (fv (xY X) σ k j f :: st) σ) : V X M Q pc L (.ref (ad (xY X) k) :: st) σ := fun ok H locs ls h1 h2 h3 h4 => by
  subst e
  have ha := wl_at (Y := xY X) (σ := σ) hk
  refine va_get (D := (xY X).1) (cl := vcl) (tys := tysY (xY X)) (ci := ci) ok.1 ok.2.1 ok.2.2.2.2.1 cz.2.1 ok.2.2.2.1 ok.2.2.2.2.2.1 h2 k ha cz.1 j hN (ok.2.2.2.2.1 _ lk) (fun _ h9 => h9) (v := fv (xY X) σ k j f) ?_ d (kk ok H locs ls h1 h2 h3 h4)
  rw [flds_at, hj]
  simp
theorem V_geti {index k j ci n N n2 : Nat} {C : String} {T : u_T} {ty : Nat → FieldType} {fs : List (Nat × Nat)} (cz : Clz ci C T N ty) (d : decode M.2.1 pc = .ok (.getfield index, 3)) (e : pc + 3 = q) (hk : shp[k]? = some (ci + 5, n, fs)) (hj : fs[j]? = some (0, n2)) (hN : j < N) (lk : Cond.fieldLink M.1 index (T j).1 (T j).2.1 (T j).2.2.1 ∈ gtb)
    (kk : V X M Q q L (.int (σ.1 k j) :: st) σ) : V X M Q pc L (.ref (ad (xY X) k) :: st) σ := V_get cz d e hk hj hN lk kk
theorem V_getl {index k j ci n N n2 : Nat} {C : String} {T : u_T} {ty : Nat → FieldType} {fs : List (Nat × Nat)} (cz : Clz ci C T N ty) (d : decode M.2.1 pc = .ok (.getfield index, 3)) (e : pc + 3 = q) (hk : shp[k]? = some (ci + 5, n, fs)) (hj : fs[j]? = some (1, n2)) (hN : j < N) (lk : Cond.fieldLink M.1 index (T j).1 (T j).2.1 (T j).2.2.1 ∈ gtb)
    (kk : V X M Q q L (.long (σ.2 k j) :: st) σ) : V X M Q pc L (.ref (ad (xY X) k) :: st) σ := V_get cz d e hk hj hN lk kk
theorem V_getr {index k j ci n N n2 : Nat} {C : String} {T : u_T} {ty : Nat → FieldType} {fs : List (Nat × Nat)} (cz : Clz ci C T N ty) (d : decode M.2.1 pc = .ok (.getfield index, 3)) (e : pc + 3 = q) (hk : shp[k]? = some (ci + 5, n, fs)) (hj : fs[j]? = some (2, n2)) (hN : j < N) (lk : Cond.fieldLink M.1 index (T j).1 (T j).2.1 (T j).2.2.1 ∈ gtb)
    (kk : V X M Q q L (.ref (ad (xY X) n2) :: st) σ) : V X M Q pc L (.ref (ad (xY X) k) :: st) σ := V_get cz d e hk hj hN lk kk
theorem sI_off (σ : Sg) (k j : Nat) (v : Int32) : ∀ a, a ≠ k → (sI σ k j v).1 a = σ.1 a ∧ (sI σ k j v).2 a = σ.2 a := fun a h => ⟨by funext b; simp [sI, h], rfl⟩
theorem sL_off (σ : Sg) (k j : Nat) (v : Int64) : ∀ a, a ≠ k → (sL σ k j v).1 a = σ.1 a ∧ (sL σ k j v).2 a = σ.2 a := fun a h => ⟨rfl, by funext b; simp [sL, h]⟩
theorem cL_off (σ : Sg) (k0 k1 a b c : Nat) : ∀ x, x ≠ k1 → (cL σ k0 k1 a b c).1 x = σ.1 x ∧ (cL σ k0 k1 a b c).2 x = σ.2 x := fun x h => ⟨rfl, by simp [cL, h]⟩
theorem flds_sI {Y : Yc} {σ : Sg} {k j n : Nat} {v : Int32} {fs : List (Nat × Nat)} (hj : fs[j]? = some (0, n)) : flds Y (sI σ k j v) k fs 0 = (flds Y σ k fs 0).set j (.int v) := by
  apply List.ext_getElem?
  intro i
  rw [List.getElem?_set, flds_at, flds_at]
  by_cases hi : j = i
  · subst hi
    have hl : j < (flds Y σ k fs 0).length := by rw [flds_len]; exact (List.getElem?_eq_some_iff.mp hj).1
    rw [if_pos rfl, if_pos hl, hj]
    simp [fv, sI]
  · rw [if_neg hi]
    cases fs[i]? with
    | none => rfl
    | some f =>
      have : ¬ i = j := fun z => hi z.symm
      simp [fv, sI, this]
theorem flds_sL {Y : Yc} {σ : Sg} {k j n : Nat} {v : Int64} {fs : List (Nat × Nat)} (hj : fs[j]? = some (1, n)) : flds Y (sL σ k j v) k fs 0 = (flds Y σ k fs 0).set j (.long v) := by
  apply List.ext_getElem?
  intro i
  rw [List.getElem?_set, flds_at, flds_at]
  by_cases hi : j = i
  · subst hi
    have hl : j < (flds Y σ k fs 0).length := by rw [flds_len]; exact (List.getElem?_eq_some_iff.mp hj).1
    rw [if_pos rfl, if_pos hl, hj]
    simp [fv, sL]
  · rw [if_neg hi]
    cases fs[i]? with
    | none => rfl
    | some f =>
      have : ¬ i = j := fun z => hi z.symm
      simp [fv, sL, this]
theorem V_puti {index k j ci n n2 N : Nat} {C : String} {T : u_T} {ty : Nat → FieldType} {fs : List (Nat × Nat)} {v : Int32} {σ' : Sg} (cz : Clz ci C T N ty) (t : FieldType) (ht : parseFieldDescriptor (T j).2.2.1 = some t) (hn : narrow t (.int v) = .int v) (hf : fits t (.int v) = true) (hfin : (T j).2.2.2 = false) (d : decode M.2.1 pc = .ok (.putfield index, 3)) (e : pc + 3 = q) (hk : shp[k]? = some (ci + 5, n, fs)) (hj : fs[j]? = some (0, n2)) (hN : j < N) (lk : Cond.fieldLink M.1 index (T j).1 (T j).2.1 (T j).2.2.1 ∈ gtb) (es : σ' = sI σ k j v)
    (kk : V X M Q q L st σ') : V X M Q pc L (.int v :: .ref (ad (xY X) k) :: st) σ := fun ok H locs ls h1 h2 h3 h4 => by
  subst e; subst es
  have ha := wl_at (Y := xY X) (σ := σ) hk
  refine va_put (D := (xY X).1) (cl := vcl) (tys := tysY (xY X)) (ci := ci) (ty := t) ok.1 ok.2.1 ok.2.2.2.2.1 cz.2.1 ty cz.2.2.1 cz.2.2.2 ok.2.2.2.1 ok.2.2.2.2.2.1 h2 h3 h4 k ha cz.1 j hN (ok.2.2.2.2.1 _ lk) (fun _ h9 => h9) hfin ht hn hf (by rw [flds_len]; exact (List.getElem?_eq_some_iff.mp hj).1) d (fun H1 locs1 g1 g2 g3 => ?_)
  have he : cel (xY X) (sI σ k j v) k (ci + 5, n, fs) = .inr (ci, (flds (xY X) σ k fs 0).set j (.int v)) := by
    show Sum.inr (ci, flds (xY X) (sI σ k j v) k fs 0) = _
    rw [flds_sI hj]
  rw [wl_set hk (sI_off σ k j v) he] at g1 g2
  exact kk ok H1 locs1 ls h1 g1 g2 g3
theorem V_putl {index k j ci n n2 N : Nat} {C : String} {T : u_T} {ty : Nat → FieldType} {fs : List (Nat × Nat)} {v : Int64} {σ' : Sg} (cz : Clz ci C T N ty) (ht : parseFieldDescriptor (T j).2.2.1 = some .long) (hfin : (T j).2.2.2 = false) (d : decode M.2.1 pc = .ok (.putfield index, 3)) (e : pc + 3 = q) (hk : shp[k]? = some (ci + 5, n, fs)) (hj : fs[j]? = some (1, n2)) (hN : j < N) (lk : Cond.fieldLink M.1 index (T j).1 (T j).2.1 (T j).2.2.1 ∈ gtb) (es : σ' = sL σ k j v)
    (kk : V X M Q q L st σ') : V X M Q pc L (.long v :: .ref (ad (xY X) k) :: st) σ := fun ok H locs ls h1 h2 h3 h4 => by
  subst e; subst es
  have ha := wl_at (Y := xY X) (σ := σ) hk
  refine va_put (D := (xY X).1) (cl := vcl) (tys := tysY (xY X)) (ci := ci) (ty := .long) ok.1 ok.2.1 ok.2.2.2.2.1 cz.2.1 ty cz.2.2.1 cz.2.2.2 ok.2.2.2.1 ok.2.2.2.2.2.1 h2 h3 h4 k ha cz.1 j hN (ok.2.2.2.2.1 _ lk) (fun _ h9 => h9) hfin ht rfl rfl (by rw [flds_len]; exact (List.getElem?_eq_some_iff.mp hj).1) d (fun H1 locs1 g1 g2 g3 => ?_)
  have he : cel (xY X) (sL σ k j v) k (ci + 5, n, fs) = .inr (ci, (flds (xY X) σ k fs 0).set j (.long v)) := by
    show Sum.inr (ci, flds (xY X) (sL σ k j v) k fs 0) = _
    rw [flds_sL hj]
  rw [wl_set hk (sL_off σ k j v) he] at g1 g2
  exact kk ok H1 locs1 ls h1 g1 g2 g3
theorem V_iald {k n : Nat} {fs : List (Nat × Nat)} {i : Int32} {x : Int32} (d : decode M.2.1 pc = .ok (.iaload, 1)) (e : pc + 1 = q) (hk : shp[k]? = some (0, n, fs)) (hin : vp_in i n) (hx : x = σ.1 k i.toNatClampNeg) (kk : V X M Q q L (.int x :: st) σ) : V X M Q pc L (.int i :: .ref (ad (xY X) k) :: st) σ := fun ok H locs ls h1 h2 h3 h4 => by
  subst e; subst hx
  exact va_iald (D := (xY X).1) (cl := vcl) (tys := tysY (xY X)) ok.1 ok.2.1 ok.2.2.2.2.2.1 h2 k 0 (wl_at (Y := xY X) (σ := σ) hk) rfl hin d (kk ok H locs ls h1 h2 h3 h4)
theorem V_zald {k n : Nat} {fs : List (Nat × Nat)} {i : Int32} {x : Int32} (d : decode M.2.1 pc = .ok (.baload, 1)) (e : pc + 1 = q) (hk : shp[k]? = some (1, n, fs)) (hin : vp_in i n) (hx : x = σ.1 k i.toNatClampNeg) (kk : V X M Q q L (.int x :: st) σ) : V X M Q pc L (.int i :: .ref (ad (xY X) k) :: st) σ := fun ok H locs ls h1 h2 h3 h4 => by
  subst e; subst hx
  exact va_zald (D := (xY X).1) (cl := vcl) (tys := tysY (xY X)) ok.1 ok.2.1 ok.2.2.2.2.2.1 h2 k 1 (wl_at (Y := xY X) (σ := σ) hk) rfl hin d (kk ok H locs ls h1 h2 h3 h4)
theorem V_cald {k n : Nat} {fs : List (Nat × Nat)} {i : Int32} {x : Int32} (d : decode M.2.1 pc = .ok (.caload, 1)) (e : pc + 1 = q) (hk : shp[k]? = some (2, n, fs)) (hin : vp_in i n) (hx : x = σ.1 k i.toNatClampNeg) (kk : V X M Q q L (.int x :: st) σ) : V X M Q pc L (.int i :: .ref (ad (xY X) k) :: st) σ := fun ok H locs ls h1 h2 h3 h4 => by
  subst e; subst hx
  exact va_cald (D := (xY X).1) (cl := vcl) (tys := tysY (xY X)) ok.1 ok.2.1 ok.2.2.2.2.2.1 h2 k 2 (wl_at (Y := xY X) (σ := σ) hk) rfl hin d (kk ok H locs ls h1 h2 h3 h4)
theorem V_lald {k n : Nat} {fs : List (Nat × Nat)} {i : Int32} {x : Int64} (d : decode M.2.1 pc = .ok (.laload, 1)) (e : pc + 1 = q) (hk : shp[k]? = some (3, n, fs)) (hin : vp_in i n) (hx : x = σ.2 k i.toNatClampNeg) (kk : V X M Q q L (.long x :: st) σ) : V X M Q pc L (.int i :: .ref (ad (xY X) k) :: st) σ := fun ok H locs ls h1 h2 h3 h4 => by
  subst e; subst hx
  exact va_lald (D := (xY X).1) (cl := vcl) (tys := tysY (xY X)) ok.1 ok.2.1 ok.2.2.2.2.2.1 h2 k 3 (wl_at (Y := xY X) (σ := σ) hk) rfl hin d (kk ok H locs ls h1 h2 h3 h4)
theorem V_iast {k n : Nat} {fs : List (Nat × Nat)} {i : Int32} {x : Int32} {σ' : Sg} (d : decode M.2.1 pc = .ok (.iastore, 1)) (e : pc + 1 = q) (hk : shp[k]? = some (0, n, fs)) (hin : vp_in i n) (es : σ' = sI σ k i.toNatClampNeg (x)) (kk : V X M Q q L st σ') : V X M Q pc L (.int x :: .int i :: .ref (ad (xY X) k) :: st) σ := fun ok H locs ls h1 h2 h3 h4 => by
  subst e; subst es
  refine va_iast (D := (xY X).1) (cl := vcl) (tys := tysY (xY X)) ok.1 ok.2.1 ok.2.2.2.2.2.1 h2 h3 h4 k 0 (wl_at (Y := xY X) (σ := σ) hk) rfl hin d (fun H1 locs1 g1 g2 g3 => ?_)
  have he : cel (xY X) (sI σ k i.toNatClampNeg (x)) k (0, n, fs) = (Sum.inl ((xY X).2.2 0, n, Sum.inl (upd (σ.1 k) i.toNatClampNeg (x))) : va_E) := by
    have hu : (sI σ k i.toNatClampNeg (x)).1 k = upd (σ.1 k) i.toNatClampNeg (x) := by
      funext b
      simp [sI, upd]
    show Sum.inl ((xY X).2.2 0, n, Sum.inl ((sI σ k i.toNatClampNeg (x)).1 k)) = _
    rw [hu]
  rw [wl_set hk (sI_off σ k i.toNatClampNeg (x)) he] at g1 g2
  exact kk ok H1 locs1 ls h1 g1 g2 g3
theorem V_zast {k n : Nat} {fs : List (Nat × Nat)} {i : Int32} {x : Int32} {σ' : Sg} (d : decode M.2.1 pc = .ok (.bastore, 1)) (e : pc + 1 = q) (hk : shp[k]? = some (1, n, fs)) (hin : vp_in i n) (es : σ' = sI σ k i.toNatClampNeg (vp_nar .boolean x)) (kk : V X M Q q L st σ') : V X M Q pc L (.int x :: .int i :: .ref (ad (xY X) k) :: st) σ := fun ok H locs ls h1 h2 h3 h4 => by
  subst e; subst es
  refine va_zast (D := (xY X).1) (cl := vcl) (tys := tysY (xY X)) ok.1 ok.2.1 ok.2.2.2.2.2.1 h2 h3 h4 k 1 (wl_at (Y := xY X) (σ := σ) hk) rfl hin d (fun H1 locs1 g1 g2 g3 => ?_)
  have he : cel (xY X) (sI σ k i.toNatClampNeg (vp_nar .boolean x)) k (1, n, fs) = (Sum.inl ((xY X).2.2 1, n, Sum.inl (upd (σ.1 k) i.toNatClampNeg (vp_nar .boolean x))) : va_E) := by
    have hu : (sI σ k i.toNatClampNeg (vp_nar .boolean x)).1 k = upd (σ.1 k) i.toNatClampNeg (vp_nar .boolean x) := by
      funext b
      simp [sI, upd]
    show Sum.inl ((xY X).2.2 1, n, Sum.inl ((sI σ k i.toNatClampNeg (vp_nar .boolean x)).1 k)) = _
    rw [hu]
  rw [wl_set hk (sI_off σ k i.toNatClampNeg (vp_nar .boolean x)) he] at g1 g2
  exact kk ok H1 locs1 ls h1 g1 g2 g3
theorem V_cast {k n : Nat} {fs : List (Nat × Nat)} {i : Int32} {x : Int32} {σ' : Sg} (d : decode M.2.1 pc = .ok (.castore, 1)) (e : pc + 1 = q) (hk : shp[k]? = some (2, n, fs)) (hin : vp_in i n) (es : σ' = sI σ k i.toNatClampNeg (vp_nar .char x)) (kk : V X M Q q L st σ') : V X M Q pc L (.int x :: .int i :: .ref (ad (xY X) k) :: st) σ := fun ok H locs ls h1 h2 h3 h4 => by
  subst e; subst es
  refine va_cast (D := (xY X).1) (cl := vcl) (tys := tysY (xY X)) ok.1 ok.2.1 ok.2.2.2.2.2.1 h2 h3 h4 k 2 (wl_at (Y := xY X) (σ := σ) hk) rfl hin d (fun H1 locs1 g1 g2 g3 => ?_)
  have he : cel (xY X) (sI σ k i.toNatClampNeg (vp_nar .char x)) k (2, n, fs) = (Sum.inl ((xY X).2.2 2, n, Sum.inl (upd (σ.1 k) i.toNatClampNeg (vp_nar .char x))) : va_E) := by
    have hu : (sI σ k i.toNatClampNeg (vp_nar .char x)).1 k = upd (σ.1 k) i.toNatClampNeg (vp_nar .char x) := by
      funext b
      simp [sI, upd]
    show Sum.inl ((xY X).2.2 2, n, Sum.inl ((sI σ k i.toNatClampNeg (vp_nar .char x)).1 k)) = _
    rw [hu]
  rw [wl_set hk (sI_off σ k i.toNatClampNeg (vp_nar .char x)) he] at g1 g2
  exact kk ok H1 locs1 ls h1 g1 g2 g3
theorem V_last {k n : Nat} {fs : List (Nat × Nat)} {i : Int32} {x : Int64} {σ' : Sg} (d : decode M.2.1 pc = .ok (.lastore, 1)) (e : pc + 1 = q) (hk : shp[k]? = some (3, n, fs)) (hin : vp_in i n) (es : σ' = sL σ k i.toNatClampNeg (x)) (kk : V X M Q q L st σ') : V X M Q pc L (.long x :: .int i :: .ref (ad (xY X) k) :: st) σ := fun ok H locs ls h1 h2 h3 h4 => by
  subst e; subst es
  refine va_last (D := (xY X).1) (cl := vcl) (tys := tysY (xY X)) ok.1 ok.2.1 ok.2.2.2.2.2.1 h2 h3 h4 k 3 (wl_at (Y := xY X) (σ := σ) hk) rfl hin d (fun H1 locs1 g1 g2 g3 => ?_)
  have he : cel (xY X) (sL σ k i.toNatClampNeg (x)) k (3, n, fs) = (Sum.inl ((xY X).2.2 3, n, Sum.inr (Sum.inl (vp_updL (σ.2 k) i.toNatClampNeg (x)))) : va_E) := by
    have hu : (sL σ k i.toNatClampNeg (x)).2 k = vp_updL (σ.2 k) i.toNatClampNeg (x) := by
      funext b
      simp [sL, vp_updL]
    show Sum.inl ((xY X).2.2 3, n, Sum.inr (Sum.inl ((sL σ k i.toNatClampNeg (x)).2 k))) = _
    rw [hu]
  rw [wl_set hk (sL_off σ k i.toNatClampNeg (x)) he] at g1 g2
  exact kk ok H1 locs1 ls h1 g1 g2 g3
theorem V_alen {k n kd : Nat} {fs : List (Nat × Nat)} (hkd : kd < 4) {v : Int32} (d : decode M.2.1 pc = .ok (.arraylength, 1)) (e : pc + 1 = q) (hk : shp[k]? = some (kd, n, fs)) (hv : Int32.ofNat n = v) (kk : V X M Q q L (.int v :: st) σ) : V X M Q pc L (.ref (ad (xY X) k) :: st) σ := fun ok H locs ls h1 h2 h3 h4 => by
  subst e
  rcases (show kd = 0 ∨ kd = 1 ∨ kd = 2 ∨ kd = 3 by omega) with rfl | rfl | rfl | rfl
  · exact va_alen (D := (xY X).1) (cl := vcl) (tys := tysY (xY X)) ok.1 ok.2.1 ok.2.2.2.2.2.1 h2 k 0 (wl_at (Y := xY X) (σ := σ) hk) (ty := .int) rfl hv d (kk ok H locs ls h1 h2 h3 h4)
  · exact va_alen (D := (xY X).1) (cl := vcl) (tys := tysY (xY X)) ok.1 ok.2.1 ok.2.2.2.2.2.1 h2 k 1 (wl_at (Y := xY X) (σ := σ) hk) (ty := .boolean) rfl hv d (kk ok H locs ls h1 h2 h3 h4)
  · exact va_alen (D := (xY X).1) (cl := vcl) (tys := tysY (xY X)) ok.1 ok.2.1 ok.2.2.2.2.2.1 h2 k 2 (wl_at (Y := xY X) (σ := σ) hk) (ty := .char) rfl hv d (kk ok H locs ls h1 h2 h3 h4)
  · exact va_alen (D := (xY X).1) (cl := vcl) (tys := tysY (xY X)) ok.1 ok.2.1 ok.2.2.2.2.2.1 h2 k 3 (wl_at (Y := xY X) (σ := σ) hk) (ty := .long) rfl hv d (kk ok H locs ls h1 h2 h3 h4)
theorem V_aald {k n j p t : Nat} {fs : List (Nat × Nat)} {i : Int32} (d : decode M.2.1 pc = .ok (.aaload, 1)) (e : pc + 1 = q) (hk : shp[k]? = some (4, n, fs)) (hin : vp_in i n) (hi : i.toNatClampNeg = j) (hj : fs[j]? = some (t, p)) (kk : V X M Q q L (.ref (ad (xY X) p) :: st) σ) : V X M Q pc L (.int i :: .ref (ad (xY X) k) :: st) σ := fun ok H locs ls h1 h2 h3 h4 => by
  subst e
  refine va_aldq (D := (xY X).1) (cl := vcl) (tys := tysY (xY X)) (C := "TermScan$Lexicon") ok.1 ok.2.1 ok.2.2.2.2.2.1 h2 k 4 (wl_at (Y := xY X) (σ := σ) hk) rfl hin d ?_
  have hr : va_rf ((fs[i.toNatClampNeg]?).map (fun f => (xY X).2.1 f.2)) = .ref (ad (xY X) p) := by rw [hi, hj]; rfl
  show W _ _ _ _ _ _ _ _ _ _ _ _ _ _ _ (F0 _ _ _ (va_rf ((fs[i.toNatClampNeg]?).map (fun f => (xY X).2.1 f.2)) :: st))
  rw [hr]
  exact kk ok H locs ls h1 h2 h3 h4
/-- System.arraycopy of longs -/
theorem V_cpyl {k0 k1 n0 n1 index : Nat} {fs0 fs1 : List (Nat × Nat)} {sp dp n : Int32} {σ' : Sg} (hlk : Cond.methodLink M.1 index arraycopyName ∈ gtb) (d : decode M.2.1 pc = .ok (.invokestatic index, 3)) (e : pc + 3 = q) (hk0 : shp[k0]? = some (3, n0, fs0)) (hk1 : shp[k1]? = some (3, n1, fs1)) (g1 : ¬ sp < 0) (g2 : ¬ dp < 0) (g3 : ¬ n < 0) (g4 : sp.toNatClampNeg + n.toNatClampNeg ≤ n0) (g5 : dp.toNatClampNeg + n.toNatClampNeg ≤ n1) (hfr : 1 ≤ M.2.2.2.1.frames) (hlo : (st.map fun v => v.category).sum + (nativeFrameWords "java/lang/System" "arraycopy" 5 + 11) ≤ M.2.2.2.1.locals) (es : σ' = cL σ k0 k1 sp.toNatClampNeg dp.toNatClampNeg n.toNatClampNeg)
    (kk : V X M Q q L st σ') : V X M Q pc L (.int n :: .int dp :: .ref (ad (xY X) k1) :: .int sp :: .ref (ad (xY X) k0) :: st) σ := fun ok H locs ls h1 h2 h3 h4 => by
  subst e; subst es
  refine va_copyl (D := (xY X).1) (cl := vcl) (tys := tysY (xY X)) (ty := .long) ok.1 ok.2.1 (ok.2.2.1.trans h1.1.symm) ok.2.2.2.1 (ok.2.2.2.2.1 _ hlk) (ok.2.2.2.2.1 _ cpy_nat) (ok.2.2.2.2.1 _ cpy_stat) (ok.2.2.2.2.1 _ cpy_ini) ok.2.2.2.2.2.1 h2 h3 h4 k0 k1 3 3 (wl_at (Y := xY X) (σ := σ) hk0) (wl_at (Y := xY X) (σ := σ) hk1) rfl rfl rfl g1 g2 g3 g4 g5 (fun i _ => rfl) hfr hlo d (fun H1 locs1 g1 g2 g3 => ?_)
  have he : cel (xY X) (cL σ k0 k1 sp.toNatClampNeg dp.toNatClampNeg n.toNatClampNeg) k1 (3, n1, fs1) = (Sum.inl ((xY X).2.2 3, n1, Sum.inr (Sum.inl (va_cpy (σ.2 k0) (σ.2 k1) sp.toNatClampNeg dp.toNatClampNeg n.toNatClampNeg))) : va_E) := by
    have hu : (cL σ k0 k1 sp.toNatClampNeg dp.toNatClampNeg n.toNatClampNeg).2 k1 = va_cpy (σ.2 k0) (σ.2 k1) sp.toNatClampNeg dp.toNatClampNeg n.toNatClampNeg := by simp [cL]
    show Sum.inl ((xY X).2.2 3, n1, Sum.inr (Sum.inl ((cL σ k0 k1 sp.toNatClampNeg dp.toNatClampNeg n.toNatClampNeg).2 k1))) = _
    rw [hu]
  rw [wl_set hk1 (cL_off σ k0 k1 sp.toNatClampNeg dp.toNatClampNeg n.toNatClampNeg) he] at g1 g2
  exact kk ok H1 locs1 ls h1 g1 g2 g3
/-- a method's end -/
def Qz (Y : Yc) (rv : Option Value) (σ' : Sg) (A : Nat → Prop) : Array Value → State → Outcome → State → Prop := fun _ st oc t => oc = .returned rv ∧ va_P Y.1 vcl (wl Y σ') t.heap ∧ va_F A st t
def mq (X : Xc) (rv : Option Value) (σ' : Sg) : State → Prop := MQ (xb X) (Qz (xY X) rv σ' (xA X)) (xa X) (xs X) (xn X) (xz X) (xA X)
theorem V_iret {x : Int32} (hr : M.2.2.2.2 = some .int) (d : decode M.2.1 pc = .ok (.ireturn, 1)) : V X M (mq X (some (.int x)) σ) pc L [.int x] σ := fun ok H locs ls h1 h2 h3 h4 =>
  W.iret ok.1 ok.2.1 (ok.2.2.2.2.2.2.2.1.trans hr) (fun t ht hW => ⟨rfl, by rw [ht]; exact h2, h4.F ht⟩) h4.2.2 d ok.2.2.2.2.2.2.2.2.1
theorem V_zret {x : Int32} (hr : M.2.2.2.2 = some .boolean) (hx : narrow .boolean (.int x) = .int x) (d : decode M.2.1 pc = .ok (.ireturn, 1)) : V X M (mq X (some (.int x)) σ) pc L [.int x] σ := fun ok H locs ls h1 h2 h3 h4 =>
  W.zret ok.1 ok.2.1 (ok.2.2.2.2.2.2.2.1.trans hr) hx (fun t ht hW => ⟨rfl, by rw [ht]; exact h2, h4.F ht⟩) h4.2.2 d ok.2.2.2.2.2.2.2.2.1
theorem V_lret {x : Int64} (hr : M.2.2.2.2 = some .long) (d : decode M.2.1 pc = .ok (.lreturn, 1)) : V X M (mq X (some (.long x)) σ) pc L [.long x] σ := fun ok H locs ls h1 h2 h3 h4 =>
  W.lret ok.1 ok.2.1 (ok.2.2.2.2.2.2.2.1.trans hr) (fun t ht hW => ⟨rfl, by rw [ht]; exact h2, h4.F ht⟩) h4.2.2 d ok.2.2.2.2.2.2.2.2.1
theorem V_aret {v : Value} {C : String} (hr : M.2.2.2.2 = some (.object C)) (hv : v = .null ∨ ∃ a, v = .ref a) (d : decode M.2.1 pc = .ok (.areturn, 1)) : V X M (mq X (some v) σ) pc L [v] σ := fun ok H locs ls h1 h2 h3 h4 =>
  W.aret ok.1 ok.2.1 (ok.2.2.2.2.2.2.2.1.trans hr) (Or.inl ⟨C, rfl⟩) hv (fun t ht hW => ⟨rfl, by rw [ht]; exact h2, h4.F ht⟩) h4.2.2 d ok.2.2.2.2.2.2.2.2.1
theorem V_vret (hr : M.2.2.2.2 = none) (d : decode M.2.1 pc = .ok (.return_, 1)) : V X M (mq X none σ) pc L [] σ := fun ok H locs ls h1 h2 h3 h4 =>
  W.vret ok.1 ok.2.1 (ok.2.2.2.2.2.2.2.1.trans hr) (fun t ht hW => ⟨rfl, by rw [ht]; exact h2, h4.F ht⟩) h4.2.2 d ok.2.2.2.2.2.2.2.2.1
end VR
/-- a method's contract: from the world σ with these arguments it answers rv and leaves the world σ' -/
def Pz (Y : Yc) (σ : Sg) (av : List Value) (sz : Nat) : Array Value → State → Prop := va_Pc av (fun U => U.heap.size = sz ∧ va_P Y.1 vcl (wl Y σ) U.heap ∧ va_K Y.1 vcl (tysY Y) U ∧ va_D (fun _ => True) (wl Y σ))
def Ct (M : Mc) (y : MethodName) (Y : Yc) (av : List Value) (σ : Sg) (rv : Option Value) (σ' : Sg) : Prop :=
  ∀ (l : Launch) (sz : Nat), Met l y (Cond.code y M.2.1 M.2.2.1 M.2.2.2.2 :: gtb) M.2.2.2.1 (Pz Y σ av sz) (Qz Y rv σ' (va_A (wl Y σ) sz)) 0 0 (va_A (wl Y σ) sz)
def lvL : List Value → List (Option Value)
  | [] => []
  | v :: vs => if v.category = 2 then some v :: none :: lvL vs else some v :: lvL vs
theorem lvL_at : ∀ (vs : List Value) (o i : Nat) (v : Value), (lvL vs)[i]? = some (some v) → (o + i, v) ∈ lv_args o vs
  | [], o, i, v, h => by simp [lvL] at h
  | w :: vs, o, i, v, h => by
    unfold lvL at h
    unfold lv_args
    split at h
    · rename_i hc
      rw [if_pos hc]
      match i, h with
      | 0, h =>
        have : w = v := by simpa using h
        subst this
        exact List.mem_cons_self
      | 1, h => simp at h
      | i + 2, h =>
        refine List.mem_cons_of_mem _ ?_
        have := lvL_at vs (o + 2) i v (by simpa using h)
        rwa [show o + 2 + i = o + (i + 2) by omega] at this
    · rename_i hc
      rw [if_neg hc]
      match i, h with
      | 0, h =>
        have : w = v := by simpa using h
        subst this
        exact List.mem_cons_self
      | i + 1, h =>
        refine List.mem_cons_of_mem _ ?_
        have := lvL_at vs (o + 1) i v (by simpa using h)
        rwa [show o + 1 + i = o + (i + 1) by omega] at this
theorem Ct_intro {M : Mc} {y : MethodName} {Y : Yc} {av : List Value} {σ σ' : Sg} {rv : Option Value} (L0 : List (Option Value)) (hy : plainName y.cls = true) (hown : M.1 = y.cls) (hn : (lg_sl av).length ≤ M.2.2.1) (hL : lvL av ++ List.replicate (M.2.2.1 - (lvL av).length) none = L0)
    (h : ∀ X : Xc, xY X = Y → V X M (mq X rv σ') 0 L0 [] σ) (hroom : M.2.2.2.1.cells = 0 ∧ M.2.2.2.1.slots = 0) : Ct M y Y av σ rv σ' := by
  intro l sz
  refine Met.ofW (cc := M.2.1) (maxL := M.2.2.1) (ret := M.2.2.2.2) hy rfl ?_
  intro p e s m args below meth c s₁ B hml hv
  obtain ⟨rfl, hsz, hP, hK, hD0⟩ := hv
  have hts := atoms_spec (ws := Cond.code y M.2.1 M.2.2.1 M.2.2.2.2 :: gtb) B.pre
  have hfc : s.vm.findClass y.cls = some m.cls := findClass_of_methodNamed B.named
  subst hsz
  have hD := hD0.self (sz := s.heap.size)
  have key := h (p, l, e, s, m, av.toArray, below, meth, c, va_A (wl Y σ) s.heap.size, Y, 0, 0) rfl
    ⟨B.exec, B.bytes, hml, by rw [hown]; exact hfc, fun w hw => hts w (List.mem_cons_of_mem _ hw), hK, fun q h => Or.inr h, B.returns, B.notSynchronized, Nat.zero_le _, Nat.zero_le _⟩
  have hl := lv_entry av hn
  rw [lg_entry_eq]
  generalize (lg_sl av ++ List.replicate (M.2.2.1 - (lg_sl av).length) Slot.unset).toArray = ls at hl ⊢
  have hlok : lok ls M.2.2.1 L0 := by
    refine ⟨hl.1, hl.2.1, fun i v hi => ?_⟩
    subst hL
    rw [List.getElem?_append] at hi
    split at hi
    · have := lvL_at av 0 i v hi
      rw [Nat.zero_add] at this
      exact hl.2.2 _ this
    · rw [List.getElem?_replicate] at hi
      split at hi <;> cases hi
  exact key s.heap [] ls hlok hP hD va_S.rf
/-- all words of the tables are of the kind that stays -/
theorem tbl_good : gtb.all goodWord = true := List.all_eq_true.mpr (fun _ h => (List.mem_filter.mp h).2)
theorem good_all {w0 : Cond} (h : w0 ∈ gtb) : GoodIn gtb (w0 :: gtb) := by
  intro w hw
  have hm : w ∈ gtb := by
    rcases List.mem_cons.mp hw with rfl | h2
    · exact h
    · exact h2
  exact ⟨hm, good_of_word (List.all_eq_true.mp tbl_good w hm)⟩
/-- what the tables say of a method that is called -/
def Cee (M : Mc) (y : MethodName) (n : Nat) : Prop := Cond.code y M.2.1 M.2.2.1 M.2.2.2.2 ∈ gtb ∧ Cond.initialized y.cls ∈ gtb ∧ (y.cls ≠ "java/lang/invoke/MethodHandle" ∧ y.cls ≠ "java/lang/invoke/VarHandle" ∧ (parseMethodDescriptor y.desc).map (fun d => d.parameters.length) = some n) ∧ M.2.2.2.1.cells = 0 ∧ M.2.2.2.1.slots = 0
section VC
variable {X : Xc} {M : Mc} {Q : State → Prop} {pc q : Nat} {L : List (Option Value)} {st rest : List Value} {σ σ' : Sg} {rv : Option Value} {y : MethodName} {My : Mc} {index n : Nat} {As : List Value}
theorem V_back {av : List Value} {H : Heap} {locs : List Loc} {ls : Array Slot} {g : JFrame} (hg : g = F0 (xm X) pc ls st) (ok : Vok X M) (h1 : lok ls M.2.2.1 L) (h3 : va_D (xA X) (wl (xY X) σ)) (h4 : va_S (xA X) (xs X).heap H locs)
    (hr : va_Run (xp X) (xl X) (xe X) M.2.2.2.1 (xs X) (xm X) (xa X) (xb X) (xh X) (xc X) H locs (xn X) (xz X) 0 0 g rest (Qz (xY X) rv σ' (va_A (wl (xY X) σ) H.size) av.toArray) (va_A (wl (xY X) σ) H.size))
    (kk : V X M Q (pc + 3) L (rv.toList ++ rest) σ') : W (xp X) (xl X) (xe X) M.2.2.2.1 (xs X) (xm X) (xa X) (xb X) (xh X) (xc X) H locs (xn X) (xz X) Q g := by
  subst hg
  intro T hT Xs
  obtain ⟨v, st₀, t, T', Lc, h0, X', hL, e1, e2, ⟨hv, hp, hz, hk⟩, stp⟩ := hr T hT Xs
  cases hv
  rw [h0] at hz hk
  have hA : ∀ q, va_A (wl (xY X) σ) H.size q → xA X q := by
    intro q h
    rcases h with ⟨k, e, h⟩ | h
    · exact h3.2 k _ h
    · exact ok.2.2.2.2.2.2.1 q (Nat.le_trans h4.1 h)
  have h4' : va_S (xA X) (xs X).heap T'.heap (locs ++ Lc) := by
    refine ⟨Nat.le_trans h4.1 (by rw [e1]; exact hz), fun q a1 a2 => ?_, fun q hq => ?_⟩
    · rw [e1, hk q (Nat.lt_of_lt_of_le a1 h4.1) (fun z => a2 (hA q z))]
      exact h4.2.1 q a1 a2
    · rcases List.mem_append.mp hq with h | h
      · exact h4.2.2 q h
      · exact hA _ (hL q h)
  obtain ⟨t2, a1, b1⟩ := kk ok T'.heap (locs ++ Lc) ls h1 (by rw [e1]; exact hp) (wl_D h3) h4' T' rfl X'
  exact ⟨t2, stp t2 a1, b1⟩
theorem Pz_pre {av : List Value} {H : Heap} (ok : Vok X M) (h2 : va_P (xY X).1 vcl (wl (xY X) σ) H) (h3 : va_D (xA X) (wl (xY X) σ)) : PreS (xs X) H (Pz (xY X) σ av H.size) av := by
  refine ⟨fun a U g mk hq => ?_, fun U hU hW => ⟨rfl, by rw [hU], by rw [hU]; exact h2, va_K.moved hW.alike ok.2.2.2.2.2.1, h3.weaken (fun _ _ _ _ => trivial)⟩⟩
  obtain ⟨q0, q1, qP, qK, qD⟩ := hq
  exact ⟨q0, q1, qP, va_K.moved (u := U) (U := U.calling g mk a) (Vm.Alike.refl U.vm) qK, qD⟩
theorem V_cv {k ci nn N : Nat} {C : String} {T : u_T} {ty : Nat → FieldType} {fs : List (Nat × Nat)} (ct : Ct My y (xY X) (.ref (ad (xY X) k) :: As) σ rv σ') (ce : Cee My y n) (cz : Clz ci C T N ty) (hC : y.cls = C) (hin : Cond.instanceMethod y ∈ gtb) (hse : Cond.selects y.cls y y ∈ gtb) (hk : shp[k]? = some (ci + 5, nn, fs)) (lm : Cond.methodLink M.1 index y ∈ gtb) (hn : As.length = n)
    (hR : My.2.2.2.1.frames + 1 ≤ M.2.2.2.1.frames ∧ 8 + (My.2.2.1 + 11) + My.2.2.2.1.locals ≤ M.2.2.2.1.locals) (hst : st = As.reverse ++ .ref (ad (xY X) k) :: rest) (hrest : (rest.map fun v => v.category).sum ≤ 8) (d : decode M.2.1 pc = .ok (.invokevirtual index, 3)) (e : pc + 3 = q) (kk : V X M Q q L (rv.toList ++ rest) σ') : V X M Q pc L st σ := fun ok H locs ls h1 h2 h3 h4 => by
  subst e; subst hst; subst hC
  have hts := ok.2.2.2.2.1
  have cb : CallB M.2.2.2.1 (xs X) (xa X) M.1 index y My.2.1 My.2.2.1 My.2.2.2.2 (Cond.code y My.2.1 My.2.2.1 My.2.2.2.2 :: gtb) My.2.2.2.1 0 0 n := callB_of n hts (good_all ce.1) rfl ce.2.2.2.1 ce.2.2.2.2 (hts _ ce.2.1) (hts _ lm) ce.2.2.1 hR
  have pr := Pz_pre (av := .ref (ad (xY X) k) :: As) ok h2 h3
  have rc := va_recv ok.2.2.2.2.2.1 h2 cz.1 (wl_at (Y := xY X) (σ := σ) hk)
  refine V_back (L := L) (av := .ref (ad (xY X) k) :: As) (st := As.reverse ++ .ref (ad (xY X) k) :: rest) rfl ok h1 h3 h4 (va_runV (As := As) (rest := rest) (Ts := gtb) (C := y.cls) (b := ad (xY X) k) ⟨ok.1, ok.2.1, ok.2.2.1, ok.2.2.2.1, hts⟩ (ct (xl X) H.size) ⟨cb, hts _ hin, hts _ hse⟩ ⟨pr.1, rc, pr.2⟩ rfl hn h1.1 rfl (lv_room hrest) d ⟨ok.2.2.2.2.2.2.2.2.2.1, ok.2.2.2.2.2.2.2.2.2.2⟩) kk
theorem V_cs (ct : Ct My y (xY X) As σ rv σ') (ce : Cee My y n) (hsta : Cond.static y ∈ gtb) (lm : Cond.methodLink M.1 index y ∈ gtb) (hn : As.length = n)
    (hR : My.2.2.2.1.frames + 1 ≤ M.2.2.2.1.frames ∧ 8 + (My.2.2.1 + 11) + My.2.2.2.1.locals ≤ M.2.2.2.1.locals) (hst : st = As.reverse ++ rest) (hrest : (rest.map fun v => v.category).sum ≤ 8) (d : decode M.2.1 pc = .ok (.invokestatic index, 3)) (e : pc + 3 = q) (kk : V X M Q q L (rv.toList ++ rest) σ') : V X M Q pc L st σ := fun ok H locs ls h1 h2 h3 h4 => by
  subst e; subst hst
  have hts := ok.2.2.2.2.1
  have cb : CallB M.2.2.2.1 (xs X) (xa X) M.1 index y My.2.1 My.2.2.1 My.2.2.2.2 (Cond.code y My.2.1 My.2.2.1 My.2.2.2.2 :: gtb) My.2.2.2.1 0 0 n := callB_of n hts (good_all ce.1) rfl ce.2.2.2.1 ce.2.2.2.2 (hts _ ce.2.1) (hts _ lm) ce.2.2.1 hR
  have pr := Pz_pre (av := As) ok h2 h3
  refine V_back (L := L) (av := As) (st := As.reverse ++ rest) rfl ok h1 h3 h4 (va_runS (As := As) (rest := rest) (Ts := gtb) ⟨ok.1, ok.2.1, ok.2.2.1, ok.2.2.2.1, hts⟩ (ct (xl X) H.size) ⟨cb, hts _ hsta⟩ pr rfl hn h1.1 rfl (lv_room hrest) d ⟨ok.2.2.2.2.2.2.2.2.2.1, ok.2.2.2.2.2.2.2.2.2.2⟩) kk
theorem V_cv1 {k ci nn N : Nat} {C : String} {T : u_T} {ty : Nat → FieldType} {fs : List (Nat × Nat)} {v : Value} (ct : Ct My y (xY X) (.ref (ad (xY X) k) :: As) σ (some v) σ') (ce : Cee My y n) (cz : Clz ci C T N ty) (hC : y.cls = C) (hin : Cond.instanceMethod y ∈ gtb) (hse : Cond.selects y.cls y y ∈ gtb) (hk : shp[k]? = some (ci + 5, nn, fs)) (lm : Cond.methodLink M.1 index y ∈ gtb) (hn : As.length = n) (hR : My.2.2.2.1.frames + 1 ≤ M.2.2.2.1.frames ∧ 8 + (My.2.2.1 + 11) + My.2.2.2.1.locals ≤ M.2.2.2.1.locals) (hst : st = As.reverse ++ .ref (ad (xY X) k) :: rest) (hrest : (rest.map fun v => v.category).sum ≤ 8) (d : decode M.2.1 pc = .ok (.invokevirtual index, 3)) (e : pc + 3 = q) (kk : V X M Q q L (v :: rest) σ') : V X M Q pc L st σ := V_cv ct ce cz hC hin hse hk lm hn hR hst hrest d e kk
theorem V_cv0 {k ci nn N : Nat} {C : String} {T : u_T} {ty : Nat → FieldType} {fs : List (Nat × Nat)} (ct : Ct My y (xY X) (.ref (ad (xY X) k) :: As) σ none σ') (ce : Cee My y n) (cz : Clz ci C T N ty) (hC : y.cls = C) (hin : Cond.instanceMethod y ∈ gtb) (hse : Cond.selects y.cls y y ∈ gtb) (hk : shp[k]? = some (ci + 5, nn, fs)) (lm : Cond.methodLink M.1 index y ∈ gtb) (hn : As.length = n) (hR : My.2.2.2.1.frames + 1 ≤ M.2.2.2.1.frames ∧ 8 + (My.2.2.1 + 11) + My.2.2.2.1.locals ≤ M.2.2.2.1.locals) (hst : st = As.reverse ++ .ref (ad (xY X) k) :: rest) (hrest : (rest.map fun v => v.category).sum ≤ 8) (d : decode M.2.1 pc = .ok (.invokevirtual index, 3)) (e : pc + 3 = q) (kk : V X M Q q L rest σ') : V X M Q pc L st σ := V_cv ct ce cz hC hin hse hk lm hn hR hst hrest d e kk
theorem V_cs1 {v : Value} (ct : Ct My y (xY X) As σ (some v) σ') (ce : Cee My y n) (hsta : Cond.static y ∈ gtb) (lm : Cond.methodLink M.1 index y ∈ gtb) (hn : As.length = n) (hR : My.2.2.2.1.frames + 1 ≤ M.2.2.2.1.frames ∧ 8 + (My.2.2.1 + 11) + My.2.2.2.1.locals ≤ M.2.2.2.1.locals) (hst : st = As.reverse ++ rest) (hrest : (rest.map fun v => v.category).sum ≤ 8) (d : decode M.2.1 pc = .ok (.invokestatic index, 3)) (e : pc + 3 = q) (kk : V X M Q q L (v :: rest) σ') : V X M Q pc L st σ := V_cs ct ce hsta lm hn hR hst hrest d e kk
theorem V_cs0 (ct : Ct My y (xY X) As σ none σ') (ce : Cee My y n) (hsta : Cond.static y ∈ gtb) (lm : Cond.methodLink M.1 index y ∈ gtb) (hn : As.length = n) (hR : My.2.2.2.1.frames + 1 ≤ M.2.2.2.1.frames ∧ 8 + (My.2.2.1 + 11) + My.2.2.2.1.locals ≤ M.2.2.2.1.locals) (hst : st = As.reverse ++ rest) (hrest : (rest.map fun v => v.category).sum ≤ 8) (d : decode M.2.1 pc = .ok (.invokestatic index, 3)) (e : pc + 3 = q) (kk : V X M Q q L rest σ') : V X M Q pc L st σ := V_cs ct ce hsta lm hn hR hst hrest d e kk
end VC
theorem clz_0 : Clz 0 RX1 TX1 9 tyX1 := ⟨rfl, inX1, tyX1_ok, nmX1⟩
theorem clz_1 : Clz 1 RX2 TX2 1 tyX2 := ⟨rfl, inX2, tyX2_ok, nmX2⟩
theorem clz_2 : Clz 2 RX3 TX3 6 tyX3 := ⟨rfl, inX3, tyX3_ok, nmX3⟩
theorem clz_3 : Clz 3 RX4 TX4 15 tyX4 := ⟨rfl, inX4, tyX4_ok, nmX4⟩
theorem clz_4 : Clz 4 RX5 TX5 3 tyX5 := ⟨rfl, inX5, tyX5_ok, nmX5⟩
theorem clz_5 : Clz 5 RX6 TX6 7 tyX6 := ⟨rfl, inX6, tyX6_ok, nmX6⟩
theorem clz_6 : Clz 6 RX7 TX7 7 tyX7 := ⟨rfl, inX7, tyX7_ok, nmX7⟩
theorem clz_7 : Clz 7 RX8 TX8 14 tyX8 := ⟨rfl, inX8, tyX8_ok, nmX8⟩
