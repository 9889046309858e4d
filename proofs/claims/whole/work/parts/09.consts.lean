theorem bipush_8 : (Int8.ofInt 8).toInt32 = (8 : Int32) := by decide
theorem bipush_9 : (Int8.ofInt 9).toInt32 = (9 : Int32) := by decide
theorem bipush_10 : (Int8.ofInt 10).toInt32 = (10 : Int32) := by decide
theorem bipush_12 : (Int8.ofInt 12).toInt32 = (12 : Int32) := by decide
theorem bipush_13 : (Int8.ofInt 13).toInt32 = (13 : Int32) := by decide
theorem bipush_15 : (Int8.ofInt 15).toInt32 = (15 : Int32) := by decide
theorem bipush_16 : (Int8.ofInt 16).toInt32 = (16 : Int32) := by decide
theorem bipush_30 : (Int8.ofInt 30).toInt32 = (30 : Int32) := by decide
theorem bipush_31 : (Int8.ofInt 31).toInt32 = (31 : Int32) := by decide
theorem bipush_32 : (Int8.ofInt 32).toInt32 = (32 : Int32) := by decide
theorem bipush_46 : (Int8.ofInt 46).toInt32 = (46 : Int32) := by decide
theorem bipush_50 : (Int8.ofInt 50).toInt32 = (50 : Int32) := by decide
theorem bipush_56 : (Int8.ofInt 56).toInt32 = (56 : Int32) := by decide
theorem bipush_60 : (Int8.ofInt 60).toInt32 = (60 : Int32) := by decide
theorem bipush_63 : (Int8.ofInt 63).toInt32 = (63 : Int32) := by decide
theorem bipush_96 : (Int8.ofInt 96).toInt32 = (96 : Int32) := by decide
theorem bipush_97 : (Int8.ofInt 97).toInt32 = (97 : Int32) := by decide
theorem bipush_122 : (Int8.ofInt 122).toInt32 = (122 : Int32) := by decide
theorem iconst_m1 : Int32.ofInt (-1) = ((-1) : Int32) := by decide
theorem iconst_0 : Int32.ofInt 0 = (0 : Int32) := by decide
theorem iconst_1 : Int32.ofInt 1 = (1 : Int32) := by decide
theorem iconst_2 : Int32.ofInt 2 = (2 : Int32) := by decide
theorem iconst_3 : Int32.ofInt 3 = (3 : Int32) := by decide
theorem iconst_4 : Int32.ofInt 4 = (4 : Int32) := by decide
theorem iconst_5 : Int32.ofInt 5 = (5 : Int32) := by decide
theorem sipush_255 : (Int16.ofInt 255).toInt32 = (255 : Int32) := by decide
theorem sipush_450 : (Int16.ofInt 450).toInt32 = (450 : Int32) := by decide
theorem sipush_475 : (Int16.ofInt 475).toInt32 = (475 : Int32) := by decide
theorem sipush_3120 : (Int16.ofInt 3120).toInt32 = (3120 : Int32) := by decide
theorem nz01 {x : Int32} (h : x = 0 ∨ x = 1) : narrow .boolean (.int x) = .int x := by rcases h with rfl | rfl <;> rfl
/-- null, or a cell -/
def rfv (Y : Yc) (k : Nat) : Value := if k = 0 then .null else .ref (ad Y k)
theorem V_sg {X : Xc} {M : Mc} {Q : State → Prop} {pc : Nat} {L : List (Option Value)} {st st' : List Value} {σ : Sg} (h : st' = st) (k : V X M Q pc L st σ) : V X M Q pc L st' σ := h ▸ k
