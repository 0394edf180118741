/-! Numbers: Int32 and Int64 as pictures of Int -/
def cd_I (z : Int) : Int32 := Int32.ofInt z
def cd_L (z : Int) : Int64 := Int64.ofInt z
/-- z is within an int -/
abbrev cd_R (z : Int) : Prop := -2147483648 ≤ z ∧ z < 2147483648
/-- z is well within a long -/
abbrev cd_Q (z : Int) : Prop := -9000000000000000000 ≤ z ∧ z < 9000000000000000000
theorem cd_nI (n : Nat) : nI n = cd_I (n : Int) := (Int32.ofInt_eq_ofNat (n := n)).symm
theorem cd_lN (n : Nat) : lN n = cd_L (n : Int) := (Int64.ofInt_eq_ofNat (n := n)).symm
theorem cd_add (a b : Int) : cd_I a + cd_I b = cd_I (a + b) := (Int32.ofInt_add a b).symm
theorem cd_sub (a b : Int) : cd_I a - cd_I b = cd_I (a - b) := (Int32.ofInt_sub a b).symm
theorem cd_mul (a b : Int) : cd_I a * cd_I b = cd_I (a * b) := (Int32.ofInt_mul a b).symm
theorem cd_neg (a : Int) : -cd_I a = cd_I (-a) := (Int32.ofInt_neg a).symm
theorem cd_Ladd (a b : Int) : cd_L a + cd_L b = cd_L (a + b) := (Int64.ofInt_add a b).symm
theorem cd_Lsub (a b : Int) : cd_L a - cd_L b = cd_L (a - b) := (Int64.ofInt_sub a b).symm
theorem cd_Lmul (a b : Int) : cd_L a * cd_L b = cd_L (a * b) := (Int64.ofInt_mul a b).symm
theorem cd_Lneg (a : Int) : -cd_L a = cd_L (-a) := (Int64.ofInt_neg a).symm
theorem cd_toInt {a : Int} (h : cd_R a) : (cd_I a).toInt = a := Int32.toInt_ofInt_of_le (by omega) (by omega)
theorem cd_LtoInt {a : Int} (h : cd_Q a) : (cd_L a).toInt = a := Int64.toInt_ofInt_of_le (by omega) (by omega)
theorem cd_of (x : Int32) : ∃ z : Int, cd_R z ∧ x = cd_I z := by
  refine ⟨x.toInt, ⟨?_, ?_⟩, (Int32.ofInt_toInt x).symm⟩
  · have h := Int32.le_toInt x; omega
  · have h := Int32.toInt_lt x; omega
theorem cd_le {a b : Int} (ha : cd_R a) (hb : cd_R b) : cd_I a ≤ cd_I b ↔ a ≤ b := by
  rw [Int32.le_iff_toInt_le, cd_toInt ha, cd_toInt hb]
theorem cd_lt {a b : Int} (ha : cd_R a) (hb : cd_R b) : cd_I a < cd_I b ↔ a < b := by
  rw [Int32.lt_iff_toInt_lt, cd_toInt ha, cd_toInt hb]
theorem cd_eq {a b : Int} (ha : cd_R a) (hb : cd_R b) : cd_I a = cd_I b ↔ a = b := by
  rw [← Int32.toInt_inj, cd_toInt ha, cd_toInt hb]
theorem cd_Lle {a b : Int} (ha : cd_Q a) (hb : cd_Q b) : cd_L a ≤ cd_L b ↔ a ≤ b := by
  rw [Int64.le_iff_toInt_le, cd_LtoInt ha, cd_LtoInt hb]
theorem cd_Llt {a b : Int} (ha : cd_Q a) (hb : cd_Q b) : cd_L a < cd_L b ↔ a < b := by
  rw [Int64.lt_iff_toInt_lt, cd_LtoInt ha, cd_LtoInt hb]
theorem cd_Leq {a b : Int} (ha : cd_Q a) (hb : cd_Q b) : cd_L a = cd_L b ↔ a = b := by
  rw [← Int64.toInt_inj, cd_LtoInt ha, cd_LtoInt hb]
theorem cd_il {a : Int} (h : cd_R a) : (cd_I a).toInt64 = cd_L a := by
  apply Int64.toInt_inj.1
  rw [Int32.toInt_toInt64, cd_toInt h, cd_LtoInt (by omega)]
theorem cd_li (a : Int) : (cd_L a).toInt32 = cd_I a := Int64.toInt32_ofInt
theorem cd_tdb (a b : Int) : (a.tdiv b).natAbs ≤ a.natAbs := Int.natAbs_tdiv_le_natAbs a b
theorem cd_div {a b : Int} (ha : a.natAbs < 2147483648) (hb : cd_R b) (h : 0 < b) : cd_I a / cd_I b = cd_I (a.tdiv b) := by
  apply Int32.toInt_inj.1
  have hn : cd_I b ≠ -1 := by
    intro e
    have e2 := congrArg Int32.toInt e
    rw [cd_toInt hb] at e2
    have e3 : (-1 : Int32).toInt = -1 := by decide
    omega
  have h1 := cd_tdb a b
  rw [Int32.toInt_div_of_ne_right _ _ hn, cd_toInt (by omega), cd_toInt hb, cd_toInt (by omega)]
theorem cd_Ldiv {a b : Int} (ha : a.natAbs < 2147483648) (hb : cd_Q b) (h : 0 < b) : cd_L a / cd_L b = cd_L (a.tdiv b) := by
  apply Int64.toInt_inj.1
  have hn : cd_L b ≠ -1 := by
    intro e
    have e2 := congrArg Int64.toInt e
    rw [cd_LtoInt hb] at e2
    have e3 : (-1 : Int64).toInt = -1 := by decide
    omega
  have h1 := cd_tdb a b
  rw [Int64.toInt_div_of_ne_right _ _ hn, cd_LtoInt (by omega), cd_LtoInt hb, cd_LtoInt (by omega)]
theorem cd_rem {a b : Int} (ha : a.natAbs < 2147483648) (hb : cd_R b) (h : 0 < b) : cd_I a - cd_I a / cd_I b * cd_I b = cd_I (a.tmod b) := by
  rw [cd_div ha hb h, cd_mul, cd_sub, Int.tmod_def, Int.mul_comm b]
theorem cd_clamp {n : Nat} (h : n < 2147483648) : (cd_I (n : Int)).toNatClampNeg = n := by
  rw [← cd_nI]; exact nI_clamp (by omega)
/-! bounds of products -/
theorem cd_bm {x y : Int} {m n : Nat} (hx : x.natAbs ≤ m) (hy : y.natAbs ≤ n) : (x * y).natAbs ≤ m * n := by
  rw [Int.natAbs_mul]; exact Nat.mul_le_mul hx hy
/-! stores -/
theorem cd_us {f : Nat → Int32} {k : Nat} {x : Int32} : upd f k x k = x := if_pos rfl
theorem cd_un {f : Nat → Int32} {k j : Nat} {x : Int32} (h : j ≠ k) : upd f k x j = f j := if_neg h
