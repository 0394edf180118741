section
/-! Numbers: Int32 and Int64 as pictures of Int -/
def cd_I (z : Int) : Int32 := Int32.ofInt z
def cd_L (z : Int) : Int64 := Int64.ofInt z
/-- z is within an int -/
abbrev cd_R (z : Int) : Prop := -2147483648 ≤ z ∧ z < 2147483648
/-- z is well within a long -/
abbrev cd_Q (z : Int) : Prop := -9000000000000000000 ≤ z ∧ z < 9000000000000000000
theorem cd_nI (n : Nat) : nI n = cd_I (n : Int) := (Int32.ofInt_eq_ofNat (n := n)).symm
theorem cd_lN (n : Nat) : lN n = cd_L (n : Int) := (Int64.ofInt_eq_ofNat (n := n)).symm
theorem cd_add (a b : Int) : cd_I a + cd_I b = cd_I (a + b) := (Int32.ofInt_add a b).symm
theorem cd_sub (a b : Int) : cd_I a - cd_I b = cd_I (a - b) := (Int32.ofInt_sub a b).symm
theorem cd_mul (a b : Int) : cd_I a * cd_I b = cd_I (a * b) := (Int32.ofInt_mul a b).symm
theorem cd_neg (a : Int) : -cd_I a = cd_I (-a) := (Int32.ofInt_neg a).symm
theorem cd_Ladd (a b : Int) : cd_L a + cd_L b = cd_L (a + b) := (Int64.ofInt_add a b).symm
theorem cd_Lsub (a b : Int) : cd_L a - cd_L b = cd_L (a - b) := (Int64.ofInt_sub a b).symm
theorem cd_Lmul (a b : Int) : cd_L a * cd_L b = cd_L (a * b) := (Int64.ofInt_mul a b).symm
theorem cd_Lneg (a : Int) : -cd_L a = cd_L (-a) := (Int64.ofInt_neg a).symm
theorem cd_toInt {a : Int} (h : cd_R a) : (cd_I a).toInt = a := Int32.toInt_ofInt_of_le (by omega) (by omega)
theorem cd_LtoInt {a : Int} (h : cd_Q a) : (cd_L a).toInt = a := Int64.toInt_ofInt_of_le (by omega) (by omega)
theorem cd_of (x : Int32) : ∃ z : Int, cd_R z ∧ x = cd_I z := by
  refine ⟨x.toInt, ⟨?_, ?_⟩, (Int32.ofInt_toInt x).symm⟩
  · have h := Int32.le_toInt x; omega
  · have h := Int32.toInt_lt x; omega
theorem cd_le {a b : Int} (ha : cd_R a) (hb : cd_R b) : cd_I a ≤ cd_I b ↔ a ≤ b := by
  rw [Int32.le_iff_toInt_le, cd_toInt ha, cd_toInt hb]
theorem cd_lt {a b : Int} (ha : cd_R a) (hb : cd_R b) : cd_I a < cd_I b ↔ a < b := by
  rw [Int32.lt_iff_toInt_lt, cd_toInt ha, cd_toInt hb]
theorem cd_eq {a b : Int} (ha : cd_R a) (hb : cd_R b) : cd_I a = cd_I b ↔ a = b := by
  rw [← Int32.toInt_inj, cd_toInt ha, cd_toInt hb]
theorem cd_Lle {a b : Int} (ha : cd_Q a) (hb : cd_Q b) : cd_L a ≤ cd_L b ↔ a ≤ b := by
  rw [Int64.le_iff_toInt_le, cd_LtoInt ha, cd_LtoInt hb]
theorem cd_Llt {a b : Int} (ha : cd_Q a) (hb : cd_Q b) : cd_L a < cd_L b ↔ a < b := by
  rw [Int64.lt_iff_toInt_lt, cd_LtoInt ha, cd_LtoInt hb]
theorem cd_Leq {a b : Int} (ha : cd_Q a) (hb : cd_Q b) : cd_L a = cd_L b ↔ a = b := by
  rw [← Int64.toInt_inj, cd_LtoInt ha, cd_LtoInt hb]
theorem cd_il {a : Int} (h : cd_R a) : (cd_I a).toInt64 = cd_L a := by
  apply Int64.toInt_inj.1
  rw [Int32.toInt_toInt64, cd_toInt h, cd_LtoInt (by omega)]
theorem cd_li (a : Int) : (cd_L a).toInt32 = cd_I a := Int64.toInt32_ofInt
theorem cd_tdb (a b : Int) : (a.tdiv b).natAbs ≤ a.natAbs := Int.natAbs_tdiv_le_natAbs a b
theorem cd_div {a b : Int} (ha : a.natAbs < 2147483648) (hb : cd_R b) (h : 0 < b) : cd_I a / cd_I b = cd_I (a.tdiv b) := by
  apply Int32.toInt_inj.1
  have hn : cd_I b ≠ -1 := by
    intro e
    have e2 := congrArg Int32.toInt e
    rw [cd_toInt hb] at e2
    have e3 : (-1 : Int32).toInt = -1 := by decide
    omega
  have h1 := cd_tdb a b
  rw [Int32.toInt_div_of_ne_right _ _ hn, cd_toInt (by omega), cd_toInt hb, cd_toInt (by omega)]
theorem cd_Ldiv {a b : Int} (ha : a.natAbs < 2147483648) (hb : cd_Q b) (h : 0 < b) : cd_L a / cd_L b = cd_L (a.tdiv b) := by
  apply Int64.toInt_inj.1
  have hn : cd_L b ≠ -1 := by
    intro e
    have e2 := congrArg Int64.toInt e
    rw [cd_LtoInt hb] at e2
    have e3 : (-1 : Int64).toInt = -1 := by decide
    omega
  have h1 := cd_tdb a b
  rw [Int64.toInt_div_of_ne_right _ _ hn, cd_LtoInt (by omega), cd_LtoInt hb, cd_LtoInt (by omega)]
theorem cd_rem {a b : Int} (ha : a.natAbs < 2147483648) (hb : cd_R b) (h : 0 < b) : cd_I a - cd_I a / cd_I b * cd_I b = cd_I (a.tmod b) := by
  rw [cd_div ha hb h, cd_mul, cd_sub, Int.tmod_def, Int.mul_comm b]
theorem cd_clamp {n : Nat} (h : n < 2147483648) : (cd_I (n : Int)).toNatClampNeg = n := by
  rw [← cd_nI]; exact nI_clamp (by omega)
/-! bounds of products -/
theorem cd_bm {x y : Int} {m n : Nat} (hx : x.natAbs ≤ m) (hy : y.natAbs ≤ n) : (x * y).natAbs ≤ m * n := by
  rw [Int.natAbs_mul]; exact Nat.mul_le_mul hx hy
/-! stores -/
theorem cd_us {f : Nat → Int32} {k : Nat} {x : Int32} : upd f k x k = x := if_pos rfl
theorem cd_un {f : Nat → Int32} {k j : Nat} {x : Int32} (h : j ≠ k) : upd f k x j = f j := if_neg h
end
section
/-! Crossings of lines, over Int; index i of the reference's order -/
def cd_D (a b : Nat → Int) (i j : Nat) : Int := a i * b j - a j * b i
def cd_X (b c : Nat → Int) (i j : Nat) : Int := c i * b j - c j * b i
def cd_Y (a c : Nat → Int) (i j : Nat) : Int := a i * c j - a j * c i
/-- turned by the sign of d -/
def cd_sg (d z : Int) : Int := if d < 0 then -z else z
theorem cd_sgn {d z : Int} (h : d < 0) : cd_sg d z = -z := if_pos h
theorem cd_sgp {d z : Int} (h : ¬ d < 0) : cd_sg d z = z := if_neg h
theorem cd_sg2 {d z : Int} (h : d ≠ 0) : cd_sg (-d) (-z) = cd_sg d z := by
  unfold cd_sg
  by_cases h1 : d < 0
  · rw [if_neg (by omega), if_pos h1]
  · rw [if_pos (by omega), if_neg h1]; omega
theorem cd_sgb (d z : Int) : (cd_sg d z).natAbs = z.natAbs := by
  unfold cd_sg
  by_cases h1 : d < 0
  · rw [if_pos h1]; omega
  · rw [if_neg h1]
theorem cd_sg0 {d : Int} (h : d ≠ 0) : 0 < cd_sg d d := by
  unfold cd_sg
  by_cases h1 : d < 0
  · rw [if_pos h1]; omega
  · rw [if_neg h1]; omega
/-- the line's index, of the condition's row and of the box, is there -/
def cd_Th (h i : Nat) : Prop := i < 14 ∧ (i < h ∨ 10 ≤ i)
def cd_M (a b c : Nat → Int) (i : Nat) (x y d : Int) : Prop := a i * x + b i * y ≤ c i * d
/-- the point meets every line that is there, but w -/
def cd_Ok (a b c : Nat → Int) (h w : Nat) (x y d : Int) : Prop := ∀ i, cd_Th h i → i ≠ w → cd_M a b c i x y d
/-- lines i and j cross at (x/d, y/d) -/
def cd_At (a b c : Nat → Int) (i j : Nat) (x y d : Int) : Prop :=
  cd_D a b i j ≠ 0 ∧ x = cd_sg (cd_D a b i j) (cd_X b c i j) ∧ y = cd_sg (cd_D a b i j) (cd_Y a c i j) ∧ d = cd_sg (cd_D a b i j) (cd_D a b i j)
theorem cd_Dsw (a b : Nat → Int) (i j : Nat) : cd_D a b j i = -cd_D a b i j := by unfold cd_D; omega
theorem cd_Xsw (b c : Nat → Int) (i j : Nat) : cd_X b c j i = -cd_X b c i j := by unfold cd_X; omega
theorem cd_Ysw (a c : Nat → Int) (i j : Nat) : cd_Y a c j i = -cd_Y a c i j := by unfold cd_Y; omega
theorem cd_Dii (a b : Nat → Int) (i : Nat) : cd_D a b i i = 0 := by unfold cd_D; omega
theorem cd_Atsw {a b c : Nat → Int} {i j : Nat} {x y d : Int} (h : cd_At a b c i j x y d) : cd_At a b c j i x y d := by
  obtain ⟨h0, hx, hy, hd⟩ := h
  unfold cd_At
  rw [cd_Dsw a b i j, cd_Xsw b c i j, cd_Ysw a c i j, cd_sg2 h0, cd_sg2 h0, cd_sg2 h0]
  exact ⟨by omega, hx, hy, hd⟩
theorem cd_Atpos {a b c : Nat → Int} {i j : Nat} {x y d : Int} (h : cd_At a b c i j x y d) : 0 < d := by
  obtain ⟨h0, hx, hy, hd⟩ := h
  rw [hd]; exact cd_sg0 h0
theorem cd_on1 (a b c : Nat → Int) (i j : Nat) : a i * cd_X b c i j + b i * cd_Y a c i j = c i * cd_D a b i j := by
  unfold cd_X cd_Y cd_D; grind
theorem cd_sgl (d p q r X Y D : Int) (h : p * X + q * Y = r * D) : p * cd_sg d X + q * cd_sg d Y = r * cd_sg d D := by
  unfold cd_sg
  by_cases h1 : d < 0
  · rw [if_pos h1, if_pos h1, if_pos h1]; grind
  · rw [if_neg h1, if_neg h1, if_neg h1]; exact h
theorem cd_Aton1 {a b c : Nat → Int} {i j : Nat} {x y d : Int} (h : cd_At a b c i j x y d) : cd_M a b c i x y d := by
  obtain ⟨h0, hx, hy, hd⟩ := h
  have e := cd_sgl (cd_D a b i j) (a i) (b i) (c i) _ _ _ (cd_on1 a b c i j)
  unfold cd_M
  rw [hx, hy, hd, e]
  exact Int.le_refl _
theorem cd_Aton2 {a b c : Nat → Int} {i j : Nat} {x y d : Int} (h : cd_At a b c i j x y d) : cd_M a b c j x y d := cd_Aton1 (cd_Atsw h)
/-- all numbers of a line are small -/
def cd_Bd (a b c : Nat → Int) : Prop := ∀ i, (a i).natAbs ≤ 9 ∧ (b i).natAbs ≤ 9 ∧ (c i).natAbs ≤ 99
theorem cd_Db {a b c : Nat → Int} (H : cd_Bd a b c) (i j : Nat) : (cd_D a b i j).natAbs ≤ 162 := by
  unfold cd_D
  have h1 := cd_bm (H i).1 (H j).2.1
  have h2 := cd_bm (H j).1 (H i).2.1
  omega
theorem cd_Xb {a b c : Nat → Int} (H : cd_Bd a b c) (i j : Nat) : (cd_X b c i j).natAbs ≤ 1782 := by
  unfold cd_X
  have h1 := cd_bm (H i).2.2 (H j).2.1
  have h2 := cd_bm (H j).2.2 (H i).2.1
  omega
theorem cd_Yb {a b c : Nat → Int} (H : cd_Bd a b c) (i j : Nat) : (cd_Y a c i j).natAbs ≤ 1782 := by
  unfold cd_Y
  have h1 := cd_bm (H i).1 (H j).2.2
  have h2 := cd_bm (H j).1 (H i).2.2
  omega
/-- the bounds of a crossing -/
def cd_Pb (x y d : Int) : Prop := x.natAbs ≤ 1782 ∧ y.natAbs ≤ 1782 ∧ 0 < d ∧ d ≤ 162
theorem cd_Atb {a b c : Nat → Int} (H : cd_Bd a b c) {i j : Nat} {x y d : Int} (h : cd_At a b c i j x y d) : cd_Pb x y d := by
  have hp := cd_Atpos h
  obtain ⟨h0, hx, hy, hd⟩ := h
  have b1 := cd_sgb (cd_D a b i j) (cd_X b c i j)
  have b2 := cd_sgb (cd_D a b i j) (cd_Y a c i j)
  have b3 := cd_sgb (cd_D a b i j) (cd_D a b i j)
  rw [← hx] at b1
  rw [← hy] at b2
  rw [← hd] at b3
  have c1 := cd_Xb H i j
  have c2 := cd_Yb H i j
  have c3 := cd_Db H i j
  exact ⟨by omega, by omega, hp, by omega⟩
/-- the component's index of a line, turned to the reference's -/
def cd_s (l : Nat) : Nat := if l < 4 then 10 + l else l - 4
theorem cd_s_lt {l : Nat} (h : l < 14) : cd_s l < 14 := by unfold cd_s; split <;> omega
theorem cd_s_Th {h l : Nat} (hh : h ≤ 10) (hl : l < 4 + h) : cd_Th h (cd_s l) := by
  unfold cd_Th cd_s; split <;> omega
theorem cd_s_inj {l m : Nat} (hl : l < 14) (hm : m < 14) (e : cd_s l = cd_s m) : l = m := by
  unfold cd_s at e; split at e <;> split at e <;> omega
theorem cd_s_sur {h i : Nat} (hi : cd_Th h i) : ∃ l, l < 4 + h ∧ cd_s l = i := by
  unfold cd_Th at hi
  by_cases h10 : 10 ≤ i
  · exact ⟨i - 10, by omega, by unfold cd_s; rw [if_pos (by omega)]; omega⟩
  · exact ⟨i + 4, by omega, by unfold cd_s; rw [if_neg (by omega)]; omega⟩
theorem cd_s_all {h : Nat} (hh : h ≤ 10) {P : Nat → Prop} : (∀ l, l < 4 + h → P (cd_s l)) ↔ (∀ i, cd_Th h i → P i) := by
  constructor
  · intro H i hi
    obtain ⟨l, hl, rfl⟩ := cd_s_sur hi
    exact H l hl
  · intro H l hl
    exact H _ (cd_s_Th hh hl)
end
section
/-! The order of points: greater value, then less x, then less y; fractions with denominators above 0 -/
def cd_Bt (v x y d v' x' y' d' : Int) : Prop :=
  v' * d < v * d' ∨ (v * d' = v' * d ∧ (x * d' < x' * d ∨ (x * d' = x' * d ∧ y * d' < y' * d)))
theorem cd_k {k x y : Int} (h : 0 < k) : x < y ↔ x * k < y * k := (Int.mul_lt_mul_right h).symm
theorem cd_tri (w1 w2 w3 d1 d2 d3 : Int) (h1 : 0 < d1) (h2 : 0 < d2) (h3 : 0 < d3) :
    ∃ W1 W2 W3 : Int, (w1 * d2 < w2 * d1 ↔ W1 < W2) ∧ (w2 * d1 < w1 * d2 ↔ W2 < W1) ∧ (w2 * d3 < w3 * d2 ↔ W2 < W3) ∧ (w3 * d2 < w2 * d3 ↔ W3 < W2) ∧ (w1 * d3 < w3 * d1 ↔ W1 < W3) ∧ (w3 * d1 < w1 * d3 ↔ W3 < W1) := by
  have e1 : w1 * d2 * d3 = w1 * d3 * d2 := by grind
  have e2 : w2 * d1 * d3 = w2 * d3 * d1 := by grind
  have e3 : w3 * d2 * d1 = w3 * d1 * d2 := by grind
  refine ⟨w1 * d2 * d3, w2 * d1 * d3, w3 * d2 * d1, cd_k h3, cd_k h3, ?_, ?_, ?_, ?_⟩
  · rw [e2]; exact cd_k h1
  · rw [e2]; exact cd_k h1
  · rw [e1, e3]; exact cd_k h2
  · rw [e1, e3]; exact cd_k h2
/-- t isn't better than s, r is better than s: then t isn't better than r -/
theorem cd_tr1 {vt xt yt dt vs xs ys ds vr xr yr dr : Int} (ht : 0 < dt) (hs : 0 < ds) (hr : 0 < dr)
    (h1 : ¬ cd_Bt vt xt yt dt vs xs ys ds) (h2 : cd_Bt vr xr yr dr vs xs ys ds) : ¬ cd_Bt vt xt yt dt vr xr yr dr := by
  obtain ⟨T, S, R, a1, a2, a3, a4, a5, a6⟩ := cd_tri vt vs vr dt ds dr ht hs hr
  obtain ⟨T', S', R', b1, b2, b3, b4, b5, b6⟩ := cd_tri xt xs xr dt ds dr ht hs hr
  obtain ⟨T'', S'', R'', c1, c2, c3, c4, c5, c6⟩ := cd_tri yt ys yr dt ds dr ht hs hr
  have q : ∀ x y : Int, x = y ↔ ¬ x < y ∧ ¬ y < x := fun x y => by omega
  unfold cd_Bt at *
  rw [q (vt * ds) (vs * dt), q (xt * ds) (xs * dt), a1, a2, b1, b2, c1] at h1
  rw [q (vr * ds) (vs * dr), q (xr * ds) (xs * dr), a3, a4, b3, b4, c4] at h2
  rw [q (vt * dr) (vr * dt), q (xt * dr) (xr * dt), a5, a6, b5, b6, c5]
  clear a1 a2 a3 a4 a5 a6 b1 b2 b3 b4 b5 b6 c1 c2 c3 c4 c5 c6 q
  omega
theorem cd_irr {v x y d : Int} : ¬ cd_Bt v x y d v x y d := by unfold cd_Bt; omega
theorem cd_same {v x y d v' x' y' d' : Int} (h1 : ¬ cd_Bt v x y d v' x' y' d') (h2 : ¬ cd_Bt v' x' y' d' v x y d) :
    v * d' = v' * d ∧ x * d' = x' * d ∧ y * d' = y' * d := by
  unfold cd_Bt at *; omega
/-! What a search holds: V the pairs visited, G i j x y d: pair (i, j) offers the point (x, y, d) -/
def cd_va (p q x y : Int) : Int := p * x + q * y
def cd_Inv (G : Nat → Nat → Int → Int → Int → Prop) (p q : Int) (V : Nat → Nat → Prop) (r : Int) (x y d : Int) : Prop :=
  (r = 0 ∧ ∀ i j x' y' d', V i j → ¬ G i j x' y' d') ∨
  (r = 1 ∧ (∃ i j, V i j ∧ G i j x y d) ∧ ∀ i j x' y' d', V i j → G i j x' y' d' → ¬ cd_Bt (cd_va p q x' y') x' y' d' (cd_va p q x y) x y d)
theorem cd_Inv0 {G : Nat → Nat → Int → Int → Int → Prop} {p q : Int} {V : Nat → Nat → Prop} {x y d : Int} (h : ∀ i j, ¬ V i j) : cd_Inv G p q V 0 x y d :=
  Or.inl ⟨rfl, fun i j _ _ _ hv => absurd hv (h i j)⟩
theorem cd_InvC {G : Nat → Nat → Int → Int → Int → Prop} {p q : Int} {V V' : Nat → Nat → Prop} {r x y d : Int} (e : ∀ i j, V i j ↔ V' i j) (h : cd_Inv G p q V r x y d) : cd_Inv G p q V' r x y d := by
  have : V = V' := funext fun i => funext fun j => propext (e i j)
  rw [← this]; exact h
/-- a pair that offers nothing -/
theorem cd_InvN {G : Nat → Nat → Int → Int → Int → Prop} {p q : Int} {V V' : Nat → Nat → Prop} {r x y d : Int} (i0 j0 : Nat)
    (e : ∀ i j, V' i j ↔ V i j ∨ (i = i0 ∧ j = j0)) (hn : ∀ x y d, ¬ G i0 j0 x y d) (h : cd_Inv G p q V r x y d) : cd_Inv G p q V' r x y d := by
  rcases h with ⟨h0, h1⟩ | ⟨h0, ⟨i1, j1, hv, hg⟩, h2⟩
  · refine Or.inl ⟨h0, fun i j x' y' d' hv' => ?_⟩
    rcases (e i j).mp hv' with hv | ⟨rfl, rfl⟩
    · exact h1 i j x' y' d' hv
    · exact hn x' y' d'
  · refine Or.inr ⟨h0, ⟨i1, j1, (e i1 j1).mpr (Or.inl hv), hg⟩, fun i j x' y' d' hv' hg' => ?_⟩
    rcases (e i j).mp hv' with hv | ⟨rfl, rfl⟩
    · exact h2 i j x' y' d' hv hg'
    · exact absurd hg' (hn x' y' d')
/-- a pair that offers a point which is taken -/
theorem cd_InvT {G : Nat → Nat → Int → Int → Int → Prop} {p q : Int} {V V' : Nat → Nat → Prop} {r x y d x1 y1 d1 : Int} (i0 j0 : Nat)
    (e : ∀ i j, V' i j ↔ V i j ∨ (i = i0 ∧ j = j0)) (hG : G i0 j0 x1 y1 d1) (hu : ∀ x y d, G i0 j0 x y d → x = x1 ∧ y = y1 ∧ d = d1)
    (hp : ∀ i j x y d, G i j x y d → 0 < d) (h : cd_Inv G p q V r x y d)
    (hb : r = 0 ∨ cd_Bt (cd_va p q x1 y1) x1 y1 d1 (cd_va p q x y) x y d) : cd_Inv G p q V' 1 x1 y1 d1 := by
  refine Or.inr ⟨rfl, ⟨i0, j0, (e i0 j0).mpr (Or.inr ⟨rfl, rfl⟩), hG⟩, fun i j x' y' d' hv' hg' => ?_⟩
  rcases (e i j).mp hv' with hv | ⟨rfl, rfl⟩
  · rcases h with ⟨h0, h1⟩ | ⟨h0, ⟨i1, j1, hv1, hg1⟩, h2⟩
    · exact absurd hg' (h1 i j x' y' d' hv)
    · rcases hb with hb | hb
      · omega
      · exact cd_tr1 (hp _ _ _ _ _ hg') (hp _ _ _ _ _ hg1) (hp _ _ _ _ _ hG) (h2 i j x' y' d' hv hg') hb
  · obtain ⟨rfl, rfl, rfl⟩ := hu _ _ _ hg'
    exact cd_irr
/-- a pair that offers a point which isn't taken -/
theorem cd_InvK {G : Nat → Nat → Int → Int → Int → Prop} {p q : Int} {V V' : Nat → Nat → Prop} {r x y d x1 y1 d1 : Int} (i0 j0 : Nat)
    (e : ∀ i j, V' i j ↔ V i j ∨ (i = i0 ∧ j = j0)) (hu : ∀ x y d, G i0 j0 x y d → x = x1 ∧ y = y1 ∧ d = d1)
    (h : cd_Inv G p q V r x y d) (h1 : r = 1)
    (hb : ¬ cd_Bt (cd_va p q x1 y1) x1 y1 d1 (cd_va p q x y) x y d) : cd_Inv G p q V' r x y d := by
  rcases h with ⟨h0, _⟩ | ⟨h0, ⟨i1, j1, hv1, hg1⟩, h2⟩
  · omega
  · refine Or.inr ⟨h0, ⟨i1, j1, (e i1 j1).mpr (Or.inl hv1), hg1⟩, fun i j x' y' d' hv' hg' => ?_⟩
    rcases (e i j).mp hv' with hv | ⟨rfl, rfl⟩
    · exact h2 i j x' y' d' hv hg'
    · obtain ⟨rfl, rfl, rfl⟩ := hu _ _ _ hg'
      exact hb
/-- two searches over the same offers end alike -/
theorem cd_Inv2 {G G' : Nat → Nat → Int → Int → Int → Prop} {p q : Int} {V V' : Nat → Nat → Prop} {r x y d r' x' y' d' : Int}
    (e : ∀ x y d, (∃ i j, V i j ∧ G i j x y d) ↔ (∃ i j, V' i j ∧ G' i j x y d))
    (h : cd_Inv G p q V r x y d) (h' : cd_Inv G' p q V' r' x' y' d') :
    r = r' ∧ (r = 1 → x * d' = x' * d ∧ y * d' = y' * d) := by
  rcases h with ⟨h0, h1⟩ | ⟨h0, hx, h2⟩
  · rcases h' with ⟨h0', h1'⟩ | ⟨h0', hx', h2'⟩
    · exact ⟨by omega, fun z => by omega⟩
    · obtain ⟨i, j, hv, hg⟩ := (e _ _ _).mpr hx'
      exact absurd hg (h1 _ _ _ _ _ hv)
  · rcases h' with ⟨h0', h1'⟩ | ⟨h0', hx', h2'⟩
    · obtain ⟨i, j, hv, hg⟩ := (e _ _ _).mp hx
      exact absurd hg (h1' _ _ _ _ _ hv)
    · refine ⟨by omega, fun _ => ?_⟩
      obtain ⟨i, j, hv, hg⟩ := (e _ _ _).mpr hx'
      obtain ⟨i', j', hv', hg'⟩ := (e _ _ _).mp hx
      have a1 := h2 _ _ _ _ _ hv hg
      have a2 := h2' _ _ _ _ _ hv' hg'
      exact (cd_same a2 a1).2
end
section
/-! Fractions in lowest terms -/
theorem cd_g0 {n d : Int} (h : 0 < d) : 0 < Int.gcd n d := Int.gcd_pos_of_ne_zero_right n (by omega)
theorem cd_gle {n d : Int} (h : 0 < d) : (Int.gcd n d : Int) ≤ d := Int.le_of_dvd h (Int.gcd_dvd_right n d)
/-- a common divisor above which there is none is the greatest -/
theorem cd_gmax {n d : Int} {k : Nat} (hd : 0 < d) (h1 : (k : Int) ∣ n) (h2 : (k : Int) ∣ d)
    (hm : ∀ m : Nat, k < m → (m : Int) ≤ d → ¬ ((m : Int) ∣ n ∧ (m : Int) ∣ d)) : k = Int.gcd n d := by
  have a : k ∣ Int.gcd n d := Int.dvd_gcd h1 h2
  have b : k ≤ Int.gcd n d := Nat.le_of_dvd (cd_g0 hd) a
  by_cases c : k = Int.gcd n d
  · exact c
  · exact absurd ⟨Int.gcd_dvd_left n d, Int.gcd_dvd_right n d⟩ (hm (Int.gcd n d) (by omega) (cd_gle hd))
theorem cd_frac {n d n' d' : Int} (hd : 0 < d) (hd' : 0 < d') (e : n * d' = n' * d) :
    n.tdiv (Int.gcd n d : Int) = n'.tdiv (Int.gcd n' d' : Int) ∧ d.tdiv (Int.gcd n d : Int) = d'.tdiv (Int.gcd n' d' : Int) := by
  have g1 : Int.gcd (n * d') (d * d') = Int.gcd n d * d'.natAbs := Int.gcd_mul_right n d' d
  have g2 : Int.gcd (n' * d) (d' * d) = Int.gcd n' d' * d.natAbs := Int.gcd_mul_right n' d d'
  have c1 : ((Int.gcd n d * d'.natAbs : Nat) : Int) = (Int.gcd n d : Int) * d' := by
    rw [Int.natCast_mul]
    have : (d'.natAbs : Int) = d' := by omega
    rw [this]
  have c2 : ((Int.gcd n' d' * d.natAbs : Nat) : Int) = (Int.gcd n' d' : Int) * d := by
    rw [Int.natCast_mul]
    have : (d.natAbs : Int) = d := by omega
    rw [this]
  have g3 : (Int.gcd n d : Int) * d' = (Int.gcd n' d' : Int) * d := by
    rw [← c1, ← c2, ← g1, ← g2, e, Int.mul_comm d d']
  constructor
  · rw [← Int.mul_tdiv_mul_of_pos_left n (Int.gcd n d : Int) hd', ← Int.mul_tdiv_mul_of_pos_left n' (Int.gcd n' d' : Int) hd, g3, e]
  · rw [← Int.mul_tdiv_mul_of_pos_left d (Int.gcd n d : Int) hd', ← Int.mul_tdiv_mul_of_pos_left d' (Int.gcd n' d' : Int) hd, g3, Int.mul_comm d d']
/-- two steps of Euclid halve -/
theorem cd_half {x y : Nat} (h1 : x % y ≠ 0) (hy : 0 < y) : 2 * (y % (x % y)) < y := by
  have a : x % y < y := Nat.mod_lt x hy
  have b : y % (x % y) < x % y := Nat.mod_lt y (by omega)
  have c : x % y + y % (x % y) ≤ y := by
    have d := Nat.div_add_mod y (x % y)
    have e : 1 ≤ y / (x % y) := (Nat.one_le_div_iff (by omega)).mpr (by omega)
    have f : (x % y) * 1 ≤ (x % y) * (y / (x % y)) := Nat.mul_le_mul_left _ e
    omega
  omega
theorem cd_gst (x y : Nat) : Nat.gcd y (x % y) = Nat.gcd x y := by
  rw [Nat.gcd_comm x y, Nat.gcd_rec y x, Nat.gcd_comm]
/-- the remembered point and a condition -/
theorem cd_cmp {a b c x y d x' y' d' : Int} (hd : 0 < d) (hd' : 0 < d') (ex : x * d' = x' * d) (ey : y * d' = y' * d) :
    (a * x + b * y < c * d ↔ a * x' + b * y' < c * d') ∧ (a * x + b * y = c * d ↔ a * x' + b * y' = c * d') := by
  have e1 : (a * x + b * y) * d' = (a * x' + b * y') * d := by grind
  have e2 : (c * d) * d' = (c * d') * d := by grind
  have q1 : a * x + b * y < c * d ↔ a * x' + b * y' < c * d' := by
    rw [cd_k hd', e1, e2, ← cd_k hd]
  have q2 : c * d < a * x + b * y ↔ c * d' < a * x' + b * y' := by
    rw [cd_k hd', e1, e2, ← cd_k hd]
  exact ⟨q1, by omega⟩
theorem cd_val {p q x y d x' y' d' : Int} (ex : x * d' = x' * d) (ey : y * d' = y' * d) : cd_va p q x y * d' = cd_va p q x' y' * d := by
  unfold cd_va; grind
end
section
/-! The pairs of lines, as each side walks them -/
def cd_VX (n F s : Nat) (i j : Nat) : Prop := i < j ∧ j < n ∧ (i < F ∨ (i = F ∧ j < s))
theorem cd_VX0 (n i j : Nat) : ¬ cd_VX n 0 1 i j := by unfold cd_VX; omega
theorem cd_VXs {n F s : Nat} (h1 : F < s) (h2 : s < n) (i j : Nat) : cd_VX n F (s + 1) i j ↔ cd_VX n F s i j ∨ (i = F ∧ j = s) := by
  unfold cd_VX; omega
theorem cd_VXr {n F : Nat} (i j : Nat) : cd_VX n F n i j ↔ cd_VX n (F + 1) (F + 1 + 1) i j := by unfold cd_VX; omega
theorem cd_VXe {n : Nat} (i j : Nat) : cd_VX n n (n + 1) i j ↔ i < j ∧ j < n := by unfold cd_VX; omega
def cd_VY (T : Nat → Prop) (I J : Nat) (i j : Nat) : Prop := j < i ∧ i < 14 ∧ T i ∧ T j ∧ (i < I ∨ (i = I ∧ j < J))
theorem cd_VY0 (T : Nat → Prop) (i j : Nat) : ¬ cd_VY T 0 0 i j := by unfold cd_VY; omega
theorem cd_VYs {T : Nat → Prop} {I J : Nat} (h1 : J < I) (h2 : I < 14) (tI : T I) (tJ : T J) (i j : Nat) : cd_VY T I (J + 1) i j ↔ cd_VY T I J i j ∨ (i = I ∧ j = J) := by
  unfold cd_VY
  constructor
  · rintro ⟨a1, a2, a3, a4, a5⟩
    by_cases e : i = I ∧ j = J
    · exact Or.inr e
    · exact Or.inl ⟨a1, a2, a3, a4, by omega⟩
  · rintro (⟨a1, a2, a3, a4, a5⟩ | ⟨rfl, rfl⟩)
    · exact ⟨a1, a2, a3, a4, by omega⟩
    · exact ⟨h1, h2, tI, tJ, by omega⟩
theorem cd_VYn {T : Nat → Prop} {I J : Nat} (h : ¬ (T I ∧ T J)) (i j : Nat) : cd_VY T I J i j ↔ cd_VY T I (J + 1) i j := by
  unfold cd_VY
  constructor
  · rintro ⟨a1, a2, a3, a4, a5⟩
    exact ⟨a1, a2, a3, a4, by omega⟩
  · rintro ⟨a1, a2, a3, a4, a5⟩
    refine ⟨a1, a2, a3, a4, ?_⟩
    by_cases e : i = I ∧ j = J
    · obtain ⟨rfl, rfl⟩ := e
      exact absurd ⟨a3, a4⟩ h
    · omega
theorem cd_VYr {T : Nat → Prop} {I : Nat} (i j : Nat) : cd_VY T I I i j ↔ cd_VY T (I + 1) 0 i j := by
  unfold cd_VY
  constructor
  · rintro ⟨a1, a2, a3, a4, a5⟩; exact ⟨a1, a2, a3, a4, by omega⟩
  · rintro ⟨a1, a2, a3, a4, a5⟩; exact ⟨a1, a2, a3, a4, by omega⟩
theorem cd_VYe {T : Nat → Prop} (i j : Nat) : cd_VY T 14 0 i j ↔ j < i ∧ i < 14 ∧ T i ∧ T j := by
  unfold cd_VY
  constructor
  · rintro ⟨a1, a2, a3, a4, a5⟩; exact ⟨a1, a2, a3, a4⟩
  · rintro ⟨a1, a2, a3, a4⟩; exact ⟨a1, a2, a3, a4, by omega⟩
theorem cd_s_eq {l L : Nat} (hl : l < 14) (hL : L < 14 ∨ L = 18) : cd_s l = cd_s L ↔ l = L := by
  constructor
  · intro e
    unfold cd_s at e; split at e <;> split at e <;> omega
  · intro e; rw [e]
/-- the component's walk over all lines but L -/
theorem cd_OkX {a b c : Nat → Int} {h L : Nat} {x y d : Int} (hh : h ≤ 10) (hL : L < 14 ∨ L = 18) :
    (∀ l, l < 4 + h → l ≠ L → cd_M a b c (cd_s l) x y d) ↔ cd_Ok a b c h (cd_s L) x y d := by
  unfold cd_Ok
  rw [← cd_s_all hh (P := fun i => i ≠ cd_s L → cd_M a b c i x y d)]
  constructor
  · intro H l hl hn
    exact H l hl (fun e => hn ((cd_s_eq (by omega) hL).mpr e))
  · intro H l hl hn
    exact H l hl (fun e => hn ((cd_s_eq (by omega) hL).mp e))
/-- the pairs of both sides offer the same points -/
theorem cd_prs {a b c : Nat → Int} {h : Nat} (hh : h ≤ 10) {x y d : Int} (R : Prop) :
    (∃ i j, (i < j ∧ j < 4 + h) ∧ (cd_At a b c (cd_s i) (cd_s j) x y d ∧ R)) ↔ (∃ i j, (j < i ∧ i < 14 ∧ cd_Th h i ∧ cd_Th h j) ∧ (cd_At a b c i j x y d ∧ R)) := by
  constructor
  · rintro ⟨l, m, ⟨h1, h2⟩, hA, hR⟩
    have t1 : cd_Th h (cd_s l) := cd_s_Th hh (by omega)
    have t2 : cd_Th h (cd_s m) := cd_s_Th hh h2
    have hne : cd_s l ≠ cd_s m := fun e => by have := cd_s_inj (by omega) (by omega) e; omega
    by_cases o : cd_s m < cd_s l
    · exact ⟨cd_s l, cd_s m, ⟨o, t1.1, t1, t2⟩, hA, hR⟩
    · exact ⟨cd_s m, cd_s l, ⟨by omega, t2.1, t2, t1⟩, cd_Atsw hA, hR⟩
  · rintro ⟨i, j, ⟨h1, h2, t1, t2⟩, hA, hR⟩
    obtain ⟨l, hl, rfl⟩ := cd_s_sur t1
    obtain ⟨m, hm, rfl⟩ := cd_s_sur t2
    by_cases o : l < m
    · exact ⟨l, m, ⟨o, hm⟩, hA, hR⟩
    · have : l ≠ m := fun e => by rw [e] at h1; omega
      exact ⟨m, l, ⟨by omega, hl⟩, cd_Atsw hA, hR⟩
/-- for a line w left out and broken: the pairs with w offer nothing -/
theorem cd_prw {a b c : Nat → Int} {h w : Nat} {x y d : Int} (R : Prop) :
    (∃ i j, (j < i ∧ i < 14 ∧ cd_Th h i ∧ cd_Th h j) ∧ (cd_At a b c i j x y d ∧ (R ∧ ¬ cd_M a b c w x y d))) ↔
    (∃ i j, (j < i ∧ i < 14 ∧ (cd_Th h i ∧ i ≠ w) ∧ (cd_Th h j ∧ j ≠ w)) ∧ (cd_At a b c i j x y d ∧ (R ∧ ¬ cd_M a b c w x y d))) := by
  constructor
  · rintro ⟨i, j, ⟨h1, h2, t1, t2⟩, hA, hR, hM⟩
    refine ⟨i, j, ⟨h1, h2, ⟨t1, ?_⟩, t2, ?_⟩, hA, hR, hM⟩
    · rintro rfl; exact hM (cd_Aton1 hA)
    · rintro rfl; exact hM (cd_Aton2 hA)
  · rintro ⟨i, j, ⟨h1, h2, ⟨t1, _⟩, t2, _⟩, hA, hR, hM⟩
    exact ⟨i, j, ⟨h1, h2, t1, t2⟩, hA, hR, hM⟩
end
section
/-! The component's private methods, each with a general post -/
def cd_HX (a b c : Nat → Int) (A B C : Nat → Int32) : Prop := ∀ l, l < 14 → A l = cd_I (a (cd_s l)) ∧ B l = cd_I (b (cd_s l)) ∧ C l = cd_I (c (cd_s l))
theorem cd_0 : (0 : Int32) = cd_I 0 := by decide +kernel
theorem cd_m1 : (-1 : Int32) = cd_I (-1) := by decide +kernel
theorem cd_1 : (1 : Int32) = cd_I 1 := by decide +kernel
theorem cd_10 : ¬ (1 : Int32) = 0 := by decide +kernel
theorem cd_eq0 {z : Int} (h : cd_R z) : cd_I z = 0 ↔ z = 0 := by rw [cd_0]; exact cd_eq h (by omega)
theorem cd_le0 {z : Int} (h : cd_R z) : cd_I z ≤ 0 ↔ z ≤ 0 := by rw [cd_0]; exact cd_le h (by omega)
theorem cd_if {c d A B : Prop} (e : c ↔ d) (f : d → A) (g : ¬ d → B) : (c → A) ∧ (¬ c → B) := ⟨fun h => f (e.mp h), fun h => g (fun q => h (e.mpr q))⟩
theorem cd_nn {p : Prop} (h : ¬ ¬ p) : p := Classical.not_not.mp h
theorem cd_nc {n : Nat} (h : n < 14) : (nI n).toNatClampNeg = n := nI_clamp (by omega)
theorem cd_4 (h : Nat) : (4 : Int32) + nI h = nI (4 + h) := nI_add 4 h
theorem cd_s18 : cd_s 18 = 14 := by decide
theorem cd_W18 : ∀ l, l < 14 → (nI l = (-1 : Int32) ↔ l = 18) := by
  intro l hl
  rw [cd_m1, cd_nI, cd_eq (by omega) (by omega)]; omega
theorem cd_Wn {w : Nat} (hw : w < 14) : ∀ l, l < 14 → (nI l = nI w ↔ l = w) := fun l hl => nI_eq (by omega) (by omega)
theorem cd_x_43 {a b c : Nat → Int} {A B C : Nat → Int32} (HB : cd_Bd a b c) (H : cd_HX a b c A B C) {i j : Nat} (hi : i < 14) (hj : j < 14) {post : Int32 → SX → Prop} {fc fl cx cy cs ks rm : Int32} {L K : Nat → Int32} {D s : Int} {S : Int32} (hs : S = cd_I s)
    (h : post 1 (fc, fl, cd_I (s * cd_X b c (cd_s i) (cd_s j)), cd_I (s * cd_Y a c (cd_s i) (cd_s j)), cd_I (s * D), ks, rm, A, B, C, L, K)) :
    wX_crossLines_43 post (nI i) (nI j) (cd_I D) S fc fl cx cy cs ks rm A B C L K := by
  have vi : vp_in (nI i) 14 := vp_in_nI hi (by omega)
  have vj : vp_in (nI j) 14 := vp_in_nI hj (by omega)
  obtain ⟨ai, bi, ci⟩ := H i hi
  obtain ⟨aj, bj, cj⟩ := H j hj
  have eX : S * (C (nI i).toNatClampNeg * B (nI j).toNatClampNeg - C (nI j).toNatClampNeg * B (nI i).toNatClampNeg) = cd_I (s * cd_X b c (cd_s i) (cd_s j)) := by
    rw [cd_nc hi, cd_nc hj, ci, bi, cj, bj, hs, cd_mul, cd_mul, cd_sub, cd_mul]; rfl
  have eY : S * (A (nI i).toNatClampNeg * C (nI j).toNatClampNeg - A (nI j).toNatClampNeg * C (nI i).toNatClampNeg) = cd_I (s * cd_Y a c (cd_s i) (cd_s j)) := by
    rw [cd_nc hi, cd_nc hj, ai, ci, aj, cj, hs, cd_mul, cd_mul, cd_sub, cd_mul]; rfl
  have eD : S * cd_I D = cd_I (s * D) := by rw [hs, cd_mul]
  exact ⟨vi, vj, vj, vi, nm_r eX ⟨vi, vj, vj, vi, nm_r eY (nm_r eD h)⟩⟩
theorem cd_x_cross {a b c : Nat → Int} {A B C : Nat → Int32} (HB : cd_Bd a b c) (H : cd_HX a b c A B C) {i j : Nat} (hi : i < 14) (hj : j < 14) {post : Int32 → SX → Prop} {fc fl cx cy cs ks rm : Int32} {L K : Nat → Int32}
    (h0 : (∀ x y d, ¬ cd_At a b c (cd_s i) (cd_s j) x y d) → post 0 (fc, fl, cx, cy, cs, ks, rm, A, B, C, L, K))
    (h1 : ∀ x y d, cd_At a b c (cd_s i) (cd_s j) x y d → post 1 (fc, fl, cd_I x, cd_I y, cd_I d, ks, rm, A, B, C, L, K)) :
    wpX_crossLines post (fc, fl, cx, cy, cs, ks, rm, A, B, C, L, K) (nI i) (nI j) := by
  have vi : vp_in (nI i) 14 := vp_in_nI hi (by omega)
  have vj : vp_in (nI j) 14 := vp_in_nI hj (by omega)
  obtain ⟨ai, bi, ci⟩ := H i hi
  obtain ⟨aj, bj, cj⟩ := H j hj
  have eD : A (nI i).toNatClampNeg * B (nI j).toNatClampNeg - A (nI j).toNatClampNeg * B (nI i).toNatClampNeg = cd_I (cd_D a b (cd_s i) (cd_s j)) := by
    rw [cd_nc hi, cd_nc hj, ai, bi, aj, bj, cd_mul, cd_mul, cd_sub]; rfl
  have hb := cd_Db HB (cd_s i) (cd_s j)
  have rD : cd_R (cd_D a b (cd_s i) (cd_s j)) := by omega
  refine ⟨vi, vj, vj, vi, nm_r eD (cd_if (cd_eq0 rD) (fun z => h0 (fun x y d q => q.1 z)) (fun nz => cd_if (cd_le0 rD) (fun le => ?_) (fun nle => ?_)))⟩
  · refine cd_x_43 HB H hi hj (s := -1) cd_m1 (h1 _ _ _ ⟨nz, ?_, ?_, ?_⟩)
    · rw [cd_sgn (by omega)]; omega
    · rw [cd_sgn (by omega)]; omega
    · rw [cd_sgn (by omega)]; omega
  · refine cd_x_43 HB H hi hj (s := 1) cd_1 (h1 _ _ _ ⟨nz, ?_, ?_, ?_⟩)
    · rw [cd_sgp (by omega)]; omega
    · rw [cd_sgp (by omega)]; omega
    · rw [cd_sgp (by omega)]; omega
theorem cd_x_meets {a b c : Nat → Int} {A B C : Nat → Int32} (HB : cd_Bd a b c) (H : cd_HX a b c A B C) {l : Nat} (hl : l < 14) {post : Int32 → Prop} {fc fl ks rm : Int32} {L K : Nat → Int32} {x y d : Int} (P : cd_Pb x y d)
    (h1 : cd_M a b c (cd_s l) x y d → post 1) (h0 : ¬ cd_M a b c (cd_s l) x y d → post 0) :
    wpX_cornerMeets post (fc, fl, cd_I x, cd_I y, cd_I d, ks, rm, A, B, C, L, K) (nI l) := by
  have v : vp_in (nI l) 14 := vp_in_nI hl (by omega)
  obtain ⟨ea, eb, ec⟩ := H l hl
  obtain ⟨q1, q2, q3, q4⟩ := P
  obtain ⟨b1, b2, b3⟩ := HB (cd_s l)
  have m1 := cd_bm b1 q1
  have m2 := cd_bm b2 q2
  have m3 := cd_bm b3 (show d.natAbs ≤ 162 by omega)
  have e : (C (nI l).toNatClampNeg * cd_I d < A (nI l).toNatClampNeg * cd_I x + B (nI l).toNatClampNeg * cd_I y) ↔ ¬ cd_M a b c (cd_s l) x y d := by
    rw [cd_nc hl, ea, eb, ec, cd_mul, cd_mul, cd_mul, cd_add, cd_lt (by omega) (by omega)]
    unfold cd_M; omega
  exact ⟨v, v, v, cd_if e h0 (fun q => h1 (cd_nn q))⟩
theorem cd_x_all2 {a b c : Nat → Int} {A B C : Nat → Int32} (HB : cd_Bd a b c) (H : cd_HX a b c A B C) {h Lo : Nat} (hh : h ≤ 10) {W : Int32} (hW : ∀ l, l < 14 → (nI l = W ↔ l = Lo)) {post : Int32 → Prop} {fl ks rm : Int32} {L K : Nat → Int32} {x y d : Int} (P : cd_Pb x y d)
    (h1 : (∀ l, l < 4 + h → l ≠ Lo → cd_M a b c (cd_s l) x y d) → post 1) (h0 : ¬ (∀ l, l < 4 + h → l ≠ Lo → cd_M a b c (cd_s l) x y d) → post 0) :
    ∀ m s, s + m = 4 + h → (∀ l, l < s → l ≠ Lo → cd_M a b c (cd_s l) x y d) → wX_cornerMeetsAllBut_2 post W (nI h) fl (cd_I x) (cd_I y) (cd_I d) ks rm A B C L K (m + 1) (nI s) := by
  intro m
  induction m with
  | zero =>
    intro s hs V
    have e : (4 : Int32) + nI h ≤ nI s := by rw [cd_4]; exact nI_le (by omega) (by omega)
    exact br_t e (h1 (fun l hl => V l (by omega)))
  | succ m ih =>
    intro s hs V
    have e : ¬ (4 : Int32) + nI h ≤ nI s := by rw [cd_4]; exact nI_ge (by omega) (by omega)
    refine br_f e (cd_if (hW s (by omega)) (fun es => nm_r (nI_1 s) (ih (s + 1) (by omega) (fun l hl hn => ?_))) (fun ns => ?_))
    · exact V l (by omega) hn
    · refine cd_x_meets HB H (by omega) P (fun q => br_f cd_10 (nm_r (nI_1 s) (ih (s + 1) (by omega) (fun l hl hn => ?_)))) (fun q => br_t rfl (h0 (fun z => q (z s (by omega) ns))))
      by_cases o : l = s
      · rw [o]; exact q
      · exact V l (by omega) hn
theorem cd_x_all {a b c : Nat → Int} {A B C : Nat → Int32} (HB : cd_Bd a b c) (H : cd_HX a b c A B C) {h Lo : Nat} (hh : h ≤ 10) {W : Int32} (hL : Lo < 14 ∨ Lo = 18) (hW : ∀ l, l < 14 → (nI l = W ↔ l = Lo)) {post : Int32 → Prop} {fl ks rm : Int32} {L K : Nat → Int32} {x y d : Int} (P : cd_Pb x y d)
    (h1 : cd_Ok a b c h (cd_s Lo) x y d → post 1) (h0 : ¬ cd_Ok a b c h (cd_s Lo) x y d → post 0) :
    wpX_cornerMeetsAllBut post (nI h, fl, cd_I x, cd_I y, cd_I d, ks, rm, A, B, C, L, K) W := by
  refine ⟨4 + h + 1, cd_x_all2 HB H hh hW P (fun q => h1 ((cd_OkX hh hL).mp q)) (fun q => h0 (fun z => q ((cd_OkX hh hL).mpr z))) (4 + h) 0 (by omega) (fun l hl => by omega)⟩
end
section
/-! The component's searches over pairs of lines -/
/-- pair (i, j) of the component's lines offers a point that meets all but w -/
def cd_GX (a b c : Nat → Int) (h w : Nat) (i j : Nat) (x y d : Int) : Prop := cd_At a b c (cd_s i) (cd_s j) x y d ∧ cd_Ok a b c h w x y d
def cd_No (G : Nat → Nat → Int → Int → Int → Prop) (V : Nat → Nat → Prop) : Prop := ∀ i j x y d, V i j → ¬ G i j x y d
theorem cd_NoN {G : Nat → Nat → Int → Int → Int → Prop} {V V' : Nat → Nat → Prop} (i0 j0 : Nat) (e : ∀ i j, V' i j ↔ V i j ∨ (i = i0 ∧ j = j0)) (hn : ∀ x y d, ¬ G i0 j0 x y d) (h : cd_No G V) : cd_No G V' := by
  intro i j x y d hv
  rcases (e i j).mp hv with hv | ⟨rfl, rfl⟩
  · exact h i j x y d hv
  · exact hn x y d
theorem cd_NoC {G : Nat → Nat → Int → Int → Int → Prop} {V V' : Nat → Nat → Prop} (e : ∀ i j, V i j ↔ V' i j) (h : cd_No G V) : cd_No G V' := fun i j x y d hv => h i j x y d ((e i j).mpr hv)
theorem cd_Atu {a b c : Nat → Int} {i j : Nat} {x y d x' y' d' : Int} (h : cd_At a b c i j x y d) (h' : cd_At a b c i j x' y' d') : x' = x ∧ y' = y ∧ d' = d := by
  obtain ⟨_, e1, e2, e3⟩ := h
  obtain ⟨_, f1, f2, f3⟩ := h'
  exact ⟨f1.trans e1.symm, f2.trans e2.symm, f3.trans e3.symm⟩
theorem cd_x_pos18 {a b c : Nat → Int} {A B C : Nat → Int32} (HB : cd_Bd a b c) (H : cd_HX a b c A B C) {h F : Nat} (hh : h ≤ 10) {post : Int32 → SX → Prop} {J : Int32 → Int32 → Int32 → Int32 → Int32 → Int32 → Int32 → Int32 → (Nat → Int32) → (Nat → Int32) → (Nat → Int32) → (Nat → Int32) → (Nat → Int32) → Prop} {fl ks rm : Int32} {L K : Nat → Int32}
    (hp : ∀ i j x y d, i < j ∧ j < 4 + h → cd_GX a b c h 14 i j x y d → ∀ cx cy cs, post 1 (nI h, fl, cx, cy, cs, ks, rm, A, B, C, L, K))
    (hJ : cd_No (cd_GX a b c h 14) (cd_VX (4 + h) F (4 + h)) → ∀ cx cy cs, J (nI (F + 1)) (nI h) fl cx cy cs ks rm A B C L K) :
    ∀ m s cx cy cs, s + m = 4 + h → F < s → cd_No (cd_GX a b c h 14) (cd_VX (4 + h) F s) → wX_possible_18 post J (nI (4 + h)) (nI F) (m + 1) (nI s) (nI h) fl cx cy cs ks rm A B C L K := by
  intro m
  induction m with
  | zero =>
    intro s cx cy cs hs hF N
    have es : s = 4 + h := by omega
    rw [es] at N ⊢
    exact br_t (nI_le (by omega) (by omega)) (nm_r (nI_1 F) (hJ N cx cy cs))
  | succ m ih =>
    intro s cx cy cs hs hF N
    refine br_f (nI_ge (by omega) (by omega)) (cd_x_cross HB H (by omega) (by omega) (fun q => ?_) (fun x y d q => ?_))
    · exact br_t rfl (nm_r (nI_1 s) (ih (s + 1) _ _ _ (by omega) (by omega) (cd_NoN F s (cd_VXs hF (by omega)) (fun x y d z => q x y d z.1) N)))
    · refine br_f cd_10 (cd_x_all HB H hh (Lo := 18) (Or.inr rfl) cd_W18 (cd_Atb HB q) (fun z => ?_) (fun z => ?_))
      · exact br_f cd_10 (hp F s x y d ⟨hF, by omega⟩ ⟨q, z⟩ _ _ _)
      · refine br_t rfl (nm_r (nI_1 s) (ih (s + 1) _ _ _ (by omega) (by omega) (cd_NoN F s (cd_VXs hF (by omega)) (fun x' y' d' z' => ?_) N)))
        obtain ⟨rfl, rfl, rfl⟩ := cd_Atu q z'.1
        exact z z'.2
theorem cd_x_pos9 {a b c : Nat → Int} {A B C : Nat → Int32} (HB : cd_Bd a b c) (H : cd_HX a b c A B C) {h : Nat} (hh : h ≤ 10) {post : Int32 → SX → Prop} {fl ks rm : Int32} {L K : Nat → Int32}
    (hp : ∀ i j x y d, i < j ∧ j < 4 + h → cd_GX a b c h 14 i j x y d → ∀ cx cy cs, post 1 (nI h, fl, cx, cy, cs, ks, rm, A, B, C, L, K))
    (h0 : cd_No (cd_GX a b c h 14) (cd_VX (4 + h) (4 + h) (4 + h + 1)) → ∀ cx cy cs, post 0 (nI h, fl, cx, cy, cs, ks, rm, A, B, C, L, K)) :
    ∀ m F cx cy cs, F + m = 4 + h → cd_No (cd_GX a b c h 14) (cd_VX (4 + h) F (F + 1)) → wX_possible_9 post (nI (4 + h)) (m + 1) (nI F) (nI h) fl cx cy cs ks rm A B C L K := by
  intro m
  induction m with
  | zero =>
    intro F cx cy cs hF N
    have eF : F = 4 + h := by omega
    rw [eF] at N ⊢
    exact br_t (nI_le (by omega) (by omega)) (h0 N cx cy cs)
  | succ m ih =>
    intro F cx cy cs hF N
    refine br_f (nI_ge (by omega) (by omega)) (nm_r (nI_1 F) ⟨m + 1, ?_⟩)
    exact cd_x_pos18 HB H hh hp (fun N' cx cy cs => ih (F + 1) cx cy cs (by omega) (cd_NoC cd_VXr N')) m (F + 1) cx cy cs (by omega) (by omega) N
theorem cd_x_possible {a b c : Nat → Int} {A B C : Nat → Int32} (HB : cd_Bd a b c) (H : cd_HX a b c A B C) {h : Nat} (hh : h ≤ 10) {post : Int32 → SX → Prop} {fl cx cy cs ks rm : Int32} {L K : Nat → Int32}
    (hp : (∃ i j x y d, (i < j ∧ j < 4 + h) ∧ cd_GX a b c h 14 i j x y d) → ∀ cx cy cs, post 1 (nI h, fl, cx, cy, cs, ks, rm, A, B, C, L, K))
    (h0 : ¬ (∃ i j x y d, (i < j ∧ j < 4 + h) ∧ cd_GX a b c h 14 i j x y d) → ∀ cx cy cs, post 0 (nI h, fl, cx, cy, cs, ks, rm, A, B, C, L, K)) :
    wpX_possible post (nI h, fl, cx, cy, cs, ks, rm, A, B, C, L, K) := by
  refine nm_r (cd_4 h) ⟨4 + h + 1, cd_x_pos9 HB H hh (fun i j x y d q g => hp ⟨i, j, x, y, d, q, g⟩) (fun N => h0 ?_) (4 + h) 0 cx cy cs (by omega) (fun i j x y d v => absurd v (cd_VX0 _ _ _))⟩
  rintro ⟨i, j, x, y, d, q, g⟩
  exact N i j x y d ((cd_VXe i j).mpr q) g
/-- offers that break the line left out -/
def cd_GS (a b c : Nat → Int) (h w : Nat) (i j : Nat) (x y d : Int) : Prop := cd_At a b c (cd_s i) (cd_s j) x y d ∧ (cd_Ok a b c h w x y d ∧ ¬ cd_M a b c w x y d)
theorem cd_x_sp19 {a b c : Nat → Int} {A B C : Nat → Int32} (HB : cd_Bd a b c) (H : cd_HX a b c A B C) {h F Lo : Nat} (hh : h ≤ 10) (hLo : Lo < 14) {post : Int32 → SX → Prop} {J : Int32 → Int32 → Int32 → Int32 → Int32 → Int32 → Int32 → Int32 → (Nat → Int32) → (Nat → Int32) → (Nat → Int32) → (Nat → Int32) → (Nat → Int32) → Prop} {fl ks rm : Int32} {L K : Nat → Int32}
    (hp : ∀ i j x y d, i < j ∧ j < 4 + h → cd_GS a b c h (cd_s Lo) i j x y d → ∀ cx cy cs, post 0 (nI h, fl, cx, cy, cs, ks, rm, A, B, C, L, K))
    (hJ : cd_No (cd_GS a b c h (cd_s Lo)) (cd_VX (4 + h) F (4 + h)) → ∀ cx cy cs, J (nI (F + 1)) (nI h) fl cx cy cs ks rm A B C L K) :
    ∀ m s cx cy cs, s + m = 4 + h → F < s → cd_No (cd_GS a b c h (cd_s Lo)) (cd_VX (4 + h) F s) → wX_isSpare_19 post J (nI Lo) (nI (4 + h)) (nI F) (m + 1) (nI s) (nI h) fl cx cy cs ks rm A B C L K := by
  intro m
  induction m with
  | zero =>
    intro s cx cy cs hs hF N
    have es : s = 4 + h := by omega
    rw [es] at N ⊢
    exact br_t (nI_le (by omega) (by omega)) (nm_r (nI_1 F) (hJ N cx cy cs))
  | succ m ih =>
    intro s cx cy cs hs hF N
    refine br_f (nI_ge (by omega) (by omega)) (cd_x_cross HB H (by omega) (by omega) (fun q => ?_) (fun x y d q => ?_))
    · exact br_t rfl (nm_r (nI_1 s) (ih (s + 1) _ _ _ (by omega) (by omega) (cd_NoN F s (cd_VXs hF (by omega)) (fun x y d z => q x y d z.1) N)))
    · refine br_f cd_10 (cd_x_meets HB H hLo (cd_Atb HB q) (fun z => ?_) (fun z => ?_))
      · refine br_f cd_10 (nm_r (nI_1 s) (ih (s + 1) _ _ _ (by omega) (by omega) (cd_NoN F s (cd_VXs hF (by omega)) (fun x' y' d' z' => ?_) N)))
        obtain ⟨rfl, rfl, rfl⟩ := cd_Atu q z'.1
        exact z'.2.2 z
      · refine br_t rfl (cd_x_all HB H hh (Lo := Lo) (Or.inl hLo) (cd_Wn hLo) (cd_Atb HB q) (fun z2 => ?_) (fun z2 => ?_))
        · exact br_f cd_10 (hp F s x y d ⟨hF, by omega⟩ ⟨q, z2, z⟩ _ _ _)
        · refine br_t rfl (nm_r (nI_1 s) (ih (s + 1) _ _ _ (by omega) (by omega) (cd_NoN F s (cd_VXs hF (by omega)) (fun x' y' d' z' => ?_) N)))
          obtain ⟨rfl, rfl, rfl⟩ := cd_Atu q z'.1
          exact z2 z'.2.1
theorem cd_x_sp9 {a b c : Nat → Int} {A B C : Nat → Int32} (HB : cd_Bd a b c) (H : cd_HX a b c A B C) {h Lo : Nat} (hh : h ≤ 10) (hLo : Lo < 14) {post : Int32 → SX → Prop} {fl ks rm : Int32} {L K : Nat → Int32}
    (hp : ∀ i j x y d, i < j ∧ j < 4 + h → cd_GS a b c h (cd_s Lo) i j x y d → ∀ cx cy cs, post 0 (nI h, fl, cx, cy, cs, ks, rm, A, B, C, L, K))
    (h0 : cd_No (cd_GS a b c h (cd_s Lo)) (cd_VX (4 + h) (4 + h) (4 + h + 1)) → ∀ cx cy cs, post 1 (nI h, fl, cx, cy, cs, ks, rm, A, B, C, L, K)) :
    ∀ m F cx cy cs, F + m = 4 + h → cd_No (cd_GS a b c h (cd_s Lo)) (cd_VX (4 + h) F (F + 1)) → wX_isSpare_9 post (nI Lo) (nI (4 + h)) (m + 1) (nI F) (nI h) fl cx cy cs ks rm A B C L K := by
  intro m
  induction m with
  | zero =>
    intro F cx cy cs hF N
    have eF : F = 4 + h := by omega
    rw [eF] at N ⊢
    exact br_t (nI_le (by omega) (by omega)) (h0 N cx cy cs)
  | succ m ih =>
    intro F cx cy cs hF N
    refine br_f (nI_ge (by omega) (by omega)) (nm_r (nI_1 F) ⟨m + 1, ?_⟩)
    exact cd_x_sp19 HB H hh hLo hp (fun N' cx cy cs => ih (F + 1) cx cy cs (by omega) (cd_NoC cd_VXr N')) m (F + 1) cx cy cs (by omega) (by omega) N
theorem cd_x_isSpare {a b c : Nat → Int} {A B C : Nat → Int32} (HB : cd_Bd a b c) (H : cd_HX a b c A B C) {h Lo : Nat} (hh : h ≤ 10) (hLo : Lo < 14) {post : Int32 → SX → Prop} {fl cx cy cs ks rm : Int32} {L K : Nat → Int32}
    (hp : (∃ i j x y d, (i < j ∧ j < 4 + h) ∧ cd_GS a b c h (cd_s Lo) i j x y d) → ∀ cx cy cs, post 0 (nI h, fl, cx, cy, cs, ks, rm, A, B, C, L, K))
    (h0 : ¬ (∃ i j x y d, (i < j ∧ j < 4 + h) ∧ cd_GS a b c h (cd_s Lo) i j x y d) → ∀ cx cy cs, post 1 (nI h, fl, cx, cy, cs, ks, rm, A, B, C, L, K)) :
    wpX_isSpare post (nI h, fl, cx, cy, cs, ks, rm, A, B, C, L, K) (nI Lo) := by
  refine nm_r (cd_4 h) ⟨4 + h + 1, cd_x_sp9 HB H hh hLo (fun i j x y d q g => hp ⟨i, j, x, y, d, q, g⟩) (fun N => h0 ?_) (4 + h) 0 cx cy cs (by omega) (fun i j x y d v => absurd v (cd_VX0 _ _ _))⟩
  rintro ⟨i, j, x, y, d, q, g⟩
  exact N i j x y d ((cd_VXe i j).mpr q) g
end
section
/-! The component's best -/
theorem cd_vab {p q x y : Int} (hp : p.natAbs ≤ 9) (hq : q.natAbs ≤ 9) (hx : x.natAbs ≤ 1782) (hy : y.natAbs ≤ 1782) : (cd_va p q x y).natAbs ≤ 32076 := by
  have m1 := cd_bm hp hx
  have m2 := cd_bm hq hy
  unfold cd_va; omega
def cd_KX (p q r x y d : Int) (ks rm : Int32) (K : Nat → Int32) : Prop :=
  rm = cd_I r ∧ (r = 1 → K 0 = cd_I (cd_va p q x y) ∧ K 1 = cd_I x ∧ K 2 = cd_I y ∧ ks = cd_I d)
theorem cd_x_better {A B C : Nat → Int32} {post : Int32 → Prop} {fc fl ks rm : Int32} {L K : Nat → Int32} {v1 x1 y1 d1 v x y d : Int} (P1 : cd_Pb x1 y1 d1) (P : cd_Pb x y d) (b1 : v1.natAbs ≤ 32076) (b : v.natAbs ≤ 32076)
    (k0 : K 0 = cd_I v) (k1 : K 1 = cd_I x) (k2 : K 2 = cd_I y) (k3 : ks = cd_I d)
    (h1 : cd_Bt v1 x1 y1 d1 v x y d → post 1) (h0 : ¬ cd_Bt v1 x1 y1 d1 v x y d → post 0) :
    wpX_cornerIsBetter post (fc, fl, cd_I x1, cd_I y1, cd_I d1, ks, rm, A, B, C, L, K) (cd_I v1) := by
  obtain ⟨q1, q2, q3, q4⟩ := P1
  obtain ⟨r1, r2, r3, r4⟩ := P
  have t1 : d1.natAbs ≤ 162 := by omega
  have t2 : d.natAbs ≤ 162 := by omega
  have m1 := cd_bm b1 t2
  have m2 := cd_bm b t1
  have m3 := cd_bm q1 t2
  have m4 := cd_bm r1 t1
  have m5 := cd_bm q2 t2
  have m6 := cd_bm r2 t1
  have e1 : cd_I v1 * ks - K 0 * cd_I d1 = cd_I (v1 * d - v * d1) := by rw [k0, k3, cd_mul, cd_mul, cd_sub]
  have e2 : K 1 * cd_I d1 - cd_I x1 * ks = cd_I (x * d1 - x1 * d) := by rw [k1, k3, cd_mul, cd_mul, cd_sub]
  have e3 : K 2 * cd_I d1 ≤ cd_I y1 * ks ↔ y * d1 ≤ y1 * d := by rw [k2, k3, cd_mul, cd_mul, cd_le (by omega) (by omega)]
  unfold cd_Bt at h1 h0
  refine nm_r e1 (cd_if (cd_eq0 (by omega)) (fun z1 => nm_r e2 (cd_if (cd_eq0 (by omega)) (fun z2 => cd_if e3 (fun z3 => ?_) (fun z3 => ?_)) (fun z2 => cd_if (cd_le0 (by omega)) (fun z3 => ?_) (fun z3 => ?_)))) (fun z1 => cd_if (cd_le0 (by omega)) (fun z2 => ?_) (fun z2 => ?_)))
  · exact h0 (by omega)
  · exact h1 (by omega)
  · exact h0 (by omega)
  · exact h1 (by omega)
  · exact h0 (by omega)
  · exact h1 (by omega)
theorem cd_x_offer {A B C : Nat → Int32} {post : SX → Prop} {fc fl ks rm V : Int32} {L K : Nat → Int32} {p q r x y d x1 y1 d1 : Int} (hp : p.natAbs ≤ 9) (hq : q.natAbs ≤ 9) (P1 : cd_Pb x1 y1 d1) (P : r = 0 ∨ (r = 1 ∧ cd_Pb x y d))
    (k : cd_KX p q r x y d ks rm K) (eV : V = cd_I (cd_va p q x1 y1))
    (hT : (r = 0 ∨ cd_Bt (cd_va p q x1 y1) x1 y1 d1 (cd_va p q x y) x y d) → ∀ ks rm K, cd_KX p q 1 x1 y1 d1 ks rm K → post (fc, fl, cd_I x1, cd_I y1, cd_I d1, ks, rm, A, B, C, L, K))
    (hK : r = 1 → ¬ cd_Bt (cd_va p q x1 y1) x1 y1 d1 (cd_va p q x y) x y d → post (fc, fl, cd_I x1, cd_I y1, cd_I d1, ks, rm, A, B, C, L, K)) :
    wpX_offerCorner post (fc, fl, cd_I x1, cd_I y1, cd_I d1, ks, rm, A, B, C, L, K) V := by
  have h15 : (r = 0 ∨ cd_Bt (cd_va p q x1 y1) x1 y1 d1 (cd_va p q x y) x y d) → wX_offerCorner_15 post V fc fl (cd_I x1) (cd_I y1) (cd_I d1) ks rm A B C L K := by
    intro z
    refine nm_e (nm_e (nm_e (hT z _ _ _ ⟨cd_1, fun _ => ⟨?_, ?_, ?_, rfl⟩⟩)))
    · rw [cd_un (by decide), cd_un (by decide), cd_us]; exact eV
    · rw [cd_un (by decide), cd_us]
    · rw [cd_us]
  obtain ⟨k1, k2⟩ := k
  rcases P with rfl | ⟨rfl, P⟩
  · have z : rm = 0 := by rw [k1]; exact cd_0.symm
    exact br_t z (h15 (Or.inl rfl))
  · have z : ¬ rm = 0 := by rw [k1, ← cd_1]; exact cd_10
    obtain ⟨e0, e1, e2, e3⟩ := k2 rfl
    refine br_f z ?_
    rw [eV]
    rw [eV] at h15
    exact cd_x_better P1 P (cd_vab hp hq P1.1 P1.2.1) (cd_vab hp hq P.1 P.2.1) e0 e1 e2 e3 (fun t => br_f cd_10 (h15 (Or.inr t))) (fun t => br_t rfl (hK rfl t))
theorem cd_InvP {G : Nat → Nat → Int → Int → Int → Prop} {p q : Int} {V : Nat → Nat → Prop} {r x y d : Int} (hP : ∀ i j x y d, G i j x y d → cd_Pb x y d) (h : cd_Inv G p q V r x y d) : r = 0 ∨ (r = 1 ∧ cd_Pb x y d) := by
  rcases h with ⟨h0, _⟩ | ⟨h0, ⟨i, j, _, g⟩, _⟩
  · exact Or.inl h0
  · exact Or.inr ⟨h0, hP i j x y d g⟩
theorem cd_x_best47 {a b c : Nat → Int} {A B C : Nat → Int32} (HB : cd_Bd a b c) (H : cd_HX a b c A B C) {h F : Nat} (hh : h ≤ 10) {p q : Int} (hp : p.natAbs ≤ 9) (hq : q.natAbs ≤ 9) {post : Int32 → SX → Prop} {J : Int32 → Int32 → Int32 → Int32 → Int32 → Int32 → Int32 → Int32 → (Nat → Int32) → (Nat → Int32) → (Nat → Int32) → (Nat → Int32) → (Nat → Int32) → Prop} {fl : Int32} {L : Nat → Int32}
    (hJ : ∀ r x y d cx cy cs ks rm K, cd_Inv (cd_GX a b c h 14) p q (cd_VX (4 + h) F (4 + h)) r x y d → cd_KX p q r x y d ks rm K → J (nI (F + 1)) (nI h) fl cx cy cs ks rm A B C L K) :
    ∀ m s r x y d cx cy cs ks rm K, s + m = 4 + h → F < s → cd_Inv (cd_GX a b c h 14) p q (cd_VX (4 + h) F s) r x y d → cd_KX p q r x y d ks rm K → wX_best_47 post J (cd_I p) (cd_I q) (nI (4 + h)) (nI F) (m + 1) (nI s) (nI h) fl cx cy cs ks rm A B C L K := by
  have gP : ∀ i j x y d, cd_GX a b c h 14 i j x y d → cd_Pb x y d := fun i j x y d g => cd_Atb HB g.1
  have g0 : ∀ i j x y d, cd_GX a b c h 14 i j x y d → 0 < d := fun i j x y d g => cd_Atpos g.1
  intro m
  induction m with
  | zero =>
    intro s r x y d cx cy cs ks rm K hs hF N k
    have es : s = 4 + h := by omega
    rw [es] at N ⊢
    exact br_t (nI_le (by omega) (by omega)) (nm_r (nI_1 F) (hJ r x y d cx cy cs ks rm K N k))
  | succ m ih =>
    intro s r x y d cx cy cs ks rm K hs hF N k
    have eV := cd_VXs (n := 4 + h) hF (by omega)
    refine br_f (nI_ge (by omega) (by omega)) (cd_x_cross HB H (by omega) (by omega) (fun t => ?_) (fun x1 y1 d1 t => ?_))
    · exact br_t rfl (nm_r (nI_1 s) (ih (s + 1) r x y d _ _ _ _ _ _ (by omega) (by omega) (cd_InvN F s eV (fun x y d z => t x y d z.1) N) k))
    · have hu : ∀ x y d, cd_GX a b c h 14 F s x y d → x = x1 ∧ y = y1 ∧ d = d1 := fun x y d g => cd_Atu t g.1
      refine br_f cd_10 (cd_x_all HB H hh (Lo := 18) (Or.inr rfl) cd_W18 (cd_Atb HB t) (fun z => ?_) (fun z => ?_))
      · refine br_f cd_10 (cd_x_offer hp hq (cd_Atb HB t) (cd_InvP gP N) k (by rw [cd_mul, cd_mul, cd_add]; rfl) (fun b ks rm K k' => ?_) (fun r1 b => ?_))
        · exact nm_r (nI_1 s) (ih (s + 1) 1 x1 y1 d1 _ _ _ _ _ _ (by omega) (by omega) (cd_InvT F s eV ⟨t, z⟩ hu g0 N b) k')
        · exact nm_r (nI_1 s) (ih (s + 1) r x y d _ _ _ _ _ _ (by omega) (by omega) (cd_InvK F s eV hu N r1 b) k)
      · refine br_t rfl (nm_r (nI_1 s) (ih (s + 1) r x y d _ _ _ _ _ _ (by omega) (by omega) (cd_InvN F s eV (fun x' y' d' z' => ?_) N) k))
        obtain ⟨rfl, rfl, rfl⟩ := hu _ _ _ z'
        exact z z'.2
theorem cd_x_best35 {a b c : Nat → Int} {A B C : Nat → Int32} (HB : cd_Bd a b c) (H : cd_HX a b c A B C) {h : Nat} (hh : h ≤ 10) {p q : Int} (hp : p.natAbs ≤ 9) (hq : q.natAbs ≤ 9) {post : Int32 → SX → Prop} {fl : Int32} {L : Nat → Int32}
    (hJ : ∀ r x y d cx cy cs ks rm K, cd_Inv (cd_GX a b c h 14) p q (cd_VX (4 + h) (4 + h) (4 + h + 1)) r x y d → cd_KX p q r x y d ks rm K → post (cd_I r) (nI h, fl, cx, cy, cs, ks, rm, A, B, C, L, K)) :
    ∀ m F r x y d cx cy cs ks rm K, F + m = 4 + h → cd_Inv (cd_GX a b c h 14) p q (cd_VX (4 + h) F (F + 1)) r x y d → cd_KX p q r x y d ks rm K → wX_best_35 post (cd_I p) (cd_I q) (nI (4 + h)) (m + 1) (nI F) (nI h) fl cx cy cs ks rm A B C L K := by
  intro m
  induction m with
  | zero =>
    intro F r x y d cx cy cs ks rm K hF N k
    have eF : F = 4 + h := by omega
    rw [eF] at N ⊢
    have hf := hJ r x y d cx cy cs ks rm K N k
    refine br_t (nI_le (by omega) (by omega)) ?_
    rcases cd_InvP (fun i j x y d g => cd_Atb HB g.1) N with rfl | ⟨rfl, _⟩
    · have z : rm = 0 := by rw [k.1]; exact cd_0.symm
      rw [← cd_0] at hf
      exact br_t z hf
    · have z : ¬ rm = 0 := by rw [k.1, ← cd_1]; exact cd_10
      rw [← cd_1] at hf
      exact br_f z hf
  | succ m ih =>
    intro F r x y d cx cy cs ks rm K hF N k
    refine br_f (nI_ge (by omega) (by omega)) (nm_r (nI_1 F) ⟨m + 1, ?_⟩)
    exact cd_x_best47 HB H hh hp hq (fun r x y d cx cy cs ks rm K N' k' => ih (F + 1) r x y d cx cy cs ks rm K (by omega) (cd_InvC cd_VXr N') k') m (F + 1) r x y d cx cy cs ks rm K (by omega) (by omega) N k
/-- within its range -/
theorem cd_x_within {z n : Int} {N : Int32} (eN : N = cd_I n) (hz : cd_R z) (hn : 0 ≤ n ∧ n ≤ 100) {post : Int32 → Prop} (h1 : z.natAbs ≤ n.toNat → post 1) (h0 : ¬ z.natAbs ≤ n.toNat → post 0) : wpX_isWithin post (cd_I z) N := by
  rw [eN]
  have e1 : cd_I z < -cd_I n ↔ z < -n := by rw [cd_neg, cd_lt hz (by omega)]
  have e2 : cd_I n < cd_I z ↔ n < z := cd_lt (by omega) hz
  exact cd_if e1 (fun q => h0 (by omega)) (fun q => cd_if e2 (fun q2 => h0 (by omega)) (fun q2 => h1 (by omega)))
theorem cd_9 : (9 : Int32) = cd_I 9 := by decide +kernel
theorem cd_99 : (99 : Int32) = cd_I 99 := by decide +kernel
theorem cd_x_best {a b c : Nat → Int} {A B C : Nat → Int32} (HB : cd_Bd a b c) (H : cd_HX a b c A B C) {h : Nat} (hh : h ≤ 10) {p q : Int} (rp : cd_R p) (rq : cd_R q) {post : Int32 → SX → Prop} {fl cx cy cs ks rm : Int32} {L K : Nat → Int32}
    (hJ : p.natAbs ≤ 9 → q.natAbs ≤ 9 → ∀ r x y d cx cy cs ks rm K, cd_Inv (cd_GX a b c h 14) p q (cd_VX (4 + h) (4 + h) (4 + h + 1)) r x y d → cd_KX p q r x y d ks rm K → post (cd_I r) (nI h, fl, cx, cy, cs, ks, rm, A, B, C, L, K))
    (hm : ¬ (p.natAbs ≤ 9 ∧ q.natAbs ≤ 9) → post (-1) (nI h, fl, cx, cy, cs, ks, rm, A, B, C, L, K)) :
    wpX_best post (nI h, fl, cx, cy, cs, ks, rm, A, B, C, L, K) (cd_I p) (cd_I q) := by
  unfold wpX_best
  refine cd_x_within cd_9 rp (by omega) (fun hp => ?_) (fun hp => br_t rfl (hm (fun z => hp z.1)))
  refine br_f cd_10 (cd_x_within cd_9 rq (by omega) (fun hq => ?_) (fun hq => br_t rfl (hm (fun z => hq z.2))))
  refine br_f cd_10 (nm_r (cd_4 h) ⟨4 + h + 1, ?_⟩)
  exact cd_x_best35 HB H hh hp hq (hJ hp hq) (4 + h) 0 0 0 0 1 cx cy cs ks 0 K (by omega) (cd_Inv0 (cd_VX0 _)) ⟨cd_0, fun z => by omega⟩
end
section
/-! The reference's private methods, each with a general post -/
def cd_HY (a b c : Nat → Int) (A B C : Nat → Int32) : Prop := ∀ i, i < 14 → A i = cd_I (a i) ∧ B i = cd_I (b i) ∧ C i = cd_I (c i)
theorem cd_L0 : (0 : Int64) = cd_L 0 := by decide +kernel
theorem cd_Leq0 {z : Int} (h : cd_Q z) : cd_L z = 0 ↔ z = 0 := by rw [cd_L0]; exact cd_Leq h (by omega)
theorem cd_L0le {z : Int} (h : cd_Q z) : (0 : Int64) ≤ cd_L z ↔ 0 ≤ z := by rw [cd_L0]; exact cd_Lle (by omega) h
theorem cd_QB {z : Int} {n : Nat} (h : z.natAbs ≤ n) (hn : n ≤ 1000000000) : cd_Q z := by omega
theorem cd_RB {z : Int} {n : Nat} (h : z.natAbs ≤ n) (hn : n ≤ 1000000000) : cd_R z := by omega
theorem cd_W14 : ∀ l, l < 14 → (nI l = (-1 : Int32) ↔ l = 14) := by
  intro l hl
  rw [cd_m1, cd_nI, cd_eq (by omega) (by omega)]; omega
theorem cd_y_there {A B C : Nat → Int32} {cx cy un : Int64} {fl kn : Int32} {bx by_ bu : Int64} {ap aq : Int32} {bg : Nat → Int32} {h i w : Nat} (hh : h ≤ 10) (hi : i < 14) {W : Int32} (hW : ∀ l, l < 14 → (nI l = W ↔ l = w)) {post : Int32 → Prop}
    (h1 : cd_Th h i ∧ i ≠ w → post 1) (h0 : ¬ (cd_Th h i ∧ i ≠ w) → post 0) : wpY_there post (nI h, fl, cx, cy, un, kn, bx, by_, bu, ap, aq, bg, A, B, C) (nI i) W := by
  have e10 : nI i < (10 : Int32) ↔ i < 10 := nI_ltI (b := 10) (by omega) (by omega)
  exact cd_if (hW i hi) (fun e => h0 (fun z => z.2 e)) (fun ne => cd_if (nI_ltI (by omega) (by omega)) (fun q => h1 ⟨⟨hi, Or.inl q⟩, ne⟩) (fun q => cd_if e10 (fun q2 => h0 (fun z => by have := z.1.2; omega)) (fun q2 => h1 ⟨⟨hi, Or.inr (by omega)⟩, ne⟩)))
theorem cd_y_meet {a b c : Nat → Int} {A B C : Nat → Int32} (HB : cd_Bd a b c) (H : cd_HY a b c A B C) {i j : Nat} (hi : i < 14) (hj : j < 14) {post : Int32 → SY → Prop} {fh fl : Int32} {cx cy un : Int64} {kn : Int32} {bx by_ bu : Int64} {ap aq : Int32} {bg : Nat → Int32}
    (h0 : (∀ x y d, ¬ cd_At a b c i j x y d) → post 0 (fh, fl, cx, cy, un, kn, bx, by_, bu, ap, aq, bg, A, B, C))
    (h1 : ∀ x y d, cd_At a b c i j x y d → post 1 (fh, fl, cd_L x, cd_L y, cd_L d, kn, bx, by_, bu, ap, aq, bg, A, B, C)) :
    wpY_meet post (fh, fl, cx, cy, un, kn, bx, by_, bu, ap, aq, bg, A, B, C) (nI i) (nI j) := by
  have vi : vp_in (nI i) 14 := vp_in_nI hi (by omega)
  have vj : vp_in (nI j) 14 := vp_in_nI hj (by omega)
  obtain ⟨ai, bi, ci⟩ := H i hi
  obtain ⟨aj, bj, cj⟩ := H j hj
  have b1 := cd_Db HB i j
  have b2 := cd_Xb HB i j
  have b3 := cd_Yb HB i j
  have eD : (A (nI i).toNatClampNeg * B (nI j).toNatClampNeg - A (nI j).toNatClampNeg * B (nI i).toNatClampNeg).toInt64 = cd_L (cd_D a b i j) := by
    rw [cd_nc hi, cd_nc hj, ai, bi, aj, bj, cd_mul, cd_mul, cd_sub]
    exact cd_il (a := cd_D a b i j) (by omega)
  have eX : (C (nI i).toNatClampNeg * B (nI j).toNatClampNeg - C (nI j).toNatClampNeg * B (nI i).toNatClampNeg).toInt64 = cd_L (cd_X b c i j) := by
    rw [cd_nc hi, cd_nc hj, ci, bi, cj, bj, cd_mul, cd_mul, cd_sub]
    exact cd_il (a := cd_X b c i j) (by omega)
  have eY : (A (nI i).toNatClampNeg * C (nI j).toNatClampNeg - A (nI j).toNatClampNeg * C (nI i).toNatClampNeg).toInt64 = cd_L (cd_Y a c i j) := by
    rw [cd_nc hi, cd_nc hj, ai, ci, aj, cj, cd_mul, cd_mul, cd_sub]
    exact cd_il (a := cd_Y a c i j) (by omega)
  have rD : cd_Q (cd_D a b i j) := by omega
  refine ⟨vi, vj, vj, vi, nm_r eD ⟨vi, vj, vj, vi, nm_r eX ⟨vi, vj, vj, vi, nm_r eY (cd_if (cd_Leq0 rD) (fun z => h0 (fun x y d q => q.1 z)) (fun nz => ?_))⟩⟩⟩
  by_cases hD : 0 ≤ cd_D a b i j
  · have gD : (0 : Int64) ≤ cd_L (cd_D a b i j) := (cd_L0le rD).mpr hD
    exact br_t gD (br_t gD (br_t gD (h1 _ _ _ ⟨nz, (cd_sgp (by omega)).symm, (cd_sgp (by omega)).symm, (cd_sgp (by omega)).symm⟩)))
  · have gD : ¬ (0 : Int64) ≤ cd_L (cd_D a b i j) := fun q => hD ((cd_L0le rD).mp q)
    have hc := h1 (-cd_X b c i j) (-cd_Y a c i j) (-cd_D a b i j) ⟨nz, (cd_sgn (by omega)).symm, (cd_sgn (by omega)).symm, (cd_sgn (by omega)).symm⟩
    rw [← cd_Lneg (cd_X b c i j), ← cd_Lneg (cd_Y a c i j), ← cd_Lneg (cd_D a b i j)] at hc
    exact br_f gD (br_f gD (br_f gD (nm_e hc)))
theorem cd_y_meets {a b c : Nat → Int} {A B C : Nat → Int32} (HB : cd_Bd a b c) (H : cd_HY a b c A B C) {l : Nat} (hl : l < 14) {post : Int32 → Prop} {fh fl kn : Int32} {bx by_ bu : Int64} {ap aq : Int32} {bg : Nat → Int32} {x y d : Int} (P : cd_Pb x y d)
    (h1 : cd_M a b c l x y d → post 1) (h0 : ¬ cd_M a b c l x y d → post 0) :
    wpY_meets post (fh, fl, cd_L x, cd_L y, cd_L d, kn, bx, by_, bu, ap, aq, bg, A, B, C) (nI l) := by
  have v : vp_in (nI l) 14 := vp_in_nI hl (by omega)
  obtain ⟨ea, eb, ec⟩ := H l hl
  obtain ⟨q1, q2, q3, q4⟩ := P
  obtain ⟨b1, b2, b3⟩ := HB l
  have m1 := cd_bm b1 q1
  have m2 := cd_bm b2 q2
  have m3 := cd_bm b3 (show d.natAbs ≤ 162 by omega)
  have e : ((C (nI l).toNatClampNeg).toInt64 * cd_L d < (A (nI l).toNatClampNeg).toInt64 * cd_L x + (B (nI l).toNatClampNeg).toInt64 * cd_L y) ↔ ¬ cd_M a b c l x y d := by
    rw [cd_nc hl, ea, eb, ec, cd_il (by omega), cd_il (by omega), cd_il (by omega), cd_Lmul, cd_Lmul, cd_Lmul, cd_Ladd, cd_Llt (by omega) (by omega)]
    unfold cd_M; omega
  exact ⟨v, v, v, cd_if e h0 (fun q => h1 (cd_nn q))⟩
theorem cd_y_all2 {a b c : Nat → Int} {A B C : Nat → Int32} (HB : cd_Bd a b c) (H : cd_HY a b c A B C) {h w : Nat} (hh : h ≤ 10) {W : Int32} (hW : ∀ l, l < 14 → (nI l = W ↔ l = w)) {post : Int32 → Prop} {fl kn : Int32} {bx by_ bu : Int64} {ap aq : Int32} {bg : Nat → Int32} {x y d : Int} (P : cd_Pb x y d)
    (h1 : cd_Ok a b c h w x y d → post 1) (h0 : ¬ cd_Ok a b c h w x y d → post 0) :
    ∀ m s, s + m = 14 → (∀ l, l < s → cd_Th h l → l ≠ w → cd_M a b c l x y d) → wY_allowed_2 post W (nI h) fl (cd_L x) (cd_L y) (cd_L d) kn bx by_ bu ap aq bg A B C (m + 1) (nI s) := by
  intro m
  induction m with
  | zero =>
    intro s hs V
    have e : (14 : Int32) ≤ nI s := nI_le (a := 14) (by omega) (by omega)
    exact br_t e (h1 (fun l hl => V l (by have := hl.1; omega) hl))
  | succ m ih =>
    intro s hs V
    have e : ¬ (14 : Int32) ≤ nI s := nI_ge (b := 14) (by omega) (by omega)
    refine br_f e (cd_y_there hh (by omega) hW (fun t => ?_) (fun t => ?_))
    · refine br_f cd_10 (cd_y_meets HB H (by omega) P (fun q => br_f cd_10 (nm_r (nI_1 s) (ih (s + 1) (by omega) (fun l hl ht hn => ?_)))) (fun q => br_t rfl (h0 (fun z => q (z s t.1 t.2)))))
      by_cases o : l = s
      · rw [o]; exact q
      · exact V l (by omega) ht hn
    · refine br_t rfl (nm_r (nI_1 s) (ih (s + 1) (by omega) (fun l hl ht hn => ?_)))
      by_cases o : l = s
      · rw [o] at ht hn; exact absurd ⟨ht, hn⟩ t
      · exact V l (by omega) ht hn
theorem cd_y_all {a b c : Nat → Int} {A B C : Nat → Int32} (HB : cd_Bd a b c) (H : cd_HY a b c A B C) {h w : Nat} (hh : h ≤ 10) {W : Int32} (hW : ∀ l, l < 14 → (nI l = W ↔ l = w)) {post : Int32 → Prop} {fl kn : Int32} {bx by_ bu : Int64} {ap aq : Int32} {bg : Nat → Int32} {x y d : Int} (P : cd_Pb x y d)
    (h1 : cd_Ok a b c h w x y d → post 1) (h0 : ¬ cd_Ok a b c h w x y d → post 0) :
    wpY_allowed post (nI h, fl, cd_L x, cd_L y, cd_L d, kn, bx, by_, bu, ap, aq, bg, A, B, C) W := 
  ⟨15, cd_y_all2 HB H hh hW P h1 h0 14 0 (by omega) (fun l hl => by omega)⟩
theorem cd_y_better {A B C : Nat → Int32} {post : Int32 → Prop} {fh fl kn : Int32} {bx by_ bu : Int64} {ap aq : Int32} {bg : Nat → Int32} {p q x1 y1 d1 x y d : Int} (hp : p.natAbs ≤ 9) (hq : q.natAbs ≤ 9) (P1 : cd_Pb x1 y1 d1) (P : cd_Pb x y d)
    (k1 : bx = cd_L x) (k2 : by_ = cd_L y) (k3 : bu = cd_L d)
    (h1 : cd_Bt (cd_va p q x1 y1) x1 y1 d1 (cd_va p q x y) x y d → post 1) (h0 : ¬ cd_Bt (cd_va p q x1 y1) x1 y1 d1 (cd_va p q x y) x y d → post 0) :
    wpY_better post (fh, fl, cd_L x1, cd_L y1, cd_L d1, kn, bx, by_, bu, ap, aq, bg, A, B, C) (cd_I p) (cd_I q) := by
  have b1 := cd_vab hp hq P1.1 P1.2.1
  have b := cd_vab hp hq P.1 P.2.1
  obtain ⟨q1, q2, q3, q4⟩ := P1
  obtain ⟨r1, r2, r3, r4⟩ := P
  have rp : cd_R p := cd_RB hp (by decide)
  have rq : cd_R q := cd_RB hq (by decide)
  have t1 : d1.natAbs ≤ 162 := by clear b1 b hp hq q1 q2 r1 r2 rp rq; omega
  have t2 : d.natAbs ≤ 162 := by clear b1 b hp hq q1 q2 r1 r2 rp rq; omega
  have m1 : cd_Q (cd_va p q x1 y1 * d) := cd_QB (cd_bm b1 t2) (by decide)
  have m2 : cd_Q (cd_va p q x y * d1) := cd_QB (cd_bm b t1) (by decide)
  have m3 : cd_Q (x1 * d) := cd_QB (cd_bm q1 t2) (by decide)
  have m4 : cd_Q (x * d1) := cd_QB (cd_bm r1 t1) (by decide)
  have m5 : cd_Q (y1 * d) := cd_QB (cd_bm q2 t2) (by decide)
  have m6 : cd_Q (y * d1) := cd_QB (cd_bm r2 t1) (by decide)
  clear b1 b hp hq q1 q2 r1 r2 t1 t2
  have e1 : ((cd_I p).toInt64 * cd_L x1 + (cd_I q).toInt64 * cd_L y1) * bu = cd_L (cd_va p q x1 y1 * d) := by
    rw [k3, cd_il rp, cd_il rq, cd_Lmul, cd_Lmul, cd_Ladd, cd_Lmul]; rfl
  have e2 : ((cd_I p).toInt64 * bx + (cd_I q).toInt64 * by_) * cd_L d1 = cd_L (cd_va p q x y * d1) := by
    rw [k1, k2, cd_il rp, cd_il rq, cd_Lmul, cd_Lmul, cd_Ladd, cd_Lmul]; rfl
  have e3 : cd_L x1 * bu = bx * cd_L d1 ↔ x1 * d = x * d1 := by rw [k1, k3, cd_Lmul, cd_Lmul, cd_Leq m3 m4]
  have e4 : bx * cd_L d1 ≤ cd_L x1 * bu ↔ x * d1 ≤ x1 * d := by rw [k1, k3, cd_Lmul, cd_Lmul, cd_Lle m4 m3]
  have e5 : by_ * cd_L d1 ≤ cd_L y1 * bu ↔ y * d1 ≤ y1 * d := by rw [k2, k3, cd_Lmul, cd_Lmul, cd_Lle m6 m5]
  unfold cd_Bt at h1 h0
  refine nm_r e1 (nm_r e2 (cd_if (cd_Leq m1 m2) (fun z1 => cd_if e3 (fun z2 => cd_if e5 (fun z3 => ?_) (fun z3 => ?_)) (fun z2 => cd_if e4 (fun z3 => ?_) (fun z3 => ?_))) (fun z1 => cd_if (cd_Lle m1 m2) (fun z2 => ?_) (fun z2 => ?_))))
  · exact h0 (by omega)
  · exact h1 (by omega)
  · exact h0 (by omega)
  · exact h1 (by omega)
  · exact h0 (by omega)
  · exact h1 (by omega)
end
section
/-! The reference's searches over pairs of lines -/
def cd_GY (a b c : Nat → Int) (h w : Nat) (i j : Nat) (x y d : Int) : Prop := cd_At a b c i j x y d ∧ cd_Ok a b c h w x y d
def cd_GT (a b c : Nat → Int) (h w : Nat) (i j : Nat) (x y d : Int) : Prop := cd_At a b c i j x y d ∧ (cd_Ok a b c h w x y d ∧ ¬ cd_M a b c w x y d)
def cd_T (h w i : Nat) : Prop := cd_Th h i ∧ i ≠ w
theorem cd_y_pos10 {a b c : Nat → Int} {A B C : Nat → Int32} (HB : cd_Bd a b c) (H : cd_HY a b c A B C) {h I : Nat} (hh : h ≤ 10) (hI : I < 14) {post : Int32 → SY → Prop} {J : Int32 → Int32 → Int32 → Int64 → Int64 → Int64 → Int32 → Int64 → Int64 → Int64 → Int32 → Int32 → (Nat → Int32) → (Nat → Int32) → (Nat → Int32) → (Nat → Int32) → Prop} {fl kn : Int32} {bx by_ bu : Int64} {ap aq : Int32} {bg : Nat → Int32}
    (hp : ∀ i j x y d, (j < i ∧ i < 14 ∧ cd_T h 14 i ∧ cd_T h 14 j) → cd_GY a b c h 14 i j x y d → ∀ cx cy un, post 1 (nI h, fl, cx, cy, un, kn, bx, by_, bu, ap, aq, bg, A, B, C))
    (hJ : cd_No (cd_GY a b c h 14) (cd_VY (cd_T h 14) I I) → ∀ cx cy un, J (nI (I + 1)) (nI h) fl cx cy un kn bx by_ bu ap aq bg A B C) :
    ∀ m s cx cy un, s + m = I → cd_No (cd_GY a b c h 14) (cd_VY (cd_T h 14) I s) → wY_possible_10 post J (nI I) (m + 1) (nI s) (nI h) fl cx cy un kn bx by_ bu ap aq bg A B C := by
  intro m
  induction m with
  | zero =>
    intro s cx cy un hs N
    have es : s = I := by omega
    rw [es] at N ⊢
    exact br_t (nI_le (by omega) (by omega)) (nm_r (nI_1 I) (hJ N cx cy un))
  | succ m ih =>
    intro s cx cy un hs N
    refine br_f (nI_ge (by omega) (by omega)) (cd_y_there hh hI cd_W14 (fun tI => br_f cd_10 (cd_y_there hh (by omega) cd_W14 (fun tJ => br_f cd_10 ?_) (fun tJ => ?_))) (fun tI => ?_))
    · refine cd_y_meet HB H hI (by omega) (fun q => ?_) (fun x y d q => ?_)
      · exact br_t rfl (nm_r (nI_1 s) (ih (s + 1) _ _ _ (by omega) (cd_NoN I s (cd_VYs (by omega) hI tI tJ) (fun x y d z => q x y d z.1) N)))
      · refine br_f cd_10 (cd_y_all HB H hh cd_W14 (cd_Atb HB q) (fun z => ?_) (fun z => ?_))
        · exact br_f cd_10 (hp I s x y d ⟨by omega, hI, tI, tJ⟩ ⟨q, z⟩ _ _ _)
        · refine br_t rfl (nm_r (nI_1 s) (ih (s + 1) _ _ _ (by omega) (cd_NoN I s (cd_VYs (by omega) hI tI tJ) (fun x' y' d' z' => ?_) N)))
          obtain ⟨rfl, rfl, rfl⟩ := cd_Atu q z'.1
          exact z z'.2
    · exact br_t rfl (nm_r (nI_1 s) (ih (s + 1) _ _ _ (by omega) (cd_NoC (cd_VYn (fun z => tJ z.2)) N)))
    · exact br_t rfl (nm_r (nI_1 s) (ih (s + 1) _ _ _ (by omega) (cd_NoC (cd_VYn (fun z => tI z.1)) N)))
theorem cd_y_pos2 {a b c : Nat → Int} {A B C : Nat → Int32} (HB : cd_Bd a b c) (H : cd_HY a b c A B C) {h : Nat} (hh : h ≤ 10) {post : Int32 → SY → Prop} {fl kn : Int32} {bx by_ bu : Int64} {ap aq : Int32} {bg : Nat → Int32}
    (hp : ∀ i j x y d, (j < i ∧ i < 14 ∧ cd_T h 14 i ∧ cd_T h 14 j) → cd_GY a b c h 14 i j x y d → ∀ cx cy un, post 1 (nI h, fl, cx, cy, un, kn, bx, by_, bu, ap, aq, bg, A, B, C))
    (h0 : cd_No (cd_GY a b c h 14) (cd_VY (cd_T h 14) 14 0) → ∀ cx cy un, post 0 (nI h, fl, cx, cy, un, kn, bx, by_, bu, ap, aq, bg, A, B, C)) :
    ∀ m I cx cy un, I + m = 14 → cd_No (cd_GY a b c h 14) (cd_VY (cd_T h 14) I 0) → wY_possible_2 post (m + 1) (nI I) (nI h) fl cx cy un kn bx by_ bu ap aq bg A B C := by
  intro m
  induction m with
  | zero =>
    intro I cx cy un hI N
    have eI : I = 14 := by omega
    rw [eI] at N ⊢
    exact br_t (nI_le (a := 14) (by omega) (by omega)) (h0 N cx cy un)
  | succ m ih =>
    intro I cx cy un hI N
    refine br_f (nI_ge (b := 14) (by omega) (by omega)) ⟨I + 1, ?_⟩
    exact cd_y_pos10 HB H hh (by omega) hp (fun N' cx cy un => ih (I + 1) cx cy un (by omega) (cd_NoC cd_VYr N')) I 0 cx cy un (by omega) N
theorem cd_y_possible {a b c : Nat → Int} {A B C : Nat → Int32} (HB : cd_Bd a b c) (H : cd_HY a b c A B C) {h : Nat} (hh : h ≤ 10) {post : Int32 → SY → Prop} {cx cy un : Int64} {fl kn : Int32} {bx by_ bu : Int64} {ap aq : Int32} {bg : Nat → Int32}
    (hp : (∃ i j x y d, (j < i ∧ i < 14 ∧ cd_T h 14 i ∧ cd_T h 14 j) ∧ cd_GY a b c h 14 i j x y d) → ∀ cx cy un, post 1 (nI h, fl, cx, cy, un, kn, bx, by_, bu, ap, aq, bg, A, B, C))
    (h0 : ¬ (∃ i j x y d, (j < i ∧ i < 14 ∧ cd_T h 14 i ∧ cd_T h 14 j) ∧ cd_GY a b c h 14 i j x y d) → ∀ cx cy un, post 0 (nI h, fl, cx, cy, un, kn, bx, by_, bu, ap, aq, bg, A, B, C)) :
    wpY_possible post (nI h, fl, cx, cy, un, kn, bx, by_, bu, ap, aq, bg, A, B, C) := by
  refine ⟨15, cd_y_pos2 HB H hh (fun i j x y d q g => hp ⟨i, j, x, y, d, q, g⟩) (fun N => h0 ?_) 14 0 cx cy un (by omega) (fun i j x y d v => absurd v (cd_VY0 _ _ _))⟩
  rintro ⟨i, j, x, y, d, q, g⟩
  exact N i j x y d ((cd_VYe i j).mpr q) g
theorem cd_y_sp10 {a b c : Nat → Int} {A B C : Nat → Int32} (HB : cd_Bd a b c) (H : cd_HY a b c A B C) {h I w : Nat} (hh : h ≤ 10) (hw : w < 14) (hI : I < 14) {post : Int32 → SY → Prop} {J : Int32 → Int32 → Int32 → Int64 → Int64 → Int64 → Int32 → Int64 → Int64 → Int64 → Int32 → Int32 → (Nat → Int32) → (Nat → Int32) → (Nat → Int32) → (Nat → Int32) → Prop} {fl kn : Int32} {bx by_ bu : Int64} {ap aq : Int32} {bg : Nat → Int32}
    (hp : ∀ i j x y d, (j < i ∧ i < 14 ∧ cd_T h w i ∧ cd_T h w j) → cd_GT a b c h w i j x y d → ∀ cx cy un, post 0 (nI h, fl, cx, cy, un, kn, bx, by_, bu, ap, aq, bg, A, B, C))
    (hJ : cd_No (cd_GT a b c h w) (cd_VY (cd_T h w) I I) → ∀ cx cy un, J (nI (I + 1)) (nI h) fl cx cy un kn bx by_ bu ap aq bg A B C) :
    ∀ m s cx cy un, s + m = I → cd_No (cd_GT a b c h w) (cd_VY (cd_T h w) I s) → wY_spared_10 post J (nI w) (nI I) (m + 1) (nI s) (nI h) fl cx cy un kn bx by_ bu ap aq bg A B C := by
  intro m
  induction m with
  | zero =>
    intro s cx cy un hs N
    have es : s = I := by omega
    rw [es] at N ⊢
    exact br_t (nI_le (by omega) (by omega)) (nm_r (nI_1 I) (hJ N cx cy un))
  | succ m ih =>
    intro s cx cy un hs N
    refine br_f (nI_ge (by omega) (by omega)) (cd_y_there hh hI (cd_Wn hw) (fun tI => br_f cd_10 (cd_y_there hh (by omega) (cd_Wn hw) (fun tJ => br_f cd_10 ?_) (fun tJ => ?_))) (fun tI => ?_))
    · refine cd_y_meet HB H hI (by omega) (fun q => ?_) (fun x y d q => ?_)
      · exact br_t rfl (nm_r (nI_1 s) (ih (s + 1) _ _ _ (by omega) (cd_NoN I s (cd_VYs (by omega) hI tI tJ) (fun x y d z => q x y d z.1) N)))
      · refine br_f cd_10 (cd_y_all HB H hh (cd_Wn hw) (cd_Atb HB q) (fun z => ?_) (fun z => ?_))
        · refine br_f cd_10 (cd_y_meets HB H hw (cd_Atb HB q) (fun z2 => ?_) (fun z2 => ?_))
          · refine br_f cd_10 (nm_r (nI_1 s) (ih (s + 1) _ _ _ (by omega) (cd_NoN I s (cd_VYs (by omega) hI tI tJ) (fun x' y' d' z' => ?_) N)))
            obtain ⟨rfl, rfl, rfl⟩ := cd_Atu q z'.1
            exact z'.2.2 z2
          · exact br_t rfl (hp I s x y d ⟨by omega, hI, tI, tJ⟩ ⟨q, z, z2⟩ _ _ _)
        · refine br_t rfl (nm_r (nI_1 s) (ih (s + 1) _ _ _ (by omega) (cd_NoN I s (cd_VYs (by omega) hI tI tJ) (fun x' y' d' z' => ?_) N)))
          obtain ⟨rfl, rfl, rfl⟩ := cd_Atu q z'.1
          exact z z'.2.1
    · exact br_t rfl (nm_r (nI_1 s) (ih (s + 1) _ _ _ (by omega) (cd_NoC (cd_VYn (fun z => tJ z.2)) N)))
    · exact br_t rfl (nm_r (nI_1 s) (ih (s + 1) _ _ _ (by omega) (cd_NoC (cd_VYn (fun z => tI z.1)) N)))
theorem cd_y_sp2 {a b c : Nat → Int} {A B C : Nat → Int32} (HB : cd_Bd a b c) (H : cd_HY a b c A B C) {h w : Nat} (hh : h ≤ 10) (hw : w < 14) {post : Int32 → SY → Prop} {fl kn : Int32} {bx by_ bu : Int64} {ap aq : Int32} {bg : Nat → Int32}
    (hp : ∀ i j x y d, (j < i ∧ i < 14 ∧ cd_T h w i ∧ cd_T h w j) → cd_GT a b c h w i j x y d → ∀ cx cy un, post 0 (nI h, fl, cx, cy, un, kn, bx, by_, bu, ap, aq, bg, A, B, C))
    (h0 : cd_No (cd_GT a b c h w) (cd_VY (cd_T h w) 14 0) → ∀ cx cy un, post 1 (nI h, fl, cx, cy, un, kn, bx, by_, bu, ap, aq, bg, A, B, C)) :
    ∀ m I cx cy un, I + m = 14 → cd_No (cd_GT a b c h w) (cd_VY (cd_T h w) I 0) → wY_spared_2 post (nI w) (m + 1) (nI I) (nI h) fl cx cy un kn bx by_ bu ap aq bg A B C := by
  intro m
  induction m with
  | zero =>
    intro I cx cy un hI N
    have eI : I = 14 := by omega
    rw [eI] at N ⊢
    exact br_t (nI_le (a := 14) (by omega) (by omega)) (h0 N cx cy un)
  | succ m ih =>
    intro I cx cy un hI N
    refine br_f (nI_ge (b := 14) (by omega) (by omega)) ⟨I + 1, ?_⟩
    exact cd_y_sp10 HB H hh hw (by omega) hp (fun N' cx cy un => ih (I + 1) cx cy un (by omega) (cd_NoC cd_VYr N')) I 0 cx cy un (by omega) N
theorem cd_y_spared {a b c : Nat → Int} {A B C : Nat → Int32} (HB : cd_Bd a b c) (H : cd_HY a b c A B C) {h w : Nat} (hh : h ≤ 10) (hw : w < 14) {post : Int32 → SY → Prop} {cx cy un : Int64} {fl kn : Int32} {bx by_ bu : Int64} {ap aq : Int32} {bg : Nat → Int32}
    (hp : (∃ i j x y d, (j < i ∧ i < 14 ∧ cd_T h w i ∧ cd_T h w j) ∧ cd_GT a b c h w i j x y d) → ∀ cx cy un, post 0 (nI h, fl, cx, cy, un, kn, bx, by_, bu, ap, aq, bg, A, B, C))
    (h0 : ¬ (∃ i j x y d, (j < i ∧ i < 14 ∧ cd_T h w i ∧ cd_T h w j) ∧ cd_GT a b c h w i j x y d) → ∀ cx cy un, post 1 (nI h, fl, cx, cy, un, kn, bx, by_, bu, ap, aq, bg, A, B, C)) :
    wpY_spared post (nI h, fl, cx, cy, un, kn, bx, by_, bu, ap, aq, bg, A, B, C) (nI w) := by
  refine ⟨15, cd_y_sp2 HB H hh hw (fun i j x y d q g => hp ⟨i, j, x, y, d, q, g⟩) (fun N => h0 ?_) 14 0 cx cy un (by omega) (fun i j x y d v => absurd v (cd_VY0 _ _ _))⟩
  rintro ⟨i, j, x, y, d, q, g⟩
  exact N i j x y d ((cd_VYe i j).mpr q) g
end
section
/-! The reference's best -/
def cd_KY (r x y d : Int) (an : Int32) (bx by_ bu : Int64) : Prop :=
  an = cd_I r ∧ (r = 1 → bx = cd_L x ∧ by_ = cd_L y ∧ bu = cd_L d)
theorem cd_y_se15 {a b c : Nat → Int} {A B C : Nat → Int32} (HB : cd_Bd a b c) (H : cd_HY a b c A B C) {h I : Nat} (hh : h ≤ 10) (hI : I < 14) {p q : Int} (hp : p.natAbs ≤ 9) (hq : q.natAbs ≤ 9) {post : Int32 → SY → Prop} {J : Int32 → Int32 → Int32 → Int32 → Int64 → Int64 → Int64 → Int32 → Int64 → Int64 → Int64 → Int32 → Int32 → (Nat → Int32) → (Nat → Int32) → (Nat → Int32) → (Nat → Int32) → Prop} {fl kn ap aq : Int32} {bg : Nat → Int32}
    (hJ : ∀ r x y d an cx cy un bx by_ bu, cd_Inv (cd_GY a b c h 14) p q (cd_VY (cd_T h 14) I I) r x y d → cd_KY r x y d an bx by_ bu → J an (nI (I + 1)) (nI h) fl cx cy un kn bx by_ bu ap aq bg A B C) :
    ∀ m s r x y d an cx cy un bx by_ bu, s + m = I → cd_Inv (cd_GY a b c h 14) p q (cd_VY (cd_T h 14) I s) r x y d → cd_KY r x y d an bx by_ bu → wY_search_15 post J (cd_I p) (cd_I q) (nI I) (m + 1) an (nI s) (nI h) fl cx cy un kn bx by_ bu ap aq bg A B C := by
  have gP : ∀ i j x y d, cd_GY a b c h 14 i j x y d → cd_Pb x y d := fun i j x y d g => cd_Atb HB g.1
  have g0 : ∀ i j x y d, cd_GY a b c h 14 i j x y d → 0 < d := fun i j x y d g => cd_Atpos g.1
  intro m
  induction m with
  | zero =>
    intro s r x y d an cx cy un bx by_ bu hs N k
    have es : s = I := by omega
    rw [es] at N ⊢
    exact br_t (nI_le (by omega) (by omega)) (nm_r (nI_1 I) (hJ r x y d an cx cy un bx by_ bu N k))
  | succ m ih =>
    intro s r x y d an cx cy un bx by_ bu hs N k
    refine br_f (nI_ge (by omega) (by omega)) (cd_y_there hh hI cd_W14 (fun tI => br_f cd_10 (cd_y_there hh (by omega) cd_W14 (fun tJ => br_f cd_10 ?_) (fun tJ => ?_))) (fun tI => ?_))
    · have eV := cd_VYs (T := cd_T h 14) (I := I) (J := s) (by omega) hI tI tJ
      refine cd_y_meet HB H hI (by omega) (fun t => ?_) (fun x1 y1 d1 t => ?_)
      · exact br_t rfl (nm_r (nI_1 s) (ih (s + 1) r x y d _ _ _ _ _ _ _ (by omega) (cd_InvN I s eV (fun x y d z => t x y d z.1) N) k))
      · have hu : ∀ x y d, cd_GY a b c h 14 I s x y d → x = x1 ∧ y = y1 ∧ d = d1 := fun x y d g => cd_Atu t g.1
        refine br_f cd_10 (cd_y_all HB H hh cd_W14 (cd_Atb HB t) (fun z => br_f cd_10 ?_) (fun z => ?_))
        · have hT : (r = 0 ∨ cd_Bt (cd_va p q x1 y1) x1 y1 d1 (cd_va p q x y) x y d) → wY_search_74 post J (wY_search_15 post J (cd_I p) (cd_I q) (nI I) (m + 1)) (cd_I p) (cd_I q) (nI I) (nI s) (nI h) fl (cd_L x1) (cd_L y1) (cd_L d1) kn bx by_ bu ap aq bg A B C := by
            intro bt
            exact nm_r (nI_1 s) (ih (s + 1) 1 x1 y1 d1 1 _ _ _ _ _ _ (by omega) (cd_InvT I s eV ⟨t, z⟩ hu g0 N bt) ⟨cd_1, fun _ => ⟨rfl, rfl, rfl⟩⟩)
          rcases cd_InvP gP N with r0 | ⟨r1, P⟩
          · have z0 : an = 0 := by rw [k.1, r0]; exact cd_0.symm
            exact br_t z0 (hT (Or.inl r0))
          · have z0 : ¬ an = 0 := by rw [k.1, r1, ← cd_1]; exact cd_10
            obtain ⟨k1, k2, k3⟩ := k.2 r1
            refine br_f z0 (cd_y_better hp hq (cd_Atb HB t) P k1 k2 k3 (fun bt => br_f cd_10 (hT (Or.inr bt))) (fun bt => ?_))
            exact br_t rfl (nm_r (nI_1 s) (ih (s + 1) r x y d _ _ _ _ _ _ _ (by omega) (cd_InvK I s eV hu N r1 bt) k))
        · refine br_t rfl (nm_r (nI_1 s) (ih (s + 1) r x y d _ _ _ _ _ _ _ (by omega) (cd_InvN I s eV (fun x' y' d' z' => ?_) N) k))
          obtain ⟨rfl, rfl, rfl⟩ := hu _ _ _ z'
          exact z z'.2
    · exact br_t rfl (nm_r (nI_1 s) (ih (s + 1) r x y d _ _ _ _ _ _ _ (by omega) (cd_InvC (cd_VYn (fun z => tJ z.2)) N) k))
    · exact br_t rfl (nm_r (nI_1 s) (ih (s + 1) r x y d _ _ _ _ _ _ _ (by omega) (cd_InvC (cd_VYn (fun z => tI z.1)) N) k))
theorem cd_nar {r : Int} (h : r = 0 ∨ r = 1) : narrow .boolean (.int (cd_I r)) = .int (cd_I r) ∧ fits .boolean (.int (cd_I r)) = true := by
  rcases h with rfl | rfl
  · rw [← cd_0]; exact ⟨rfl, rfl⟩
  · rw [← cd_1]; exact ⟨rfl, rfl⟩
theorem cd_y_se5 {a b c : Nat → Int} {A B C : Nat → Int32} (HB : cd_Bd a b c) (H : cd_HY a b c A B C) {h : Nat} (hh : h ≤ 10) {p q : Int} (hp : p.natAbs ≤ 9) (hq : q.natAbs ≤ 9) {post : Int32 → SY → Prop} {fl kn ap aq : Int32} {bg : Nat → Int32}
    (hJ : ∀ r x y d cx cy un bx by_ bu, cd_Inv (cd_GY a b c h 14) p q (cd_VY (cd_T h 14) 14 0) r x y d → cd_KY r x y d (cd_I r) bx by_ bu → post (cd_I r) (nI h, fl, cx, cy, un, kn, bx, by_, bu, ap, aq, bg, A, B, C)) :
    ∀ m I r x y d an cx cy un bx by_ bu, I + m = 14 → cd_Inv (cd_GY a b c h 14) p q (cd_VY (cd_T h 14) I 0) r x y d → cd_KY r x y d an bx by_ bu → wY_search_5 post (cd_I p) (cd_I q) (m + 1) an (nI I) (nI h) fl cx cy un kn bx by_ bu ap aq bg A B C := by
  intro m
  induction m with
  | zero =>
    intro I r x y d an cx cy un bx by_ bu hI N k
    have eI : I = 14 := by omega
    rw [eI] at N ⊢
    have er : r = 0 ∨ r = 1 := by
      rcases cd_InvP (fun i j x y d g => cd_Atb HB g.1) N with z | ⟨z, _⟩
      · exact Or.inl z
      · exact Or.inr z
    have ea := k.1
    subst ea
    exact br_t (nI_le (a := 14) (by omega) (by omega)) ⟨(cd_nar er).1, hJ r x y d cx cy un bx by_ bu N k⟩
  | succ m ih =>
    intro I r x y d an cx cy un bx by_ bu hI N k
    refine br_f (nI_ge (b := 14) (by omega) (by omega)) ⟨I + 1, ?_⟩
    exact cd_y_se15 HB H hh (by omega) hp hq (fun r x y d an cx cy un bx by_ bu N' k' => ih (I + 1) r x y d an cx cy un bx by_ bu (by omega) (cd_InvC cd_VYr N') k') I 0 r x y d an cx cy un bx by_ bu (by omega) N k
theorem cd_y_best {a b c : Nat → Int} {A B C : Nat → Int32} (HB : cd_Bd a b c) (H : cd_HY a b c A B C) {h : Nat} (hh : h ≤ 10) {p q : Int} (rp : cd_R p) (rq : cd_R q) {post : Int32 → SY → Prop} {cx cy un bx by_ bu : Int64} {fl kn ap aq : Int32} {bg : Nat → Int32}
    (hJ : p.natAbs ≤ 9 → q.natAbs ≤ 9 → ∀ r x y d cx cy un bx by_ bu, cd_Inv (cd_GY a b c h 14) p q (cd_VY (cd_T h 14) 14 0) r x y d → cd_KY r x y d (cd_I r) bx by_ bu → post (cd_I r) (nI h, fl, cx, cy, un, cd_I r, bx, by_, bu, cd_I p, cd_I q, bg, A, B, C))
    (hm : ¬ (p.natAbs ≤ 9 ∧ q.natAbs ≤ 9) → post (-1) (nI h, fl, cx, cy, un, kn, bx, by_, bu, ap, aq, bg, A, B, C)) :
    wpY_best post (nI h, fl, cx, cy, un, kn, bx, by_, bu, ap, aq, bg, A, B, C) (cd_I p) (cd_I q) := by
  have em : (-9 : Int32) = cd_I (-9) := by decide +kernel
  have e1 : cd_I p < -9 ↔ p < -9 := by rw [em]; exact cd_lt rp (by omega)
  have e2 : (9 : Int32) < cd_I p ↔ 9 < p := by rw [cd_9]; exact cd_lt (by omega) rp
  have e3 : cd_I q < -9 ↔ q < -9 := by rw [em]; exact cd_lt rq (by omega)
  have e4 : cd_I q ≤ (9 : Int32) ↔ q ≤ 9 := by rw [cd_9]; exact cd_le rq (by omega)
  refine cd_if e1 (fun z1 => hm (by omega)) (fun z1 => cd_if e2 (fun z2 => hm (by omega)) (fun z2 => cd_if e3 (fun z3 => hm (by omega)) (fun z3 => cd_if e4 (fun z4 => ?_) (fun z4 => hm (by omega)))))
  have hp : p.natAbs ≤ 9 := by omega
  have hq : q.natAbs ≤ 9 := by omega
  refine ⟨15, cd_y_se5 HB H hh hp hq (fun r x y d cx cy un bx by_ bu N k => ?_) 14 0 0 0 0 1 0 cx cy un bx by_ bu (by omega) (cd_Inv0 (cd_VY0 _)) ⟨cd_0, fun z => by omega⟩⟩
  have hf := hJ hp hq r x y d cx cy un bx by_ bu N k
  rcases cd_InvP (fun i j x y d g => cd_Atb HB g.1) N with rfl | ⟨rfl, _⟩
  · refine ⟨(cd_nar (Or.inl rfl)).1, (cd_nar (Or.inl rfl)).2, br_t cd_0.symm ?_⟩
    rw [← cd_0] at hf ⊢
    exact hf
  · refine ⟨(cd_nar (Or.inr rfl)).1, (cd_nar (Or.inr rfl)).2, br_f (by rw [← cd_1]; exact cd_10) ?_⟩
    rw [← cd_1] at hf ⊢
    exact hf
end
section
/-! Divisors -/
theorem cd_pm1 (n : Nat) : nI (n + 1) + (-1) = nI n := by
  have e : ((n + 1 : Nat) : Int) + -1 = (n : Int) := by omega
  rw [cd_m1, cd_nI (n + 1), cd_add, e, cd_nI]
theorem cd_x_cd2 {n d : Int} (hn : n.natAbs ≤ 32076) (hd : 0 < d) (hd2 : d ≤ 162) {post : Int32 → Prop} (h : post (cd_I (Int.gcd n d : Int))) :
    ∀ j : Nat, ((j + 1 : Nat) : Int) ≤ d → (∀ m : Nat, j + 1 < m → (m : Int) ≤ d → ¬ ((m : Int) ∣ n ∧ (m : Int) ∣ d)) → wX_commonDivisor_2 post (cd_I n) (cd_I d) (j + 1) (nI (j + 1)) := by
  intro j
  induction j with
  | zero =>
    intro h1 hm
    have g := cd_gmax (k := 1) hd (Int.one_dvd n) (Int.one_dvd d) hm
    rw [← g] at h
    exact br_t (nI_le (a := 1) (b := 1) (by omega) (by omega)) h
  | succ j ih =>
    intro h1 hm
    have e0 : ¬ nI (j + 1 + 1) ≤ (1 : Int32) := nI_ge (a := 1) (by omega) (by omega)
    have e1 : ¬ nI (j + 1 + 1) = (0 : Int32) := nI_ne0 (by omega) (by omega)
    have rk : cd_R ((j + 1 + 1 : Nat) : Int) := by omega
    have dn : cd_I n - cd_I n / nI (j + 1 + 1) * nI (j + 1 + 1) = 0 ↔ ((j + 1 + 1 : Nat) : Int) ∣ n := by
      have b := Int.natAbs_tdiv_le_natAbs n ((j + 1 + 1 : Nat) : Int)
      have b2 : (n.tmod ((j + 1 + 1 : Nat) : Int)).natAbs ≤ n.natAbs := by
        rw [Int.natAbs_tmod]; exact Nat.mod_le _ _
      rw [cd_nI, cd_rem (by omega) rk (by omega), cd_eq0 (by omega)]
      exact Int.dvd_iff_tmod_eq_zero.symm
    have dd : cd_I d - cd_I d / nI (j + 1 + 1) * nI (j + 1 + 1) = 0 ↔ ((j + 1 + 1 : Nat) : Int) ∣ d := by
      have b2 : (d.tmod ((j + 1 + 1 : Nat) : Int)).natAbs ≤ d.natAbs := by
        rw [Int.natAbs_tmod]; exact Nat.mod_le _ _
      rw [cd_nI, cd_rem (by omega) rk (by omega), cd_eq0 (by omega)]
      exact Int.dvd_iff_tmod_eq_zero.symm
    have next : ¬ (((j + 1 + 1 : Nat) : Int) ∣ n ∧ ((j + 1 + 1 : Nat) : Int) ∣ d) → wX_commonDivisor_2 post (cd_I n) (cd_I d) (j + 1) (nI (j + 1)) := by
      intro z
      refine ih (by omega) (fun m hj hmd => ?_)
      by_cases o : m = j + 1 + 1
      · rw [o]; exact z
      · exact hm m (by omega) hmd
    refine br_f e0 ⟨e1, cd_if dn (fun z1 => ⟨e1, cd_if dd (fun z2 => ?_) (fun z2 => nm_r (cd_pm1 (j + 1)) (next (fun z => z2 z.2)))⟩) (fun z1 => nm_r (cd_pm1 (j + 1)) (next (fun z => z1 z.1)))⟩
    have g := cd_gmax (k := j + 1 + 1) hd z1 z2 hm
    rw [← g] at h
    rw [cd_nI]
    exact h
theorem cd_x_div {n d : Int} (hn : n.natAbs ≤ 32076) (hd : 0 < d) (hd2 : d ≤ 162) {post : Int32 → Prop} (h : post (cd_I (Int.gcd n d : Int))) : wpX_commonDivisor post (cd_I n) (cd_I d) := by
  obtain ⟨j, rfl⟩ : ∃ j : Nat, d = ((j + 1 : Nat) : Int) := ⟨d.toNat - 1, by omega⟩
  refine ⟨j + 1, ?_⟩
  have g := cd_x_cd2 hn hd hd2 h j (by omega) (fun m hm hm2 => by omega)
  rw [cd_nI] at g
  exact g
theorem cd_Lrem {x y : Nat} (hx : x < 2147483648) (h0 : 0 < y) (hy : y < 2147483648) : lN x - lN x / lN y * lN y = lN (x % y) := by
  have e : (x : Int) - (x : Int).tdiv (y : Int) * (y : Int) = ((x % y : Nat) : Int) := by
    rw [Int.mul_comm, ← Int.tmod_def]; exact (Int.ofNat_tmod x y).symm
  rw [cd_lN x, cd_lN y, cd_lN (x % y), cd_Ldiv (by omega) (by omega) (by omega), cd_Lmul, cd_Lsub, e]
theorem cd_y_d0 {post : Int64 → Prop} {i x : Nat} (hi : i < 100) (h : post (lN x)) (f : Nat) : wY_divisor_20 post (f + 1) (lN x) (lN 0) (nI i) :=
  br_f (nI_ge (b := 100) hi (by omega)) (br_t ((lN_le (a := 0) (b := 0) (by omega) (by omega)).mpr (by omega)) h)
theorem cd_y_ds {post : Int64 → Prop} {i x y : Nat} (hi : i < 100) (hx : x < 2147483648) (h0 : 0 < y) (hy : y < 2147483648) (f : Nat) (h : wY_divisor_20 post f (lN y) (lN (x % y)) (nI (i + 1))) : wY_divisor_20 post (f + 1) (lN x) (lN y) (nI i) := by
  have e1 : ¬ lN y ≤ (0 : Int64) := fun z => by have := (lN_le (a := y) (b := 0) (by omega) (by omega)).mp z; omega
  have e2 : ¬ lN y = (0 : Int64) := fun z => by have := (lN_eq (a := y) (b := 0) (by omega) (by omega)).mp z; omega
  exact br_f (nI_ge (b := 100) hi (by omega)) (br_f e1 ⟨e2, nm_r (cd_Lrem hx h0 hy) (nm_r (nI_1 i) h)⟩)
theorem cd_y_d20 {post : Int64 → Prop} : ∀ m i x y : Nat, x < 2147483648 → y < 2 ^ m → y < 2147483648 → i + 2 * m < 100 → post (lN (Nat.gcd x y)) → ∀ f, 2 * m < f → wY_divisor_20 post f (lN x) (lN y) (nI i) := by
  intro m
  induction m with
  | zero =>
    intro i x y hx hy hy2 hi h f hf
    have ey : y = 0 := by rw [Nat.pow_zero] at hy; omega
    subst ey
    rw [Nat.gcd_zero_right] at h
    obtain ⟨g, rfl⟩ : ∃ g, f = g + 1 := ⟨f - 1, by omega⟩
    exact cd_y_d0 (by omega) h g
  | succ m ih =>
    intro i x y hx hy hy2 hi h f hf
    obtain ⟨g, rfl⟩ : ∃ g, f = g + 1 + 1 := ⟨f - 2, by omega⟩
    by_cases y0 : y = 0
    · subst y0
      rw [Nat.gcd_zero_right] at h
      exact cd_y_d0 (by omega) h (g + 1)
    · have hr : x % y < y := Nat.mod_lt x (by omega)
      refine cd_y_ds (by omega) hx (by omega) hy2 (g + 1) ?_
      rw [← cd_gst] at h
      by_cases r0 : x % y = 0
      · rw [r0, Nat.gcd_zero_right] at h
        rw [r0]
        exact cd_y_d0 (by omega) h g
      · have hh := cd_half r0 (by omega)
        have hp : 2 ^ (m + 1) = 2 * 2 ^ m := by rw [Nat.pow_succ]; omega
        have hl : y % (x % y) < x % y := Nat.mod_lt y (by omega)
        refine cd_y_ds (by omega) hy2 (by omega) (by omega) g ?_
        rw [← cd_gst] at h
        exact ih (i + 1 + 1) (x % y) (y % (x % y)) (by omega) (by omega) (by omega) (by omega) h g (by omega)
theorem cd_y_div {n d : Int} (hn : n.natAbs ≤ 32076) (hd : 0 < d) (hd2 : d ≤ 162) {post : Int64 → Prop} (h : post (cd_L (Int.gcd n d : Int))) : wpY_divisor post (cd_L n) (cd_L d) := by
  have ed : cd_L d = lN d.natAbs := by rw [cd_lN]; congr 1; omega
  have hg : post (lN (Nat.gcd n.natAbs d.natAbs)) := by rw [cd_lN]; exact h
  have k := cd_y_d20 8 0 n.natAbs d.natAbs (by omega) (by omega) (by omega) (by omega) hg 17 (by omega)
  refine cd_if (cd_L0le (by omega)) (fun z => ?_) (fun z => ?_)
  · have en : cd_L n = lN n.natAbs := by rw [cd_lN]; congr 1; omega
    rw [en, ed]
    exact ⟨17, k⟩
  · have en : -cd_L n = lN n.natAbs := by rw [cd_Lneg, cd_lN]; congr 1; omega
    rw [ed]
    exact nm_r en ⟨17, k⟩
/-! What reads the remembered point -/
theorem cd_x_isr {fc fl cx cy cs ks rm : Int32} {A B C L K : Nat → Int32} {z : Int} (rz : cd_R z) {post : Int32 → Prop} (h1 : ¬ rm = 0 → 0 ≤ z ∧ z ≤ 2 → post 1) (h0 : (rm = 0 ∨ ¬ (0 ≤ z ∧ z ≤ 2)) → post 0) : wpX_isRemembered post (fc, fl, cx, cy, cs, ks, rm, A, B, C, L, K) (cd_I z) := by
  have e3 : (3 : Int32) ≤ cd_I z ↔ 3 ≤ z := by
    have e : (3 : Int32) = cd_I 3 := by decide +kernel
    rw [e]; exact cd_le (by omega) rz
  have e0 : cd_I z < (0 : Int32) ↔ z < 0 := by rw [cd_0]; exact cd_lt rz (by omega)
  exact br_c (fun q => h0 (Or.inl q)) (fun q => cd_if e0 (fun q1 => h0 (Or.inr (by omega))) (fun q1 => cd_if e3 (fun q2 => h0 (Or.inr (by omega))) (fun q2 => h1 q (by omega))))
theorem cd_vp3 {z : Int} (hz : 0 ≤ z ∧ z ≤ 2) : vp_in (cd_I z) 3 := vp_in_iff.mpr (by rw [cd_toInt (by omega)]; omega)
theorem cd_cl3 {z : Int} (hz : 0 ≤ z ∧ z ≤ 2) : (cd_I z).toNatClampNeg = z.toNat := by
  have e : (z.toNat : Int) = z := by omega
  rw [← cd_clamp (n := z.toNat) (by omega), e]
theorem cd_g32 {n d : Int} (hd : 0 < d) (hd2 : d ≤ 162) : 0 < (Int.gcd n d : Int) ∧ (Int.gcd n d : Int) ≤ 162 := by
  have a := cd_g0 (n := n) hd
  have b := cd_gle (n := n) hd
  omega
theorem cd_x_num {fc fl cx cy cs ks rm : Int32} {A B C L K : Nat → Int32} {z n d : Int} (rz : cd_R z) (hr : ¬ rm = 0) (hz : 0 ≤ z ∧ z ≤ 2) (hn : n.natAbs ≤ 32076) (hd : 0 < d) (hd2 : d ≤ 162) (eK : K z.toNat = cd_I n) (ek : ks = cd_I d) {post : Int32 → Prop}
    (h : post (cd_I (n.tdiv (Int.gcd n d : Int)))) : wpX_numerator post (fc, fl, cx, cy, cs, ks, rm, A, B, C, L, K) (cd_I z) := by
  have g := cd_g32 (n := n) hd hd2
  unfold wpX_numerator
  refine cd_x_isr rz (fun _ _ => br_f cd_10 ⟨cd_vp3 hz, cd_vp3 hz, ?_⟩) (fun q => absurd q (by rintro (q | q); exact hr q; exact q hz))
  rw [cd_cl3 hz, eK, ek]
  refine cd_x_div hn hd hd2 ⟨fun q => ?_, ?_⟩
  · have := (cd_eq0 (by omega)).mp q; omega
  · rw [cd_div (by omega) (by omega) (by omega)]; exact h
theorem cd_x_den {fc fl cx cy cs ks rm : Int32} {A B C L K : Nat → Int32} {z n d : Int} (rz : cd_R z) (hr : ¬ rm = 0) (hz : 0 ≤ z ∧ z ≤ 2) (hn : n.natAbs ≤ 32076) (hd : 0 < d) (hd2 : d ≤ 162) (eK : K z.toNat = cd_I n) (ek : ks = cd_I d) {post : Int32 → Prop}
    (h : post (cd_I (d.tdiv (Int.gcd n d : Int)))) : wpX_denominator post (fc, fl, cx, cy, cs, ks, rm, A, B, C, L, K) (cd_I z) := by
  have g := cd_g32 (n := n) hd hd2
  unfold wpX_denominator
  refine cd_x_isr rz (fun _ _ => br_f cd_10 ⟨cd_vp3 hz, ?_⟩) (fun q => absurd q (by rintro (q | q); exact hr q; exact q hz))
  rw [cd_cl3 hz, eK, ek]
  refine cd_x_div hn hd hd2 ⟨fun q => ?_, ?_⟩
  · have := (cd_eq0 (by omega)).mp q; omega
  · rw [cd_div (by omega) (by omega) (by omega)]; exact h
/-- what is read: the value, x, y -/
def cd_tp (p q x y z : Int) : Int := if z = 1 then x else if z = 2 then y else cd_va p q x y
theorem cd_y_top {fh fl : Int32} {cx cy un : Int64} {kn : Int32} {bx by_ bu : Int64} {ap aq : Int32} {bg A B C : Nat → Int32} {p q x y z : Int} (rz : cd_R z) (rp : cd_R p) (rq : cd_R q) (k1 : bx = cd_L x) (k2 : by_ = cd_L y) (k3 : ap = cd_I p) (k4 : aq = cd_I q) {post : Int64 → Prop}
    (h : post (cd_L (cd_tp p q x y z))) : wpY_top post (fh, fl, cx, cy, un, kn, bx, by_, bu, ap, aq, bg, A, B, C) (cd_I z) := by
  have e1 : cd_I z = (1 : Int32) ↔ z = 1 := by rw [cd_1]; exact cd_eq rz (by omega)
  have e2 : cd_I z = (2 : Int32) ↔ z = 2 := by
    have e : (2 : Int32) = cd_I 2 := by decide +kernel
    rw [e]; exact cd_eq rz (by omega)
  unfold cd_tp at h
  refine cd_if e1 (fun q => ?_) (fun q => cd_if e2 (fun q2 => ?_) (fun q2 => ?_))
  · rw [if_pos q] at h; rw [k1]; exact h
  · rw [if_neg q, if_pos q2] at h; rw [k2]; exact h
  · rw [if_neg q, if_neg q2] at h
    rw [k1, k2, k3, k4, cd_il rp, cd_il rq, cd_Lmul, cd_Lmul, cd_Ladd]; exact h
theorem cd_y_num {fh fl : Int32} {cx cy un : Int64} {kn : Int32} {bx by_ bu : Int64} {ap aq : Int32} {bg A B C : Nat → Int32} {p q x y z d : Int} (rz : cd_R z) (rp : cd_R p) (rq : cd_R q) (hk : ¬ kn = 0) (hz : 0 ≤ z ∧ z ≤ 2) (hn : (cd_tp p q x y z).natAbs ≤ 32076) (hd : 0 < d) (hd2 : d ≤ 162)
    (k1 : bx = cd_L x) (k2 : by_ = cd_L y) (k3 : ap = cd_I p) (k4 : aq = cd_I q) (k5 : bu = cd_L d) {post : Int32 → Prop}
    (h : post (cd_I ((cd_tp p q x y z).tdiv (Int.gcd (cd_tp p q x y z) d : Int)))) : wpY_numerator post (fh, fl, cx, cy, un, kn, bx, by_, bu, ap, aq, bg, A, B, C) (cd_I z) := by
  have g := cd_g32 (n := cd_tp p q x y z) hd hd2
  have e0 : ¬ cd_I z < (0 : Int32) := by rw [cd_0, cd_lt rz (by omega)]; omega
  have e2 : cd_I z ≤ (2 : Int32) := by
    have e : (2 : Int32) = cd_I 2 := by decide +kernel
    rw [e, cd_le rz (by omega)]; omega
  have eg : ¬ cd_L (Int.gcd (cd_tp p q x y z) d : Int) = 0 := fun q => by have := (cd_Leq0 (by omega)).mp q; omega
  refine br_f hk (br_f e0 (br_t e2 (cd_y_top rz rp rq k1 k2 k3 k4 ?_)))
  rw [k5]
  refine cd_y_div hn hd hd2 (br_f eg ⟨eg, ?_⟩)
  rw [cd_Ldiv (by omega) (by omega) (by omega), cd_li]
  exact h
theorem cd_y_den {fh fl : Int32} {cx cy un : Int64} {kn : Int32} {bx by_ bu : Int64} {ap aq : Int32} {bg A B C : Nat → Int32} {p q x y z d : Int} (rz : cd_R z) (rp : cd_R p) (rq : cd_R q) (hk : ¬ kn = 0) (hz : 0 ≤ z ∧ z ≤ 2) (hn : (cd_tp p q x y z).natAbs ≤ 32076) (hd : 0 < d) (hd2 : d ≤ 162)
    (k1 : bx = cd_L x) (k2 : by_ = cd_L y) (k3 : ap = cd_I p) (k4 : aq = cd_I q) (k5 : bu = cd_L d) {post : Int32 → Prop}
    (h : post (cd_I (d.tdiv (Int.gcd (cd_tp p q x y z) d : Int)))) : wpY_denominator post (fh, fl, cx, cy, un, kn, bx, by_, bu, ap, aq, bg, A, B, C) (cd_I z) := by
  have g := cd_g32 (n := cd_tp p q x y z) hd hd2
  have e0 : ¬ cd_I z < (0 : Int32) := by rw [cd_0, cd_lt rz (by omega)]; omega
  have e2 : cd_I z ≤ (2 : Int32) := by
    have e : (2 : Int32) = cd_I 2 := by decide +kernel
    rw [e, cd_le rz (by omega)]; omega
  have eg : ¬ cd_L (Int.gcd (cd_tp p q x y z) d : Int) = 0 := fun q => by have := (cd_Leq0 (by omega)).mp q; omega
  refine br_f hk (br_f e0 (br_t e2 (cd_y_top rz rp rq k1 k2 k3 k4 ?_)))
  rw [k5]
  refine cd_y_div hn hd hd2 (br_f eg ⟨eg, ?_⟩)
  rw [cd_Ldiv (by omega) (by omega) (by omega), cd_li]
  exact h
/-! Conditions -/
def cd_Co (a b c : Int) : Prop := a.natAbs ≤ 9 ∧ b.natAbs ≤ 9 ∧ c.natAbs ≤ 99 ∧ ¬ (a = 0 ∧ b = 0)
theorem cd_x_cond {a b c : Int} (ra : cd_R a) (rb : cd_R b) (rc : cd_R c) {post : Int32 → Prop} (h1 : cd_Co a b c → post 1) (h0 : ¬ cd_Co a b c → post 0) : wpX_isCondition post (cd_I a) (cd_I b) (cd_I c) := by
  unfold wpX_isCondition
  refine cd_x_within cd_9 ra (by omega) (fun qa => br_f cd_10 ?_) (fun qa => br_t rfl (h0 (fun z => qa z.1)))
  refine cd_x_within cd_9 rb (by omega) (fun qb => br_f cd_10 ?_) (fun qb => br_t rfl (h0 (fun z => qb z.2.1)))
  refine cd_x_within cd_99 rc (by omega) (fun qc => br_f cd_10 ?_) (fun qc => br_t rfl (h0 (fun z => qc z.2.2.1)))
  exact cd_if (cd_eq0 ra) (fun a0 => cd_if (cd_eq0 rb) (fun b0 => h0 (fun z => z.2.2.2 ⟨a0, b0⟩)) (fun b0 => h1 ⟨qa, qb, qc, fun z => b0 z.2⟩)) (fun a0 => h1 ⟨qa, qb, qc, fun z => a0 z.1⟩)
theorem cd_y_bad {a b c : Int} (ra : cd_R a) (rb : cd_R b) (rc : cd_R c) {post : Int32 → Prop} (h1 : ¬ cd_Co a b c → post 1) (h0 : cd_Co a b c → post 0) : wpY_bad post (cd_I a) (cd_I b) (cd_I c) := by
  have em : (-9 : Int32) = cd_I (-9) := by decide +kernel
  have em2 : (-99 : Int32) = cd_I (-99) := by decide +kernel
  have e1 : cd_I a < -9 ↔ a < -9 := by rw [em]; exact cd_lt ra (by omega)
  have e2 : (9 : Int32) < cd_I a ↔ 9 < a := by rw [cd_9]; exact cd_lt (by omega) ra
  have e3 : cd_I b < -9 ↔ b < -9 := by rw [em]; exact cd_lt rb (by omega)
  have e4 : (9 : Int32) < cd_I b ↔ 9 < b := by rw [cd_9]; exact cd_lt (by omega) rb
  have e5 : cd_I c < -99 ↔ c < -99 := by rw [em2]; exact cd_lt rc (by omega)
  have e6 : (99 : Int32) < cd_I c ↔ 99 < c := by rw [cd_99]; exact cd_lt (by omega) rc
  unfold cd_Co at h1 h0
  refine cd_if e1 (fun z1 => h1 (by omega)) (fun z1 => cd_if e2 (fun z2 => h1 (by omega)) (fun z2 => cd_if e3 (fun z3 => h1 (by omega)) (fun z3 => cd_if e4 (fun z4 => h1 (by omega)) (fun z4 => cd_if e5 (fun z5 => h1 (by omega)) (fun z5 => cd_if e6 (fun z6 => h1 (by omega)) (fun z6 => ?_))))))
  exact cd_if (cd_eq0 ra) (fun a0 => cd_if (cd_eq0 rb) (fun b0 => h1 (by omega)) (fun b0 => h0 (by omega))) (fun a0 => h0 (by omega))
end
section
/-! The relation -/
def cd_Mem (ks rm : Int32) (K : Nat → Int32) (kn : Int32) (bx by_ bu : Int64) (ap aq : Int32) : Prop :=
  (rm = 0 ∧ kn = 0) ∨ (rm = 1 ∧ kn = 1 ∧ ∃ p q x y d x' y' d' : Int, p.natAbs ≤ 9 ∧ q.natAbs ≤ 9 ∧ cd_Pb x y d ∧ cd_Pb x' y' d' ∧
    K 0 = cd_I (cd_va p q x y) ∧ K 1 = cd_I x ∧ K 2 = cd_I y ∧ ks = cd_I d ∧ bx = cd_L x' ∧ by_ = cd_L y' ∧ bu = cd_L d' ∧ ap = cd_I p ∧ aq = cd_I q ∧
    x * d' = x' * d ∧ y * d' = y' * d)
def cd_Lv (h m : Nat) (L : Nat → Int32) : Prop := h ≤ 10 ∧ 1 ≤ m ∧ m ≤ 8 ∧ ∀ i, i < 8 → ∃ g, g ≤ 10 ∧ L i = nI g
def i_Rel (k : Nat) (u : SX) (v : SY) : Prop :=
  ∃ (a b c : Nat → Int) (h m : Nat) (cx cy cs ks rm : Int32) (A B C L K : Nat → Int32) (cx' cy' un : Int64) (kn : Int32) (bx by_ bu : Int64) (ap aq : Int32) (A' B' C' : Nat → Int32),
    u = (nI h, nI m, cx, cy, cs, ks, rm, A, B, C, L, K) ∧ v = (nI h, nI m, cx', cy', un, kn, bx, by_, bu, ap, aq, L, A', B', C') ∧ cd_Bd a b c ∧ cd_HX a b c A B C ∧ cd_HY a b c A' B' C' ∧ cd_Lv h m L ∧ cd_Mem ks rm K kn bx by_ bu ap aq
theorem cd_rel {k : Nat} {a b c : Nat → Int} {h m : Nat} {cx cy cs ks rm : Int32} {A B C L K : Nat → Int32} {cx' cy' un : Int64} {kn : Int32} {bx by_ bu : Int64} {ap aq : Int32} {A' B' C' : Nat → Int32}
    (HB : cd_Bd a b c) (HX : cd_HX a b c A B C) (HY : cd_HY a b c A' B' C') (LV : cd_Lv h m L) (ME : cd_Mem ks rm K kn bx by_ bu ap aq) : i_Rel k (nI h, nI m, cx, cy, cs, ks, rm, A, B, C, L, K) (nI h, nI m, cx', cy', un, kn, bx, by_, bu, ap, aq, L, A', B', C') :=
  ⟨a, b, c, h, m, cx, cy, cs, ks, rm, A, B, C, L, K, cx', cy', un, kn, bx, by_, bu, ap, aq, A', B', C', rfl, rfl, HB, HX, HY, LV, ME⟩
theorem i_up {k : Nat} {u : SX} {v : SY} (h : i_Rel k u v) : i_Rel (k + 4) u v := h
/-! setting a line -/
theorem cd_x_set {post : SX → Prop} {fc fl cx cy cs ks rm I p q r : Int32} {A B C L K : Nat → Int32} {l : Nat} (hl : l < 14) (e : I = nI l)
    (h : post (fc, fl, cx, cy, cs, ks, rm, upd A l p, upd B l q, upd C l r, L, K)) : wpX_setLine post (fc, fl, cx, cy, cs, ks, rm, A, B, C, L, K) I p q r := by
  subst e
  have v : vp_in (nI l) 14 := vp_in_nI hl (by omega)
  unfold wpX_setLine
  rw [cd_nc hl]
  exact ⟨v, nm_e ⟨v, nm_e ⟨v, nm_e h⟩⟩⟩
theorem cd_y_set {post : SY → Prop} {fh fl : Int32} {cx cy un : Int64} {kn : Int32} {bx by_ bu : Int64} {ap aq I p q r : Int32} {bg A B C : Nat → Int32} {l : Nat} (hl : l < 14) (e : I = nI l)
    (h : post (fh, fl, cx, cy, un, kn, bx, by_, bu, ap, aq, bg, upd A l p, upd B l q, upd C l r)) : wpY_write post (fh, fl, cx, cy, un, kn, bx, by_, bu, ap, aq, bg, A, B, C) I p q r := by
  subst e
  have v : vp_in (nI l) 14 := vp_in_nI hl (by omega)
  unfold wpY_write
  rw [cd_nc hl]
  exact ⟨v, nm_e ⟨v, nm_e ⟨v, nm_e h⟩⟩⟩
/-- a new line at h -/
def cd_pt (a : Nat → Int) (h : Nat) (z : Int) (i : Nat) : Int := if i = h then z else a i
theorem cd_ptX {a : Nat → Int} {h l : Nat} {z : Int} {A : Nat → Int32} (hh : h < 10) (hl : l < 14) (e : A l = cd_I (a (cd_s l))) : upd A (4 + h) (cd_I z) l = cd_I (cd_pt a h z (cd_s l)) := by
  have es : cd_s l = h ↔ l = 4 + h := by unfold cd_s; split <;> omega
  unfold cd_pt
  by_cases o : l = 4 + h
  · rw [if_pos (es.mpr o), o]; exact cd_us
  · rw [if_neg (fun z => o (es.mp z)), cd_un o]; exact e
theorem cd_ptY {a : Nat → Int} {h i : Nat} {z : Int} {A : Nat → Int32} (e : A i = cd_I (a i)) : upd A h (cd_I z) i = cd_I (cd_pt a h z i) := by
  unfold cd_pt
  by_cases o : i = h
  · rw [if_pos o, o]; exact cd_us
  · rw [if_neg o, cd_un o]; exact e
theorem cd_ptB {a b c : Nat → Int} {h : Nat} {x y z : Int} (HB : cd_Bd a b c) (hx : x.natAbs ≤ 9) (hy : y.natAbs ≤ 9) (hz : z.natAbs ≤ 99) : cd_Bd (cd_pt a h x) (cd_pt b h y) (cd_pt c h z) := by
  intro i
  unfold cd_pt
  by_cases o : i = h
  · rw [if_pos o, if_pos o, if_pos o]; exact ⟨hx, hy, hz⟩
  · rw [if_neg o, if_neg o, if_neg o]; exact HB i
/-! the start -/
def cd_a0 (i : Nat) : Int := if i = 10 then 1 else if i = 11 then -1 else 0
def cd_b0 (i : Nat) : Int := if i = 12 then 1 else if i = 13 then -1 else 0
def cd_c0 (i : Nat) : Int := if i = 10 ∨ i = 11 ∨ i = 12 ∨ i = 13 then 50 else 0
theorem cd_bd0 : cd_Bd cd_a0 cd_b0 cd_c0 := by
  intro i
  refine ⟨?_, ?_, ?_⟩
  · unfold cd_a0; split
    · decide
    · split <;> decide
  · unfold cd_b0; split
    · decide
    · split <;> decide
  · unfold cd_c0; split <;> decide
def cd_z : Nat → Int32 := fun _ => 0
theorem cd_hx0 : cd_HX cd_a0 cd_b0 cd_c0 (upd (upd (upd (upd cd_z 0 1) 1 (-1)) 2 0) 3 0) (upd (upd (upd (upd cd_z 0 0) 1 0) 2 1) 3 (-1)) (upd (upd (upd (upd cd_z 0 50) 1 50) 2 50) 3 50) := by
  unfold cd_HX; decide +kernel
theorem cd_hy0 : cd_HY cd_a0 cd_b0 cd_c0 (upd (upd (upd (upd cd_z 10 1) 11 (-1)) 12 0) 13 0) (upd (upd (upd (upd cd_z 10 0) 11 0) 12 1) 13 (-1)) (upd (upd (upd (upd cd_z 10 50) 11 50) 12 50) 13 50) := by
  unfold cd_HY; decide +kernel
/-! both sides offer the same -/
theorem cd_e1 {a b c : Nat → Int} {h : Nat} (hh : h ≤ 10) (x y d : Int) :
    (∃ i j, (i < j ∧ j < 4 + h) ∧ cd_GX a b c h 14 i j x y d) ↔ (∃ i j, (j < i ∧ i < 14 ∧ cd_T h 14 i ∧ cd_T h 14 j) ∧ cd_GY a b c h 14 i j x y d) := by
  refine (cd_prs hh (cd_Ok a b c h 14 x y d)).trans ?_
  constructor
  · rintro ⟨i, j, ⟨h1, h2, t1, t2⟩, g⟩
    exact ⟨i, j, ⟨h1, h2, ⟨t1, by omega⟩, ⟨t2, by omega⟩⟩, g⟩
  · rintro ⟨i, j, ⟨h1, h2, t1, t2⟩, g⟩
    exact ⟨i, j, ⟨h1, h2, t1.1, t2.1⟩, g⟩
theorem cd_e2 {a b c : Nat → Int} {h w : Nat} (hh : h ≤ 10) (x y d : Int) :
    (∃ i j, (i < j ∧ j < 4 + h) ∧ cd_GS a b c h w i j x y d) ↔ (∃ i j, (j < i ∧ i < 14 ∧ cd_T h w i ∧ cd_T h w j) ∧ cd_GT a b c h w i j x y d) :=
  (cd_prs hh (cd_Ok a b c h w x y d ∧ ¬ cd_M a b c w x y d)).trans (cd_prw (cd_Ok a b c h w x y d))
theorem cd_q5 {P : Nat → Nat → Prop} {G : Nat → Nat → Int → Int → Int → Prop} {P' : Nat → Nat → Prop} {G' : Nat → Nat → Int → Int → Int → Prop} (e : ∀ x y d, (∃ i j, P i j ∧ G i j x y d) ↔ (∃ i j, P' i j ∧ G' i j x y d)) :
    (∃ i j x y d, P i j ∧ G i j x y d) ↔ (∃ i j x y d, P' i j ∧ G' i j x y d) := by
  constructor
  · rintro ⟨i, j, x, y, d, g⟩
    obtain ⟨i', j', g'⟩ := (e x y d).mp ⟨i, j, g⟩
    exact ⟨i', j', x, y, d, g'⟩
  · rintro ⟨i, j, x, y, d, g⟩
    obtain ⟨i', j', g'⟩ := (e x y d).mpr ⟨i, j, g⟩
    exact ⟨i', j', x, y, d, g'⟩
/-! counting -/
noncomputable def cd_ct (P : Nat → Prop) : Nat → Nat
  | 0 => 0
  | k + 1 => cd_ct P k + @ite Nat (P k) (Classical.propDecidable (P k)) 1 0
theorem cd_ctT {P : Nat → Prop} {k : Nat} (h : P k) : cd_ct P (k + 1) = cd_ct P k + 1 := by
  show cd_ct P k + @ite Nat (P k) (Classical.propDecidable (P k)) 1 0 = cd_ct P k + 1
  rw [if_pos h]
theorem cd_ctF {P : Nat → Prop} {k : Nat} (h : ¬ P k) : cd_ct P (k + 1) = cd_ct P k := by
  show cd_ct P k + @ite Nat (P k) (Classical.propDecidable (P k)) 1 0 = cd_ct P k
  rw [if_neg h]; rfl
/-- condition k can be left out -/
def cd_Sp (a b c : Nat → Int) (h k : Nat) : Prop := ¬ (∃ i j x y d, (j < i ∧ i < 14 ∧ cd_T h k i ∧ cd_T h k j) ∧ cd_GT a b c h k i j x y d)
theorem cd_x_spare4 {a b c : Nat → Int} {A B C : Nat → Int32} (HB : cd_Bd a b c) (H : cd_HX a b c A B C) {h : Nat} (hh : h ≤ 10) {post : Int32 → SX → Prop} {fl ks rm : Int32} {L K : Nat → Int32}
    (hp : ∀ cx cy cs, post (nI (cd_ct (cd_Sp a b c h) h)) (nI h, fl, cx, cy, cs, ks, rm, A, B, C, L, K)) :
    ∀ m k cx cy cs, k + m = h → wX_spare_4 post (m + 1) (nI (cd_ct (cd_Sp a b c h) k)) (nI (4 + k)) (nI h) fl cx cy cs ks rm A B C L K := by
  intro m
  induction m with
  | zero =>
    intro k cx cy cs hk
    have ek : k = h := by omega
    rw [ek]
    have e : (4 : Int32) + nI h ≤ nI (4 + h) := by rw [cd_4]; exact nI_le (by omega) (by omega)
    exact br_t e (hp cx cy cs)
  | succ m ih =>
    intro k cx cy cs hk
    have e : ¬ (4 : Int32) + nI h ≤ nI (4 + k) := by rw [cd_4]; exact nI_ge (by omega) (by omega)
    have es : cd_s (4 + k) = k := by unfold cd_s; rw [if_neg (by omega)]; omega
    have q5 := cd_q5 (cd_e2 (a := a) (b := b) (c := c) (w := k) hh)
    refine br_f e (cd_x_isSpare HB H hh (Lo := 4 + k) (by omega) (fun q cx cy cs => ?_) (fun q cx cy cs => ?_))
    · rw [es] at q
      have z : ¬ cd_Sp a b c h k := fun n => n (q5.mp q)
      have g := ih (k + 1) cx cy cs (by omega)
      rw [cd_ctF z] at g
      exact br_t rfl (nm_r (nI_1 (4 + k)) g)
    · rw [es] at q
      have z : cd_Sp a b c h k := fun n => q (q5.mpr n)
      have g := ih (k + 1) cx cy cs (by omega)
      rw [cd_ctT z] at g
      exact br_f cd_10 (nm_r (nI_1 _) (nm_r (nI_1 (4 + k)) g))
theorem cd_y_spare4 {a b c : Nat → Int} {A B C : Nat → Int32} (HB : cd_Bd a b c) (H : cd_HY a b c A B C) {h : Nat} (hh : h ≤ 10) {post : Int32 → SY → Prop} {fl kn : Int32} {bx by_ bu : Int64} {ap aq : Int32} {bg : Nat → Int32}
    (hp : ∀ cx cy un, post (nI (cd_ct (cd_Sp a b c h) h)) (nI h, fl, cx, cy, un, kn, bx, by_, bu, ap, aq, bg, A, B, C)) :
    ∀ m k cx cy un, k + m = h → wY_spare_4 post (m + 1) (nI (cd_ct (cd_Sp a b c h) k)) (nI k) (nI h) fl cx cy un kn bx by_ bu ap aq bg A B C := by
  intro m
  induction m with
  | zero =>
    intro k cx cy un hk
    have ek : k = h := by omega
    rw [ek]
    exact br_t (nI_le (by omega) (by omega)) (hp cx cy un)
  | succ m ih =>
    intro k cx cy un hk
    refine br_f (nI_ge (by omega) (by omega)) (cd_y_spared HB H hh (w := k) (by omega) (fun q cx cy un => ?_) (fun q cx cy un => ?_))
    · have z : ¬ cd_Sp a b c h k := fun n => n q
      have g := ih (k + 1) cx cy un (by omega)
      rw [cd_ctF z] at g
      exact br_t rfl (nm_r (nI_1 k) g)
    · have z : cd_Sp a b c h k := q
      have g := ih (k + 1) cx cy un (by omega)
      rw [cd_ctT z] at g
      exact br_f cd_10 (nm_r (nI_1 _) (nm_r (nI_1 k) g))
end
section
/-! What is owed -/
theorem i_vc0 : wpX_init (fun u => wpY_init (fun v => i_Rel 0 u v)) := by
  unfold wpX_init
  refine cd_x_set (l := 0) (by omega) (by decide +kernel) ?_
  refine cd_x_set (l := 1) (by omega) (by decide +kernel) ?_
  refine cd_x_set (l := 2) (by omega) (by decide +kernel) ?_
  refine cd_x_set (l := 3) (by omega) (by decide +kernel) ?_
  dsimp only
  unfold wpY_init
  refine cd_y_set (l := 10) (by omega) (by decide +kernel) ?_
  refine cd_y_set (l := 11) (by omega) (by decide +kernel) ?_
  refine cd_y_set (l := 12) (by omega) (by decide +kernel) ?_
  refine cd_y_set (l := 13) (by omega) (by decide +kernel) ?_
  exact cd_rel (h := 0) (m := 1) cd_bd0 cd_hx0 cd_hy0 ⟨by omega, by omega, by omega, fun i _ => ⟨0, by omega, rfl⟩⟩ (Or.inl ⟨rfl, rfl⟩)
theorem i_vc_add {k : Nat} {u : SX} {v : SY} (I : i_Rel k u v) (hk : k + 4 ≤ 2048) (v1 : Int32) (v2 : Int32) (v3 : Int32) : wpX_add (fun r u' => wpY_add (fun r' v' => r' = r ∧ i_Rel (k + 4) u' v') v v1 v2 v3) u v1 v2 v3 := by
  obtain ⟨z1, r1, rfl⟩ := cd_of v1
  obtain ⟨z2, r2, rfl⟩ := cd_of v2
  obtain ⟨z3, r3, rfl⟩ := cd_of v3
  obtain ⟨a, b, c, h, m, cx, cy, cs, ks, rm, A, B, C, L, K, cx', cy', un, kn, bx, by_, bu, ap, aq, A', B', C', rfl, rfl, HB, HX, HY, LV, ME⟩ := I
  have J : ∀ {cx cy cs cx' cy' un}, i_Rel (k + 4) (nI h, nI m, cx, cy, cs, ks, rm, A, B, C, L, K) (nI h, nI m, cx', cy', un, kn, bx, by_, bu, ap, aq, L, A', B', C') := cd_rel HB HX HY LV ME
  obtain ⟨h10, m1, m8, lv⟩ := LV
  have e10 : nI h < (10 : Int32) ↔ h < 10 := nI_ltI (b := 10) (by omega) (by omega)
  have f10 : nI h = (10 : Int32) ↔ h = 10 := nI_eq (b := 10) (by omega) (by omega)
  unfold wpX_add
  refine cd_x_cond r1 r2 r3 (fun co => br_f cd_10 (cd_if e10 (fun lt => ?_) (fun ge => ?_))) (fun co => br_t rfl ?_)
  · refine cd_x_set (l := 4 + h) (by omega) (cd_4 h) ?_
    refine nm_r (nI_1 h) ?_
    dsimp only
    unfold wpY_add
    refine cd_y_bad r1 r2 r3 (fun n => absurd co n) (fun _ => br_t rfl (br_f (fun z => by have := f10.mp z; omega) ?_))
    refine cd_y_set (l := h) (by omega) rfl ?_
    refine nm_r (nI_1 h) ⟨rfl, ?_⟩
    exact cd_rel (cd_ptB (h := h) HB co.1 co.2.1 co.2.2.1) (fun l hl => ⟨cd_ptX lt hl (HX l hl).1, cd_ptX lt hl (HX l hl).2.1, cd_ptX lt hl (HX l hl).2.2⟩) (fun i hi => ⟨cd_ptY (HY i hi).1, cd_ptY (HY i hi).2.1, cd_ptY (HY i hi).2.2⟩) ⟨by omega, m1, m8, lv⟩ ME
  · dsimp only
    unfold wpY_add
    exact cd_y_bad r1 r2 r3 (fun n => absurd co n) (fun _ => br_t rfl (br_t (f10.mpr (by omega)) ⟨rfl, J⟩))
  · dsimp only
    unfold wpY_add
    exact cd_y_bad r1 r2 r3 (fun _ => br_f cd_10 ⟨rfl, J⟩) (fun n => absurd n co)
theorem i_vc_push {k : Nat} {u : SX} {v : SY} (I : i_Rel k u v) (hk : k + 4 ≤ 2048) : wpX_push (fun r u' => wpY_push (fun r' v' => r' = r ∧ i_Rel (k + 4) u' v') v) u := by
  obtain ⟨a, b, c, h, m, cx, cy, cs, ks, rm, A, B, C, L, K, cx', cy', un, kn, bx, by_, bu, ap, aq, A', B', C', rfl, rfl, HB, HX, HY, LV, ME⟩ := I
  have J : i_Rel (k + 4) (nI h, nI m, cx, cy, cs, ks, rm, A, B, C, L, K) (nI h, nI m, cx', cy', un, kn, bx, by_, bu, ap, aq, L, A', B', C') := cd_rel HB HX HY LV ME
  obtain ⟨h10, m1, m8, lv⟩ := LV
  have e8 : nI m < (8 : Int32) ↔ m < 8 := nI_ltI (b := 8) (by omega) (by omega)
  have f8 : nI m = (8 : Int32) ↔ m = 8 := nI_eq (b := 8) (by omega) (by omega)
  have cl : (nI m).toNatClampNeg = m := nI_clamp (by omega)
  refine cd_if e8 (fun lt => ?_) (fun ge => br_t (f8.mpr (by omega)) ⟨rfl, J⟩)
  have v : vp_in (nI m) 8 := vp_in_nI lt (by omega)
  refine ⟨v, nm_e (nm_r (nI_1 m) (br_f (fun z => by have := f8.mp z; omega) ⟨v, nm_e (nm_r (nI_1 m) ⟨rfl, ?_⟩)⟩))⟩
  refine cd_rel HB HX HY ⟨h10, by omega, by omega, fun i hi => ?_⟩ ME
  rw [cl]
  by_cases o : i = m
  · rw [o]; exact ⟨h, h10, cd_us⟩
  · rw [cd_un o]; exact lv i hi
theorem i_vc_pop {k : Nat} {u : SX} {v : SY} (I : i_Rel k u v) (hk : k + 4 ≤ 2048) : wpX_pop (fun r u' => wpY_pop (fun r' v' => r' = r ∧ i_Rel (k + 4) u' v') v) u := by
  obtain ⟨a, b, c, h, m, cx, cy, cs, ks, rm, A, B, C, L, K, cx', cy', un, kn, bx, by_, bu, ap, aq, A', B', C', rfl, rfl, HB, HX, HY, LV, ME⟩ := I
  have J : i_Rel (k + 4) (nI h, nI m, cx, cy, cs, ks, rm, A, B, C, L, K) (nI h, nI m, cx', cy', un, kn, bx, by_, bu, ap, aq, L, A', B', C') := cd_rel HB HX HY LV ME
  obtain ⟨h10, m1, m8, lv⟩ := LV
  have e1 : (1 : Int32) < nI m ↔ 1 < m := nI_ltI (a := 1) (by omega) (by omega)
  have f1 : nI m = (1 : Int32) ↔ m = 1 := nI_eq (b := 1) (by omega) (by omega)
  refine cd_if e1 (fun lt => ?_) (fun ge => br_t (f1.mpr (by omega)) ⟨rfl, J⟩)
  obtain ⟨n, rfl⟩ : ∃ n, m = n + 1 := ⟨m - 1, by omega⟩
  have v : vp_in (nI n) 8 := vp_in_nI (by omega) (by omega)
  have cl : (nI n).toNatClampNeg = n := nI_clamp (by omega)
  obtain ⟨g, hg, eg⟩ := lv n (by omega)
  have eL : L (nI n).toNatClampNeg = nI g := by rw [cl]; exact eg
  refine nm_r (nI_pred n) ⟨v, nm_r eL (br_f (fun z => by have := f1.mp z; omega) (nm_r (nI_pred n) ⟨v, nm_r eL ⟨rfl, ?_⟩⟩))⟩
  exact cd_rel HB HX HY ⟨hg, by omega, by omega, lv⟩ ME
theorem i_vc_possible {k : Nat} {u : SX} {v : SY} (I : i_Rel k u v) (hk : k + 4 ≤ 2048) : wpX_possible (fun r u' => wpY_possible (fun r' v' => r' = r ∧ i_Rel (k + 4) u' v') v) u := by
  obtain ⟨a, b, c, h, m, cx, cy, cs, ks, rm, A, B, C, L, K, cx', cy', un, kn, bx, by_, bu, ap, aq, A', B', C', rfl, rfl, HB, HX, HY, LV, ME⟩ := I
  have J : ∀ {cx cy cs cx' cy' un}, i_Rel (k + 4) (nI h, nI m, cx, cy, cs, ks, rm, A, B, C, L, K) (nI h, nI m, cx', cy', un, kn, bx, by_, bu, ap, aq, L, A', B', C') := cd_rel HB HX HY LV ME
  have q5 := cd_q5 (cd_e1 (a := a) (b := b) (c := c) LV.1)
  refine cd_x_possible HB HX LV.1 (fun q cx cy cs => ?_) (fun q cx cy cs => ?_)
  · exact cd_y_possible HB HY LV.1 (fun _ _ _ _ => ⟨rfl, J⟩) (fun n => absurd (q5.mp q) n)
  · exact cd_y_possible HB HY LV.1 (fun n => absurd (q5.mpr n) q) (fun _ _ _ _ => ⟨rfl, J⟩)
theorem i_vc_best {k : Nat} {u : SX} {v : SY} (I : i_Rel k u v) (hk : k + 4 ≤ 2048) (v1 : Int32) (v2 : Int32) : wpX_best (fun r u' => wpY_best (fun r' v' => r' = r ∧ i_Rel (k + 4) u' v') v v1 v2) u v1 v2 := by
  obtain ⟨p, rp, rfl⟩ := cd_of v1
  obtain ⟨q, rq, rfl⟩ := cd_of v2
  obtain ⟨a, b, c, h, m, cx, cy, cs, ks, rm, A, B, C, L, K, cx', cy', un, kn, bx, by_, bu, ap, aq, A', B', C', rfl, rfl, HB, HX, HY, LV, ME⟩ := I
  have J : i_Rel (k + 4) (nI h, nI m, cx, cy, cs, ks, rm, A, B, C, L, K) (nI h, nI m, cx', cy', un, kn, bx, by_, bu, ap, aq, L, A', B', C') := cd_rel HB HX HY LV ME
  refine cd_x_best HB HX LV.1 rp rq (fun hp hq r x y d cx cy cs ks rm K N kx => ?_) (fun no => ?_)
  · refine cd_y_best HB HY LV.1 rp rq (fun _ _ r' x' y' d' cx' cy' un bx by_ bu N' ky => ?_) (fun no => absurd ⟨hp, hq⟩ no)
    have e : ∀ x y d, (∃ i j, cd_VX (4 + h) (4 + h) (4 + h + 1) i j ∧ cd_GX a b c h 14 i j x y d) ↔ (∃ i j, cd_VY (cd_T h 14) 14 0 i j ∧ cd_GY a b c h 14 i j x y d) := by
      intro x y d
      have e1 := cd_e1 (a := a) (b := b) (c := c) LV.1 x y d
      constructor
      · rintro ⟨i, j, v, g⟩
        obtain ⟨i', j', v', g'⟩ := e1.mp ⟨i, j, (cd_VXe i j).mp v, g⟩
        exact ⟨i', j', (cd_VYe i' j').mpr v', g'⟩
      · rintro ⟨i, j, v, g⟩
        obtain ⟨i', j', v', g'⟩ := e1.mpr ⟨i, j, (cd_VYe i j).mp v, g⟩
        exact ⟨i', j', (cd_VXe i' j').mpr v', g'⟩
    obtain ⟨er, eq⟩ := cd_Inv2 e N N'
    subst er
    refine ⟨rfl, cd_rel HB HX HY LV ?_⟩
    have P' := cd_InvP (fun i j x y d g => cd_Atb HB g.1) N'
    rcases cd_InvP (fun i j x y d g => cd_Atb HB g.1) N with r0 | ⟨r1, P⟩
    · exact Or.inl ⟨by rw [kx.1, r0]; exact cd_0.symm, by rw [r0]; exact cd_0.symm⟩
    · obtain ⟨k0, k1, k2, k3⟩ := kx.2 r1
      obtain ⟨y1, y2, y3⟩ := ky.2 r1
      have P2 : cd_Pb x' y' d' := by
        rcases P' with r0 | ⟨_, P'⟩
        · omega
        · exact P'
      obtain ⟨ex, ey⟩ := eq r1
      exact Or.inr ⟨by rw [kx.1, r1]; exact cd_1.symm, by rw [r1]; exact cd_1.symm, p, q, x, y, d, x', y', d', hp, hq, P, P2, k0, k1, k2, k3, y1, y2, y3, rfl, rfl, ex, ey⟩
  · exact cd_y_best HB HY LV.1 rp rq (fun hp hq => absurd ⟨hp, hq⟩ no) (fun _ => ⟨rfl, J⟩)
theorem i_vc_numerator {k : Nat} {u : SX} {v : SY} (I : i_Rel k u v) (hk : k + 4 ≤ 2048) (v1 : Int32) : wpX_numerator (fun r => wpY_numerator (fun r' => r' = r ∧ i_Rel (k + 4) u v) v v1) u v1 := by
  obtain ⟨z, rz, rfl⟩ := cd_of v1
  obtain ⟨a, b, c, h, m, cx, cy, cs, ks, rm, A, B, C, L, K, cx', cy', un, kn, bx, by_, bu, ap, aq, A', B', C', rfl, rfl, HB, HX, HY, LV, ME⟩ := I
  have J : i_Rel (k + 4) (nI h, nI m, cx, cy, cs, ks, rm, A, B, C, L, K) (nI h, nI m, cx', cy', un, kn, bx, by_, bu, ap, aq, L, A', B', C') := cd_rel HB HX HY LV ME
  have e0 : cd_I z < (0 : Int32) ↔ z < 0 := by rw [cd_0]; exact cd_lt rz (by omega)
  have e2 : cd_I z ≤ (2 : Int32) ↔ z ≤ 2 := by
    have e : (2 : Int32) = cd_I 2 := by decide +kernel
    rw [e]; exact cd_le rz (by omega)
  have xz : ∀ {post : Int32 → Prop}, (rm = 0 ∨ ¬ (0 ≤ z ∧ z ≤ 2)) → post 0 → wpX_numerator post (nI h, nI m, cx, cy, cs, ks, rm, A, B, C, L, K) (cd_I z) := by
    intro post q hp
    unfold wpX_numerator
    exact cd_x_isr rz (fun n1 n2 => by rcases q with q | q; exact absurd q n1; exact absurd n2 q) (fun _ => br_t rfl hp)
  rcases ME with ⟨r0, k0⟩ | ⟨r1, k1, p, q, x, y, d, x', y', d', hp, hq, P, P', x0, x1, x2, x3, y1, y2, y3, y4, y5, ex, ey⟩
  · exact xz (Or.inl r0) (br_t k0 ⟨rfl, J⟩)
  · have nr : ¬ rm = 0 := by rw [r1]; exact cd_10
    have nk : ¬ kn = 0 := by rw [k1]; exact cd_10
    by_cases hz : 0 ≤ z ∧ z ≤ 2
    · have nx : K z.toNat = cd_I (cd_tp p q x y z) := by
        unfold cd_tp
        by_cases z1 : z = 1
        · rw [if_pos z1, z1]; exact x1
        · by_cases z2 : z = 2
          · rw [if_neg z1, if_pos z2, z2]; exact x2
          · have z0 : z = 0 := by omega
            rw [if_neg z1, if_neg z2, z0]; exact x0
      have bnd : ∀ {x y : Int}, x.natAbs ≤ 1782 → y.natAbs ≤ 1782 → (cd_tp p q x y z).natAbs ≤ 32076 := by
        intro x y bx by_
        have bv := cd_vab hp hq bx by_
        unfold cd_tp
        split
        · omega
        · split <;> omega
      have et : cd_tp p q x y z * d' = cd_tp p q x' y' z * d := by
        unfold cd_tp
        by_cases z1 : z = 1
        · rw [if_pos z1, if_pos z1]; exact ex
        · by_cases z2 : z = 2
          · rw [if_neg z1, if_pos z2, if_neg z1, if_pos z2]; exact ey
          · rw [if_neg z1, if_neg z2, if_neg z1, if_neg z2]; exact cd_val ex ey
      have fr := cd_frac P.2.2.1 P'.2.2.1 et
      refine cd_x_num rz nr hz (bnd P.1 P.2.1) P.2.2.1 P.2.2.2 nx x3 ?_
      refine cd_y_num rz (cd_RB hp (by decide)) (cd_RB hq (by decide)) nk hz (bnd P'.1 P'.2.1) P'.2.2.1 P'.2.2.2 y1 y2 y4 y5 y3 ?_
      exact ⟨by rw [fr.1], J⟩
    · refine xz (Or.inr hz) (br_f nk (cd_if e0 (fun _ => ⟨rfl, J⟩) (fun z0 => cd_if e2 (fun z2 => absurd ⟨by omega, z2⟩ hz) (fun _ => ⟨rfl, J⟩))))
theorem i_vc_denominator {k : Nat} {u : SX} {v : SY} (I : i_Rel k u v) (hk : k + 4 ≤ 2048) (v1 : Int32) : wpX_denominator (fun r => wpY_denominator (fun r' => r' = r ∧ i_Rel (k + 4) u v) v v1) u v1 := by
  obtain ⟨z, rz, rfl⟩ := cd_of v1
  obtain ⟨a, b, c, h, m, cx, cy, cs, ks, rm, A, B, C, L, K, cx', cy', un, kn, bx, by_, bu, ap, aq, A', B', C', rfl, rfl, HB, HX, HY, LV, ME⟩ := I
  have J : i_Rel (k + 4) (nI h, nI m, cx, cy, cs, ks, rm, A, B, C, L, K) (nI h, nI m, cx', cy', un, kn, bx, by_, bu, ap, aq, L, A', B', C') := cd_rel HB HX HY LV ME
  have e0 : cd_I z < (0 : Int32) ↔ z < 0 := by rw [cd_0]; exact cd_lt rz (by omega)
  have e2 : cd_I z ≤ (2 : Int32) ↔ z ≤ 2 := by
    have e : (2 : Int32) = cd_I 2 := by decide +kernel
    rw [e]; exact cd_le rz (by omega)
  have xz : ∀ {post : Int32 → Prop}, (rm = 0 ∨ ¬ (0 ≤ z ∧ z ≤ 2)) → post 0 → wpX_denominator post (nI h, nI m, cx, cy, cs, ks, rm, A, B, C, L, K) (cd_I z) := by
    intro post q hp
    unfold wpX_denominator
    exact cd_x_isr rz (fun n1 n2 => by rcases q with q | q; exact absurd q n1; exact absurd n2 q) (fun _ => br_t rfl hp)
  rcases ME with ⟨r0, k0⟩ | ⟨r1, k1, p, q, x, y, d, x', y', d', hp, hq, P, P', x0, x1, x2, x3, y1, y2, y3, y4, y5, ex, ey⟩
  · exact xz (Or.inl r0) (br_t k0 ⟨rfl, J⟩)
  · have nr : ¬ rm = 0 := by rw [r1]; exact cd_10
    have nk : ¬ kn = 0 := by rw [k1]; exact cd_10
    by_cases hz : 0 ≤ z ∧ z ≤ 2
    · have nx : K z.toNat = cd_I (cd_tp p q x y z) := by
        unfold cd_tp
        by_cases z1 : z = 1
        · rw [if_pos z1, z1]; exact x1
        · by_cases z2 : z = 2
          · rw [if_neg z1, if_pos z2, z2]; exact x2
          · have z0 : z = 0 := by omega
            rw [if_neg z1, if_neg z2, z0]; exact x0
      have bnd : ∀ {x y : Int}, x.natAbs ≤ 1782 → y.natAbs ≤ 1782 → (cd_tp p q x y z).natAbs ≤ 32076 := by
        intro x y bx by_
        have bv := cd_vab hp hq bx by_
        unfold cd_tp
        split
        · omega
        · split <;> omega
      have et : cd_tp p q x y z * d' = cd_tp p q x' y' z * d := by
        unfold cd_tp
        by_cases z1 : z = 1
        · rw [if_pos z1, if_pos z1]; exact ex
        · by_cases z2 : z = 2
          · rw [if_neg z1, if_pos z2, if_neg z1, if_pos z2]; exact ey
          · rw [if_neg z1, if_neg z2, if_neg z1, if_neg z2]; exact cd_val ex ey
      have fr := cd_frac P.2.2.1 P'.2.2.1 et
      refine cd_x_den rz nr hz (bnd P.1 P.2.1) P.2.2.1 P.2.2.2 nx x3 ?_
      refine cd_y_den rz (cd_RB hp (by decide)) (cd_RB hq (by decide)) nk hz (bnd P'.1 P'.2.1) P'.2.2.1 P'.2.2.2 y1 y2 y4 y5 y3 ?_
      exact ⟨by rw [fr.2], J⟩
    · refine xz (Or.inr hz) (br_f nk (cd_if e0 (fun _ => ⟨rfl, J⟩) (fun z0 => cd_if e2 (fun z2 => absurd ⟨by omega, z2⟩ hz) (fun _ => ⟨rfl, J⟩))))
theorem i_vc_test {k : Nat} {u : SX} {v : SY} (I : i_Rel k u v) (hk : k + 4 ≤ 2048) (v1 : Int32) (v2 : Int32) (v3 : Int32) : wpX_test (fun r => wpY_test (fun r' => r' = r ∧ i_Rel (k + 4) u v) v v1 v2 v3) u v1 v2 v3 := by
  obtain ⟨z1, r1, rfl⟩ := cd_of v1
  obtain ⟨z2, r2, rfl⟩ := cd_of v2
  obtain ⟨z3, r3, rfl⟩ := cd_of v3
  obtain ⟨a, b, c, h, m, cx, cy, cs, ks, rm, A, B, C, L, K, cx', cy', un, kn, bx, by_, bu, ap, aq, A', B', C', rfl, rfl, HB, HX, HY, LV, ME⟩ := I
  have J : i_Rel (k + 4) (nI h, nI m, cx, cy, cs, ks, rm, A, B, C, L, K) (nI h, nI m, cx', cy', un, kn, bx, by_, bu, ap, aq, L, A', B', C') := cd_rel HB HX HY LV ME
  rcases ME with ⟨r0, k0⟩ | ⟨rr, kk, p, q, x, y, d, x', y', d', hp, hq, P, P', x0, x1, x2, x3, y1, y2, y3, y4, y5, ex, ey⟩
  · exact br_t r0 (br_t k0 ⟨rfl, J⟩)
  · have nr : ¬ rm = 0 := by rw [rr]; exact cd_10
    have nk : ¬ kn = 0 := by rw [kk]; exact cd_10
    refine br_f nr (cd_x_cond r1 r2 r3 (fun co => br_f cd_10 ?_) (fun co => br_t rfl (br_f nk (cd_y_bad r1 r2 r3 (fun _ => br_f cd_10 ⟨rfl, J⟩) (fun n => absurd n co)))))
    obtain ⟨c1, c2⟩ := cd_cmp (a := z1) (b := z2) (c := z3) P.2.2.1 P'.2.2.1 ex ey
    obtain ⟨b1, b2, b3, b4⟩ := co
    have co : cd_Co z1 z2 z3 := ⟨b1, b2, b3, b4⟩
    have t1 : d.natAbs ≤ 162 := by have := P.2.2; clear b1 b2 b3 b4 hp hq co c1 c2; omega
    have t2 : d'.natAbs ≤ 162 := by have := P'.2.2; clear b1 b2 b3 b4 hp hq co c1 c2 t1; omega
    have sm : ∀ {x y : Int}, x.natAbs ≤ 1782 → y.natAbs ≤ 1782 → (z1 * x + z2 * y).natAbs ≤ 32076 := by
      intro x y bx by_
      have m1 := cd_bm b1 bx
      have m2 := cd_bm b2 by_
      clear t1 t2 b1 b2 b3 b4 hp hq co c1 c2 bx by_
      omega
    have l1 := sm P.1 P.2.1
    have l2 := sm P'.1 P'.2.1
    have l3 := cd_bm b3 t1
    have l4 := cd_bm b3 t2
    have eL : cd_I z1 * K 1 + cd_I z2 * K 2 = cd_I (z1 * x + z2 * y) := by rw [x1, x2, cd_mul, cd_mul, cd_add]
    have eR : cd_I z3 * ks = cd_I (z3 * d) := by rw [x3, cd_mul]
    have fL : (cd_I z1).toInt64 * bx + (cd_I z2).toInt64 * by_ = cd_L (z1 * x' + z2 * y') := by rw [y1, y2, cd_il r1, cd_il r2, cd_Lmul, cd_Lmul, cd_Ladd]
    have fR : (cd_I z3).toInt64 * bu = cd_L (z3 * d') := by rw [y3, cd_il r3, cd_Lmul]
    have E1 := cd_eq (cd_RB l1 (by decide)) (cd_RB l3 (by decide))
    have E2 := cd_le (cd_RB l3 (by decide)) (cd_RB l1 (by decide))
    have F1 := cd_Leq (cd_QB l2 (by decide)) (cd_QB l4 (by decide))
    have F2 := cd_Lle (cd_QB l4 (by decide)) (cd_QB l2 (by decide))
    have yb : ∀ {post : Int32 → Prop}, (z1 * x' + z2 * y' = z3 * d' → post 1) → (¬ z1 * x' + z2 * y' = z3 * d' → z3 * d' ≤ z1 * x' + z2 * y' → post 0) → (¬ z1 * x' + z2 * y' = z3 * d' → ¬ z3 * d' ≤ z1 * x' + z2 * y' → post 2) → wpY_test post (nI h, nI m, cx', cy', un, kn, bx, by_, bu, ap, aq, L, A', B', C') (cd_I z1) (cd_I z2) (cd_I z3) := by
      intro post q1 q2 q3
      exact br_f nk (cd_y_bad r1 r2 r3 (fun n => absurd co n) (fun _ => br_t rfl (nm_r fL (nm_r fR (cd_if F1 q1 (fun t1 => cd_if F2 (q2 t1) (q3 t1)))))))
    clear l1 l2 l3 l4 t1 t2 b1 b2 b3 b4 hp hq
    refine nm_r eL (nm_r eR (cd_if E1 (fun t1 => ?_) (fun t1 => cd_if E2 (fun t2 => ?_) (fun t2 => ?_))))
    · exact yb (fun _ => ⟨rfl, J⟩) (fun n => absurd (c2.mp t1) n) (fun n => absurd (c2.mp t1) n)
    · exact yb (fun n => absurd (c2.mpr n) t1) (fun _ _ => ⟨rfl, J⟩) (fun n n2 => absurd (c1.mpr (by omega)) (by omega))
    · exact yb (fun n => absurd (c2.mpr n) t1) (fun n n2 => absurd (c1.mp (by omega)) (by omega)) (fun _ _ => ⟨rfl, J⟩)
theorem i_vc_spare {k : Nat} {u : SX} {v : SY} (I : i_Rel k u v) (hk : k + 4 ≤ 2048) : wpX_spare (fun r u' => wpY_spare (fun r' v' => r' = r ∧ i_Rel (k + 4) u' v') v) u := by
  obtain ⟨a, b, c, h, m, cx, cy, cs, ks, rm, A, B, C, L, K, cx', cy', un, kn, bx, by_, bu, ap, aq, A', B', C', rfl, rfl, HB, HX, HY, LV, ME⟩ := I
  have J : ∀ {cx cy cs cx' cy' un}, i_Rel (k + 4) (nI h, nI m, cx, cy, cs, ks, rm, A, B, C, L, K) (nI h, nI m, cx', cy', un, kn, bx, by_, bu, ap, aq, L, A', B', C') := cd_rel HB HX HY LV ME
  refine ⟨h + 1, cd_x_spare4 HB HX LV.1 (fun cx cy cs => ?_) h 0 cx cy cs (by omega)⟩
  exact ⟨h + 1, cd_y_spare4 HB HY LV.1 (fun cx' cy' un => ⟨rfl, J⟩) h 0 cx' cy' un (by omega)⟩
end
