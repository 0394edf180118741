/-! Crossings of lines, over Int; index i of the reference's order -/
def cd_D (a b : Nat → Int) (i j : Nat) : Int := a i * b j - a j * b i
def cd_X (b c : Nat → Int) (i j : Nat) : Int := c i * b j - c j * b i
def cd_Y (a c : Nat → Int) (i j : Nat) : Int := a i * c j - a j * c i
/-- turned by the sign of d -/
def cd_sg (d z : Int) : Int := if d < 0 then -z else z
theorem cd_sgn {d z : Int} (h : d < 0) : cd_sg d z = -z := if_pos h
theorem cd_sgp {d z : Int} (h : ¬ d < 0) : cd_sg d z = z := if_neg h
theorem cd_sg2 {d z : Int} (h : d ≠ 0) : cd_sg (-d) (-z) = cd_sg d z := by
  unfold cd_sg
  by_cases h1 : d < 0
  · rw [if_neg (by omega), if_pos h1]
  · rw [if_pos (by omega), if_neg h1]; omega
theorem cd_sgb (d z : Int) : (cd_sg d z).natAbs = z.natAbs := by
  unfold cd_sg
  by_cases h1 : d < 0
  · rw [if_pos h1]; omega
  · rw [if_neg h1]
theorem cd_sg0 {d : Int} (h : d ≠ 0) : 0 < cd_sg d d := by
  unfold cd_sg
  by_cases h1 : d < 0
  · rw [if_pos h1]; omega
  · rw [if_neg h1]; omega
/-- the line's index, of the condition's row and of the box, is there -/
def cd_Th (h i : Nat) : Prop := i < 14 ∧ (i < h ∨ 10 ≤ i)
def cd_M (a b c : Nat → Int) (i : Nat) (x y d : Int) : Prop := a i * x + b i * y ≤ c i * d
/-- the point meets every line that is there, but w -/
def cd_Ok (a b c : Nat → Int) (h w : Nat) (x y d : Int) : Prop := ∀ i, cd_Th h i → i ≠ w → cd_M a b c i x y d
/-- lines i and j cross at (x/d, y/d) -/
def cd_At (a b c : Nat → Int) (i j : Nat) (x y d : Int) : Prop :=
  cd_D a b i j ≠ 0 ∧ x = cd_sg (cd_D a b i j) (cd_X b c i j) ∧ y = cd_sg (cd_D a b i j) (cd_Y a c i j) ∧ d = cd_sg (cd_D a b i j) (cd_D a b i j)
theorem cd_Dsw (a b : Nat → Int) (i j : Nat) : cd_D a b j i = -cd_D a b i j := by unfold cd_D; omega
theorem cd_Xsw (b c : Nat → Int) (i j : Nat) : cd_X b c j i = -cd_X b c i j := by unfold cd_X; omega
theorem cd_Ysw (a c : Nat → Int) (i j : Nat) : cd_Y a c j i = -cd_Y a c i j := by unfold cd_Y; omega
theorem cd_Dii (a b : Nat → Int) (i : Nat) : cd_D a b i i = 0 := by unfold cd_D; omega
theorem cd_Atsw {a b c : Nat → Int} {i j : Nat} {x y d : Int} (h : cd_At a b c i j x y d) : cd_At a b c j i x y d := by
  obtain ⟨h0, hx, hy, hd⟩ := h
  unfold cd_At
  rw [cd_Dsw a b i j, cd_Xsw b c i j, cd_Ysw a c i j, cd_sg2 h0, cd_sg2 h0, cd_sg2 h0]
  exact ⟨by omega, hx, hy, hd⟩
theorem cd_Atpos {a b c : Nat → Int} {i j : Nat} {x y d : Int} (h : cd_At a b c i j x y d) : 0 < d := by
  obtain ⟨h0, hx, hy, hd⟩ := h
  rw [hd]; exact cd_sg0 h0
theorem cd_on1 (a b c : Nat → Int) (i j : Nat) : a i * cd_X b c i j + b i * cd_Y a c i j = c i * cd_D a b i j := by
  unfold cd_X cd_Y cd_D; grind
theorem cd_sgl (d p q r X Y D : Int) (h : p * X + q * Y = r * D) : p * cd_sg d X + q * cd_sg d Y = r * cd_sg d D := by
  unfold cd_sg
  by_cases h1 : d < 0
  · rw [if_pos h1, if_pos h1, if_pos h1]; grind
  · rw [if_neg h1, if_neg h1, if_neg h1]; exact h
theorem cd_Aton1 {a b c : Nat → Int} {i j : Nat} {x y d : Int} (h : cd_At a b c i j x y d) : cd_M a b c i x y d := by
  obtain ⟨h0, hx, hy, hd⟩ := h
  have e := cd_sgl (cd_D a b i j) (a i) (b i) (c i) _ _ _ (cd_on1 a b c i j)
  unfold cd_M
  rw [hx, hy, hd, e]
  exact Int.le_refl _
theorem cd_Aton2 {a b c : Nat → Int} {i j : Nat} {x y d : Int} (h : cd_At a b c i j x y d) : cd_M a b c j x y d := cd_Aton1 (cd_Atsw h)
/-- all numbers of a line are small -/
def cd_Bd (a b c : Nat → Int) : Prop := ∀ i, (a i).natAbs ≤ 9 ∧ (b i).natAbs ≤ 9 ∧ (c i).natAbs ≤ 99
theorem cd_Db {a b c : Nat → Int} (H : cd_Bd a b c) (i j : Nat) : (cd_D a b i j).natAbs ≤ 162 := by
  unfold cd_D
  have h1 := cd_bm (H i).1 (H j).2.1
  have h2 := cd_bm (H j).1 (H i).2.1
  omega
theorem cd_Xb {a b c : Nat → Int} (H : cd_Bd a b c) (i j : Nat) : (cd_X b c i j).natAbs ≤ 1782 := by
  unfold cd_X
  have h1 := cd_bm (H i).2.2 (H j).2.1
  have h2 := cd_bm (H j).2.2 (H i).2.1
  omega
theorem cd_Yb {a b c : Nat → Int} (H : cd_Bd a b c) (i j : Nat) : (cd_Y a c i j).natAbs ≤ 1782 := by
  unfold cd_Y
  have h1 := cd_bm (H i).1 (H j).2.2
  have h2 := cd_bm (H j).1 (H i).2.2
  omega
/-- the bounds of a crossing -/
def cd_Pb (x y d : Int) : Prop := x.natAbs ≤ 1782 ∧ y.natAbs ≤ 1782 ∧ 0 < d ∧ d ≤ 162
theorem cd_Atb {a b c : Nat → Int} (H : cd_Bd a b c) {i j : Nat} {x y d : Int} (h : cd_At a b c i j x y d) : cd_Pb x y d := by
  have hp := cd_Atpos h
  obtain ⟨h0, hx, hy, hd⟩ := h
  have b1 := cd_sgb (cd_D a b i j) (cd_X b c i j)
  have b2 := cd_sgb (cd_D a b i j) (cd_Y a c i j)
  have b3 := cd_sgb (cd_D a b i j) (cd_D a b i j)
  rw [← hx] at b1
  rw [← hy] at b2
  rw [← hd] at b3
  have c1 := cd_Xb H i j
  have c2 := cd_Yb H i j
  have c3 := cd_Db H i j
  exact ⟨by omega, by omega, hp, by omega⟩
/-- the component's index of a line, turned to the reference's -/
def cd_s (l : Nat) : Nat := if l < 4 then 10 + l else l - 4
theorem cd_s_lt {l : Nat} (h : l < 14) : cd_s l < 14 := by unfold cd_s; split <;> omega
theorem cd_s_Th {h l : Nat} (hh : h ≤ 10) (hl : l < 4 + h) : cd_Th h (cd_s l) := by
  unfold cd_Th cd_s; split <;> omega
theorem cd_s_inj {l m : Nat} (hl : l < 14) (hm : m < 14) (e : cd_s l = cd_s m) : l = m := by
  unfold cd_s at e; split at e <;> split at e <;> omega
theorem cd_s_sur {h i : Nat} (hi : cd_Th h i) : ∃ l, l < 4 + h ∧ cd_s l = i := by
  unfold cd_Th at hi
  by_cases h10 : 10 ≤ i
  · exact ⟨i - 10, by omega, by unfold cd_s; rw [if_pos (by omega)]; omega⟩
  · exact ⟨i + 4, by omega, by unfold cd_s; rw [if_neg (by omega)]; omega⟩
theorem cd_s_all {h : Nat} (hh : h ≤ 10) {P : Nat → Prop} : (∀ l, l < 4 + h → P (cd_s l)) ↔ (∀ i, cd_Th h i → P i) := by
  constructor
  · intro H i hi
    obtain ⟨l, hl, rfl⟩ := cd_s_sur hi
    exact H l hl
  · intro H l hl
    exact H _ (cd_s_Th hh hl)
