/-! Fractions in lowest terms -/
theorem cd_g0 {n d : Int} (h : 0 < d) : 0 < Int.gcd n d := Int.gcd_pos_of_ne_zero_right n (by omega)
theorem cd_gle {n d : Int} (h : 0 < d) : (Int.gcd n d : Int) ≤ d := Int.le_of_dvd h (Int.gcd_dvd_right n d)
/-- a common divisor above which there is none is the greatest -/
theorem cd_gmax {n d : Int} {k : Nat} (hd : 0 < d) (h1 : (k : Int) ∣ n) (h2 : (k : Int) ∣ d)
    (hm : ∀ m : Nat, k < m → (m : Int) ≤ d → ¬ ((m : Int) ∣ n ∧ (m : Int) ∣ d)) : k = Int.gcd n d := by
  have a : k ∣ Int.gcd n d := Int.dvd_gcd h1 h2
  have b : k ≤ Int.gcd n d := Nat.le_of_dvd (cd_g0 hd) a
  by_cases c : k = Int.gcd n d
  · exact c
  · exact absurd ⟨Int.gcd_dvd_left n d, Int.gcd_dvd_right n d⟩ (hm (Int.gcd n d) (by omega) (cd_gle hd))
theorem cd_frac {n d n' d' : Int} (hd : 0 < d) (hd' : 0 < d') (e : n * d' = n' * d) :
    n.tdiv (Int.gcd n d : Int) = n'.tdiv (Int.gcd n' d' : Int) ∧ d.tdiv (Int.gcd n d : Int) = d'.tdiv (Int.gcd n' d' : Int) := by
  have g1 : Int.gcd (n * d') (d * d') = Int.gcd n d * d'.natAbs := Int.gcd_mul_right n d' d
  have g2 : Int.gcd (n' * d) (d' * d) = Int.gcd n' d' * d.natAbs := Int.gcd_mul_right n' d d'
  have c1 : ((Int.gcd n d * d'.natAbs : Nat) : Int) = (Int.gcd n d : Int) * d' := by
    rw [Int.natCast_mul]
    have : (d'.natAbs : Int) = d' := by omega
    rw [this]
  have c2 : ((Int.gcd n' d' * d.natAbs : Nat) : Int) = (Int.gcd n' d' : Int) * d := by
    rw [Int.natCast_mul]
    have : (d.natAbs : Int) = d := by omega
    rw [this]
  have g3 : (Int.gcd n d : Int) * d' = (Int.gcd n' d' : Int) * d := by
    rw [← c1, ← c2, ← g1, ← g2, e, Int.mul_comm d d']
  constructor
  · rw [← Int.mul_tdiv_mul_of_pos_left n (Int.gcd n d : Int) hd', ← Int.mul_tdiv_mul_of_pos_left n' (Int.gcd n' d' : Int) hd, g3, e]
  · rw [← Int.mul_tdiv_mul_of_pos_left d (Int.gcd n d : Int) hd', ← Int.mul_tdiv_mul_of_pos_left d' (Int.gcd n' d' : Int) hd, g3, Int.mul_comm d d']
/-- two steps of Euclid halve -/
theorem cd_half {x y : Nat} (h1 : x % y ≠ 0) (hy : 0 < y) : 2 * (y % (x % y)) < y := by
  have a : x % y < y := Nat.mod_lt x hy
  have b : y % (x % y) < x % y := Nat.mod_lt y (by omega)
  have c : x % y + y % (x % y) ≤ y := by
    have d := Nat.div_add_mod y (x % y)
    have e : 1 ≤ y / (x % y) := (Nat.one_le_div_iff (by omega)).mpr (by omega)
    have f : (x % y) * 1 ≤ (x % y) * (y / (x % y)) := Nat.mul_le_mul_left _ e
    omega
  omega
theorem cd_gst (x y : Nat) : Nat.gcd y (x % y) = Nat.gcd x y := by
  rw [Nat.gcd_comm x y, Nat.gcd_rec y x, Nat.gcd_comm]
/-- the remembered point and a condition -/
theorem cd_cmp {a b c x y d x' y' d' : Int} (hd : 0 < d) (hd' : 0 < d') (ex : x * d' = x' * d) (ey : y * d' = y' * d) :
    (a * x + b * y < c * d ↔ a * x' + b * y' < c * d') ∧ (a * x + b * y = c * d ↔ a * x' + b * y' = c * d') := by
  have e1 : (a * x + b * y) * d' = (a * x' + b * y') * d := by grind
  have e2 : (c * d) * d' = (c * d') * d := by grind
  have q1 : a * x + b * y < c * d ↔ a * x' + b * y' < c * d' := by
    rw [cd_k hd', e1, e2, ← cd_k hd]
  have q2 : c * d < a * x + b * y ↔ c * d' < a * x' + b * y' := by
    rw [cd_k hd', e1, e2, ← cd_k hd]
  exact ⟨q1, by omega⟩
theorem cd_val {p q x y d x' y' d' : Int} (ex : x * d' = x' * d) (ey : y * d' = y' * d) : cd_va p q x y * d' = cd_va p q x' y' * d := by
  unfold cd_va; grind
