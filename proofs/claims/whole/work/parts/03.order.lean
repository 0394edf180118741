/-! The order of points: greater value, then less x, then less y; fractions with denominators above 0 -/
def cd_Bt (v x y d v' x' y' d' : Int) : Prop :=
  v' * d < v * d' ∨ (v * d' = v' * d ∧ (x * d' < x' * d ∨ (x * d' = x' * d ∧ y * d' < y' * d)))
theorem cd_k {k x y : Int} (h : 0 < k) : x < y ↔ x * k < y * k := (Int.mul_lt_mul_right h).symm
theorem cd_tri (w1 w2 w3 d1 d2 d3 : Int) (h1 : 0 < d1) (h2 : 0 < d2) (h3 : 0 < d3) :
    ∃ W1 W2 W3 : Int, (w1 * d2 < w2 * d1 ↔ W1 < W2) ∧ (w2 * d1 < w1 * d2 ↔ W2 < W1) ∧ (w2 * d3 < w3 * d2 ↔ W2 < W3) ∧ (w3 * d2 < w2 * d3 ↔ W3 < W2) ∧ (w1 * d3 < w3 * d1 ↔ W1 < W3) ∧ (w3 * d1 < w1 * d3 ↔ W3 < W1) := by
  have e1 : w1 * d2 * d3 = w1 * d3 * d2 := by grind
  have e2 : w2 * d1 * d3 = w2 * d3 * d1 := by grind
  have e3 : w3 * d2 * d1 = w3 * d1 * d2 := by grind
  refine ⟨w1 * d2 * d3, w2 * d1 * d3, w3 * d2 * d1, cd_k h3, cd_k h3, ?_, ?_, ?_, ?_⟩
  · rw [e2]; exact cd_k h1
  · rw [e2]; exact cd_k h1
  · rw [e1, e3]; exact cd_k h2
  · rw [e1, e3]; exact cd_k h2
/-- t isn't better than s, r is better than s: then t isn't better than r -/
theorem cd_tr1 {vt xt yt dt vs xs ys ds vr xr yr dr : Int} (ht : 0 < dt) (hs : 0 < ds) (hr : 0 < dr)
    (h1 : ¬ cd_Bt vt xt yt dt vs xs ys ds) (h2 : cd_Bt vr xr yr dr vs xs ys ds) : ¬ cd_Bt vt xt yt dt vr xr yr dr := by
  obtain ⟨T, S, R, a1, a2, a3, a4, a5, a6⟩ := cd_tri vt vs vr dt ds dr ht hs hr
  obtain ⟨T', S', R', b1, b2, b3, b4, b5, b6⟩ := cd_tri xt xs xr dt ds dr ht hs hr
  obtain ⟨T'', S'', R'', c1, c2, c3, c4, c5, c6⟩ := cd_tri yt ys yr dt ds dr ht hs hr
  have q : ∀ x y : Int, x = y ↔ ¬ x < y ∧ ¬ y < x := fun x y => by omega
  unfold cd_Bt at *
  rw [q (vt * ds) (vs * dt), q (xt * ds) (xs * dt), a1, a2, b1, b2, c1] at h1
  rw [q (vr * ds) (vs * dr), q (xr * ds) (xs * dr), a3, a4, b3, b4, c4] at h2
  rw [q (vt * dr) (vr * dt), q (xt * dr) (xr * dt), a5, a6, b5, b6, c5]
  clear a1 a2 a3 a4 a5 a6 b1 b2 b3 b4 b5 b6 c1 c2 c3 c4 c5 c6 q
  omega
theorem cd_irr {v x y d : Int} : ¬ cd_Bt v x y d v x y d := by unfold cd_Bt; omega
theorem cd_same {v x y d v' x' y' d' : Int} (h1 : ¬ cd_Bt v x y d v' x' y' d') (h2 : ¬ cd_Bt v' x' y' d' v x y d) :
    v * d' = v' * d ∧ x * d' = x' * d ∧ y * d' = y' * d := by
  unfold cd_Bt at *; omega
/-! What a search holds: V the pairs visited, G i j x y d: pair (i, j) offers the point (x, y, d) -/
def cd_va (p q x y : Int) : Int := p * x + q * y
def cd_Inv (G : Nat → Nat → Int → Int → Int → Prop) (p q : Int) (V : Nat → Nat → Prop) (r : Int) (x y d : Int) : Prop :=
  (r = 0 ∧ ∀ i j x' y' d', V i j → ¬ G i j x' y' d') ∨
  (r = 1 ∧ (∃ i j, V i j ∧ G i j x y d) ∧ ∀ i j x' y' d', V i j → G i j x' y' d' → ¬ cd_Bt (cd_va p q x' y') x' y' d' (cd_va p q x y) x y d)
theorem cd_Inv0 {G : Nat → Nat → Int → Int → Int → Prop} {p q : Int} {V : Nat → Nat → Prop} {x y d : Int} (h : ∀ i j, ¬ V i j) : cd_Inv G p q V 0 x y d :=
  Or.inl ⟨rfl, fun i j _ _ _ hv => absurd hv (h i j)⟩
theorem cd_InvC {G : Nat → Nat → Int → Int → Int → Prop} {p q : Int} {V V' : Nat → Nat → Prop} {r x y d : Int} (e : ∀ i j, V i j ↔ V' i j) (h : cd_Inv G p q V r x y d) : cd_Inv G p q V' r x y d := by
  have : V = V' := funext fun i => funext fun j => propext (e i j)
  rw [← this]; exact h
/-- a pair that offers nothing -/
theorem cd_InvN {G : Nat → Nat → Int → Int → Int → Prop} {p q : Int} {V V' : Nat → Nat → Prop} {r x y d : Int} (i0 j0 : Nat)
    (e : ∀ i j, V' i j ↔ V i j ∨ (i = i0 ∧ j = j0)) (hn : ∀ x y d, ¬ G i0 j0 x y d) (h : cd_Inv G p q V r x y d) : cd_Inv G p q V' r x y d := by
  rcases h with ⟨h0, h1⟩ | ⟨h0, ⟨i1, j1, hv, hg⟩, h2⟩
  · refine Or.inl ⟨h0, fun i j x' y' d' hv' => ?_⟩
    rcases (e i j).mp hv' with hv | ⟨rfl, rfl⟩
    · exact h1 i j x' y' d' hv
    · exact hn x' y' d'
  · refine Or.inr ⟨h0, ⟨i1, j1, (e i1 j1).mpr (Or.inl hv), hg⟩, fun i j x' y' d' hv' hg' => ?_⟩
    rcases (e i j).mp hv' with hv | ⟨rfl, rfl⟩
    · exact h2 i j x' y' d' hv hg'
    · exact absurd hg' (hn x' y' d')
/-- a pair that offers a point which is taken -/
theorem cd_InvT {G : Nat → Nat → Int → Int → Int → Prop} {p q : Int} {V V' : Nat → Nat → Prop} {r x y d x1 y1 d1 : Int} (i0 j0 : Nat)
    (e : ∀ i j, V' i j ↔ V i j ∨ (i = i0 ∧ j = j0)) (hG : G i0 j0 x1 y1 d1) (hu : ∀ x y d, G i0 j0 x y d → x = x1 ∧ y = y1 ∧ d = d1)
    (hp : ∀ i j x y d, G i j x y d → 0 < d) (h : cd_Inv G p q V r x y d)
    (hb : r = 0 ∨ cd_Bt (cd_va p q x1 y1) x1 y1 d1 (cd_va p q x y) x y d) : cd_Inv G p q V' 1 x1 y1 d1 := by
  refine Or.inr ⟨rfl, ⟨i0, j0, (e i0 j0).mpr (Or.inr ⟨rfl, rfl⟩), hG⟩, fun i j x' y' d' hv' hg' => ?_⟩
  rcases (e i j).mp hv' with hv | ⟨rfl, rfl⟩
  · rcases h with ⟨h0, h1⟩ | ⟨h0, ⟨i1, j1, hv1, hg1⟩, h2⟩
    · exact absurd hg' (h1 i j x' y' d' hv)
    · rcases hb with hb | hb
      · omega
      · exact cd_tr1 (hp _ _ _ _ _ hg') (hp _ _ _ _ _ hg1) (hp _ _ _ _ _ hG) (h2 i j x' y' d' hv hg') hb
  · obtain ⟨rfl, rfl, rfl⟩ := hu _ _ _ hg'
    exact cd_irr
/-- a pair that offers a point which isn't taken -/
theorem cd_InvK {G : Nat → Nat → Int → Int → Int → Prop} {p q : Int} {V V' : Nat → Nat → Prop} {r x y d x1 y1 d1 : Int} (i0 j0 : Nat)
    (e : ∀ i j, V' i j ↔ V i j ∨ (i = i0 ∧ j = j0)) (hu : ∀ x y d, G i0 j0 x y d → x = x1 ∧ y = y1 ∧ d = d1)
    (h : cd_Inv G p q V r x y d) (h1 : r = 1)
    (hb : ¬ cd_Bt (cd_va p q x1 y1) x1 y1 d1 (cd_va p q x y) x y d) : cd_Inv G p q V' r x y d := by
  rcases h with ⟨h0, _⟩ | ⟨h0, ⟨i1, j1, hv1, hg1⟩, h2⟩
  · omega
  · refine Or.inr ⟨h0, ⟨i1, j1, (e i1 j1).mpr (Or.inl hv1), hg1⟩, fun i j x' y' d' hv' hg' => ?_⟩
    rcases (e i j).mp hv' with hv | ⟨rfl, rfl⟩
    · exact h2 i j x' y' d' hv hg'
    · obtain ⟨rfl, rfl, rfl⟩ := hu _ _ _ hg'
      exact hb
/-- two searches over the same offers end alike -/
theorem cd_Inv2 {G G' : Nat → Nat → Int → Int → Int → Prop} {p q : Int} {V V' : Nat → Nat → Prop} {r x y d r' x' y' d' : Int}
    (e : ∀ x y d, (∃ i j, V i j ∧ G i j x y d) ↔ (∃ i j, V' i j ∧ G' i j x y d))
    (h : cd_Inv G p q V r x y d) (h' : cd_Inv G' p q V' r' x' y' d') :
    r = r' ∧ (r = 1 → x * d' = x' * d ∧ y * d' = y' * d) := by
  rcases h with ⟨h0, h1⟩ | ⟨h0, hx, h2⟩
  · rcases h' with ⟨h0', h1'⟩ | ⟨h0', hx', h2'⟩
    · exact ⟨by omega, fun z => by omega⟩
    · obtain ⟨i, j, hv, hg⟩ := (e _ _ _).mpr hx'
      exact absurd hg (h1 _ _ _ _ _ hv)
  · rcases h' with ⟨h0', h1'⟩ | ⟨h0', hx', h2'⟩
    · obtain ⟨i, j, hv, hg⟩ := (e _ _ _).mp hx
      exact absurd hg (h1' _ _ _ _ _ hv)
    · refine ⟨by omega, fun _ => ?_⟩
      obtain ⟨i, j, hv, hg⟩ := (e _ _ _).mpr hx'
      obtain ⟨i', j', hv', hg'⟩ := (e _ _ _).mp hx
      have a1 := h2 _ _ _ _ _ hv hg
      have a2 := h2' _ _ _ _ _ hv' hg'
      exact (cd_same a2 a1).2
