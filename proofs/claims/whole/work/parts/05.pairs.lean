/-! The pairs of lines, as each side walks them -/
def cd_VX (n F s : Nat) (i j : Nat) : Prop := i < j ∧ j < n ∧ (i < F ∨ (i = F ∧ j < s))
theorem cd_VX0 (n i j : Nat) : ¬ cd_VX n 0 1 i j := by unfold cd_VX; omega
theorem cd_VXs {n F s : Nat} (h1 : F < s) (h2 : s < n) (i j : Nat) : cd_VX n F (s + 1) i j ↔ cd_VX n F s i j ∨ (i = F ∧ j = s) := by
  unfold cd_VX; omega
theorem cd_VXr {n F : Nat} (i j : Nat) : cd_VX n F n i j ↔ cd_VX n (F + 1) (F + 1 + 1) i j := by unfold cd_VX; omega
theorem cd_VXe {n : Nat} (i j : Nat) : cd_VX n n (n + 1) i j ↔ i < j ∧ j < n := by unfold cd_VX; omega
def cd_VY (T : Nat → Prop) (I J : Nat) (i j : Nat) : Prop := j < i ∧ i < 14 ∧ T i ∧ T j ∧ (i < I ∨ (i = I ∧ j < J))
theorem cd_VY0 (T : Nat → Prop) (i j : Nat) : ¬ cd_VY T 0 0 i j := by unfold cd_VY; omega
theorem cd_VYs {T : Nat → Prop} {I J : Nat} (h1 : J < I) (h2 : I < 14) (tI : T I) (tJ : T J) (i j : Nat) : cd_VY T I (J + 1) i j ↔ cd_VY T I J i j ∨ (i = I ∧ j = J) := by
  unfold cd_VY
  constructor
  · rintro ⟨a1, a2, a3, a4, a5⟩
    by_cases e : i = I ∧ j = J
    · exact Or.inr e
    · exact Or.inl ⟨a1, a2, a3, a4, by omega⟩
  · rintro (⟨a1, a2, a3, a4, a5⟩ | ⟨rfl, rfl⟩)
    · exact ⟨a1, a2, a3, a4, by omega⟩
    · exact ⟨h1, h2, tI, tJ, by omega⟩
theorem cd_VYn {T : Nat → Prop} {I J : Nat} (h : ¬ (T I ∧ T J)) (i j : Nat) : cd_VY T I J i j ↔ cd_VY T I (J + 1) i j := by
  unfold cd_VY
  constructor
  · rintro ⟨a1, a2, a3, a4, a5⟩
    exact ⟨a1, a2, a3, a4, by omega⟩
  · rintro ⟨a1, a2, a3, a4, a5⟩
    refine ⟨a1, a2, a3, a4, ?_⟩
    by_cases e : i = I ∧ j = J
    · obtain ⟨rfl, rfl⟩ := e
      exact absurd ⟨a3, a4⟩ h
    · omega
theorem cd_VYr {T : Nat → Prop} {I : Nat} (i j : Nat) : cd_VY T I I i j ↔ cd_VY T (I + 1) 0 i j := by
  unfold cd_VY
  constructor
  · rintro ⟨a1, a2, a3, a4, a5⟩; exact ⟨a1, a2, a3, a4, by omega⟩
  · rintro ⟨a1, a2, a3, a4, a5⟩; exact ⟨a1, a2, a3, a4, by omega⟩
theorem cd_VYe {T : Nat → Prop} (i j : Nat) : cd_VY T 14 0 i j ↔ j < i ∧ i < 14 ∧ T i ∧ T j := by
  unfold cd_VY
  constructor
  · rintro ⟨a1, a2, a3, a4, a5⟩; exact ⟨a1, a2, a3, a4⟩
  · rintro ⟨a1, a2, a3, a4⟩; exact ⟨a1, a2, a3, a4, by omega⟩
theorem cd_s_eq {l L : Nat} (hl : l < 14) (hL : L < 14 ∨ L = 18) : cd_s l = cd_s L ↔ l = L := by
  constructor
  · intro e
    unfold cd_s at e; split at e <;> split at e <;> omega
  · intro e; rw [e]
/-- the component's walk over all lines but L -/
theorem cd_OkX {a b c : Nat → Int} {h L : Nat} {x y d : Int} (hh : h ≤ 10) (hL : L < 14 ∨ L = 18) :
    (∀ l, l < 4 + h → l ≠ L → cd_M a b c (cd_s l) x y d) ↔ cd_Ok a b c h (cd_s L) x y d := by
  unfold cd_Ok
  rw [← cd_s_all hh (P := fun i => i ≠ cd_s L → cd_M a b c i x y d)]
  constructor
  · intro H l hl hn
    exact H l hl (fun e => hn ((cd_s_eq (by omega) hL).mpr e))
  · intro H l hl hn
    exact H l hl (fun e => hn ((cd_s_eq (by omega) hL).mp e))
/-- the pairs of both sides offer the same points -/
theorem cd_prs {a b c : Nat → Int} {h : Nat} (hh : h ≤ 10) {x y d : Int} (R : Prop) :
    (∃ i j, (i < j ∧ j < 4 + h) ∧ (cd_At a b c (cd_s i) (cd_s j) x y d ∧ R)) ↔ (∃ i j, (j < i ∧ i < 14 ∧ cd_Th h i ∧ cd_Th h j) ∧ (cd_At a b c i j x y d ∧ R)) := by
  constructor
  · rintro ⟨l, m, ⟨h1, h2⟩, hA, hR⟩
    have t1 : cd_Th h (cd_s l) := cd_s_Th hh (by omega)
    have t2 : cd_Th h (cd_s m) := cd_s_Th hh h2
    have hne : cd_s l ≠ cd_s m := fun e => by have := cd_s_inj (by omega) (by omega) e; omega
    by_cases o : cd_s m < cd_s l
    · exact ⟨cd_s l, cd_s m, ⟨o, t1.1, t1, t2⟩, hA, hR⟩
    · exact ⟨cd_s m, cd_s l, ⟨by omega, t2.1, t2, t1⟩, cd_Atsw hA, hR⟩
  · rintro ⟨i, j, ⟨h1, h2, t1, t2⟩, hA, hR⟩
    obtain ⟨l, hl, rfl⟩ := cd_s_sur t1
    obtain ⟨m, hm, rfl⟩ := cd_s_sur t2
    by_cases o : l < m
    · exact ⟨l, m, ⟨o, hm⟩, hA, hR⟩
    · have : l ≠ m := fun e => by rw [e] at h1; omega
      exact ⟨m, l, ⟨by omega, hl⟩, cd_Atsw hA, hR⟩
/-- for a line w left out and broken: the pairs with w offer nothing -/
theorem cd_prw {a b c : Nat → Int} {h w : Nat} {x y d : Int} (R : Prop) :
    (∃ i j, (j < i ∧ i < 14 ∧ cd_Th h i ∧ cd_Th h j) ∧ (cd_At a b c i j x y d ∧ (R ∧ ¬ cd_M a b c w x y d))) ↔
    (∃ i j, (j < i ∧ i < 14 ∧ (cd_Th h i ∧ i ≠ w) ∧ (cd_Th h j ∧ j ≠ w)) ∧ (cd_At a b c i j x y d ∧ (R ∧ ¬ cd_M a b c w x y d))) := by
  constructor
  · rintro ⟨i, j, ⟨h1, h2, t1, t2⟩, hA, hR, hM⟩
    refine ⟨i, j, ⟨h1, h2, ⟨t1, ?_⟩, t2, ?_⟩, hA, hR, hM⟩
    · rintro rfl; exact hM (cd_Aton1 hA)
    · rintro rfl; exact hM (cd_Aton2 hA)
  · rintro ⟨i, j, ⟨h1, h2, ⟨t1, _⟩, t2, _⟩, hA, hR, hM⟩
    exact ⟨i, j, ⟨h1, h2, t1, t2⟩, hA, hR, hM⟩
