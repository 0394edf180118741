/-! The component's private methods, each with a general post -/
def cd_HX (a b c : Nat → Int) (A B C : Nat → Int32) : Prop := ∀ l, l < 14 → A l = cd_I (a (cd_s l)) ∧ B l = cd_I (b (cd_s l)) ∧ C l = cd_I (c (cd_s l))
theorem cd_0 : (0 : Int32) = cd_I 0 := by decide +kernel
theorem cd_m1 : (-1 : Int32) = cd_I (-1) := by decide +kernel
theorem cd_1 : (1 : Int32) = cd_I 1 := by decide +kernel
theorem cd_10 : ¬ (1 : Int32) = 0 := by decide +kernel
theorem cd_eq0 {z : Int} (h : cd_R z) : cd_I z = 0 ↔ z = 0 := by rw [cd_0]; exact cd_eq h (by omega)
theorem cd_le0 {z : Int} (h : cd_R z) : cd_I z ≤ 0 ↔ z ≤ 0 := by rw [cd_0]; exact cd_le h (by omega)
theorem cd_if {c d A B : Prop} (e : c ↔ d) (f : d → A) (g : ¬ d → B) : (c → A) ∧ (¬ c → B) := ⟨fun h => f (e.mp h), fun h => g (fun q => h (e.mpr q))⟩
theorem cd_nn {p : Prop} (h : ¬ ¬ p) : p := Classical.not_not.mp h
theorem cd_nc {n : Nat} (h : n < 14) : (nI n).toNatClampNeg = n := nI_clamp (by omega)
theorem cd_4 (h : Nat) : (4 : Int32) + nI h = nI (4 + h) := nI_add 4 h
theorem cd_s18 : cd_s 18 = 14 := by decide
theorem cd_W18 : ∀ l, l < 14 → (nI l = (-1 : Int32) ↔ l = 18) := by
  intro l hl
  rw [cd_m1, cd_nI, cd_eq (by omega) (by omega)]; omega
theorem cd_Wn {w : Nat} (hw : w < 14) : ∀ l, l < 14 → (nI l = nI w ↔ l = w) := fun l hl => nI_eq (by omega) (by omega)
theorem cd_x_43 {a b c : Nat → Int} {A B C : Nat → Int32} (HB : cd_Bd a b c) (H : cd_HX a b c A B C) {i j : Nat} (hi : i < 14) (hj : j < 14) {post : Int32 → SX → Prop} {fc fl cx cy cs ks rm : Int32} {L K : Nat → Int32} {D s : Int} {S : Int32} (hs : S = cd_I s)
    (h : post 1 (fc, fl, cd_I (s * cd_X b c (cd_s i) (cd_s j)), cd_I (s * cd_Y a c (cd_s i) (cd_s j)), cd_I (s * D), ks, rm, A, B, C, L, K)) :
    wX_crossLines_43 post (nI i) (nI j) (cd_I D) S fc fl cx cy cs ks rm A B C L K := by
  have vi : vp_in (nI i) 14 := vp_in_nI hi (by omega)
  have vj : vp_in (nI j) 14 := vp_in_nI hj (by omega)
  obtain ⟨ai, bi, ci⟩ := H i hi
  obtain ⟨aj, bj, cj⟩ := H j hj
  have eX : S * (C (nI i).toNatClampNeg * B (nI j).toNatClampNeg - C (nI j).toNatClampNeg * B (nI i).toNatClampNeg) = cd_I (s * cd_X b c (cd_s i) (cd_s j)) := by
    rw [cd_nc hi, cd_nc hj, ci, bi, cj, bj, hs, cd_mul, cd_mul, cd_sub, cd_mul]; rfl
  have eY : S * (A (nI i).toNatClampNeg * C (nI j).toNatClampNeg - A (nI j).toNatClampNeg * C (nI i).toNatClampNeg) = cd_I (s * cd_Y a c (cd_s i) (cd_s j)) := by
    rw [cd_nc hi, cd_nc hj, ai, ci, aj, cj, hs, cd_mul, cd_mul, cd_sub, cd_mul]; rfl
  have eD : S * cd_I D = cd_I (s * D) := by rw [hs, cd_mul]
  exact ⟨vi, vj, vj, vi, nm_r eX ⟨vi, vj, vj, vi, nm_r eY (nm_r eD h)⟩⟩
theorem cd_x_cross {a b c : Nat → Int} {A B C : Nat → Int32} (HB : cd_Bd a b c) (H : cd_HX a b c A B C) {i j : Nat} (hi : i < 14) (hj : j < 14) {post : Int32 → SX → Prop} {fc fl cx cy cs ks rm : Int32} {L K : Nat → Int32}
    (h0 : (∀ x y d, ¬ cd_At a b c (cd_s i) (cd_s j) x y d) → post 0 (fc, fl, cx, cy, cs, ks, rm, A, B, C, L, K))
    (h1 : ∀ x y d, cd_At a b c (cd_s i) (cd_s j) x y d → post 1 (fc, fl, cd_I x, cd_I y, cd_I d, ks, rm, A, B, C, L, K)) :
    wpX_crossLines post (fc, fl, cx, cy, cs, ks, rm, A, B, C, L, K) (nI i) (nI j) := by
  have vi : vp_in (nI i) 14 := vp_in_nI hi (by omega)
  have vj : vp_in (nI j) 14 := vp_in_nI hj (by omega)
  obtain ⟨ai, bi, ci⟩ := H i hi
  obtain ⟨aj, bj, cj⟩ := H j hj
  have eD : A (nI i).toNatClampNeg * B (nI j).toNatClampNeg - A (nI j).toNatClampNeg * B (nI i).toNatClampNeg = cd_I (cd_D a b (cd_s i) (cd_s j)) := by
    rw [cd_nc hi, cd_nc hj, ai, bi, aj, bj, cd_mul, cd_mul, cd_sub]; rfl
  have hb := cd_Db HB (cd_s i) (cd_s j)
  have rD : cd_R (cd_D a b (cd_s i) (cd_s j)) := by omega
  refine ⟨vi, vj, vj, vi, nm_r eD (cd_if (cd_eq0 rD) (fun z => h0 (fun x y d q => q.1 z)) (fun nz => cd_if (cd_le0 rD) (fun le => ?_) (fun nle => ?_)))⟩
  · refine cd_x_43 HB H hi hj (s := -1) cd_m1 (h1 _ _ _ ⟨nz, ?_, ?_, ?_⟩)
    · rw [cd_sgn (by omega)]; omega
    · rw [cd_sgn (by omega)]; omega
    · rw [cd_sgn (by omega)]; omega
  · refine cd_x_43 HB H hi hj (s := 1) cd_1 (h1 _ _ _ ⟨nz, ?_, ?_, ?_⟩)
    · rw [cd_sgp (by omega)]; omega
    · rw [cd_sgp (by omega)]; omega
    · rw [cd_sgp (by omega)]; omega
theorem cd_x_meets {a b c : Nat → Int} {A B C : Nat → Int32} (HB : cd_Bd a b c) (H : cd_HX a b c A B C) {l : Nat} (hl : l < 14) {post : Int32 → Prop} {fc fl ks rm : Int32} {L K : Nat → Int32} {x y d : Int} (P : cd_Pb x y d)
    (h1 : cd_M a b c (cd_s l) x y d → post 1) (h0 : ¬ cd_M a b c (cd_s l) x y d → post 0) :
    wpX_cornerMeets post (fc, fl, cd_I x, cd_I y, cd_I d, ks, rm, A, B, C, L, K) (nI l) := by
  have v : vp_in (nI l) 14 := vp_in_nI hl (by omega)
  obtain ⟨ea, eb, ec⟩ := H l hl
  obtain ⟨q1, q2, q3, q4⟩ := P
  obtain ⟨b1, b2, b3⟩ := HB (cd_s l)
  have m1 := cd_bm b1 q1
  have m2 := cd_bm b2 q2
  have m3 := cd_bm b3 (show d.natAbs ≤ 162 by omega)
  have e : (C (nI l).toNatClampNeg * cd_I d < A (nI l).toNatClampNeg * cd_I x + B (nI l).toNatClampNeg * cd_I y) ↔ ¬ cd_M a b c (cd_s l) x y d := by
    rw [cd_nc hl, ea, eb, ec, cd_mul, cd_mul, cd_mul, cd_add, cd_lt (by omega) (by omega)]
    unfold cd_M; omega
  exact ⟨v, v, v, cd_if e h0 (fun q => h1 (cd_nn q))⟩
theorem cd_x_all2 {a b c : Nat → Int} {A B C : Nat → Int32} (HB : cd_Bd a b c) (H : cd_HX a b c A B C) {h Lo : Nat} (hh : h ≤ 10) {W : Int32} (hW : ∀ l, l < 14 → (nI l = W ↔ l = Lo)) {post : Int32 → Prop} {fl ks rm : Int32} {L K : Nat → Int32} {x y d : Int} (P : cd_Pb x y d)
    (h1 : (∀ l, l < 4 + h → l ≠ Lo → cd_M a b c (cd_s l) x y d) → post 1) (h0 : ¬ (∀ l, l < 4 + h → l ≠ Lo → cd_M a b c (cd_s l) x y d) → post 0) :
    ∀ m s, s + m = 4 + h → (∀ l, l < s → l ≠ Lo → cd_M a b c (cd_s l) x y d) → wX_cornerMeetsAllBut_2 post W (nI h) fl (cd_I x) (cd_I y) (cd_I d) ks rm A B C L K (m + 1) (nI s) := by
  intro m
  induction m with
  | zero =>
    intro s hs V
    have e : (4 : Int32) + nI h ≤ nI s := by rw [cd_4]; exact nI_le (by omega) (by omega)
    exact br_t e (h1 (fun l hl => V l (by omega)))
  | succ m ih =>
    intro s hs V
    have e : ¬ (4 : Int32) + nI h ≤ nI s := by rw [cd_4]; exact nI_ge (by omega) (by omega)
    refine br_f e (cd_if (hW s (by omega)) (fun es => nm_r (nI_1 s) (ih (s + 1) (by omega) (fun l hl hn => ?_))) (fun ns => ?_))
    · exact V l (by omega) hn
    · refine cd_x_meets HB H (by omega) P (fun q => br_f cd_10 (nm_r (nI_1 s) (ih (s + 1) (by omega) (fun l hl hn => ?_)))) (fun q => br_t rfl (h0 (fun z => q (z s (by omega) ns))))
      by_cases o : l = s
      · rw [o]; exact q
      · exact V l (by omega) hn
theorem cd_x_all {a b c : Nat → Int} {A B C : Nat → Int32} (HB : cd_Bd a b c) (H : cd_HX a b c A B C) {h Lo : Nat} (hh : h ≤ 10) {W : Int32} (hL : Lo < 14 ∨ Lo = 18) (hW : ∀ l, l < 14 → (nI l = W ↔ l = Lo)) {post : Int32 → Prop} {fl ks rm : Int32} {L K : Nat → Int32} {x y d : Int} (P : cd_Pb x y d)
    (h1 : cd_Ok a b c h (cd_s Lo) x y d → post 1) (h0 : ¬ cd_Ok a b c h (cd_s Lo) x y d → post 0) :
    wpX_cornerMeetsAllBut post (nI h, fl, cd_I x, cd_I y, cd_I d, ks, rm, A, B, C, L, K) W := by
  refine ⟨4 + h + 1, cd_x_all2 HB H hh hW P (fun q => h1 ((cd_OkX hh hL).mp q)) (fun q => h0 (fun z => q ((cd_OkX hh hL).mpr z))) (4 + h) 0 (by omega) (fun l hl => by omega)⟩
