/-! The reference's private methods, each with a general post -/
def cd_HY (a b c : Nat → Int) (A B C : Nat → Int32) : Prop := ∀ i, i < 14 → A i = cd_I (a i) ∧ B i = cd_I (b i) ∧ C i = cd_I (c i)
theorem cd_L0 : (0 : Int64) = cd_L 0 := by decide +kernel
theorem cd_Leq0 {z : Int} (h : cd_Q z) : cd_L z = 0 ↔ z = 0 := by rw [cd_L0]; exact cd_Leq h (by omega)
theorem cd_L0le {z : Int} (h : cd_Q z) : (0 : Int64) ≤ cd_L z ↔ 0 ≤ z := by rw [cd_L0]; exact cd_Lle (by omega) h
theorem cd_QB {z : Int} {n : Nat} (h : z.natAbs ≤ n) (hn : n ≤ 1000000000) : cd_Q z := by omega
theorem cd_RB {z : Int} {n : Nat} (h : z.natAbs ≤ n) (hn : n ≤ 1000000000) : cd_R z := by omega
theorem cd_W14 : ∀ l, l < 14 → (nI l = (-1 : Int32) ↔ l = 14) := by
  intro l hl
  rw [cd_m1, cd_nI, cd_eq (by omega) (by omega)]; omega
theorem cd_y_there {A B C : Nat → Int32} {cx cy un : Int64} {fl kn : Int32} {bx by_ bu : Int64} {ap aq : Int32} {bg : Nat → Int32} {h i w : Nat} (hh : h ≤ 10) (hi : i < 14) {W : Int32} (hW : ∀ l, l < 14 → (nI l = W ↔ l = w)) {post : Int32 → Prop}
    (h1 : cd_Th h i ∧ i ≠ w → post 1) (h0 : ¬ (cd_Th h i ∧ i ≠ w) → post 0) : wpY_there post (nI h, fl, cx, cy, un, kn, bx, by_, bu, ap, aq, bg, A, B, C) (nI i) W := by
  have e10 : nI i < (10 : Int32) ↔ i < 10 := nI_ltI (b := 10) (by omega) (by omega)
  exact cd_if (hW i hi) (fun e => h0 (fun z => z.2 e)) (fun ne => cd_if (nI_ltI (by omega) (by omega)) (fun q => h1 ⟨⟨hi, Or.inl q⟩, ne⟩) (fun q => cd_if e10 (fun q2 => h0 (fun z => by have := z.1.2; omega)) (fun q2 => h1 ⟨⟨hi, Or.inr (by omega)⟩, ne⟩)))
theorem cd_y_meet {a b c : Nat → Int} {A B C : Nat → Int32} (HB : cd_Bd a b c) (H : cd_HY a b c A B C) {i j : Nat} (hi : i < 14) (hj : j < 14) {post : Int32 → SY → Prop} {fh fl : Int32} {cx cy un : Int64} {kn : Int32} {bx by_ bu : Int64} {ap aq : Int32} {bg : Nat → Int32}
    (h0 : (∀ x y d, ¬ cd_At a b c i j x y d) → post 0 (fh, fl, cx, cy, un, kn, bx, by_, bu, ap, aq, bg, A, B, C))
    (h1 : ∀ x y d, cd_At a b c i j x y d → post 1 (fh, fl, cd_L x, cd_L y, cd_L d, kn, bx, by_, bu, ap, aq, bg, A, B, C)) :
    wpY_meet post (fh, fl, cx, cy, un, kn, bx, by_, bu, ap, aq, bg, A, B, C) (nI i) (nI j) := by
  have vi : vp_in (nI i) 14 := vp_in_nI hi (by omega)
  have vj : vp_in (nI j) 14 := vp_in_nI hj (by omega)
  obtain ⟨ai, bi, ci⟩ := H i hi
  obtain ⟨aj, bj, cj⟩ := H j hj
  have b1 := cd_Db HB i j
  have b2 := cd_Xb HB i j
  have b3 := cd_Yb HB i j
  have eD : (A (nI i).toNatClampNeg * B (nI j).toNatClampNeg - A (nI j).toNatClampNeg * B (nI i).toNatClampNeg).toInt64 = cd_L (cd_D a b i j) := by
    rw [cd_nc hi, cd_nc hj, ai, bi, aj, bj, cd_mul, cd_mul, cd_sub]
    exact cd_il (a := cd_D a b i j) (by omega)
  have eX : (C (nI i).toNatClampNeg * B (nI j).toNatClampNeg - C (nI j).toNatClampNeg * B (nI i).toNatClampNeg).toInt64 = cd_L (cd_X b c i j) := by
    rw [cd_nc hi, cd_nc hj, ci, bi, cj, bj, cd_mul, cd_mul, cd_sub]
    exact cd_il (a := cd_X b c i j) (by omega)
  have eY : (A (nI i).toNatClampNeg * C (nI j).toNatClampNeg - A (nI j).toNatClampNeg * C (nI i).toNatClampNeg).toInt64 = cd_L (cd_Y a c i j) := by
    rw [cd_nc hi, cd_nc hj, ai, ci, aj, cj, cd_mul, cd_mul, cd_sub]
    exact cd_il (a := cd_Y a c i j) (by omega)
  have rD : cd_Q (cd_D a b i j) := by omega
  refine ⟨vi, vj, vj, vi, nm_r eD ⟨vi, vj, vj, vi, nm_r eX ⟨vi, vj, vj, vi, nm_r eY (cd_if (cd_Leq0 rD) (fun z => h0 (fun x y d q => q.1 z)) (fun nz => ?_))⟩⟩⟩
  by_cases hD : 0 ≤ cd_D a b i j
  · have gD : (0 : Int64) ≤ cd_L (cd_D a b i j) := (cd_L0le rD).mpr hD
    exact br_t gD (br_t gD (br_t gD (h1 _ _ _ ⟨nz, (cd_sgp (by omega)).symm, (cd_sgp (by omega)).symm, (cd_sgp (by omega)).symm⟩)))
  · have gD : ¬ (0 : Int64) ≤ cd_L (cd_D a b i j) := fun q => hD ((cd_L0le rD).mp q)
    have hc := h1 (-cd_X b c i j) (-cd_Y a c i j) (-cd_D a b i j) ⟨nz, (cd_sgn (by omega)).symm, (cd_sgn (by omega)).symm, (cd_sgn (by omega)).symm⟩
    rw [← cd_Lneg (cd_X b c i j), ← cd_Lneg (cd_Y a c i j), ← cd_Lneg (cd_D a b i j)] at hc
    exact br_f gD (br_f gD (br_f gD (nm_e hc)))
theorem cd_y_meets {a b c : Nat → Int} {A B C : Nat → Int32} (HB : cd_Bd a b c) (H : cd_HY a b c A B C) {l : Nat} (hl : l < 14) {post : Int32 → Prop} {fh fl kn : Int32} {bx by_ bu : Int64} {ap aq : Int32} {bg : Nat → Int32} {x y d : Int} (P : cd_Pb x y d)
    (h1 : cd_M a b c l x y d → post 1) (h0 : ¬ cd_M a b c l x y d → post 0) :
    wpY_meets post (fh, fl, cd_L x, cd_L y, cd_L d, kn, bx, by_, bu, ap, aq, bg, A, B, C) (nI l) := by
  have v : vp_in (nI l) 14 := vp_in_nI hl (by omega)
  obtain ⟨ea, eb, ec⟩ := H l hl
  obtain ⟨q1, q2, q3, q4⟩ := P
  obtain ⟨b1, b2, b3⟩ := HB l
  have m1 := cd_bm b1 q1
  have m2 := cd_bm b2 q2
  have m3 := cd_bm b3 (show d.natAbs ≤ 162 by omega)
  have e : ((C (nI l).toNatClampNeg).toInt64 * cd_L d < (A (nI l).toNatClampNeg).toInt64 * cd_L x + (B (nI l).toNatClampNeg).toInt64 * cd_L y) ↔ ¬ cd_M a b c l x y d := by
    rw [cd_nc hl, ea, eb, ec, cd_il (by omega), cd_il (by omega), cd_il (by omega), cd_Lmul, cd_Lmul, cd_Lmul, cd_Ladd, cd_Llt (by omega) (by omega)]
    unfold cd_M; omega
  exact ⟨v, v, v, cd_if e h0 (fun q => h1 (cd_nn q))⟩
theorem cd_y_all2 {a b c : Nat → Int} {A B C : Nat → Int32} (HB : cd_Bd a b c) (H : cd_HY a b c A B C) {h w : Nat} (hh : h ≤ 10) {W : Int32} (hW : ∀ l, l < 14 → (nI l = W ↔ l = w)) {post : Int32 → Prop} {fl kn : Int32} {bx by_ bu : Int64} {ap aq : Int32} {bg : Nat → Int32} {x y d : Int} (P : cd_Pb x y d)
    (h1 : cd_Ok a b c h w x y d → post 1) (h0 : ¬ cd_Ok a b c h w x y d → post 0) :
    ∀ m s, s + m = 14 → (∀ l, l < s → cd_Th h l → l ≠ w → cd_M a b c l x y d) → wY_allowed_2 post W (nI h) fl (cd_L x) (cd_L y) (cd_L d) kn bx by_ bu ap aq bg A B C (m + 1) (nI s) := by
  intro m
  induction m with
  | zero =>
    intro s hs V
    have e : (14 : Int32) ≤ nI s := nI_le (a := 14) (by omega) (by omega)
    exact br_t e (h1 (fun l hl => V l (by have := hl.1; omega) hl))
  | succ m ih =>
    intro s hs V
    have e : ¬ (14 : Int32) ≤ nI s := nI_ge (b := 14) (by omega) (by omega)
    refine br_f e (cd_y_there hh (by omega) hW (fun t => ?_) (fun t => ?_))
    · refine br_f cd_10 (cd_y_meets HB H (by omega) P (fun q => br_f cd_10 (nm_r (nI_1 s) (ih (s + 1) (by omega) (fun l hl ht hn => ?_)))) (fun q => br_t rfl (h0 (fun z => q (z s t.1 t.2)))))
      by_cases o : l = s
      · rw [o]; exact q
      · exact V l (by omega) ht hn
    · refine br_t rfl (nm_r (nI_1 s) (ih (s + 1) (by omega) (fun l hl ht hn => ?_)))
      by_cases o : l = s
      · rw [o] at ht hn; exact absurd ⟨ht, hn⟩ t
      · exact V l (by omega) ht hn
theorem cd_y_all {a b c : Nat → Int} {A B C : Nat → Int32} (HB : cd_Bd a b c) (H : cd_HY a b c A B C) {h w : Nat} (hh : h ≤ 10) {W : Int32} (hW : ∀ l, l < 14 → (nI l = W ↔ l = w)) {post : Int32 → Prop} {fl kn : Int32} {bx by_ bu : Int64} {ap aq : Int32} {bg : Nat → Int32} {x y d : Int} (P : cd_Pb x y d)
    (h1 : cd_Ok a b c h w x y d → post 1) (h0 : ¬ cd_Ok a b c h w x y d → post 0) :
    wpY_allowed post (nI h, fl, cd_L x, cd_L y, cd_L d, kn, bx, by_, bu, ap, aq, bg, A, B, C) W := 
  ⟨15, cd_y_all2 HB H hh hW P h1 h0 14 0 (by omega) (fun l hl => by omega)⟩
theorem cd_y_better {A B C : Nat → Int32} {post : Int32 → Prop} {fh fl kn : Int32} {bx by_ bu : Int64} {ap aq : Int32} {bg : Nat → Int32} {p q x1 y1 d1 x y d : Int} (hp : p.natAbs ≤ 9) (hq : q.natAbs ≤ 9) (P1 : cd_Pb x1 y1 d1) (P : cd_Pb x y d)
    (k1 : bx = cd_L x) (k2 : by_ = cd_L y) (k3 : bu = cd_L d)
    (h1 : cd_Bt (cd_va p q x1 y1) x1 y1 d1 (cd_va p q x y) x y d → post 1) (h0 : ¬ cd_Bt (cd_va p q x1 y1) x1 y1 d1 (cd_va p q x y) x y d → post 0) :
    wpY_better post (fh, fl, cd_L x1, cd_L y1, cd_L d1, kn, bx, by_, bu, ap, aq, bg, A, B, C) (cd_I p) (cd_I q) := by
  have b1 := cd_vab hp hq P1.1 P1.2.1
  have b := cd_vab hp hq P.1 P.2.1
  obtain ⟨q1, q2, q3, q4⟩ := P1
  obtain ⟨r1, r2, r3, r4⟩ := P
  have rp : cd_R p := cd_RB hp (by decide)
  have rq : cd_R q := cd_RB hq (by decide)
  have t1 : d1.natAbs ≤ 162 := by clear b1 b hp hq q1 q2 r1 r2 rp rq; omega
  have t2 : d.natAbs ≤ 162 := by clear b1 b hp hq q1 q2 r1 r2 rp rq; omega
  have m1 : cd_Q (cd_va p q x1 y1 * d) := cd_QB (cd_bm b1 t2) (by decide)
  have m2 : cd_Q (cd_va p q x y * d1) := cd_QB (cd_bm b t1) (by decide)
  have m3 : cd_Q (x1 * d) := cd_QB (cd_bm q1 t2) (by decide)
  have m4 : cd_Q (x * d1) := cd_QB (cd_bm r1 t1) (by decide)
  have m5 : cd_Q (y1 * d) := cd_QB (cd_bm q2 t2) (by decide)
  have m6 : cd_Q (y * d1) := cd_QB (cd_bm r2 t1) (by decide)
  clear b1 b hp hq q1 q2 r1 r2 t1 t2
  have e1 : ((cd_I p).toInt64 * cd_L x1 + (cd_I q).toInt64 * cd_L y1) * bu = cd_L (cd_va p q x1 y1 * d) := by
    rw [k3, cd_il rp, cd_il rq, cd_Lmul, cd_Lmul, cd_Ladd, cd_Lmul]; rfl
  have e2 : ((cd_I p).toInt64 * bx + (cd_I q).toInt64 * by_) * cd_L d1 = cd_L (cd_va p q x y * d1) := by
    rw [k1, k2, cd_il rp, cd_il rq, cd_Lmul, cd_Lmul, cd_Ladd, cd_Lmul]; rfl
  have e3 : cd_L x1 * bu = bx * cd_L d1 ↔ x1 * d = x * d1 := by rw [k1, k3, cd_Lmul, cd_Lmul, cd_Leq m3 m4]
  have e4 : bx * cd_L d1 ≤ cd_L x1 * bu ↔ x * d1 ≤ x1 * d := by rw [k1, k3, cd_Lmul, cd_Lmul, cd_Lle m4 m3]
  have e5 : by_ * cd_L d1 ≤ cd_L y1 * bu ↔ y * d1 ≤ y1 * d := by rw [k2, k3, cd_Lmul, cd_Lmul, cd_Lle m6 m5]
  unfold cd_Bt at h1 h0
  refine nm_r e1 (nm_r e2 (cd_if (cd_Leq m1 m2) (fun z1 => cd_if e3 (fun z2 => cd_if e5 (fun z3 => ?_) (fun z3 => ?_)) (fun z2 => cd_if e4 (fun z3 => ?_) (fun z3 => ?_))) (fun z1 => cd_if (cd_Lle m1 m2) (fun z2 => ?_) (fun z2 => ?_))))
  · exact h0 (by omega)
  · exact h1 (by omega)
  · exact h0 (by omega)
  · exact h1 (by omega)
  · exact h0 (by omega)
  · exact h1 (by omega)
