/-! The component's best -/
theorem cd_vab {p q x y : Int} (hp : p.natAbs ≤ 9) (hq : q.natAbs ≤ 9) (hx : x.natAbs ≤ 1782) (hy : y.natAbs ≤ 1782) : (cd_va p q x y).natAbs ≤ 32076 := by
  have m1 := cd_bm hp hx
  have m2 := cd_bm hq hy
  unfold cd_va; omega
def cd_KX (p q r x y d : Int) (ks rm : Int32) (K : Nat → Int32) : Prop :=
  rm = cd_I r ∧ (r = 1 → K 0 = cd_I (cd_va p q x y) ∧ K 1 = cd_I x ∧ K 2 = cd_I y ∧ ks = cd_I d)
theorem cd_x_better {A B C : Nat → Int32} {post : Int32 → Prop} {fc fl ks rm : Int32} {L K : Nat → Int32} {v1 x1 y1 d1 v x y d : Int} (P1 : cd_Pb x1 y1 d1) (P : cd_Pb x y d) (b1 : v1.natAbs ≤ 32076) (b : v.natAbs ≤ 32076)
    (k0 : K 0 = cd_I v) (k1 : K 1 = cd_I x) (k2 : K 2 = cd_I y) (k3 : ks = cd_I d)
    (h1 : cd_Bt v1 x1 y1 d1 v x y d → post 1) (h0 : ¬ cd_Bt v1 x1 y1 d1 v x y d → post 0) :
    wpX_cornerIsBetter post (fc, fl, cd_I x1, cd_I y1, cd_I d1, ks, rm, A, B, C, L, K) (cd_I v1) := by
  obtain ⟨q1, q2, q3, q4⟩ := P1
  obtain ⟨r1, r2, r3, r4⟩ := P
  have t1 : d1.natAbs ≤ 162 := by omega
  have t2 : d.natAbs ≤ 162 := by omega
  have m1 := cd_bm b1 t2
  have m2 := cd_bm b t1
  have m3 := cd_bm q1 t2
  have m4 := cd_bm r1 t1
  have m5 := cd_bm q2 t2
  have m6 := cd_bm r2 t1
  have e1 : cd_I v1 * ks - K 0 * cd_I d1 = cd_I (v1 * d - v * d1) := by rw [k0, k3, cd_mul, cd_mul, cd_sub]
  have e2 : K 1 * cd_I d1 - cd_I x1 * ks = cd_I (x * d1 - x1 * d) := by rw [k1, k3, cd_mul, cd_mul, cd_sub]
  have e3 : K 2 * cd_I d1 ≤ cd_I y1 * ks ↔ y * d1 ≤ y1 * d := by rw [k2, k3, cd_mul, cd_mul, cd_le (by omega) (by omega)]
  unfold cd_Bt at h1 h0
  refine nm_r e1 (cd_if (cd_eq0 (by omega)) (fun z1 => nm_r e2 (cd_if (cd_eq0 (by omega)) (fun z2 => cd_if e3 (fun z3 => ?_) (fun z3 => ?_)) (fun z2 => cd_if (cd_le0 (by omega)) (fun z3 => ?_) (fun z3 => ?_)))) (fun z1 => cd_if (cd_le0 (by omega)) (fun z2 => ?_) (fun z2 => ?_)))
  · exact h0 (by omega)
  · exact h1 (by omega)
  · exact h0 (by omega)
  · exact h1 (by omega)
  · exact h0 (by omega)
  · exact h1 (by omega)
theorem cd_x_offer {A B C : Nat → Int32} {post : SX → Prop} {fc fl ks rm V : Int32} {L K : Nat → Int32} {p q r x y d x1 y1 d1 : Int} (hp : p.natAbs ≤ 9) (hq : q.natAbs ≤ 9) (P1 : cd_Pb x1 y1 d1) (P : r = 0 ∨ (r = 1 ∧ cd_Pb x y d))
    (k : cd_KX p q r x y d ks rm K) (eV : V = cd_I (cd_va p q x1 y1))
    (hT : (r = 0 ∨ cd_Bt (cd_va p q x1 y1) x1 y1 d1 (cd_va p q x y) x y d) → ∀ ks rm K, cd_KX p q 1 x1 y1 d1 ks rm K → post (fc, fl, cd_I x1, cd_I y1, cd_I d1, ks, rm, A, B, C, L, K))
    (hK : r = 1 → ¬ cd_Bt (cd_va p q x1 y1) x1 y1 d1 (cd_va p q x y) x y d → post (fc, fl, cd_I x1, cd_I y1, cd_I d1, ks, rm, A, B, C, L, K)) :
    wpX_offerCorner post (fc, fl, cd_I x1, cd_I y1, cd_I d1, ks, rm, A, B, C, L, K) V := by
  have h15 : (r = 0 ∨ cd_Bt (cd_va p q x1 y1) x1 y1 d1 (cd_va p q x y) x y d) → wX_offerCorner_15 post V fc fl (cd_I x1) (cd_I y1) (cd_I d1) ks rm A B C L K := by
    intro z
    refine nm_e (nm_e (nm_e (hT z _ _ _ ⟨cd_1, fun _ => ⟨?_, ?_, ?_, rfl⟩⟩)))
    · rw [cd_un (by decide), cd_un (by decide), cd_us]; exact eV
    · rw [cd_un (by decide), cd_us]
    · rw [cd_us]
  obtain ⟨k1, k2⟩ := k
  rcases P with rfl | ⟨rfl, P⟩
  · have z : rm = 0 := by rw [k1]; exact cd_0.symm
    exact br_t z (h15 (Or.inl rfl))
  · have z : ¬ rm = 0 := by rw [k1, ← cd_1]; exact cd_10
    obtain ⟨e0, e1, e2, e3⟩ := k2 rfl
    refine br_f z ?_
    rw [eV]
    rw [eV] at h15
    exact cd_x_better P1 P (cd_vab hp hq P1.1 P1.2.1) (cd_vab hp hq P.1 P.2.1) e0 e1 e2 e3 (fun t => br_f cd_10 (h15 (Or.inr t))) (fun t => br_t rfl (hK rfl t))
theorem cd_InvP {G : Nat → Nat → Int → Int → Int → Prop} {p q : Int} {V : Nat → Nat → Prop} {r x y d : Int} (hP : ∀ i j x y d, G i j x y d → cd_Pb x y d) (h : cd_Inv G p q V r x y d) : r = 0 ∨ (r = 1 ∧ cd_Pb x y d) := by
  rcases h with ⟨h0, _⟩ | ⟨h0, ⟨i, j, _, g⟩, _⟩
  · exact Or.inl h0
  · exact Or.inr ⟨h0, hP i j x y d g⟩
theorem cd_x_best47 {a b c : Nat → Int} {A B C : Nat → Int32} (HB : cd_Bd a b c) (H : cd_HX a b c A B C) {h F : Nat} (hh : h ≤ 10) {p q : Int} (hp : p.natAbs ≤ 9) (hq : q.natAbs ≤ 9) {post : Int32 → SX → Prop} {J : Int32 → Int32 → Int32 → Int32 → Int32 → Int32 → Int32 → Int32 → (Nat → Int32) → (Nat → Int32) → (Nat → Int32) → (Nat → Int32) → (Nat → Int32) → Prop} {fl : Int32} {L : Nat → Int32}
    (hJ : ∀ r x y d cx cy cs ks rm K, cd_Inv (cd_GX a b c h 14) p q (cd_VX (4 + h) F (4 + h)) r x y d → cd_KX p q r x y d ks rm K → J (nI (F + 1)) (nI h) fl cx cy cs ks rm A B C L K) :
    ∀ m s r x y d cx cy cs ks rm K, s + m = 4 + h → F < s → cd_Inv (cd_GX a b c h 14) p q (cd_VX (4 + h) F s) r x y d → cd_KX p q r x y d ks rm K → wX_best_47 post J (cd_I p) (cd_I q) (nI (4 + h)) (nI F) (m + 1) (nI s) (nI h) fl cx cy cs ks rm A B C L K := by
  have gP : ∀ i j x y d, cd_GX a b c h 14 i j x y d → cd_Pb x y d := fun i j x y d g => cd_Atb HB g.1
  have g0 : ∀ i j x y d, cd_GX a b c h 14 i j x y d → 0 < d := fun i j x y d g => cd_Atpos g.1
  intro m
  induction m with
  | zero =>
    intro s r x y d cx cy cs ks rm K hs hF N k
    have es : s = 4 + h := by omega
    rw [es] at N ⊢
    exact br_t (nI_le (by omega) (by omega)) (nm_r (nI_1 F) (hJ r x y d cx cy cs ks rm K N k))
  | succ m ih =>
    intro s r x y d cx cy cs ks rm K hs hF N k
    have eV := cd_VXs (n := 4 + h) hF (by omega)
    refine br_f (nI_ge (by omega) (by omega)) (cd_x_cross HB H (by omega) (by omega) (fun t => ?_) (fun x1 y1 d1 t => ?_))
    · exact br_t rfl (nm_r (nI_1 s) (ih (s + 1) r x y d _ _ _ _ _ _ (by omega) (by omega) (cd_InvN F s eV (fun x y d z => t x y d z.1) N) k))
    · have hu : ∀ x y d, cd_GX a b c h 14 F s x y d → x = x1 ∧ y = y1 ∧ d = d1 := fun x y d g => cd_Atu t g.1
      refine br_f cd_10 (cd_x_all HB H hh (Lo := 18) (Or.inr rfl) cd_W18 (cd_Atb HB t) (fun z => ?_) (fun z => ?_))
      · refine br_f cd_10 (cd_x_offer hp hq (cd_Atb HB t) (cd_InvP gP N) k (by rw [cd_mul, cd_mul, cd_add]; rfl) (fun b ks rm K k' => ?_) (fun r1 b => ?_))
        · exact nm_r (nI_1 s) (ih (s + 1) 1 x1 y1 d1 _ _ _ _ _ _ (by omega) (by omega) (cd_InvT F s eV ⟨t, z⟩ hu g0 N b) k')
        · exact nm_r (nI_1 s) (ih (s + 1) r x y d _ _ _ _ _ _ (by omega) (by omega) (cd_InvK F s eV hu N r1 b) k)
      · refine br_t rfl (nm_r (nI_1 s) (ih (s + 1) r x y d _ _ _ _ _ _ (by omega) (by omega) (cd_InvN F s eV (fun x' y' d' z' => ?_) N) k))
        obtain ⟨rfl, rfl, rfl⟩ := hu _ _ _ z'
        exact z z'.2
theorem cd_x_best35 {a b c : Nat → Int} {A B C : Nat → Int32} (HB : cd_Bd a b c) (H : cd_HX a b c A B C) {h : Nat} (hh : h ≤ 10) {p q : Int} (hp : p.natAbs ≤ 9) (hq : q.natAbs ≤ 9) {post : Int32 → SX → Prop} {fl : Int32} {L : Nat → Int32}
    (hJ : ∀ r x y d cx cy cs ks rm K, cd_Inv (cd_GX a b c h 14) p q (cd_VX (4 + h) (4 + h) (4 + h + 1)) r x y d → cd_KX p q r x y d ks rm K → post (cd_I r) (nI h, fl, cx, cy, cs, ks, rm, A, B, C, L, K)) :
    ∀ m F r x y d cx cy cs ks rm K, F + m = 4 + h → cd_Inv (cd_GX a b c h 14) p q (cd_VX (4 + h) F (F + 1)) r x y d → cd_KX p q r x y d ks rm K → wX_best_35 post (cd_I p) (cd_I q) (nI (4 + h)) (m + 1) (nI F) (nI h) fl cx cy cs ks rm A B C L K := by
  intro m
  induction m with
  | zero =>
    intro F r x y d cx cy cs ks rm K hF N k
    have eF : F = 4 + h := by omega
    rw [eF] at N ⊢
    have hf := hJ r x y d cx cy cs ks rm K N k
    refine br_t (nI_le (by omega) (by omega)) ?_
    rcases cd_InvP (fun i j x y d g => cd_Atb HB g.1) N with rfl | ⟨rfl, _⟩
    · have z : rm = 0 := by rw [k.1]; exact cd_0.symm
      rw [← cd_0] at hf
      exact br_t z hf
    · have z : ¬ rm = 0 := by rw [k.1, ← cd_1]; exact cd_10
      rw [← cd_1] at hf
      exact br_f z hf
  | succ m ih =>
    intro F r x y d cx cy cs ks rm K hF N k
    refine br_f (nI_ge (by omega) (by omega)) (nm_r (nI_1 F) ⟨m + 1, ?_⟩)
    exact cd_x_best47 HB H hh hp hq (fun r x y d cx cy cs ks rm K N' k' => ih (F + 1) r x y d cx cy cs ks rm K (by omega) (cd_InvC cd_VXr N') k') m (F + 1) r x y d cx cy cs ks rm K (by omega) (by omega) N k
/-- within its range -/
theorem cd_x_within {z n : Int} {N : Int32} (eN : N = cd_I n) (hz : cd_R z) (hn : 0 ≤ n ∧ n ≤ 100) {post : Int32 → Prop} (h1 : z.natAbs ≤ n.toNat → post 1) (h0 : ¬ z.natAbs ≤ n.toNat → post 0) : wpX_isWithin post (cd_I z) N := by
  rw [eN]
  have e1 : cd_I z < -cd_I n ↔ z < -n := by rw [cd_neg, cd_lt hz (by omega)]
  have e2 : cd_I n < cd_I z ↔ n < z := cd_lt (by omega) hz
  exact cd_if e1 (fun q => h0 (by omega)) (fun q => cd_if e2 (fun q2 => h0 (by omega)) (fun q2 => h1 (by omega)))
theorem cd_9 : (9 : Int32) = cd_I 9 := by decide +kernel
theorem cd_99 : (99 : Int32) = cd_I 99 := by decide +kernel
theorem cd_x_best {a b c : Nat → Int} {A B C : Nat → Int32} (HB : cd_Bd a b c) (H : cd_HX a b c A B C) {h : Nat} (hh : h ≤ 10) {p q : Int} (rp : cd_R p) (rq : cd_R q) {post : Int32 → SX → Prop} {fl cx cy cs ks rm : Int32} {L K : Nat → Int32}
    (hJ : p.natAbs ≤ 9 → q.natAbs ≤ 9 → ∀ r x y d cx cy cs ks rm K, cd_Inv (cd_GX a b c h 14) p q (cd_VX (4 + h) (4 + h) (4 + h + 1)) r x y d → cd_KX p q r x y d ks rm K → post (cd_I r) (nI h, fl, cx, cy, cs, ks, rm, A, B, C, L, K))
    (hm : ¬ (p.natAbs ≤ 9 ∧ q.natAbs ≤ 9) → post (-1) (nI h, fl, cx, cy, cs, ks, rm, A, B, C, L, K)) :
    wpX_best post (nI h, fl, cx, cy, cs, ks, rm, A, B, C, L, K) (cd_I p) (cd_I q) := by
  unfold wpX_best
  refine cd_x_within cd_9 rp (by omega) (fun hp => ?_) (fun hp => br_t rfl (hm (fun z => hp z.1)))
  refine br_f cd_10 (cd_x_within cd_9 rq (by omega) (fun hq => ?_) (fun hq => br_t rfl (hm (fun z => hq z.2))))
  refine br_f cd_10 (nm_r (cd_4 h) ⟨4 + h + 1, ?_⟩)
  exact cd_x_best35 HB H hh hp hq (hJ hp hq) (4 + h) 0 0 0 0 1 cx cy cs ks 0 K (by omega) (cd_Inv0 (cd_VX0 _)) ⟨cd_0, fun z => by omega⟩
