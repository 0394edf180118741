/-! The reference's best -/
def cd_KY (r x y d : Int) (an : Int32) (bx by_ bu : Int64) : Prop :=
  an = cd_I r ∧ (r = 1 → bx = cd_L x ∧ by_ = cd_L y ∧ bu = cd_L d)
theorem cd_y_se15 {a b c : Nat → Int} {A B C : Nat → Int32} (HB : cd_Bd a b c) (H : cd_HY a b c A B C) {h I : Nat} (hh : h ≤ 10) (hI : I < 14) {p q : Int} (hp : p.natAbs ≤ 9) (hq : q.natAbs ≤ 9) {post : Int32 → SY → Prop} {J : Int32 → Int32 → Int32 → Int32 → Int64 → Int64 → Int64 → Int32 → Int64 → Int64 → Int64 → Int32 → Int32 → (Nat → Int32) → (Nat → Int32) → (Nat → Int32) → (Nat → Int32) → Prop} {fl kn ap aq : Int32} {bg : Nat → Int32}
    (hJ : ∀ r x y d an cx cy un bx by_ bu, cd_Inv (cd_GY a b c h 14) p q (cd_VY (cd_T h 14) I I) r x y d → cd_KY r x y d an bx by_ bu → J an (nI (I + 1)) (nI h) fl cx cy un kn bx by_ bu ap aq bg A B C) :
    ∀ m s r x y d an cx cy un bx by_ bu, s + m = I → cd_Inv (cd_GY a b c h 14) p q (cd_VY (cd_T h 14) I s) r x y d → cd_KY r x y d an bx by_ bu → wY_search_15 post J (cd_I p) (cd_I q) (nI I) (m + 1) an (nI s) (nI h) fl cx cy un kn bx by_ bu ap aq bg A B C := by
  have gP : ∀ i j x y d, cd_GY a b c h 14 i j x y d → cd_Pb x y d := fun i j x y d g => cd_Atb HB g.1
  have g0 : ∀ i j x y d, cd_GY a b c h 14 i j x y d → 0 < d := fun i j x y d g => cd_Atpos g.1
  intro m
  induction m with
  | zero =>
    intro s r x y d an cx cy un bx by_ bu hs N k
    have es : s = I := by omega
    rw [es] at N ⊢
    exact br_t (nI_le (by omega) (by omega)) (nm_r (nI_1 I) (hJ r x y d an cx cy un bx by_ bu N k))
  | succ m ih =>
    intro s r x y d an cx cy un bx by_ bu hs N k
    refine br_f (nI_ge (by omega) (by omega)) (cd_y_there hh hI cd_W14 (fun tI => br_f cd_10 (cd_y_there hh (by omega) cd_W14 (fun tJ => br_f cd_10 ?_) (fun tJ => ?_))) (fun tI => ?_))
    · have eV := cd_VYs (T := cd_T h 14) (I := I) (J := s) (by omega) hI tI tJ
      refine cd_y_meet HB H hI (by omega) (fun t => ?_) (fun x1 y1 d1 t => ?_)
      · exact br_t rfl (nm_r (nI_1 s) (ih (s + 1) r x y d _ _ _ _ _ _ _ (by omega) (cd_InvN I s eV (fun x y d z => t x y d z.1) N) k))
      · have hu : ∀ x y d, cd_GY a b c h 14 I s x y d → x = x1 ∧ y = y1 ∧ d = d1 := fun x y d g => cd_Atu t g.1
        refine br_f cd_10 (cd_y_all HB H hh cd_W14 (cd_Atb HB t) (fun z => br_f cd_10 ?_) (fun z => ?_))
        · have hT : (r = 0 ∨ cd_Bt (cd_va p q x1 y1) x1 y1 d1 (cd_va p q x y) x y d) → wY_search_74 post J (wY_search_15 post J (cd_I p) (cd_I q) (nI I) (m + 1)) (cd_I p) (cd_I q) (nI I) (nI s) (nI h) fl (cd_L x1) (cd_L y1) (cd_L d1) kn bx by_ bu ap aq bg A B C := by
            intro bt
            exact nm_r (nI_1 s) (ih (s + 1) 1 x1 y1 d1 1 _ _ _ _ _ _ (by omega) (cd_InvT I s eV ⟨t, z⟩ hu g0 N bt) ⟨cd_1, fun _ => ⟨rfl, rfl, rfl⟩⟩)
          rcases cd_InvP gP N with r0 | ⟨r1, P⟩
          · have z0 : an = 0 := by rw [k.1, r0]; exact cd_0.symm
            exact br_t z0 (hT (Or.inl r0))
          · have z0 : ¬ an = 0 := by rw [k.1, r1, ← cd_1]; exact cd_10
            obtain ⟨k1, k2, k3⟩ := k.2 r1
            refine br_f z0 (cd_y_better hp hq (cd_Atb HB t) P k1 k2 k3 (fun bt => br_f cd_10 (hT (Or.inr bt))) (fun bt => ?_))
            exact br_t rfl (nm_r (nI_1 s) (ih (s + 1) r x y d _ _ _ _ _ _ _ (by omega) (cd_InvK I s eV hu N r1 bt) k))
        · refine br_t rfl (nm_r (nI_1 s) (ih (s + 1) r x y d _ _ _ _ _ _ _ (by omega) (cd_InvN I s eV (fun x' y' d' z' => ?_) N) k))
          obtain ⟨rfl, rfl, rfl⟩ := hu _ _ _ z'
          exact z z'.2
    · exact br_t rfl (nm_r (nI_1 s) (ih (s + 1) r x y d _ _ _ _ _ _ _ (by omega) (cd_InvC (cd_VYn (fun z => tJ z.2)) N) k))
    · exact br_t rfl (nm_r (nI_1 s) (ih (s + 1) r x y d _ _ _ _ _ _ _ (by omega) (cd_InvC (cd_VYn (fun z => tI z.1)) N) k))
theorem cd_nar {r : Int} (h : r = 0 ∨ r = 1) : narrow .boolean (.int (cd_I r)) = .int (cd_I r) ∧ fits .boolean (.int (cd_I r)) = true := by
  rcases h with rfl | rfl
  · rw [← cd_0]; exact ⟨rfl, rfl⟩
  · rw [← cd_1]; exact ⟨rfl, rfl⟩
theorem cd_y_se5 {a b c : Nat → Int} {A B C : Nat → Int32} (HB : cd_Bd a b c) (H : cd_HY a b c A B C) {h : Nat} (hh : h ≤ 10) {p q : Int} (hp : p.natAbs ≤ 9) (hq : q.natAbs ≤ 9) {post : Int32 → SY → Prop} {fl kn ap aq : Int32} {bg : Nat → Int32}
    (hJ : ∀ r x y d cx cy un bx by_ bu, cd_Inv (cd_GY a b c h 14) p q (cd_VY (cd_T h 14) 14 0) r x y d → cd_KY r x y d (cd_I r) bx by_ bu → post (cd_I r) (nI h, fl, cx, cy, un, kn, bx, by_, bu, ap, aq, bg, A, B, C)) :
    ∀ m I r x y d an cx cy un bx by_ bu, I + m = 14 → cd_Inv (cd_GY a b c h 14) p q (cd_VY (cd_T h 14) I 0) r x y d → cd_KY r x y d an bx by_ bu → wY_search_5 post (cd_I p) (cd_I q) (m + 1) an (nI I) (nI h) fl cx cy un kn bx by_ bu ap aq bg A B C := by
  intro m
  induction m with
  | zero =>
    intro I r x y d an cx cy un bx by_ bu hI N k
    have eI : I = 14 := by omega
    rw [eI] at N ⊢
    have er : r = 0 ∨ r = 1 := by
      rcases cd_InvP (fun i j x y d g => cd_Atb HB g.1) N with z | ⟨z, _⟩
      · exact Or.inl z
      · exact Or.inr z
    have ea := k.1
    subst ea
    exact br_t (nI_le (a := 14) (by omega) (by omega)) ⟨(cd_nar er).1, hJ r x y d cx cy un bx by_ bu N k⟩
  | succ m ih =>
    intro I r x y d an cx cy un bx by_ bu hI N k
    refine br_f (nI_ge (b := 14) (by omega) (by omega)) ⟨I + 1, ?_⟩
    exact cd_y_se15 HB H hh (by omega) hp hq (fun r x y d an cx cy un bx by_ bu N' k' => ih (I + 1) r x y d an cx cy un bx by_ bu (by omega) (cd_InvC cd_VYr N') k') I 0 r x y d an cx cy un bx by_ bu (by omega) N k
theorem cd_y_best {a b c : Nat → Int} {A B C : Nat → Int32} (HB : cd_Bd a b c) (H : cd_HY a b c A B C) {h : Nat} (hh : h ≤ 10) {p q : Int} (rp : cd_R p) (rq : cd_R q) {post : Int32 → SY → Prop} {cx cy un bx by_ bu : Int64} {fl kn ap aq : Int32} {bg : Nat → Int32}
    (hJ : p.natAbs ≤ 9 → q.natAbs ≤ 9 → ∀ r x y d cx cy un bx by_ bu, cd_Inv (cd_GY a b c h 14) p q (cd_VY (cd_T h 14) 14 0) r x y d → cd_KY r x y d (cd_I r) bx by_ bu → post (cd_I r) (nI h, fl, cx, cy, un, cd_I r, bx, by_, bu, cd_I p, cd_I q, bg, A, B, C))
    (hm : ¬ (p.natAbs ≤ 9 ∧ q.natAbs ≤ 9) → post (-1) (nI h, fl, cx, cy, un, kn, bx, by_, bu, ap, aq, bg, A, B, C)) :
    wpY_best post (nI h, fl, cx, cy, un, kn, bx, by_, bu, ap, aq, bg, A, B, C) (cd_I p) (cd_I q) := by
  have em : (-9 : Int32) = cd_I (-9) := by decide +kernel
  have e1 : cd_I p < -9 ↔ p < -9 := by rw [em]; exact cd_lt rp (by omega)
  have e2 : (9 : Int32) < cd_I p ↔ 9 < p := by rw [cd_9]; exact cd_lt (by omega) rp
  have e3 : cd_I q < -9 ↔ q < -9 := by rw [em]; exact cd_lt rq (by omega)
  have e4 : cd_I q ≤ (9 : Int32) ↔ q ≤ 9 := by rw [cd_9]; exact cd_le rq (by omega)
  refine cd_if e1 (fun z1 => hm (by omega)) (fun z1 => cd_if e2 (fun z2 => hm (by omega)) (fun z2 => cd_if e3 (fun z3 => hm (by omega)) (fun z3 => cd_if e4 (fun z4 => ?_) (fun z4 => hm (by omega)))))
  have hp : p.natAbs ≤ 9 := by omega
  have hq : q.natAbs ≤ 9 := by omega
  refine ⟨15, cd_y_se5 HB H hh hp hq (fun r x y d cx cy un bx by_ bu N k => ?_) 14 0 0 0 0 1 0 cx cy un bx by_ bu (by omega) (cd_Inv0 (cd_VY0 _)) ⟨cd_0, fun z => by omega⟩⟩
  have hf := hJ hp hq r x y d cx cy un bx by_ bu N k
  rcases cd_InvP (fun i j x y d g => cd_Atb HB g.1) N with rfl | ⟨rfl, _⟩
  · refine ⟨(cd_nar (Or.inl rfl)).1, (cd_nar (Or.inl rfl)).2, br_t cd_0.symm ?_⟩
    rw [← cd_0] at hf ⊢
    exact hf
  · refine ⟨(cd_nar (Or.inr rfl)).1, (cd_nar (Or.inr rfl)).2, br_f (by rw [← cd_1]; exact cd_10) ?_⟩
    rw [← cd_1] at hf ⊢
    exact hf
