/-! The reference's searches over pairs of lines -/
def cd_GY (a b c : Nat → Int) (h w : Nat) (i j : Nat) (x y d : Int) : Prop := cd_At a b c i j x y d ∧ cd_Ok a b c h w x y d
def cd_GT (a b c : Nat → Int) (h w : Nat) (i j : Nat) (x y d : Int) : Prop := cd_At a b c i j x y d ∧ (cd_Ok a b c h w x y d ∧ ¬ cd_M a b c w x y d)
def cd_T (h w i : Nat) : Prop := cd_Th h i ∧ i ≠ w
theorem cd_y_pos10 {a b c : Nat → Int} {A B C : Nat → Int32} (HB : cd_Bd a b c) (H : cd_HY a b c A B C) {h I : Nat} (hh : h ≤ 10) (hI : I < 14) {post : Int32 → SY → Prop} {J : Int32 → Int32 → Int32 → Int64 → Int64 → Int64 → Int32 → Int64 → Int64 → Int64 → Int32 → Int32 → (Nat → Int32) → (Nat → Int32) → (Nat → Int32) → (Nat → Int32) → Prop} {fl kn : Int32} {bx by_ bu : Int64} {ap aq : Int32} {bg : Nat → Int32}
    (hp : ∀ i j x y d, (j < i ∧ i < 14 ∧ cd_T h 14 i ∧ cd_T h 14 j) → cd_GY a b c h 14 i j x y d → ∀ cx cy un, post 1 (nI h, fl, cx, cy, un, kn, bx, by_, bu, ap, aq, bg, A, B, C))
    (hJ : cd_No (cd_GY a b c h 14) (cd_VY (cd_T h 14) I I) → ∀ cx cy un, J (nI (I + 1)) (nI h) fl cx cy un kn bx by_ bu ap aq bg A B C) :
    ∀ m s cx cy un, s + m = I → cd_No (cd_GY a b c h 14) (cd_VY (cd_T h 14) I s) → wY_possible_10 post J (nI I) (m + 1) (nI s) (nI h) fl cx cy un kn bx by_ bu ap aq bg A B C := by
  intro m
  induction m with
  | zero =>
    intro s cx cy un hs N
    have es : s = I := by omega
    rw [es] at N ⊢
    exact br_t (nI_le (by omega) (by omega)) (nm_r (nI_1 I) (hJ N cx cy un))
  | succ m ih =>
    intro s cx cy un hs N
    refine br_f (nI_ge (by omega) (by omega)) (cd_y_there hh hI cd_W14 (fun tI => br_f cd_10 (cd_y_there hh (by omega) cd_W14 (fun tJ => br_f cd_10 ?_) (fun tJ => ?_))) (fun tI => ?_))
    · refine cd_y_meet HB H hI (by omega) (fun q => ?_) (fun x y d q => ?_)
      · exact br_t rfl (nm_r (nI_1 s) (ih (s + 1) _ _ _ (by omega) (cd_NoN I s (cd_VYs (by omega) hI tI tJ) (fun x y d z => q x y d z.1) N)))
      · refine br_f cd_10 (cd_y_all HB H hh cd_W14 (cd_Atb HB q) (fun z => ?_) (fun z => ?_))
        · exact br_f cd_10 (hp I s x y d ⟨by omega, hI, tI, tJ⟩ ⟨q, z⟩ _ _ _)
        · refine br_t rfl (nm_r (nI_1 s) (ih (s + 1) _ _ _ (by omega) (cd_NoN I s (cd_VYs (by omega) hI tI tJ) (fun x' y' d' z' => ?_) N)))
          obtain ⟨rfl, rfl, rfl⟩ := cd_Atu q z'.1
          exact z z'.2
    · exact br_t rfl (nm_r (nI_1 s) (ih (s + 1) _ _ _ (by omega) (cd_NoC (cd_VYn (fun z => tJ z.2)) N)))
    · exact br_t rfl (nm_r (nI_1 s) (ih (s + 1) _ _ _ (by omega) (cd_NoC (cd_VYn (fun z => tI z.1)) N)))
theorem cd_y_pos2 {a b c : Nat → Int} {A B C : Nat → Int32} (HB : cd_Bd a b c) (H : cd_HY a b c A B C) {h : Nat} (hh : h ≤ 10) {post : Int32 → SY → Prop} {fl kn : Int32} {bx by_ bu : Int64} {ap aq : Int32} {bg : Nat → Int32}
    (hp : ∀ i j x y d, (j < i ∧ i < 14 ∧ cd_T h 14 i ∧ cd_T h 14 j) → cd_GY a b c h 14 i j x y d → ∀ cx cy un, post 1 (nI h, fl, cx, cy, un, kn, bx, by_, bu, ap, aq, bg, A, B, C))
    (h0 : cd_No (cd_GY a b c h 14) (cd_VY (cd_T h 14) 14 0) → ∀ cx cy un, post 0 (nI h, fl, cx, cy, un, kn, bx, by_, bu, ap, aq, bg, A, B, C)) :
    ∀ m I cx cy un, I + m = 14 → cd_No (cd_GY a b c h 14) (cd_VY (cd_T h 14) I 0) → wY_possible_2 post (m + 1) (nI I) (nI h) fl cx cy un kn bx by_ bu ap aq bg A B C := by
  intro m
  induction m with
  | zero =>
    intro I cx cy un hI N
    have eI : I = 14 := by omega
    rw [eI] at N ⊢
    exact br_t (nI_le (a := 14) (by omega) (by omega)) (h0 N cx cy un)
  | succ m ih =>
    intro I cx cy un hI N
    refine br_f (nI_ge (b := 14) (by omega) (by omega)) ⟨I + 1, ?_⟩
    exact cd_y_pos10 HB H hh (by omega) hp (fun N' cx cy un => ih (I + 1) cx cy un (by omega) (cd_NoC cd_VYr N')) I 0 cx cy un (by omega) N
theorem cd_y_possible {a b c : Nat → Int} {A B C : Nat → Int32} (HB : cd_Bd a b c) (H : cd_HY a b c A B C) {h : Nat} (hh : h ≤ 10) {post : Int32 → SY → Prop} {cx cy un : Int64} {fl kn : Int32} {bx by_ bu : Int64} {ap aq : Int32} {bg : Nat → Int32}
    (hp : (∃ i j x y d, (j < i ∧ i < 14 ∧ cd_T h 14 i ∧ cd_T h 14 j) ∧ cd_GY a b c h 14 i j x y d) → ∀ cx cy un, post 1 (nI h, fl, cx, cy, un, kn, bx, by_, bu, ap, aq, bg, A, B, C))
    (h0 : ¬ (∃ i j x y d, (j < i ∧ i < 14 ∧ cd_T h 14 i ∧ cd_T h 14 j) ∧ cd_GY a b c h 14 i j x y d) → ∀ cx cy un, post 0 (nI h, fl, cx, cy, un, kn, bx, by_, bu, ap, aq, bg, A, B, C)) :
    wpY_possible post (nI h, fl, cx, cy, un, kn, bx, by_, bu, ap, aq, bg, A, B, C) := by
  refine ⟨15, cd_y_pos2 HB H hh (fun i j x y d q g => hp ⟨i, j, x, y, d, q, g⟩) (fun N => h0 ?_) 14 0 cx cy un (by omega) (fun i j x y d v => absurd v (cd_VY0 _ _ _))⟩
  rintro ⟨i, j, x, y, d, q, g⟩
  exact N i j x y d ((cd_VYe i j).mpr q) g
theorem cd_y_sp10 {a b c : Nat → Int} {A B C : Nat → Int32} (HB : cd_Bd a b c) (H : cd_HY a b c A B C) {h I w : Nat} (hh : h ≤ 10) (hw : w < 14) (hI : I < 14) {post : Int32 → SY → Prop} {J : Int32 → Int32 → Int32 → Int64 → Int64 → Int64 → Int32 → Int64 → Int64 → Int64 → Int32 → Int32 → (Nat → Int32) → (Nat → Int32) → (Nat → Int32) → (Nat → Int32) → Prop} {fl kn : Int32} {bx by_ bu : Int64} {ap aq : Int32} {bg : Nat → Int32}
    (hp : ∀ i j x y d, (j < i ∧ i < 14 ∧ cd_T h w i ∧ cd_T h w j) → cd_GT a b c h w i j x y d → ∀ cx cy un, post 0 (nI h, fl, cx, cy, un, kn, bx, by_, bu, ap, aq, bg, A, B, C))
    (hJ : cd_No (cd_GT a b c h w) (cd_VY (cd_T h w) I I) → ∀ cx cy un, J (nI (I + 1)) (nI h) fl cx cy un kn bx by_ bu ap aq bg A B C) :
    ∀ m s cx cy un, s + m = I → cd_No (cd_GT a b c h w) (cd_VY (cd_T h w) I s) → wY_spared_10 post J (nI w) (nI I) (m + 1) (nI s) (nI h) fl cx cy un kn bx by_ bu ap aq bg A B C := by
  intro m
  induction m with
  | zero =>
    intro s cx cy un hs N
    have es : s = I := by omega
    rw [es] at N ⊢
    exact br_t (nI_le (by omega) (by omega)) (nm_r (nI_1 I) (hJ N cx cy un))
  | succ m ih =>
    intro s cx cy un hs N
    refine br_f (nI_ge (by omega) (by omega)) (cd_y_there hh hI (cd_Wn hw) (fun tI => br_f cd_10 (cd_y_there hh (by omega) (cd_Wn hw) (fun tJ => br_f cd_10 ?_) (fun tJ => ?_))) (fun tI => ?_))
    · refine cd_y_meet HB H hI (by omega) (fun q => ?_) (fun x y d q => ?_)
      · exact br_t rfl (nm_r (nI_1 s) (ih (s + 1) _ _ _ (by omega) (cd_NoN I s (cd_VYs (by omega) hI tI tJ) (fun x y d z => q x y d z.1) N)))
      · refine br_f cd_10 (cd_y_all HB H hh (cd_Wn hw) (cd_Atb HB q) (fun z => ?_) (fun z => ?_))
        · refine br_f cd_10 (cd_y_meets HB H hw (cd_Atb HB q) (fun z2 => ?_) (fun z2 => ?_))
          · refine br_f cd_10 (nm_r (nI_1 s) (ih (s + 1) _ _ _ (by omega) (cd_NoN I s (cd_VYs (by omega) hI tI tJ) (fun x' y' d' z' => ?_) N)))
            obtain ⟨rfl, rfl, rfl⟩ := cd_Atu q z'.1
            exact z'.2.2 z2
          · exact br_t rfl (hp I s x y d ⟨by omega, hI, tI, tJ⟩ ⟨q, z, z2⟩ _ _ _)
        · refine br_t rfl (nm_r (nI_1 s) (ih (s + 1) _ _ _ (by omega) (cd_NoN I s (cd_VYs (by omega) hI tI tJ) (fun x' y' d' z' => ?_) N)))
          obtain ⟨rfl, rfl, rfl⟩ := cd_Atu q z'.1
          exact z z'.2.1
    · exact br_t rfl (nm_r (nI_1 s) (ih (s + 1) _ _ _ (by omega) (cd_NoC (cd_VYn (fun z => tJ z.2)) N)))
    · exact br_t rfl (nm_r (nI_1 s) (ih (s + 1) _ _ _ (by omega) (cd_NoC (cd_VYn (fun z => tI z.1)) N)))
theorem cd_y_sp2 {a b c : Nat → Int} {A B C : Nat → Int32} (HB : cd_Bd a b c) (H : cd_HY a b c A B C) {h w : Nat} (hh : h ≤ 10) (hw : w < 14) {post : Int32 → SY → Prop} {fl kn : Int32} {bx by_ bu : Int64} {ap aq : Int32} {bg : Nat → Int32}
    (hp : ∀ i j x y d, (j < i ∧ i < 14 ∧ cd_T h w i ∧ cd_T h w j) → cd_GT a b c h w i j x y d → ∀ cx cy un, post 0 (nI h, fl, cx, cy, un, kn, bx, by_, bu, ap, aq, bg, A, B, C))
    (h0 : cd_No (cd_GT a b c h w) (cd_VY (cd_T h w) 14 0) → ∀ cx cy un, post 1 (nI h, fl, cx, cy, un, kn, bx, by_, bu, ap, aq, bg, A, B, C)) :
    ∀ m I cx cy un, I + m = 14 → cd_No (cd_GT a b c h w) (cd_VY (cd_T h w) I 0) → wY_spared_2 post (nI w) (m + 1) (nI I) (nI h) fl cx cy un kn bx by_ bu ap aq bg A B C := by
  intro m
  induction m with
  | zero =>
    intro I cx cy un hI N
    have eI : I = 14 := by omega
    rw [eI] at N ⊢
    exact br_t (nI_le (a := 14) (by omega) (by omega)) (h0 N cx cy un)
  | succ m ih =>
    intro I cx cy un hI N
    refine br_f (nI_ge (b := 14) (by omega) (by omega)) ⟨I + 1, ?_⟩
    exact cd_y_sp10 HB H hh hw (by omega) hp (fun N' cx cy un => ih (I + 1) cx cy un (by omega) (cd_NoC cd_VYr N')) I 0 cx cy un (by omega) N
theorem cd_y_spared {a b c : Nat → Int} {A B C : Nat → Int32} (HB : cd_Bd a b c) (H : cd_HY a b c A B C) {h w : Nat} (hh : h ≤ 10) (hw : w < 14) {post : Int32 → SY → Prop} {cx cy un : Int64} {fl kn : Int32} {bx by_ bu : Int64} {ap aq : Int32} {bg : Nat → Int32}
    (hp : (∃ i j x y d, (j < i ∧ i < 14 ∧ cd_T h w i ∧ cd_T h w j) ∧ cd_GT a b c h w i j x y d) → ∀ cx cy un, post 0 (nI h, fl, cx, cy, un, kn, bx, by_, bu, ap, aq, bg, A, B, C))
    (h0 : ¬ (∃ i j x y d, (j < i ∧ i < 14 ∧ cd_T h w i ∧ cd_T h w j) ∧ cd_GT a b c h w i j x y d) → ∀ cx cy un, post 1 (nI h, fl, cx, cy, un, kn, bx, by_, bu, ap, aq, bg, A, B, C)) :
    wpY_spared post (nI h, fl, cx, cy, un, kn, bx, by_, bu, ap, aq, bg, A, B, C) (nI w) := by
  refine ⟨15, cd_y_sp2 HB H hh hw (fun i j x y d q g => hp ⟨i, j, x, y, d, q, g⟩) (fun N => h0 ?_) 14 0 cx cy un (by omega) (fun i j x y d v => absurd v (cd_VY0 _ _ _))⟩
  rintro ⟨i, j, x, y, d, q, g⟩
  exact N i j x y d ((cd_VYe i j).mpr q) g
