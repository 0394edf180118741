/-! The component's searches over pairs of lines -/
/-- pair (i, j) of the component's lines offers a point that meets all but w -/
def cd_GX (a b c : Nat → Int) (h w : Nat) (i j : Nat) (x y d : Int) : Prop := cd_At a b c (cd_s i) (cd_s j) x y d ∧ cd_Ok a b c h w x y d
def cd_No (G : Nat → Nat → Int → Int → Int → Prop) (V : Nat → Nat → Prop) : Prop := ∀ i j x y d, V i j → ¬ G i j x y d
theorem cd_NoN {G : Nat → Nat → Int → Int → Int → Prop} {V V' : Nat → Nat → Prop} (i0 j0 : Nat) (e : ∀ i j, V' i j ↔ V i j ∨ (i = i0 ∧ j = j0)) (hn : ∀ x y d, ¬ G i0 j0 x y d) (h : cd_No G V) : cd_No G V' := by
  intro i j x y d hv
  rcases (e i j).mp hv with hv | ⟨rfl, rfl⟩
  · exact h i j x y d hv
  · exact hn x y d
theorem cd_NoC {G : Nat → Nat → Int → Int → Int → Prop} {V V' : Nat → Nat → Prop} (e : ∀ i j, V i j ↔ V' i j) (h : cd_No G V) : cd_No G V' := fun i j x y d hv => h i j x y d ((e i j).mpr hv)
theorem cd_Atu {a b c : Nat → Int} {i j : Nat} {x y d x' y' d' : Int} (h : cd_At a b c i j x y d) (h' : cd_At a b c i j x' y' d') : x' = x ∧ y' = y ∧ d' = d := by
  obtain ⟨_, e1, e2, e3⟩ := h
  obtain ⟨_, f1, f2, f3⟩ := h'
  exact ⟨f1.trans e1.symm, f2.trans e2.symm, f3.trans e3.symm⟩
theorem cd_x_pos18 {a b c : Nat → Int} {A B C : Nat → Int32} (HB : cd_Bd a b c) (H : cd_HX a b c A B C) {h F : Nat} (hh : h ≤ 10) {post : Int32 → SX → Prop} {J : Int32 → Int32 → Int32 → Int32 → Int32 → Int32 → Int32 → Int32 → (Nat → Int32) → (Nat → Int32) → (Nat → Int32) → (Nat → Int32) → (Nat → Int32) → Prop} {fl ks rm : Int32} {L K : Nat → Int32}
    (hp : ∀ i j x y d, i < j ∧ j < 4 + h → cd_GX a b c h 14 i j x y d → ∀ cx cy cs, post 1 (nI h, fl, cx, cy, cs, ks, rm, A, B, C, L, K))
    (hJ : cd_No (cd_GX a b c h 14) (cd_VX (4 + h) F (4 + h)) → ∀ cx cy cs, J (nI (F + 1)) (nI h) fl cx cy cs ks rm A B C L K) :
    ∀ m s cx cy cs, s + m = 4 + h → F < s → cd_No (cd_GX a b c h 14) (cd_VX (4 + h) F s) → wX_possible_18 post J (nI (4 + h)) (nI F) (m + 1) (nI s) (nI h) fl cx cy cs ks rm A B C L K := by
  intro m
  induction m with
  | zero =>
    intro s cx cy cs hs hF N
    have es : s = 4 + h := by omega
    rw [es] at N ⊢
    exact br_t (nI_le (by omega) (by omega)) (nm_r (nI_1 F) (hJ N cx cy cs))
  | succ m ih =>
    intro s cx cy cs hs hF N
    refine br_f (nI_ge (by omega) (by omega)) (cd_x_cross HB H (by omega) (by omega) (fun q => ?_) (fun x y d q => ?_))
    · exact br_t rfl (nm_r (nI_1 s) (ih (s + 1) _ _ _ (by omega) (by omega) (cd_NoN F s (cd_VXs hF (by omega)) (fun x y d z => q x y d z.1) N)))
    · refine br_f cd_10 (cd_x_all HB H hh (Lo := 18) (Or.inr rfl) cd_W18 (cd_Atb HB q) (fun z => ?_) (fun z => ?_))
      · exact br_f cd_10 (hp F s x y d ⟨hF, by omega⟩ ⟨q, z⟩ _ _ _)
      · refine br_t rfl (nm_r (nI_1 s) (ih (s + 1) _ _ _ (by omega) (by omega) (cd_NoN F s (cd_VXs hF (by omega)) (fun x' y' d' z' => ?_) N)))
        obtain ⟨rfl, rfl, rfl⟩ := cd_Atu q z'.1
        exact z z'.2
theorem cd_x_pos9 {a b c : Nat → Int} {A B C : Nat → Int32} (HB : cd_Bd a b c) (H : cd_HX a b c A B C) {h : Nat} (hh : h ≤ 10) {post : Int32 → SX → Prop} {fl ks rm : Int32} {L K : Nat → Int32}
    (hp : ∀ i j x y d, i < j ∧ j < 4 + h → cd_GX a b c h 14 i j x y d → ∀ cx cy cs, post 1 (nI h, fl, cx, cy, cs, ks, rm, A, B, C, L, K))
    (h0 : cd_No (cd_GX a b c h 14) (cd_VX (4 + h) (4 + h) (4 + h + 1)) → ∀ cx cy cs, post 0 (nI h, fl, cx, cy, cs, ks, rm, A, B, C, L, K)) :
    ∀ m F cx cy cs, F + m = 4 + h → cd_No (cd_GX a b c h 14) (cd_VX (4 + h) F (F + 1)) → wX_possible_9 post (nI (4 + h)) (m + 1) (nI F) (nI h) fl cx cy cs ks rm A B C L K := by
  intro m
  induction m with
  | zero =>
    intro F cx cy cs hF N
    have eF : F = 4 + h := by omega
    rw [eF] at N ⊢
    exact br_t (nI_le (by omega) (by omega)) (h0 N cx cy cs)
  | succ m ih =>
    intro F cx cy cs hF N
    refine br_f (nI_ge (by omega) (by omega)) (nm_r (nI_1 F) ⟨m + 1, ?_⟩)
    exact cd_x_pos18 HB H hh hp (fun N' cx cy cs => ih (F + 1) cx cy cs (by omega) (cd_NoC cd_VXr N')) m (F + 1) cx cy cs (by omega) (by omega) N
theorem cd_x_possible {a b c : Nat → Int} {A B C : Nat → Int32} (HB : cd_Bd a b c) (H : cd_HX a b c A B C) {h : Nat} (hh : h ≤ 10) {post : Int32 → SX → Prop} {fl cx cy cs ks rm : Int32} {L K : Nat → Int32}
    (hp : (∃ i j x y d, (i < j ∧ j < 4 + h) ∧ cd_GX a b c h 14 i j x y d) → ∀ cx cy cs, post 1 (nI h, fl, cx, cy, cs, ks, rm, A, B, C, L, K))
    (h0 : ¬ (∃ i j x y d, (i < j ∧ j < 4 + h) ∧ cd_GX a b c h 14 i j x y d) → ∀ cx cy cs, post 0 (nI h, fl, cx, cy, cs, ks, rm, A, B, C, L, K)) :
    wpX_possible post (nI h, fl, cx, cy, cs, ks, rm, A, B, C, L, K) := by
  refine nm_r (cd_4 h) ⟨4 + h + 1, cd_x_pos9 HB H hh (fun i j x y d q g => hp ⟨i, j, x, y, d, q, g⟩) (fun N => h0 ?_) (4 + h) 0 cx cy cs (by omega) (fun i j x y d v => absurd v (cd_VX0 _ _ _))⟩
  rintro ⟨i, j, x, y, d, q, g⟩
  exact N i j x y d ((cd_VXe i j).mpr q) g
/-- offers that break the line left out -/
def cd_GS (a b c : Nat → Int) (h w : Nat) (i j : Nat) (x y d : Int) : Prop := cd_At a b c (cd_s i) (cd_s j) x y d ∧ (cd_Ok a b c h w x y d ∧ ¬ cd_M a b c w x y d)
theorem cd_x_sp19 {a b c : Nat → Int} {A B C : Nat → Int32} (HB : cd_Bd a b c) (H : cd_HX a b c A B C) {h F Lo : Nat} (hh : h ≤ 10) (hLo : Lo < 14) {post : Int32 → SX → Prop} {J : Int32 → Int32 → Int32 → Int32 → Int32 → Int32 → Int32 → Int32 → (Nat → Int32) → (Nat → Int32) → (Nat → Int32) → (Nat → Int32) → (Nat → Int32) → Prop} {fl ks rm : Int32} {L K : Nat → Int32}
    (hp : ∀ i j x y d, i < j ∧ j < 4 + h → cd_GS a b c h (cd_s Lo) i j x y d → ∀ cx cy cs, post 0 (nI h, fl, cx, cy, cs, ks, rm, A, B, C, L, K))
    (hJ : cd_No (cd_GS a b c h (cd_s Lo)) (cd_VX (4 + h) F (4 + h)) → ∀ cx cy cs, J (nI (F + 1)) (nI h) fl cx cy cs ks rm A B C L K) :
    ∀ m s cx cy cs, s + m = 4 + h → F < s → cd_No (cd_GS a b c h (cd_s Lo)) (cd_VX (4 + h) F s) → wX_isSpare_19 post J (nI Lo) (nI (4 + h)) (nI F) (m + 1) (nI s) (nI h) fl cx cy cs ks rm A B C L K := by
  intro m
  induction m with
  | zero =>
    intro s cx cy cs hs hF N
    have es : s = 4 + h := by omega
    rw [es] at N ⊢
    exact br_t (nI_le (by omega) (by omega)) (nm_r (nI_1 F) (hJ N cx cy cs))
  | succ m ih =>
    intro s cx cy cs hs hF N
    refine br_f (nI_ge (by omega) (by omega)) (cd_x_cross HB H (by omega) (by omega) (fun q => ?_) (fun x y d q => ?_))
    · exact br_t rfl (nm_r (nI_1 s) (ih (s + 1) _ _ _ (by omega) (by omega) (cd_NoN F s (cd_VXs hF (by omega)) (fun x y d z => q x y d z.1) N)))
    · refine br_f cd_10 (cd_x_meets HB H hLo (cd_Atb HB q) (fun z => ?_) (fun z => ?_))
      · refine br_f cd_10 (nm_r (nI_1 s) (ih (s + 1) _ _ _ (by omega) (by omega) (cd_NoN F s (cd_VXs hF (by omega)) (fun x' y' d' z' => ?_) N)))
        obtain ⟨rfl, rfl, rfl⟩ := cd_Atu q z'.1
        exact z'.2.2 z
      · refine br_t rfl (cd_x_all HB H hh (Lo := Lo) (Or.inl hLo) (cd_Wn hLo) (cd_Atb HB q) (fun z2 => ?_) (fun z2 => ?_))
        · exact br_f cd_10 (hp F s x y d ⟨hF, by omega⟩ ⟨q, z2, z⟩ _ _ _)
        · refine br_t rfl (nm_r (nI_1 s) (ih (s + 1) _ _ _ (by omega) (by omega) (cd_NoN F s (cd_VXs hF (by omega)) (fun x' y' d' z' => ?_) N)))
          obtain ⟨rfl, rfl, rfl⟩ := cd_Atu q z'.1
          exact z2 z'.2.1
theorem cd_x_sp9 {a b c : Nat → Int} {A B C : Nat → Int32} (HB : cd_Bd a b c) (H : cd_HX a b c A B C) {h Lo : Nat} (hh : h ≤ 10) (hLo : Lo < 14) {post : Int32 → SX → Prop} {fl ks rm : Int32} {L K : Nat → Int32}
    (hp : ∀ i j x y d, i < j ∧ j < 4 + h → cd_GS a b c h (cd_s Lo) i j x y d → ∀ cx cy cs, post 0 (nI h, fl, cx, cy, cs, ks, rm, A, B, C, L, K))
    (h0 : cd_No (cd_GS a b c h (cd_s Lo)) (cd_VX (4 + h) (4 + h) (4 + h + 1)) → ∀ cx cy cs, post 1 (nI h, fl, cx, cy, cs, ks, rm, A, B, C, L, K)) :
    ∀ m F cx cy cs, F + m = 4 + h → cd_No (cd_GS a b c h (cd_s Lo)) (cd_VX (4 + h) F (F + 1)) → wX_isSpare_9 post (nI Lo) (nI (4 + h)) (m + 1) (nI F) (nI h) fl cx cy cs ks rm A B C L K := by
  intro m
  induction m with
  | zero =>
    intro F cx cy cs hF N
    have eF : F = 4 + h := by omega
    rw [eF] at N ⊢
    exact br_t (nI_le (by omega) (by omega)) (h0 N cx cy cs)
  | succ m ih =>
    intro F cx cy cs hF N
    refine br_f (nI_ge (by omega) (by omega)) (nm_r (nI_1 F) ⟨m + 1, ?_⟩)
    exact cd_x_sp19 HB H hh hLo hp (fun N' cx cy cs => ih (F + 1) cx cy cs (by omega) (cd_NoC cd_VXr N')) m (F + 1) cx cy cs (by omega) (by omega) N
theorem cd_x_isSpare {a b c : Nat → Int} {A B C : Nat → Int32} (HB : cd_Bd a b c) (H : cd_HX a b c A B C) {h Lo : Nat} (hh : h ≤ 10) (hLo : Lo < 14) {post : Int32 → SX → Prop} {fl cx cy cs ks rm : Int32} {L K : Nat → Int32}
    (hp : (∃ i j x y d, (i < j ∧ j < 4 + h) ∧ cd_GS a b c h (cd_s Lo) i j x y d) → ∀ cx cy cs, post 0 (nI h, fl, cx, cy, cs, ks, rm, A, B, C, L, K))
    (h0 : ¬ (∃ i j x y d, (i < j ∧ j < 4 + h) ∧ cd_GS a b c h (cd_s Lo) i j x y d) → ∀ cx cy cs, post 1 (nI h, fl, cx, cy, cs, ks, rm, A, B, C, L, K)) :
    wpX_isSpare post (nI h, fl, cx, cy, cs, ks, rm, A, B, C, L, K) (nI Lo) := by
  refine nm_r (cd_4 h) ⟨4 + h + 1, cd_x_sp9 HB H hh hLo (fun i j x y d q g => hp ⟨i, j, x, y, d, q, g⟩) (fun N => h0 ?_) (4 + h) 0 cx cy cs (by omega) (fun i j x y d v => absurd v (cd_VX0 _ _ _))⟩
  rintro ⟨i, j, x, y, d, q, g⟩
  exact N i j x y d ((cd_VXe i j).mpr q) g
