/-! The relation -/
def cd_Mem (ks rm : Int32) (K : Nat → Int32) (kn : Int32) (bx by_ bu : Int64) (ap aq : Int32) : Prop :=
  (rm = 0 ∧ kn = 0) ∨ (rm = 1 ∧ kn = 1 ∧ ∃ p q x y d x' y' d' : Int, p.natAbs ≤ 9 ∧ q.natAbs ≤ 9 ∧ cd_Pb x y d ∧ cd_Pb x' y' d' ∧
    K 0 = cd_I (cd_va p q x y) ∧ K 1 = cd_I x ∧ K 2 = cd_I y ∧ ks = cd_I d ∧ bx = cd_L x' ∧ by_ = cd_L y' ∧ bu = cd_L d' ∧ ap = cd_I p ∧ aq = cd_I q ∧
    x * d' = x' * d ∧ y * d' = y' * d)
def cd_Lv (h m : Nat) (L : Nat → Int32) : Prop := h ≤ 10 ∧ 1 ≤ m ∧ m ≤ 8 ∧ ∀ i, i < 8 → ∃ g, g ≤ 10 ∧ L i = nI g
def i_Rel (k : Nat) (u : SX) (v : SY) : Prop :=
  ∃ (a b c : Nat → Int) (h m : Nat) (cx cy cs ks rm : Int32) (A B C L K : Nat → Int32) (cx' cy' un : Int64) (kn : Int32) (bx by_ bu : Int64) (ap aq : Int32) (A' B' C' : Nat → Int32),
    u = (nI h, nI m, cx, cy, cs, ks, rm, A, B, C, L, K) ∧ v = (nI h, nI m, cx', cy', un, kn, bx, by_, bu, ap, aq, L, A', B', C') ∧ cd_Bd a b c ∧ cd_HX a b c A B C ∧ cd_HY a b c A' B' C' ∧ cd_Lv h m L ∧ cd_Mem ks rm K kn bx by_ bu ap aq
theorem cd_rel {k : Nat} {a b c : Nat → Int} {h m : Nat} {cx cy cs ks rm : Int32} {A B C L K : Nat → Int32} {cx' cy' un : Int64} {kn : Int32} {bx by_ bu : Int64} {ap aq : Int32} {A' B' C' : Nat → Int32}
    (HB : cd_Bd a b c) (HX : cd_HX a b c A B C) (HY : cd_HY a b c A' B' C') (LV : cd_Lv h m L) (ME : cd_Mem ks rm K kn bx by_ bu ap aq) : i_Rel k (nI h, nI m, cx, cy, cs, ks, rm, A, B, C, L, K) (nI h, nI m, cx', cy', un, kn, bx, by_, bu, ap, aq, L, A', B', C') :=
  ⟨a, b, c, h, m, cx, cy, cs, ks, rm, A, B, C, L, K, cx', cy', un, kn, bx, by_, bu, ap, aq, A', B', C', rfl, rfl, HB, HX, HY, LV, ME⟩
theorem i_up {k : Nat} {u : SX} {v : SY} (h : i_Rel k u v) : i_Rel (k + 4) u v := h
/-! setting a line -/
theorem cd_x_set {post : SX → Prop} {fc fl cx cy cs ks rm I p q r : Int32} {A B C L K : Nat → Int32} {l : Nat} (hl : l < 14) (e : I = nI l)
    (h : post (fc, fl, cx, cy, cs, ks, rm, upd A l p, upd B l q, upd C l r, L, K)) : wpX_setLine post (fc, fl, cx, cy, cs, ks, rm, A, B, C, L, K) I p q r := by
  subst e
  have v : vp_in (nI l) 14 := vp_in_nI hl (by omega)
  unfold wpX_setLine
  rw [cd_nc hl]
  exact ⟨v, nm_e ⟨v, nm_e ⟨v, nm_e h⟩⟩⟩
theorem cd_y_set {post : SY → Prop} {fh fl : Int32} {cx cy un : Int64} {kn : Int32} {bx by_ bu : Int64} {ap aq I p q r : Int32} {bg A B C : Nat → Int32} {l : Nat} (hl : l < 14) (e : I = nI l)
    (h : post (fh, fl, cx, cy, un, kn, bx, by_, bu, ap, aq, bg, upd A l p, upd B l q, upd C l r)) : wpY_write post (fh, fl, cx, cy, un, kn, bx, by_, bu, ap, aq, bg, A, B, C) I p q r := by
  subst e
  have v : vp_in (nI l) 14 := vp_in_nI hl (by omega)
  unfold wpY_write
  rw [cd_nc hl]
  exact ⟨v, nm_e ⟨v, nm_e ⟨v, nm_e h⟩⟩⟩
/-- a new line at h -/
def cd_pt (a : Nat → Int) (h : Nat) (z : Int) (i : Nat) : Int := if i = h then z else a i
theorem cd_ptX {a : Nat → Int} {h l : Nat} {z : Int} {A : Nat → Int32} (hh : h < 10) (hl : l < 14) (e : A l = cd_I (a (cd_s l))) : upd A (4 + h) (cd_I z) l = cd_I (cd_pt a h z (cd_s l)) := by
  have es : cd_s l = h ↔ l = 4 + h := by unfold cd_s; split <;> omega
  unfold cd_pt
  by_cases o : l = 4 + h
  · rw [if_pos (es.mpr o), o]; exact cd_us
  · rw [if_neg (fun z => o (es.mp z)), cd_un o]; exact e
theorem cd_ptY {a : Nat → Int} {h i : Nat} {z : Int} {A : Nat → Int32} (e : A i = cd_I (a i)) : upd A h (cd_I z) i = cd_I (cd_pt a h z i) := by
  unfold cd_pt
  by_cases o : i = h
  · rw [if_pos o, o]; exact cd_us
  · rw [if_neg o, cd_un o]; exact e
theorem cd_ptB {a b c : Nat → Int} {h : Nat} {x y z : Int} (HB : cd_Bd a b c) (hx : x.natAbs ≤ 9) (hy : y.natAbs ≤ 9) (hz : z.natAbs ≤ 99) : cd_Bd (cd_pt a h x) (cd_pt b h y) (cd_pt c h z) := by
  intro i
  unfold cd_pt
  by_cases o : i = h
  · rw [if_pos o, if_pos o, if_pos o]; exact ⟨hx, hy, hz⟩
  · rw [if_neg o, if_neg o, if_neg o]; exact HB i
/-! the start -/
def cd_a0 (i : Nat) : Int := if i = 10 then 1 else if i = 11 then -1 else 0
def cd_b0 (i : Nat) : Int := if i = 12 then 1 else if i = 13 then -1 else 0
def cd_c0 (i : Nat) : Int := if i = 10 ∨ i = 11 ∨ i = 12 ∨ i = 13 then 50 else 0
theorem cd_bd0 : cd_Bd cd_a0 cd_b0 cd_c0 := by
  intro i
  refine ⟨?_, ?_, ?_⟩
  · unfold cd_a0; split
    · decide
    · split <;> decide
  · unfold cd_b0; split
    · decide
    · split <;> decide
  · unfold cd_c0; split <;> decide
def cd_z : Nat → Int32 := fun _ => 0
theorem cd_hx0 : cd_HX cd_a0 cd_b0 cd_c0 (upd (upd (upd (upd cd_z 0 1) 1 (-1)) 2 0) 3 0) (upd (upd (upd (upd cd_z 0 0) 1 0) 2 1) 3 (-1)) (upd (upd (upd (upd cd_z 0 50) 1 50) 2 50) 3 50) := by
  unfold cd_HX; decide +kernel
theorem cd_hy0 : cd_HY cd_a0 cd_b0 cd_c0 (upd (upd (upd (upd cd_z 10 1) 11 (-1)) 12 0) 13 0) (upd (upd (upd (upd cd_z 10 0) 11 0) 12 1) 13 (-1)) (upd (upd (upd (upd cd_z 10 50) 11 50) 12 50) 13 50) := by
  unfold cd_HY; decide +kernel
/-! both sides offer the same -/
theorem cd_e1 {a b c : Nat → Int} {h : Nat} (hh : h ≤ 10) (x y d : Int) :
    (∃ i j, (i < j ∧ j < 4 + h) ∧ cd_GX a b c h 14 i j x y d) ↔ (∃ i j, (j < i ∧ i < 14 ∧ cd_T h 14 i ∧ cd_T h 14 j) ∧ cd_GY a b c h 14 i j x y d) := by
  refine (cd_prs hh (cd_Ok a b c h 14 x y d)).trans ?_
  constructor
  · rintro ⟨i, j, ⟨h1, h2, t1, t2⟩, g⟩
    exact ⟨i, j, ⟨h1, h2, ⟨t1, by omega⟩, ⟨t2, by omega⟩⟩, g⟩
  · rintro ⟨i, j, ⟨h1, h2, t1, t2⟩, g⟩
    exact ⟨i, j, ⟨h1, h2, t1.1, t2.1⟩, g⟩
theorem cd_e2 {a b c : Nat → Int} {h w : Nat} (hh : h ≤ 10) (x y d : Int) :
    (∃ i j, (i < j ∧ j < 4 + h) ∧ cd_GS a b c h w i j x y d) ↔ (∃ i j, (j < i ∧ i < 14 ∧ cd_T h w i ∧ cd_T h w j) ∧ cd_GT a b c h w i j x y d) :=
  (cd_prs hh (cd_Ok a b c h w x y d ∧ ¬ cd_M a b c w x y d)).trans (cd_prw (cd_Ok a b c h w x y d))
theorem cd_q5 {P : Nat → Nat → Prop} {G : Nat → Nat → Int → Int → Int → Prop} {P' : Nat → Nat → Prop} {G' : Nat → Nat → Int → Int → Int → Prop} (e : ∀ x y d, (∃ i j, P i j ∧ G i j x y d) ↔ (∃ i j, P' i j ∧ G' i j x y d)) :
    (∃ i j x y d, P i j ∧ G i j x y d) ↔ (∃ i j x y d, P' i j ∧ G' i j x y d) := by
  constructor
  · rintro ⟨i, j, x, y, d, g⟩
    obtain ⟨i', j', g'⟩ := (e x y d).mp ⟨i, j, g⟩
    exact ⟨i', j', x, y, d, g'⟩
  · rintro ⟨i, j, x, y, d, g⟩
    obtain ⟨i', j', g'⟩ := (e x y d).mpr ⟨i, j, g⟩
    exact ⟨i', j', x, y, d, g'⟩
/-! counting -/
noncomputable def cd_ct (P : Nat → Prop) : Nat → Nat
  | 0 => 0
  | k + 1 => cd_ct P k + @ite Nat (P k) (Classical.propDecidable (P k)) 1 0
theorem cd_ctT {P : Nat → Prop} {k : Nat} (h : P k) : cd_ct P (k + 1) = cd_ct P k + 1 := by
  show cd_ct P k + @ite Nat (P k) (Classical.propDecidable (P k)) 1 0 = cd_ct P k + 1
  rw [if_pos h]
theorem cd_ctF {P : Nat → Prop} {k : Nat} (h : ¬ P k) : cd_ct P (k + 1) = cd_ct P k := by
  show cd_ct P k + @ite Nat (P k) (Classical.propDecidable (P k)) 1 0 = cd_ct P k
  rw [if_neg h]; rfl
/-- condition k can be left out -/
def cd_Sp (a b c : Nat → Int) (h k : Nat) : Prop := ¬ (∃ i j x y d, (j < i ∧ i < 14 ∧ cd_T h k i ∧ cd_T h k j) ∧ cd_GT a b c h k i j x y d)
theorem cd_x_spare4 {a b c : Nat → Int} {A B C : Nat → Int32} (HB : cd_Bd a b c) (H : cd_HX a b c A B C) {h : Nat} (hh : h ≤ 10) {post : Int32 → SX → Prop} {fl ks rm : Int32} {L K : Nat → Int32}
    (hp : ∀ cx cy cs, post (nI (cd_ct (cd_Sp a b c h) h)) (nI h, fl, cx, cy, cs, ks, rm, A, B, C, L, K)) :
    ∀ m k cx cy cs, k + m = h → wX_spare_4 post (m + 1) (nI (cd_ct (cd_Sp a b c h) k)) (nI (4 + k)) (nI h) fl cx cy cs ks rm A B C L K := by
  intro m
  induction m with
  | zero =>
    intro k cx cy cs hk
    have ek : k = h := by omega
    rw [ek]
    have e : (4 : Int32) + nI h ≤ nI (4 + h) := by rw [cd_4]; exact nI_le (by omega) (by omega)
    exact br_t e (hp cx cy cs)
  | succ m ih =>
    intro k cx cy cs hk
    have e : ¬ (4 : Int32) + nI h ≤ nI (4 + k) := by rw [cd_4]; exact nI_ge (by omega) (by omega)
    have es : cd_s (4 + k) = k := by unfold cd_s; rw [if_neg (by omega)]; omega
    have q5 := cd_q5 (cd_e2 (a := a) (b := b) (c := c) (w := k) hh)
    refine br_f e (cd_x_isSpare HB H hh (Lo := 4 + k) (by omega) (fun q cx cy cs => ?_) (fun q cx cy cs => ?_))
    · rw [es] at q
      have z : ¬ cd_Sp a b c h k := fun n => n (q5.mp q)
      have g := ih (k + 1) cx cy cs (by omega)
      rw [cd_ctF z] at g
      exact br_t rfl (nm_r (nI_1 (4 + k)) g)
    · rw [es] at q
      have z : cd_Sp a b c h k := fun n => q (q5.mpr n)
      have g := ih (k + 1) cx cy cs (by omega)
      rw [cd_ctT z] at g
      exact br_f cd_10 (nm_r (nI_1 _) (nm_r (nI_1 (4 + k)) g))
theorem cd_y_spare4 {a b c : Nat → Int} {A B C : Nat → Int32} (HB : cd_Bd a b c) (H : cd_HY a b c A B C) {h : Nat} (hh : h ≤ 10) {post : Int32 → SY → Prop} {fl kn : Int32} {bx by_ bu : Int64} {ap aq : Int32} {bg : Nat → Int32}
    (hp : ∀ cx cy un, post (nI (cd_ct (cd_Sp a b c h) h)) (nI h, fl, cx, cy, un, kn, bx, by_, bu, ap, aq, bg, A, B, C)) :
    ∀ m k cx cy un, k + m = h → wY_spare_4 post (m + 1) (nI (cd_ct (cd_Sp a b c h) k)) (nI k) (nI h) fl cx cy un kn bx by_ bu ap aq bg A B C := by
  intro m
  induction m with
  | zero =>
    intro k cx cy un hk
    have ek : k = h := by omega
    rw [ek]
    exact br_t (nI_le (by omega) (by omega)) (hp cx cy un)
  | succ m ih =>
    intro k cx cy un hk
    refine br_f (nI_ge (by omega) (by omega)) (cd_y_spared HB H hh (w := k) (by omega) (fun q cx cy un => ?_) (fun q cx cy un => ?_))
    · have z : ¬ cd_Sp a b c h k := fun n => n q
      have g := ih (k + 1) cx cy un (by omega)
      rw [cd_ctF z] at g
      exact br_t rfl (nm_r (nI_1 k) g)
    · have z : cd_Sp a b c h k := q
      have g := ih (k + 1) cx cy un (by omega)
      rw [cd_ctT z] at g
      exact br_f cd_10 (nm_r (nI_1 _) (nm_r (nI_1 k) g))
