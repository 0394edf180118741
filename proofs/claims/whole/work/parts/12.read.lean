/-! Divisors -/
theorem cd_pm1 (n : Nat) : nI (n + 1) + (-1) = nI n := by
  have e : ((n + 1 : Nat) : Int) + -1 = (n : Int) := by omega
  rw [cd_m1, cd_nI (n + 1), cd_add, e, cd_nI]
theorem cd_x_cd2 {n d : Int} (hn : n.natAbs ≤ 32076) (hd : 0 < d) (hd2 : d ≤ 162) {post : Int32 → Prop} (h : post (cd_I (Int.gcd n d : Int))) :
    ∀ j : Nat, ((j + 1 : Nat) : Int) ≤ d → (∀ m : Nat, j + 1 < m → (m : Int) ≤ d → ¬ ((m : Int) ∣ n ∧ (m : Int) ∣ d)) → wX_commonDivisor_2 post (cd_I n) (cd_I d) (j + 1) (nI (j + 1)) := by
  intro j
  induction j with
  | zero =>
    intro h1 hm
    have g := cd_gmax (k := 1) hd (Int.one_dvd n) (Int.one_dvd d) hm
    rw [← g] at h
    exact br_t (nI_le (a := 1) (b := 1) (by omega) (by omega)) h
  | succ j ih =>
    intro h1 hm
    have e0 : ¬ nI (j + 1 + 1) ≤ (1 : Int32) := nI_ge (a := 1) (by omega) (by omega)
    have e1 : ¬ nI (j + 1 + 1) = (0 : Int32) := nI_ne0 (by omega) (by omega)
    have rk : cd_R ((j + 1 + 1 : Nat) : Int) := by omega
    have dn : cd_I n - cd_I n / nI (j + 1 + 1) * nI (j + 1 + 1) = 0 ↔ ((j + 1 + 1 : Nat) : Int) ∣ n := by
      have b := Int.natAbs_tdiv_le_natAbs n ((j + 1 + 1 : Nat) : Int)
      have b2 : (n.tmod ((j + 1 + 1 : Nat) : Int)).natAbs ≤ n.natAbs := by
        rw [Int.natAbs_tmod]; exact Nat.mod_le _ _
      rw [cd_nI, cd_rem (by omega) rk (by omega), cd_eq0 (by omega)]
      exact Int.dvd_iff_tmod_eq_zero.symm
    have dd : cd_I d - cd_I d / nI (j + 1 + 1) * nI (j + 1 + 1) = 0 ↔ ((j + 1 + 1 : Nat) : Int) ∣ d := by
      have b2 : (d.tmod ((j + 1 + 1 : Nat) : Int)).natAbs ≤ d.natAbs := by
        rw [Int.natAbs_tmod]; exact Nat.mod_le _ _
      rw [cd_nI, cd_rem (by omega) rk (by omega), cd_eq0 (by omega)]
      exact Int.dvd_iff_tmod_eq_zero.symm
    have next : ¬ (((j + 1 + 1 : Nat) : Int) ∣ n ∧ ((j + 1 + 1 : Nat) : Int) ∣ d) → wX_commonDivisor_2 post (cd_I n) (cd_I d) (j + 1) (nI (j + 1)) := by
      intro z
      refine ih (by omega) (fun m hj hmd => ?_)
      by_cases o : m = j + 1 + 1
      · rw [o]; exact z
      · exact hm m (by omega) hmd
    refine br_f e0 ⟨e1, cd_if dn (fun z1 => ⟨e1, cd_if dd (fun z2 => ?_) (fun z2 => nm_r (cd_pm1 (j + 1)) (next (fun z => z2 z.2)))⟩) (fun z1 => nm_r (cd_pm1 (j + 1)) (next (fun z => z1 z.1)))⟩
    have g := cd_gmax (k := j + 1 + 1) hd z1 z2 hm
    rw [← g] at h
    rw [cd_nI]
    exact h
theorem cd_x_div {n d : Int} (hn : n.natAbs ≤ 32076) (hd : 0 < d) (hd2 : d ≤ 162) {post : Int32 → Prop} (h : post (cd_I (Int.gcd n d : Int))) : wpX_commonDivisor post (cd_I n) (cd_I d) := by
  obtain ⟨j, rfl⟩ : ∃ j : Nat, d = ((j + 1 : Nat) : Int) := ⟨d.toNat - 1, by omega⟩
  refine ⟨j + 1, ?_⟩
  have g := cd_x_cd2 hn hd hd2 h j (by omega) (fun m hm hm2 => by omega)
  rw [cd_nI] at g
  exact g
theorem cd_Lrem {x y : Nat} (hx : x < 2147483648) (h0 : 0 < y) (hy : y < 2147483648) : lN x - lN x / lN y * lN y = lN (x % y) := by
  have e : (x : Int) - (x : Int).tdiv (y : Int) * (y : Int) = ((x % y : Nat) : Int) := by
    rw [Int.mul_comm, ← Int.tmod_def]; exact (Int.ofNat_tmod x y).symm
  rw [cd_lN x, cd_lN y, cd_lN (x % y), cd_Ldiv (by omega) (by omega) (by omega), cd_Lmul, cd_Lsub, e]
theorem cd_y_d0 {post : Int64 → Prop} {i x : Nat} (hi : i < 100) (h : post (lN x)) (f : Nat) : wY_divisor_20 post (f + 1) (lN x) (lN 0) (nI i) :=
  br_f (nI_ge (b := 100) hi (by omega)) (br_t ((lN_le (a := 0) (b := 0) (by omega) (by omega)).mpr (by omega)) h)
theorem cd_y_ds {post : Int64 → Prop} {i x y : Nat} (hi : i < 100) (hx : x < 2147483648) (h0 : 0 < y) (hy : y < 2147483648) (f : Nat) (h : wY_divisor_20 post f (lN y) (lN (x % y)) (nI (i + 1))) : wY_divisor_20 post (f + 1) (lN x) (lN y) (nI i) := by
  have e1 : ¬ lN y ≤ (0 : Int64) := fun z => by have := (lN_le (a := y) (b := 0) (by omega) (by omega)).mp z; omega
  have e2 : ¬ lN y = (0 : Int64) := fun z => by have := (lN_eq (a := y) (b := 0) (by omega) (by omega)).mp z; omega
  exact br_f (nI_ge (b := 100) hi (by omega)) (br_f e1 ⟨e2, nm_r (cd_Lrem hx h0 hy) (nm_r (nI_1 i) h)⟩)
theorem cd_y_d20 {post : Int64 → Prop} : ∀ m i x y : Nat, x < 2147483648 → y < 2 ^ m → y < 2147483648 → i + 2 * m < 100 → post (lN (Nat.gcd x y)) → ∀ f, 2 * m < f → wY_divisor_20 post f (lN x) (lN y) (nI i) := by
  intro m
  induction m with
  | zero =>
    intro i x y hx hy hy2 hi h f hf
    have ey : y = 0 := by rw [Nat.pow_zero] at hy; omega
    subst ey
    rw [Nat.gcd_zero_right] at h
    obtain ⟨g, rfl⟩ : ∃ g, f = g + 1 := ⟨f - 1, by omega⟩
    exact cd_y_d0 (by omega) h g
  | succ m ih =>
    intro i x y hx hy hy2 hi h f hf
    obtain ⟨g, rfl⟩ : ∃ g, f = g + 1 + 1 := ⟨f - 2, by omega⟩
    by_cases y0 : y = 0
    · subst y0
      rw [Nat.gcd_zero_right] at h
      exact cd_y_d0 (by omega) h (g + 1)
    · have hr : x % y < y := Nat.mod_lt x (by omega)
      refine cd_y_ds (by omega) hx (by omega) hy2 (g + 1) ?_
      rw [← cd_gst] at h
      by_cases r0 : x % y = 0
      · rw [r0, Nat.gcd_zero_right] at h
        rw [r0]
        exact cd_y_d0 (by omega) h g
      · have hh := cd_half r0 (by omega)
        have hp : 2 ^ (m + 1) = 2 * 2 ^ m := by rw [Nat.pow_succ]; omega
        have hl : y % (x % y) < x % y := Nat.mod_lt y (by omega)
        refine cd_y_ds (by omega) hy2 (by omega) (by omega) g ?_
        rw [← cd_gst] at h
        exact ih (i + 1 + 1) (x % y) (y % (x % y)) (by omega) (by omega) (by omega) (by omega) h g (by omega)
theorem cd_y_div {n d : Int} (hn : n.natAbs ≤ 32076) (hd : 0 < d) (hd2 : d ≤ 162) {post : Int64 → Prop} (h : post (cd_L (Int.gcd n d : Int))) : wpY_divisor post (cd_L n) (cd_L d) := by
  have ed : cd_L d = lN d.natAbs := by rw [cd_lN]; congr 1; omega
  have hg : post (lN (Nat.gcd n.natAbs d.natAbs)) := by rw [cd_lN]; exact h
  have k := cd_y_d20 8 0 n.natAbs d.natAbs (by omega) (by omega) (by omega) (by omega) hg 17 (by omega)
  refine cd_if (cd_L0le (by omega)) (fun z => ?_) (fun z => ?_)
  · have en : cd_L n = lN n.natAbs := by rw [cd_lN]; congr 1; omega
    rw [en, ed]
    exact ⟨17, k⟩
  · have en : -cd_L n = lN n.natAbs := by rw [cd_Lneg, cd_lN]; congr 1; omega
    rw [ed]
    exact nm_r en ⟨17, k⟩
/-! What reads the remembered point -/
theorem cd_x_isr {fc fl cx cy cs ks rm : Int32} {A B C L K : Nat → Int32} {z : Int} (rz : cd_R z) {post : Int32 → Prop} (h1 : ¬ rm = 0 → 0 ≤ z ∧ z ≤ 2 → post 1) (h0 : (rm = 0 ∨ ¬ (0 ≤ z ∧ z ≤ 2)) → post 0) : wpX_isRemembered post (fc, fl, cx, cy, cs, ks, rm, A, B, C, L, K) (cd_I z) := by
  have e3 : (3 : Int32) ≤ cd_I z ↔ 3 ≤ z := by
    have e : (3 : Int32) = cd_I 3 := by decide +kernel
    rw [e]; exact cd_le (by omega) rz
  have e0 : cd_I z < (0 : Int32) ↔ z < 0 := by rw [cd_0]; exact cd_lt rz (by omega)
  exact br_c (fun q => h0 (Or.inl q)) (fun q => cd_if e0 (fun q1 => h0 (Or.inr (by omega))) (fun q1 => cd_if e3 (fun q2 => h0 (Or.inr (by omega))) (fun q2 => h1 q (by omega))))
theorem cd_vp3 {z : Int} (hz : 0 ≤ z ∧ z ≤ 2) : vp_in (cd_I z) 3 := vp_in_iff.mpr (by rw [cd_toInt (by omega)]; omega)
theorem cd_cl3 {z : Int} (hz : 0 ≤ z ∧ z ≤ 2) : (cd_I z).toNatClampNeg = z.toNat := by
  have e : (z.toNat : Int) = z := by omega
  rw [← cd_clamp (n := z.toNat) (by omega), e]
theorem cd_g32 {n d : Int} (hd : 0 < d) (hd2 : d ≤ 162) : 0 < (Int.gcd n d : Int) ∧ (Int.gcd n d : Int) ≤ 162 := by
  have a := cd_g0 (n := n) hd
  have b := cd_gle (n := n) hd
  omega
theorem cd_x_num {fc fl cx cy cs ks rm : Int32} {A B C L K : Nat → Int32} {z n d : Int} (rz : cd_R z) (hr : ¬ rm = 0) (hz : 0 ≤ z ∧ z ≤ 2) (hn : n.natAbs ≤ 32076) (hd : 0 < d) (hd2 : d ≤ 162) (eK : K z.toNat = cd_I n) (ek : ks = cd_I d) {post : Int32 → Prop}
    (h : post (cd_I (n.tdiv (Int.gcd n d : Int)))) : wpX_numerator post (fc, fl, cx, cy, cs, ks, rm, A, B, C, L, K) (cd_I z) := by
  have g := cd_g32 (n := n) hd hd2
  unfold wpX_numerator
  refine cd_x_isr rz (fun _ _ => br_f cd_10 ⟨cd_vp3 hz, cd_vp3 hz, ?_⟩) (fun q => absurd q (by rintro (q | q); exact hr q; exact q hz))
  rw [cd_cl3 hz, eK, ek]
  refine cd_x_div hn hd hd2 ⟨fun q => ?_, ?_⟩
  · have := (cd_eq0 (by omega)).mp q; omega
  · rw [cd_div (by omega) (by omega) (by omega)]; exact h
theorem cd_x_den {fc fl cx cy cs ks rm : Int32} {A B C L K : Nat → Int32} {z n d : Int} (rz : cd_R z) (hr : ¬ rm = 0) (hz : 0 ≤ z ∧ z ≤ 2) (hn : n.natAbs ≤ 32076) (hd : 0 < d) (hd2 : d ≤ 162) (eK : K z.toNat = cd_I n) (ek : ks = cd_I d) {post : Int32 → Prop}
    (h : post (cd_I (d.tdiv (Int.gcd n d : Int)))) : wpX_denominator post (fc, fl, cx, cy, cs, ks, rm, A, B, C, L, K) (cd_I z) := by
  have g := cd_g32 (n := n) hd hd2
  unfold wpX_denominator
  refine cd_x_isr rz (fun _ _ => br_f cd_10 ⟨cd_vp3 hz, ?_⟩) (fun q => absurd q (by rintro (q | q); exact hr q; exact q hz))
  rw [cd_cl3 hz, eK, ek]
  refine cd_x_div hn hd hd2 ⟨fun q => ?_, ?_⟩
  · have := (cd_eq0 (by omega)).mp q; omega
  · rw [cd_div (by omega) (by omega) (by omega)]; exact h
/-- what is read: the value, x, y -/
def cd_tp (p q x y z : Int) : Int := if z = 1 then x else if z = 2 then y else cd_va p q x y
theorem cd_y_top {fh fl : Int32} {cx cy un : Int64} {kn : Int32} {bx by_ bu : Int64} {ap aq : Int32} {bg A B C : Nat → Int32} {p q x y z : Int} (rz : cd_R z) (rp : cd_R p) (rq : cd_R q) (k1 : bx = cd_L x) (k2 : by_ = cd_L y) (k3 : ap = cd_I p) (k4 : aq = cd_I q) {post : Int64 → Prop}
    (h : post (cd_L (cd_tp p q x y z))) : wpY_top post (fh, fl, cx, cy, un, kn, bx, by_, bu, ap, aq, bg, A, B, C) (cd_I z) := by
  have e1 : cd_I z = (1 : Int32) ↔ z = 1 := by rw [cd_1]; exact cd_eq rz (by omega)
  have e2 : cd_I z = (2 : Int32) ↔ z = 2 := by
    have e : (2 : Int32) = cd_I 2 := by decide +kernel
    rw [e]; exact cd_eq rz (by omega)
  unfold cd_tp at h
  refine cd_if e1 (fun q => ?_) (fun q => cd_if e2 (fun q2 => ?_) (fun q2 => ?_))
  · rw [if_pos q] at h; rw [k1]; exact h
  · rw [if_neg q, if_pos q2] at h; rw [k2]; exact h
  · rw [if_neg q, if_neg q2] at h
    rw [k1, k2, k3, k4, cd_il rp, cd_il rq, cd_Lmul, cd_Lmul, cd_Ladd]; exact h
theorem cd_y_num {fh fl : Int32} {cx cy un : Int64} {kn : Int32} {bx by_ bu : Int64} {ap aq : Int32} {bg A B C : Nat → Int32} {p q x y z d : Int} (rz : cd_R z) (rp : cd_R p) (rq : cd_R q) (hk : ¬ kn = 0) (hz : 0 ≤ z ∧ z ≤ 2) (hn : (cd_tp p q x y z).natAbs ≤ 32076) (hd : 0 < d) (hd2 : d ≤ 162)
    (k1 : bx = cd_L x) (k2 : by_ = cd_L y) (k3 : ap = cd_I p) (k4 : aq = cd_I q) (k5 : bu = cd_L d) {post : Int32 → Prop}
    (h : post (cd_I ((cd_tp p q x y z).tdiv (Int.gcd (cd_tp p q x y z) d : Int)))) : wpY_numerator post (fh, fl, cx, cy, un, kn, bx, by_, bu, ap, aq, bg, A, B, C) (cd_I z) := by
  have g := cd_g32 (n := cd_tp p q x y z) hd hd2
  have e0 : ¬ cd_I z < (0 : Int32) := by rw [cd_0, cd_lt rz (by omega)]; omega
  have e2 : cd_I z ≤ (2 : Int32) := by
    have e : (2 : Int32) = cd_I 2 := by decide +kernel
    rw [e, cd_le rz (by omega)]; omega
  have eg : ¬ cd_L (Int.gcd (cd_tp p q x y z) d : Int) = 0 := fun q => by have := (cd_Leq0 (by omega)).mp q; omega
  refine br_f hk (br_f e0 (br_t e2 (cd_y_top rz rp rq k1 k2 k3 k4 ?_)))
  rw [k5]
  refine cd_y_div hn hd hd2 (br_f eg ⟨eg, ?_⟩)
  rw [cd_Ldiv (by omega) (by omega) (by omega), cd_li]
  exact h
theorem cd_y_den {fh fl : Int32} {cx cy un : Int64} {kn : Int32} {bx by_ bu : Int64} {ap aq : Int32} {bg A B C : Nat → Int32} {p q x y z d : Int} (rz : cd_R z) (rp : cd_R p) (rq : cd_R q) (hk : ¬ kn = 0) (hz : 0 ≤ z ∧ z ≤ 2) (hn : (cd_tp p q x y z).natAbs ≤ 32076) (hd : 0 < d) (hd2 : d ≤ 162)
    (k1 : bx = cd_L x) (k2 : by_ = cd_L y) (k3 : ap = cd_I p) (k4 : aq = cd_I q) (k5 : bu = cd_L d) {post : Int32 → Prop}
    (h : post (cd_I (d.tdiv (Int.gcd (cd_tp p q x y z) d : Int)))) : wpY_denominator post (fh, fl, cx, cy, un, kn, bx, by_, bu, ap, aq, bg, A, B, C) (cd_I z) := by
  have g := cd_g32 (n := cd_tp p q x y z) hd hd2
  have e0 : ¬ cd_I z < (0 : Int32) := by rw [cd_0, cd_lt rz (by omega)]; omega
  have e2 : cd_I z ≤ (2 : Int32) := by
    have e : (2 : Int32) = cd_I 2 := by decide +kernel
    rw [e, cd_le rz (by omega)]; omega
  have eg : ¬ cd_L (Int.gcd (cd_tp p q x y z) d : Int) = 0 := fun q => by have := (cd_Leq0 (by omega)).mp q; omega
  refine br_f hk (br_f e0 (br_t e2 (cd_y_top rz rp rq k1 k2 k3 k4 ?_)))
  rw [k5]
  refine cd_y_div hn hd hd2 (br_f eg ⟨eg, ?_⟩)
  rw [cd_Ldiv (by omega) (by omega) (by omega), cd_li]
  exact h
/-! Conditions -/
def cd_Co (a b c : Int) : Prop := a.natAbs ≤ 9 ∧ b.natAbs ≤ 9 ∧ c.natAbs ≤ 99 ∧ ¬ (a = 0 ∧ b = 0)
theorem cd_x_cond {a b c : Int} (ra : cd_R a) (rb : cd_R b) (rc : cd_R c) {post : Int32 → Prop} (h1 : cd_Co a b c → post 1) (h0 : ¬ cd_Co a b c → post 0) : wpX_isCondition post (cd_I a) (cd_I b) (cd_I c) := by
  unfold wpX_isCondition
  refine cd_x_within cd_9 ra (by omega) (fun qa => br_f cd_10 ?_) (fun qa => br_t rfl (h0 (fun z => qa z.1)))
  refine cd_x_within cd_9 rb (by omega) (fun qb => br_f cd_10 ?_) (fun qb => br_t rfl (h0 (fun z => qb z.2.1)))
  refine cd_x_within cd_99 rc (by omega) (fun qc => br_f cd_10 ?_) (fun qc => br_t rfl (h0 (fun z => qc z.2.2.1)))
  exact cd_if (cd_eq0 ra) (fun a0 => cd_if (cd_eq0 rb) (fun b0 => h0 (fun z => z.2.2.2 ⟨a0, b0⟩)) (fun b0 => h1 ⟨qa, qb, qc, fun z => b0 z.2⟩)) (fun a0 => h1 ⟨qa, qb, qc, fun z => a0 z.1⟩)
theorem cd_y_bad {a b c : Int} (ra : cd_R a) (rb : cd_R b) (rc : cd_R c) {post : Int32 → Prop} (h1 : ¬ cd_Co a b c → post 1) (h0 : cd_Co a b c → post 0) : wpY_bad post (cd_I a) (cd_I b) (cd_I c) := by
  have em : (-9 : Int32) = cd_I (-9) := by decide +kernel
  have em2 : (-99 : Int32) = cd_I (-99) := by decide +kernel
  have e1 : cd_I a < -9 ↔ a < -9 := by rw [em]; exact cd_lt ra (by omega)
  have e2 : (9 : Int32) < cd_I a ↔ 9 < a := by rw [cd_9]; exact cd_lt (by omega) ra
  have e3 : cd_I b < -9 ↔ b < -9 := by rw [em]; exact cd_lt rb (by omega)
  have e4 : (9 : Int32) < cd_I b ↔ 9 < b := by rw [cd_9]; exact cd_lt (by omega) rb
  have e5 : cd_I c < -99 ↔ c < -99 := by rw [em2]; exact cd_lt rc (by omega)
  have e6 : (99 : Int32) < cd_I c ↔ 99 < c := by rw [cd_99]; exact cd_lt (by omega) rc
  unfold cd_Co at h1 h0
  refine cd_if e1 (fun z1 => h1 (by omega)) (fun z1 => cd_if e2 (fun z2 => h1 (by omega)) (fun z2 => cd_if e3 (fun z3 => h1 (by omega)) (fun z3 => cd_if e4 (fun z4 => h1 (by omega)) (fun z4 => cd_if e5 (fun z5 => h1 (by omega)) (fun z5 => cd_if e6 (fun z6 => h1 (by omega)) (fun z6 => ?_))))))
  exact cd_if (cd_eq0 ra) (fun a0 => cd_if (cd_eq0 rb) (fun b0 => h1 (by omega)) (fun b0 => h0 (by omega))) (fun a0 => h0 (by omega))
