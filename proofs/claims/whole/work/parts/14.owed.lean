/-! What is owed -/
theorem i_vc0 : wpX_init (fun u => wpY_init (fun v => i_Rel 0 u v)) := by
  unfold wpX_init
  refine cd_x_set (l := 0) (by omega) (by decide +kernel) ?_
  refine cd_x_set (l := 1) (by omega) (by decide +kernel) ?_
  refine cd_x_set (l := 2) (by omega) (by decide +kernel) ?_
  refine cd_x_set (l := 3) (by omega) (by decide +kernel) ?_
  dsimp only
  unfold wpY_init
  refine cd_y_set (l := 10) (by omega) (by decide +kernel) ?_
  refine cd_y_set (l := 11) (by omega) (by decide +kernel) ?_
  refine cd_y_set (l := 12) (by omega) (by decide +kernel) ?_
  refine cd_y_set (l := 13) (by omega) (by decide +kernel) ?_
  exact cd_rel (h := 0) (m := 1) cd_bd0 cd_hx0 cd_hy0 ⟨by omega, by omega, by omega, fun i _ => ⟨0, by omega, rfl⟩⟩ (Or.inl ⟨rfl, rfl⟩)
theorem i_vc_add {k : Nat} {u : SX} {v : SY} (I : i_Rel k u v) (hk : k + 4 ≤ 2048) (v1 : Int32) (v2 : Int32) (v3 : Int32) : wpX_add (fun r u' => wpY_add (fun r' v' => r' = r ∧ i_Rel (k + 4) u' v') v v1 v2 v3) u v1 v2 v3 := by
  obtain ⟨z1, r1, rfl⟩ := cd_of v1
  obtain ⟨z2, r2, rfl⟩ := cd_of v2
  obtain ⟨z3, r3, rfl⟩ := cd_of v3
  obtain ⟨a, b, c, h, m, cx, cy, cs, ks, rm, A, B, C, L, K, cx', cy', un, kn, bx, by_, bu, ap, aq, A', B', C', rfl, rfl, HB, HX, HY, LV, ME⟩ := I
  have J : ∀ {cx cy cs cx' cy' un}, i_Rel (k + 4) (nI h, nI m, cx, cy, cs, ks, rm, A, B, C, L, K) (nI h, nI m, cx', cy', un, kn, bx, by_, bu, ap, aq, L, A', B', C') := cd_rel HB HX HY LV ME
  obtain ⟨h10, m1, m8, lv⟩ := LV
  have e10 : nI h < (10 : Int32) ↔ h < 10 := nI_ltI (b := 10) (by omega) (by omega)
  have f10 : nI h = (10 : Int32) ↔ h = 10 := nI_eq (b := 10) (by omega) (by omega)
  unfold wpX_add
  refine cd_x_cond r1 r2 r3 (fun co => br_f cd_10 (cd_if e10 (fun lt => ?_) (fun ge => ?_))) (fun co => br_t rfl ?_)
  · refine cd_x_set (l := 4 + h) (by omega) (cd_4 h) ?_
    refine nm_r (nI_1 h) ?_
    dsimp only
    unfold wpY_add
    refine cd_y_bad r1 r2 r3 (fun n => absurd co n) (fun _ => br_t rfl (br_f (fun z => by have := f10.mp z; omega) ?_))
    refine cd_y_set (l := h) (by omega) rfl ?_
    refine nm_r (nI_1 h) ⟨rfl, ?_⟩
    exact cd_rel (cd_ptB (h := h) HB co.1 co.2.1 co.2.2.1) (fun l hl => ⟨cd_ptX lt hl (HX l hl).1, cd_ptX lt hl (HX l hl).2.1, cd_ptX lt hl (HX l hl).2.2⟩) (fun i hi => ⟨cd_ptY (HY i hi).1, cd_ptY (HY i hi).2.1, cd_ptY (HY i hi).2.2⟩) ⟨by omega, m1, m8, lv⟩ ME
  · dsimp only
    unfold wpY_add
    exact cd_y_bad r1 r2 r3 (fun n => absurd co n) (fun _ => br_t rfl (br_t (f10.mpr (by omega)) ⟨rfl, J⟩))
  · dsimp only
    unfold wpY_add
    exact cd_y_bad r1 r2 r3 (fun _ => br_f cd_10 ⟨rfl, J⟩) (fun n => absurd n co)
theorem i_vc_push {k : Nat} {u : SX} {v : SY} (I : i_Rel k u v) (hk : k + 4 ≤ 2048) : wpX_push (fun r u' => wpY_push (fun r' v' => r' = r ∧ i_Rel (k + 4) u' v') v) u := by
  obtain ⟨a, b, c, h, m, cx, cy, cs, ks, rm, A, B, C, L, K, cx', cy', un, kn, bx, by_, bu, ap, aq, A', B', C', rfl, rfl, HB, HX, HY, LV, ME⟩ := I
  have J : i_Rel (k + 4) (nI h, nI m, cx, cy, cs, ks, rm, A, B, C, L, K) (nI h, nI m, cx', cy', un, kn, bx, by_, bu, ap, aq, L, A', B', C') := cd_rel HB HX HY LV ME
  obtain ⟨h10, m1, m8, lv⟩ := LV
  have e8 : nI m < (8 : Int32) ↔ m < 8 := nI_ltI (b := 8) (by omega) (by omega)
  have f8 : nI m = (8 : Int32) ↔ m = 8 := nI_eq (b := 8) (by omega) (by omega)
  have cl : (nI m).toNatClampNeg = m := nI_clamp (by omega)
  refine cd_if e8 (fun lt => ?_) (fun ge => br_t (f8.mpr (by omega)) ⟨rfl, J⟩)
  have v : vp_in (nI m) 8 := vp_in_nI lt (by omega)
  refine ⟨v, nm_e (nm_r (nI_1 m) (br_f (fun z => by have := f8.mp z; omega) ⟨v, nm_e (nm_r (nI_1 m) ⟨rfl, ?_⟩)⟩))⟩
  refine cd_rel HB HX HY ⟨h10, by omega, by omega, fun i hi => ?_⟩ ME
  rw [cl]
  by_cases o : i = m
  · rw [o]; exact ⟨h, h10, cd_us⟩
  · rw [cd_un o]; exact lv i hi
theorem i_vc_pop {k : Nat} {u : SX} {v : SY} (I : i_Rel k u v) (hk : k + 4 ≤ 2048) : wpX_pop (fun r u' => wpY_pop (fun r' v' => r' = r ∧ i_Rel (k + 4) u' v') v) u := by
  obtain ⟨a, b, c, h, m, cx, cy, cs, ks, rm, A, B, C, L, K, cx', cy', un, kn, bx, by_, bu, ap, aq, A', B', C', rfl, rfl, HB, HX, HY, LV, ME⟩ := I
  have J : i_Rel (k + 4) (nI h, nI m, cx, cy, cs, ks, rm, A, B, C, L, K) (nI h, nI m, cx', cy', un, kn, bx, by_, bu, ap, aq, L, A', B', C') := cd_rel HB HX HY LV ME
  obtain ⟨h10, m1, m8, lv⟩ := LV
  have e1 : (1 : Int32) < nI m ↔ 1 < m := nI_ltI (a := 1) (by omega) (by omega)
  have f1 : nI m = (1 : Int32) ↔ m = 1 := nI_eq (b := 1) (by omega) (by omega)
  refine cd_if e1 (fun lt => ?_) (fun ge => br_t (f1.mpr (by omega)) ⟨rfl, J⟩)
  obtain ⟨n, rfl⟩ : ∃ n, m = n + 1 := ⟨m - 1, by omega⟩
  have v : vp_in (nI n) 8 := vp_in_nI (by omega) (by omega)
  have cl : (nI n).toNatClampNeg = n := nI_clamp (by omega)
  obtain ⟨g, hg, eg⟩ := lv n (by omega)
  have eL : L (nI n).toNatClampNeg = nI g := by rw [cl]; exact eg
  refine nm_r (nI_pred n) ⟨v, nm_r eL (br_f (fun z => by have := f1.mp z; omega) (nm_r (nI_pred n) ⟨v, nm_r eL ⟨rfl, ?_⟩⟩))⟩
  exact cd_rel HB HX HY ⟨hg, by omega, by omega, lv⟩ ME
theorem i_vc_possible {k : Nat} {u : SX} {v : SY} (I : i_Rel k u v) (hk : k + 4 ≤ 2048) : wpX_possible (fun r u' => wpY_possible (fun r' v' => r' = r ∧ i_Rel (k + 4) u' v') v) u := by
  obtain ⟨a, b, c, h, m, cx, cy, cs, ks, rm, A, B, C, L, K, cx', cy', un, kn, bx, by_, bu, ap, aq, A', B', C', rfl, rfl, HB, HX, HY, LV, ME⟩ := I
  have J : ∀ {cx cy cs cx' cy' un}, i_Rel (k + 4) (nI h, nI m, cx, cy, cs, ks, rm, A, B, C, L, K) (nI h, nI m, cx', cy', un, kn, bx, by_, bu, ap, aq, L, A', B', C') := cd_rel HB HX HY LV ME
  have q5 := cd_q5 (cd_e1 (a := a) (b := b) (c := c) LV.1)
  refine cd_x_possible HB HX LV.1 (fun q cx cy cs => ?_) (fun q cx cy cs => ?_)
  · exact cd_y_possible HB HY LV.1 (fun _ _ _ _ => ⟨rfl, J⟩) (fun n => absurd (q5.mp q) n)
  · exact cd_y_possible HB HY LV.1 (fun n => absurd (q5.mpr n) q) (fun _ _ _ _ => ⟨rfl, J⟩)
theorem i_vc_best {k : Nat} {u : SX} {v : SY} (I : i_Rel k u v) (hk : k + 4 ≤ 2048) (v1 : Int32) (v2 : Int32) : wpX_best (fun r u' => wpY_best (fun r' v' => r' = r ∧ i_Rel (k + 4) u' v') v v1 v2) u v1 v2 := by
  obtain ⟨p, rp, rfl⟩ := cd_of v1
  obtain ⟨q, rq, rfl⟩ := cd_of v2
  obtain ⟨a, b, c, h, m, cx, cy, cs, ks, rm, A, B, C, L, K, cx', cy', un, kn, bx, by_, bu, ap, aq, A', B', C', rfl, rfl, HB, HX, HY, LV, ME⟩ := I
  have J : i_Rel (k + 4) (nI h, nI m, cx, cy, cs, ks, rm, A, B, C, L, K) (nI h, nI m, cx', cy', un, kn, bx, by_, bu, ap, aq, L, A', B', C') := cd_rel HB HX HY LV ME
  refine cd_x_best HB HX LV.1 rp rq (fun hp hq r x y d cx cy cs ks rm K N kx => ?_) (fun no => ?_)
  · refine cd_y_best HB HY LV.1 rp rq (fun _ _ r' x' y' d' cx' cy' un bx by_ bu N' ky => ?_) (fun no => absurd ⟨hp, hq⟩ no)
    have e : ∀ x y d, (∃ i j, cd_VX (4 + h) (4 + h) (4 + h + 1) i j ∧ cd_GX a b c h 14 i j x y d) ↔ (∃ i j, cd_VY (cd_T h 14) 14 0 i j ∧ cd_GY a b c h 14 i j x y d) := by
      intro x y d
      have e1 := cd_e1 (a := a) (b := b) (c := c) LV.1 x y d
      constructor
      · rintro ⟨i, j, v, g⟩
        obtain ⟨i', j', v', g'⟩ := e1.mp ⟨i, j, (cd_VXe i j).mp v, g⟩
        exact ⟨i', j', (cd_VYe i' j').mpr v', g'⟩
      · rintro ⟨i, j, v, g⟩
        obtain ⟨i', j', v', g'⟩ := e1.mpr ⟨i, j, (cd_VYe i j).mp v, g⟩
        exact ⟨i', j', (cd_VXe i' j').mpr v', g'⟩
    obtain ⟨er, eq⟩ := cd_Inv2 e N N'
    subst er
    refine ⟨rfl, cd_rel HB HX HY LV ?_⟩
    have P' := cd_InvP (fun i j x y d g => cd_Atb HB g.1) N'
    rcases cd_InvP (fun i j x y d g => cd_Atb HB g.1) N with r0 | ⟨r1, P⟩
    · exact Or.inl ⟨by rw [kx.1, r0]; exact cd_0.symm, by rw [r0]; exact cd_0.symm⟩
    · obtain ⟨k0, k1, k2, k3⟩ := kx.2 r1
      obtain ⟨y1, y2, y3⟩ := ky.2 r1
      have P2 : cd_Pb x' y' d' := by
        rcases P' with r0 | ⟨_, P'⟩
        · omega
        · exact P'
      obtain ⟨ex, ey⟩ := eq r1
      exact Or.inr ⟨by rw [kx.1, r1]; exact cd_1.symm, by rw [r1]; exact cd_1.symm, p, q, x, y, d, x', y', d', hp, hq, P, P2, k0, k1, k2, k3, y1, y2, y3, rfl, rfl, ex, ey⟩
  · exact cd_y_best HB HY LV.1 rp rq (fun hp hq => absurd ⟨hp, hq⟩ no) (fun _ => ⟨rfl, J⟩)
theorem i_vc_numerator {k : Nat} {u : SX} {v : SY} (I : i_Rel k u v) (hk : k + 4 ≤ 2048) (v1 : Int32) : wpX_numerator (fun r => wpY_numerator (fun r' => r' = r ∧ i_Rel (k + 4) u v) v v1) u v1 := by
  obtain ⟨z, rz, rfl⟩ := cd_of v1
  obtain ⟨a, b, c, h, m, cx, cy, cs, ks, rm, A, B, C, L, K, cx', cy', un, kn, bx, by_, bu, ap, aq, A', B', C', rfl, rfl, HB, HX, HY, LV, ME⟩ := I
  have J : i_Rel (k + 4) (nI h, nI m, cx, cy, cs, ks, rm, A, B, C, L, K) (nI h, nI m, cx', cy', un, kn, bx, by_, bu, ap, aq, L, A', B', C') := cd_rel HB HX HY LV ME
  have e0 : cd_I z < (0 : Int32) ↔ z < 0 := by rw [cd_0]; exact cd_lt rz (by omega)
  have e2 : cd_I z ≤ (2 : Int32) ↔ z ≤ 2 := by
    have e : (2 : Int32) = cd_I 2 := by decide +kernel
    rw [e]; exact cd_le rz (by omega)
  have xz : ∀ {post : Int32 → Prop}, (rm = 0 ∨ ¬ (0 ≤ z ∧ z ≤ 2)) → post 0 → wpX_numerator post (nI h, nI m, cx, cy, cs, ks, rm, A, B, C, L, K) (cd_I z) := by
    intro post q hp
    unfold wpX_numerator
    exact cd_x_isr rz (fun n1 n2 => by rcases q with q | q; exact absurd q n1; exact absurd n2 q) (fun _ => br_t rfl hp)
  rcases ME with ⟨r0, k0⟩ | ⟨r1, k1, p, q, x, y, d, x', y', d', hp, hq, P, P', x0, x1, x2, x3, y1, y2, y3, y4, y5, ex, ey⟩
  · exact xz (Or.inl r0) (br_t k0 ⟨rfl, J⟩)
  · have nr : ¬ rm = 0 := by rw [r1]; exact cd_10
    have nk : ¬ kn = 0 := by rw [k1]; exact cd_10
    by_cases hz : 0 ≤ z ∧ z ≤ 2
    · have nx : K z.toNat = cd_I (cd_tp p q x y z) := by
        unfold cd_tp
        by_cases z1 : z = 1
        · rw [if_pos z1, z1]; exact x1
        · by_cases z2 : z = 2
          · rw [if_neg z1, if_pos z2, z2]; exact x2
          · have z0 : z = 0 := by omega
            rw [if_neg z1, if_neg z2, z0]; exact x0
      have bnd : ∀ {x y : Int}, x.natAbs ≤ 1782 → y.natAbs ≤ 1782 → (cd_tp p q x y z).natAbs ≤ 32076 := by
        intro x y bx by_
        have bv := cd_vab hp hq bx by_
        unfold cd_tp
        split
        · omega
        · split <;> omega
      have et : cd_tp p q x y z * d' = cd_tp p q x' y' z * d := by
        unfold cd_tp
        by_cases z1 : z = 1
        · rw [if_pos z1, if_pos z1]; exact ex
        · by_cases z2 : z = 2
          · rw [if_neg z1, if_pos z2, if_neg z1, if_pos z2]; exact ey
          · rw [if_neg z1, if_neg z2, if_neg z1, if_neg z2]; exact cd_val ex ey
      have fr := cd_frac P.2.2.1 P'.2.2.1 et
      refine cd_x_num rz nr hz (bnd P.1 P.2.1) P.2.2.1 P.2.2.2 nx x3 ?_
      refine cd_y_num rz (cd_RB hp (by decide)) (cd_RB hq (by decide)) nk hz (bnd P'.1 P'.2.1) P'.2.2.1 P'.2.2.2 y1 y2 y4 y5 y3 ?_
      exact ⟨by rw [fr.1], J⟩
    · refine xz (Or.inr hz) (br_f nk (cd_if e0 (fun _ => ⟨rfl, J⟩) (fun z0 => cd_if e2 (fun z2 => absurd ⟨by omega, z2⟩ hz) (fun _ => ⟨rfl, J⟩))))
theorem i_vc_denominator {k : Nat} {u : SX} {v : SY} (I : i_Rel k u v) (hk : k + 4 ≤ 2048) (v1 : Int32) : wpX_denominator (fun r => wpY_denominator (fun r' => r' = r ∧ i_Rel (k + 4) u v) v v1) u v1 := by
  obtain ⟨z, rz, rfl⟩ := cd_of v1
  obtain ⟨a, b, c, h, m, cx, cy, cs, ks, rm, A, B, C, L, K, cx', cy', un, kn, bx, by_, bu, ap, aq, A', B', C', rfl, rfl, HB, HX, HY, LV, ME⟩ := I
  have J : i_Rel (k + 4) (nI h, nI m, cx, cy, cs, ks, rm, A, B, C, L, K) (nI h, nI m, cx', cy', un, kn, bx, by_, bu, ap, aq, L, A', B', C') := cd_rel HB HX HY LV ME
  have e0 : cd_I z < (0 : Int32) ↔ z < 0 := by rw [cd_0]; exact cd_lt rz (by omega)
  have e2 : cd_I z ≤ (2 : Int32) ↔ z ≤ 2 := by
    have e : (2 : Int32) = cd_I 2 := by decide +kernel
    rw [e]; exact cd_le rz (by omega)
  have xz : ∀ {post : Int32 → Prop}, (rm = 0 ∨ ¬ (0 ≤ z ∧ z ≤ 2)) → post 0 → wpX_denominator post (nI h, nI m, cx, cy, cs, ks, rm, A, B, C, L, K) (cd_I z) := by
    intro post q hp
    unfold wpX_denominator
    exact cd_x_isr rz (fun n1 n2 => by rcases q with q | q; exact absurd q n1; exact absurd n2 q) (fun _ => br_t rfl hp)
  rcases ME with ⟨r0, k0⟩ | ⟨r1, k1, p, q, x, y, d, x', y', d', hp, hq, P, P', x0, x1, x2, x3, y1, y2, y3, y4, y5, ex, ey⟩
  · exact xz (Or.inl r0) (br_t k0 ⟨rfl, J⟩)
  · have nr : ¬ rm = 0 := by rw [r1]; exact cd_10
    have nk : ¬ kn = 0 := by rw [k1]; exact cd_10
    by_cases hz : 0 ≤ z ∧ z ≤ 2
    · have nx : K z.toNat = cd_I (cd_tp p q x y z) := by
        unfold cd_tp
        by_cases z1 : z = 1
        · rw [if_pos z1, z1]; exact x1
        · by_cases z2 : z = 2
          · rw [if_neg z1, if_pos z2, z2]; exact x2
          · have z0 : z = 0 := by omega
            rw [if_neg z1, if_neg z2, z0]; exact x0
      have bnd : ∀ {x y : Int}, x.natAbs ≤ 1782 → y.natAbs ≤ 1782 → (cd_tp p q x y z).natAbs ≤ 32076 := by
        intro x y bx by_
        have bv := cd_vab hp hq bx by_
        unfold cd_tp
        split
        · omega
        · split <;> omega
      have et : cd_tp p q x y z * d' = cd_tp p q x' y' z * d := by
        unfold cd_tp
        by_cases z1 : z = 1
        · rw [if_pos z1, if_pos z1]; exact ex
        · by_cases z2 : z = 2
          · rw [if_neg z1, if_pos z2, if_neg z1, if_pos z2]; exact ey
          · rw [if_neg z1, if_neg z2, if_neg z1, if_neg z2]; exact cd_val ex ey
      have fr := cd_frac P.2.2.1 P'.2.2.1 et
      refine cd_x_den rz nr hz (bnd P.1 P.2.1) P.2.2.1 P.2.2.2 nx x3 ?_
      refine cd_y_den rz (cd_RB hp (by decide)) (cd_RB hq (by decide)) nk hz (bnd P'.1 P'.2.1) P'.2.2.1 P'.2.2.2 y1 y2 y4 y5 y3 ?_
      exact ⟨by rw [fr.2], J⟩
    · refine xz (Or.inr hz) (br_f nk (cd_if e0 (fun _ => ⟨rfl, J⟩) (fun z0 => cd_if e2 (fun z2 => absurd ⟨by omega, z2⟩ hz) (fun _ => ⟨rfl, J⟩))))
theorem i_vc_test {k : Nat} {u : SX} {v : SY} (I : i_Rel k u v) (hk : k + 4 ≤ 2048) (v1 : Int32) (v2 : Int32) (v3 : Int32) : wpX_test (fun r => wpY_test (fun r' => r' = r ∧ i_Rel (k + 4) u v) v v1 v2 v3) u v1 v2 v3 := by
  obtain ⟨z1, r1, rfl⟩ := cd_of v1
  obtain ⟨z2, r2, rfl⟩ := cd_of v2
  obtain ⟨z3, r3, rfl⟩ := cd_of v3
  obtain ⟨a, b, c, h, m, cx, cy, cs, ks, rm, A, B, C, L, K, cx', cy', un, kn, bx, by_, bu, ap, aq, A', B', C', rfl, rfl, HB, HX, HY, LV, ME⟩ := I
  have J : i_Rel (k + 4) (nI h, nI m, cx, cy, cs, ks, rm, A, B, C, L, K) (nI h, nI m, cx', cy', un, kn, bx, by_, bu, ap, aq, L, A', B', C') := cd_rel HB HX HY LV ME
  rcases ME with ⟨r0, k0⟩ | ⟨rr, kk, p, q, x, y, d, x', y', d', hp, hq, P, P', x0, x1, x2, x3, y1, y2, y3, y4, y5, ex, ey⟩
  · exact br_t r0 (br_t k0 ⟨rfl, J⟩)
  · have nr : ¬ rm = 0 := by rw [rr]; exact cd_10
    have nk : ¬ kn = 0 := by rw [kk]; exact cd_10
    refine br_f nr (cd_x_cond r1 r2 r3 (fun co => br_f cd_10 ?_) (fun co => br_t rfl (br_f nk (cd_y_bad r1 r2 r3 (fun _ => br_f cd_10 ⟨rfl, J⟩) (fun n => absurd n co)))))
    obtain ⟨c1, c2⟩ := cd_cmp (a := z1) (b := z2) (c := z3) P.2.2.1 P'.2.2.1 ex ey
    obtain ⟨b1, b2, b3, b4⟩ := co
    have co : cd_Co z1 z2 z3 := ⟨b1, b2, b3, b4⟩
    have t1 : d.natAbs ≤ 162 := by have := P.2.2; clear b1 b2 b3 b4 hp hq co c1 c2; omega
    have t2 : d'.natAbs ≤ 162 := by have := P'.2.2; clear b1 b2 b3 b4 hp hq co c1 c2 t1; omega
    have sm : ∀ {x y : Int}, x.natAbs ≤ 1782 → y.natAbs ≤ 1782 → (z1 * x + z2 * y).natAbs ≤ 32076 := by
      intro x y bx by_
      have m1 := cd_bm b1 bx
      have m2 := cd_bm b2 by_
      clear t1 t2 b1 b2 b3 b4 hp hq co c1 c2 bx by_
      omega
    have l1 := sm P.1 P.2.1
    have l2 := sm P'.1 P'.2.1
    have l3 := cd_bm b3 t1
    have l4 := cd_bm b3 t2
    have eL : cd_I z1 * K 1 + cd_I z2 * K 2 = cd_I (z1 * x + z2 * y) := by rw [x1, x2, cd_mul, cd_mul, cd_add]
    have eR : cd_I z3 * ks = cd_I (z3 * d) := by rw [x3, cd_mul]
    have fL : (cd_I z1).toInt64 * bx + (cd_I z2).toInt64 * by_ = cd_L (z1 * x' + z2 * y') := by rw [y1, y2, cd_il r1, cd_il r2, cd_Lmul, cd_Lmul, cd_Ladd]
    have fR : (cd_I z3).toInt64 * bu = cd_L (z3 * d') := by rw [y3, cd_il r3, cd_Lmul]
    have E1 := cd_eq (cd_RB l1 (by decide)) (cd_RB l3 (by decide))
    have E2 := cd_le (cd_RB l3 (by decide)) (cd_RB l1 (by decide))
    have F1 := cd_Leq (cd_QB l2 (by decide)) (cd_QB l4 (by decide))
    have F2 := cd_Lle (cd_QB l4 (by decide)) (cd_QB l2 (by decide))
    have yb : ∀ {post : Int32 → Prop}, (z1 * x' + z2 * y' = z3 * d' → post 1) → (¬ z1 * x' + z2 * y' = z3 * d' → z3 * d' ≤ z1 * x' + z2 * y' → post 0) → (¬ z1 * x' + z2 * y' = z3 * d' → ¬ z3 * d' ≤ z1 * x' + z2 * y' → post 2) → wpY_test post (nI h, nI m, cx', cy', un, kn, bx, by_, bu, ap, aq, L, A', B', C') (cd_I z1) (cd_I z2) (cd_I z3) := by
      intro post q1 q2 q3
      exact br_f nk (cd_y_bad r1 r2 r3 (fun n => absurd co n) (fun _ => br_t rfl (nm_r fL (nm_r fR (cd_if F1 q1 (fun t1 => cd_if F2 (q2 t1) (q3 t1)))))))
    clear l1 l2 l3 l4 t1 t2 b1 b2 b3 b4 hp hq
    refine nm_r eL (nm_r eR (cd_if E1 (fun t1 => ?_) (fun t1 => cd_if E2 (fun t2 => ?_) (fun t2 => ?_))))
    · exact yb (fun _ => ⟨rfl, J⟩) (fun n => absurd (c2.mp t1) n) (fun n => absurd (c2.mp t1) n)
    · exact yb (fun n => absurd (c2.mpr n) t1) (fun _ _ => ⟨rfl, J⟩) (fun n n2 => absurd (c1.mpr (by omega)) (by omega))
    · exact yb (fun n => absurd (c2.mpr n) t1) (fun n n2 => absurd (c1.mp (by omega)) (by omega)) (fun _ _ => ⟨rfl, J⟩)
theorem i_vc_spare {k : Nat} {u : SX} {v : SY} (I : i_Rel k u v) (hk : k + 4 ≤ 2048) : wpX_spare (fun r u' => wpY_spare (fun r' v' => r' = r ∧ i_Rel (k + 4) u' v') v) u := by
  obtain ⟨a, b, c, h, m, cx, cy, cs, ks, rm, A, B, C, L, K, cx', cy', un, kn, bx, by_, bu, ap, aq, A', B', C', rfl, rfl, HB, HX, HY, LV, ME⟩ := I
  have J : ∀ {cx cy cs cx' cy' un}, i_Rel (k + 4) (nI h, nI m, cx, cy, cs, ks, rm, A, B, C, L, K) (nI h, nI m, cx', cy', un, kn, bx, by_, bu, ap, aq, L, A', B', C') := cd_rel HB HX HY LV ME
  refine ⟨h + 1, cd_x_spare4 HB HX LV.1 (fun cx cy cs => ?_) h 0 cx cy cs (by omega)⟩
  exact ⟨h + 1, cd_y_spare4 HB HY LV.1 (fun cx' cy' un => ⟨rfl, J⟩) h 0 cx' cy' un (by omega)⟩
