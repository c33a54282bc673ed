theorem i_up {k : Nat} {u : SX} {v : SY} (h : i_Rel k u v) : i_Rel (k + 3) u v := h
theorem i_vc0 (k0 : Int32) (k1 : Int32) : wpX_init (fun u => wpY_init (fun v => i_Rel 2 u v) k0 k1) k0 k1 := by
  obtain ⟨h, h1, h4, H⟩ := zi_cl k0 4 (by decide) (by decide)
  obtain ⟨w, w1, w3, W⟩ := zi_cl k1 3 (by decide) (by decide)
  exact zi_xi w1 w3 H W (zi_yi H W (zi_mk (n := 0) (k := 0) (K := 2) (zi_ok0 h1 h4 w1 w3)))
theorem i_vc_loadColumn {k : Nat} {u : SX} {v : SY} (I : i_Rel k u v) (hk : k + 3 ≤ 1538) (v1 : Int32) (v2 : Int32) : wpX_loadColumn (fun r u' => wpY_loadColumn (fun r' v' => r' = r ∧ i_Rel (k + 3) u' v') v v1 v2) u v1 v2 := by
  obtain ⟨h, w, n, k', V, M, pr, al, re, lc, cn, A, C, x, m, rfl, rfl, R⟩ := I
  have R' := R
  obtain ⟨r1, r2, r3, r4, r5, r6, r7, r8, r9, r10, r11, r12⟩ := R'
  have eh : (1 : Int32) <<< (nI h &&& 31) = nI (2 ^ h) := zb_pow h (by omega)
  have hh : 2 ^ h ≤ 2 ^ 4 := Nat.pow_le_pow_right (by decide) r2
  by_cases z0 : v1 < 0
  · exact br_t z0 (br_t rfl (br_t z0 ⟨rfl, zi_mk R⟩))
  · by_cases z1 : nI w ≤ v1
    · exact br_f z0 (br_t z1 (br_t rfl (br_f z0 (br_t z1 ⟨rfl, zi_mk R⟩))))
    · by_cases z2 : v2 < 0
      · exact br_f z0 (br_f z1 (br_f zb_10 (br_t z2 (br_t rfl (br_f z0 (br_f z1 (br_t z2 ⟨rfl, zi_mk R⟩)))))))
      · by_cases z3 : (1 : Int32) <<< (nI h &&& 31) ≤ v2
        · exact br_f z0 (br_f z1 (br_f zb_10 (br_f z2 (br_t z3 (br_t rfl (br_f z0 (br_f z1 (br_f z2 (br_f (Int32.not_lt.mpr z3) ⟨rfl, zi_mk R⟩)))))))))
        · obtain ⟨j, hj, rfl⟩ := nI_of z0
          obtain ⟨c, hc, rfl⟩ := nI_of z2
          have hjw : j < w := by
            rw [nI_leI (by omega) hj] at z1
            omega
          have hc2 : c < 2 ^ h := by
            have z4 := z3
            rw [eh, nI_leI (by omega) hc] at z4
            omega
          have hi : vp_in (nI j) 3 := vp_in_nI (by omega) (by omega)
          have e : (nI j).toNatClampNeg = j := nI_clamp hj
          refine br_f z0 (br_f z1 (br_f zb_10 (br_f z2 (br_f z3 (br_f zb_10 ⟨hi, nm_e (br_f z0 (br_f z1 (br_f z2 (br_t (Int32.not_le.mp z3) ⟨hi, nm_e ⟨rfl, zi_mk ?_⟩⟩))))⟩)))))
          refine ⟨r1, r2, r3, r4, r5, r6, fun i => ?_, r8, r9, r10, r11, r12⟩
          by_cases ei : i = (nI j).toNatClampNeg
          · exact ⟨c, hc2, by rw [ei, pk_us]⟩
          · rw [pk_un ei]
            exact r7 i
theorem i_vc_columnBits {k : Nat} {u : SX} {v : SY} (I : i_Rel k u v) (hk : k + 3 ≤ 1538) (v1 : Int32) : wpX_columnBits (fun r => wpY_columnBits (fun r' => r' = r ∧ i_Rel (k + 3) u v) v v1) u v1 := by
  obtain ⟨h, w, n, k', V, M, pr, al, re, lc, cn, A, C, x, m, rfl, rfl, R⟩ := I
  have R' := R
  obtain ⟨r1, r2, r3, r4, r5, r6, r7, r8, r9, r10, r11, r12⟩ := R'
  by_cases z0 : v1 < 0
  · exact br_t z0 (br_t rfl (br_t z0 ⟨rfl, zi_mk R⟩))
  · by_cases z1 : nI w ≤ v1
    · exact br_f z0 (br_t z1 (br_t rfl (br_f z0 (br_f (Int32.not_lt.mpr z1) ⟨rfl, zi_mk R⟩))))
    · have hi : vp_in v1 3 := by
        obtain ⟨j, hj, rfl⟩ := nI_of z0
        rw [nI_leI (by omega) hj] at z1
        exact vp_in_nI (by omega) (by omega)
      exact br_f z0 (br_f z1 (br_f zb_10 ⟨hi, br_f z0 (br_t (Int32.not_le.mp z1) ⟨hi, rfl, zi_mk R⟩)⟩))
theorem i_vc_addCover {k : Nat} {u : SX} {v : SY} (I : i_Rel k u v) (hk : k + 3 ≤ 1538) (v1 : Int32) (v2 : Int32) : wpX_addCover (fun r u' => wpY_addCover (fun r' v' => r' = r ∧ i_Rel (k + 3) u' v') v v1 v2) u v1 v2 := by
  obtain ⟨h, w, n, k', V, M, pr, al, re, lc, cn, A, C, x, m, rfl, rfl, R⟩ := I
  have R' := R
  obtain ⟨r1, r2, r3, r4, r5, r6, r7, r8, r9, r10, r11, r12⟩ := R'
  by_cases hn : n < 10
  · have y : nI n < 10 := nI_lt (b := 10) hn (by decide)
    by_cases z0 : v1 < 0
    · exact br_t y (br_t z0 (br_t rfl (br_t y (br_t z0 ⟨rfl, zi_mk R⟩))))
    · obtain ⟨b, hb, rfl⟩ := nI_of z0
      by_cases hb2 : b < 2
      · have z1 : ¬ (2 : Int32) ≤ nI b := nI_ge (b := 2) hb2 (by decide)
        have z2 : ¬ (1 : Int32) < nI b := nI_nlt (b := b) (a := 1) (by omega) (by decide)
        rcases zi_cost (h := h) (w := w) (n := n) (k := k') (pr := pr) (al := al) (re := re) (lc := lc) (cn := cn) (A := A) (C := C) (x := x) (m := m) v2 with ⟨g, gX, gY⟩ | ⟨gX, gY⟩
        · obtain ⟨β, hβ⟩ := zi_b2 hb2
          have e : (nI n).toNatClampNeg = n := nI_clamp (by omega)
          have hi : vp_in (nI n) 10 := vp_in_nI hn (by omega)
          refine br_t y (br_f z0 (br_f z1 (br_f zb_10 (gX _ (br_f zb_10 (nm_e ⟨hi, nm_e (nm_r (nI_1 n) (br_t y (br_f z0 (br_f z2 (gY _ (br_t rfl ⟨hi, nm_e ⟨hi, nm_e (nm_r (nI_1 n) ⟨rfl, ?_⟩)⟩⟩))))))⟩))))))
          rw [e, hβ]
          exact zi_mk ⟨r1, r2, r3, r4, by omega, r6, r7, zi_upC r8 g n, zi_app1 (by omega) r10 r9, zi_app2 (by omega) r10, r11, r12⟩
        · exact br_t y (br_f z0 (br_f z1 (br_f zb_10 (gX _ (br_t rfl (br_t y (br_f z0 (br_f z2 (gY _ (br_f zb_10 ⟨rfl, zi_mk R⟩))))))))))
      · have z1 : (2 : Int32) ≤ nI b := nI_le (a := 2) (by omega) hb
        have z2 : (1 : Int32) < nI b := nI_lt (a := 1) (by omega) hb
        exact br_t y (br_f z0 (br_t z1 (br_t rfl (br_t y (br_f z0 (br_t z2 ⟨rfl, zi_mk R⟩))))))
  · have y : ¬ nI n < 10 := nI_nlt (b := 10) (by omega) (by omega)
    exact br_f y (br_f y ⟨rfl, zi_mk R⟩)
theorem i_vc_setCost {k : Nat} {u : SX} {v : SY} (I : i_Rel k u v) (hk : k + 3 ≤ 1538) (v1 : Int32) (v2 : Int32) : wpX_setCost (fun r u' => wpY_setCost (fun r' v' => r' = r ∧ i_Rel (k + 3) u' v') v v1 v2) u v1 v2 := by
  obtain ⟨h, w, n, k', V, M, pr, al, re, lc, cn, A, C, x, m, rfl, rfl, R⟩ := I
  have R' := R
  obtain ⟨r1, r2, r3, r4, r5, r6, r7, r8, r9, r10, r11, r12⟩ := R'
  by_cases z0 : v1 < 0
  · exact br_t z0 (br_t rfl (br_t z0 ⟨rfl, zi_mk R⟩))
  · by_cases z1 : nI n ≤ v1
    · exact br_f z0 (br_t z1 (br_t rfl (br_f z0 (br_t z1 ⟨rfl, zi_mk R⟩))))
    · have hi : vp_in v1 10 := by
        obtain ⟨j, hj, rfl⟩ := nI_of z0
        rw [nI_leI (by omega) hj] at z1
        exact vp_in_nI (by omega) (by omega)
      rcases zi_cost (h := h) (w := w) (n := n) (k := k') (pr := pr) (al := al) (re := re) (lc := lc) (cn := cn) (A := A) (C := C) (x := x) (m := m) v2 with ⟨g, gX, gY⟩ | ⟨gX, gY⟩
      · exact br_f z0 (br_f z1 (br_f zb_10 (gX _ (br_f zb_10 ⟨hi, nm_e (br_f z0 (br_f z1 (gY _ (br_t rfl ⟨hi, nm_e ⟨rfl, zi_mk ⟨r1, r2, r3, r4, r5, r6, r7, zi_upC r8 g _, r9, r10, r11, r12⟩⟩⟩))))⟩))))
      · exact br_f z0 (br_f z1 (br_f zb_10 (gX _ (br_t rfl (br_f z0 (br_f z1 (gY _ (br_f zb_10 ⟨rfl, zi_mk R⟩))))))))
theorem i_vc_addMessage {k : Nat} {u : SX} {v : SY} (I : i_Rel k u v) (hk : k + 3 ≤ 1538) (v1 : Int32) : wpX_addMessage (fun r u' => wpY_addMessage (fun r' v' => r' = r ∧ i_Rel (k + 3) u' v') v v1) u v1 := by
  obtain ⟨h, w, n, k', V, M, pr, al, re, lc, cn, A, C, x, m, rfl, rfl, R⟩ := I
  have R' := R
  obtain ⟨r1, r2, r3, r4, r5, r6, r7, r8, r9, r10, r11, r12⟩ := R'
  have hd : 10 / w ≤ 10 := Nat.div_le_self 10 w
  by_cases hn : k' < 10 / w
  · have y : nI k' < nI (10 / w) := nI_lt hn (by omega)
    by_cases z0 : v1 < 0
    · exact br_t y (br_t z0 (br_t rfl (zi_lim r3 r4 (br_t y (br_t z0 ⟨rfl, zi_mk R⟩)))))
    · obtain ⟨b, hb, rfl⟩ := nI_of z0
      by_cases hb2 : b < 2
      · have z1 : ¬ (2 : Int32) ≤ nI b := nI_ge (b := 2) hb2 (by decide)
        have z2 : nI b ≤ (1 : Int32) := nI_le (b := 1) (by omega) (by decide)
        obtain ⟨β, hβ⟩ := zi_b2 hb2
        have e : (nI k').toNatClampNeg = k' := nI_clamp (by omega)
        have hi : vp_in (nI k') 10 := vp_in_nI (by omega) (by omega)
        refine br_t y (br_f z0 (br_f z1 (br_f zb_10 (nm_e (nm_r (nI_1 k') (zi_lim r3 r4 (br_t y (br_f z0 (br_t z2 ⟨hi, nm_e (nm_r (nI_1 k') ⟨rfl, ?_⟩)⟩)))))))))
        rw [e, hβ]
        exact zi_mk ⟨r1, r2, r3, r4, r5, hn, r7, r8, r9, r10, zi_app1 (by omega) r12 r11, zi_app2 (by omega) r12⟩
      · have z1 : (2 : Int32) ≤ nI b := nI_le (a := 2) (by omega) hb
        have z2 : ¬ nI b ≤ (1 : Int32) := nI_ge (a := 1) (by omega) hb
        exact br_t y (br_f z0 (br_t z1 (br_t rfl (zi_lim r3 r4 (br_t y (br_f z0 (br_f z2 ⟨rfl, zi_mk R⟩)))))))
  · have y : ¬ nI k' < nI (10 / w) := nI_nlt (by omega) (by omega)
    exact br_f y (zi_lim r3 r4 (br_f y ⟨rfl, zi_mk R⟩))
theorem i_vc_clear {k : Nat} {u : SX} {v : SY} (I : i_Rel k u v) (hk : k + 3 ≤ 1538) : wpX_clear (fun u' => wpY_clear (fun v' => i_Rel (k + 3) u' v') v) u := by
  obtain ⟨h, w, n, k', V, M, pr, al, re, lc, cn, A, C, x, m, rfl, rfl, R⟩ := I
  obtain ⟨r1, r2, r3, r4, r5, r6, r7, r8, r9, r10, r11, r12⟩ := R
  exact zi_mk (K := k + 3) (n := 0) (k := 0) ⟨r1, r2, r3, r4, by omega, Nat.zero_le _, r7, r8, fun i hi => absurd hi (by omega), fun i _ => b_0 i, fun i hi => absurd hi (by omega), fun i _ => b_0 i⟩
theorem i_vc_coverBit {k : Nat} {u : SX} {v : SY} (I : i_Rel k u v) (hk : k + 3 ≤ 1538) (v1 : Int32) : wpX_coverBit (fun r => wpY_coverBit (fun r' => r' = r ∧ i_Rel (k + 3) u v) v v1) u v1 := by
  obtain ⟨h, w, n, k', V, M, pr, al, re, lc, cn, A, C, x, m, rfl, rfl, R⟩ := I
  have R' := R
  obtain ⟨r1, r2, r3, r4, r5, r6, r7, r8, r9, r10, r11, r12⟩ := R'
  by_cases z0 : v1 < 0
  · exact br_t z0 (br_t rfl (br_t z0 ⟨rfl, zi_mk R⟩))
  · by_cases z1 : nI n ≤ v1
    · exact br_f z0 (br_t z1 (br_t rfl (br_f z0 (br_f (Int32.not_lt.mpr z1) ⟨rfl, zi_mk R⟩))))
    · obtain ⟨j, hj, rfl⟩ := nI_of z0
      have z2 := z1
      rw [nI_leI (by omega) hj] at z2
      have hi : vp_in (nI j) 10 := vp_in_nI (by omega) (by omega)
      have e : x (nI j).toNatClampNeg = zb (bt V j) := by rw [nI_clamp hj]; exact r9 j (by omega)
      exact br_f z0 (br_f z1 (br_f zb_10 (zx_bitAt j (by omega) (br_f z0 (br_t (Int32.not_le.mp z1) ⟨hi, e, zi_mk R⟩)))))
theorem i_vc_coverCost {k : Nat} {u : SX} {v : SY} (I : i_Rel k u v) (hk : k + 3 ≤ 1538) (v1 : Int32) : wpX_coverCost (fun r => wpY_coverCost (fun r' => r' = r ∧ i_Rel (k + 3) u v) v v1) u v1 := by
  obtain ⟨h, w, n, k', V, M, pr, al, re, lc, cn, A, C, x, m, rfl, rfl, R⟩ := I
  have R' := R
  obtain ⟨r1, r2, r3, r4, r5, r6, r7, r8, r9, r10, r11, r12⟩ := R'
  by_cases z0 : v1 < 0
  · exact br_t z0 (br_t rfl (br_t z0 ⟨rfl, zi_mk R⟩))
  · by_cases z1 : nI n ≤ v1
    · exact br_f z0 (br_t z1 (br_t rfl (br_f z0 (br_f (Int32.not_lt.mpr z1) ⟨rfl, zi_mk R⟩))))
    · have hi : vp_in v1 10 := by
        obtain ⟨j, hj, rfl⟩ := nI_of z0
        rw [nI_leI (by omega) hj] at z1
        exact vp_in_nI (by omega) (by omega)
      exact br_f z0 (br_f z1 (br_f zb_10 ⟨hi, br_f z0 (br_t (Int32.not_le.mp z1) ⟨hi, rfl, zi_mk R⟩)⟩))
theorem i_vc_messageBit {k : Nat} {u : SX} {v : SY} (I : i_Rel k u v) (hk : k + 3 ≤ 1538) (v1 : Int32) : wpX_messageBit (fun r => wpY_messageBit (fun r' => r' = r ∧ i_Rel (k + 3) u v) v v1) u v1 := by
  obtain ⟨h, w, n, k', V, M, pr, al, re, lc, cn, A, C, x, m, rfl, rfl, R⟩ := I
  have R' := R
  obtain ⟨r1, r2, r3, r4, r5, r6, r7, r8, r9, r10, r11, r12⟩ := R'
  have hk10 : k' ≤ 10 := zr_k r6
  by_cases z0 : v1 < 0
  · exact br_t z0 (br_t rfl (br_t z0 ⟨rfl, zi_mk R⟩))
  · by_cases z1 : nI k' ≤ v1
    · exact br_f z0 (br_t z1 (br_t rfl (br_f z0 (br_f (Int32.not_lt.mpr z1) ⟨rfl, zi_mk R⟩))))
    · obtain ⟨j, hj, rfl⟩ := nI_of z0
      have z2 := z1
      rw [nI_leI (by omega) hj] at z2
      have hi : vp_in (nI j) 10 := vp_in_nI (by omega) (by omega)
      have e : m (nI j).toNatClampNeg = zb (bt M j) := by rw [nI_clamp hj]; exact r11 j (by omega)
      exact br_f z0 (br_f z1 (br_f zb_10 (zx_bitAt j (by omega) (br_f z0 (br_t (Int32.not_le.mp z1) ⟨hi, e, zi_mk R⟩)))))
theorem i_vc_embed {k : Nat} {u : SX} {v : SY} (I : i_Rel k u v) (hk : k + 3 ≤ 1538) : wpX_embed (fun r u' => wpY_embed (fun r' v' => r' = r ∧ i_Rel (k + 3) u' v') v) u := by
  obtain ⟨h, w, n, k', V, M, pr, al, re, lc, cn, A, C, x, m, rfl, rfl, R⟩ := I
  have R' := R
  obtain ⟨r1, r2, r3, r4, r5, r6, r7, r8, r9, r10, r11, r12⟩ := R'
  have P := zr_P R
  refine zx_embed r3 r4 r5 (zr_k r6) rfl rfl P (fun q => ?_) (fun q1 q2 q3 => ?_) (fun q1 q2 c b q3 => ?_)
  · exact zy_embed R rfl rfl P (fun _ => ⟨rfl, zi_mk R⟩) (fun q1 q2 => absurd ⟨q1, q2⟩ q) (fun q1 q2 => absurd ⟨q1, q2⟩ q)
  · exact zy_embed R rfl rfl P (fun q => absurd ⟨q1, q2⟩ q) (fun _ _ _ => ⟨rfl, zi_mk R⟩) (fun _ _ c b e => absurd (q3.symm.trans e) (fun z => nomatch z))
  · refine zy_embed R rfl rfl P (fun q => absurd ⟨q1, q2⟩ q) (fun _ _ e => absurd (e.symm.trans q3) (fun z => nomatch z)) (fun _ _ c' b' e => ?_)
    have t := Option.some.inj (q3.symm.trans e)
    have t1 : c = c' := congrArg Prod.fst t
    have t2 : b = b' := congrArg Prod.snd t
    subst t1 t2
    exact ⟨rfl, zi_mk R⟩
theorem i_vc_totalCost {k : Nat} {u : SX} {v : SY} (I : i_Rel k u v) (hk : k + 3 ≤ 1538) : wpX_totalCost (fun r => wpY_totalCost (fun r' => r' = r ∧ i_Rel (k + 3) u v) v) u := by
  obtain ⟨h, w, n, k', V, M, pr, al, re, lc, cn, A, C, x, m, rfl, rfl, R⟩ := I
  by_cases z : pr = 0
  · exact br_t z (br_t z ⟨rfl, zi_mk R⟩)
  · exact br_f z (br_f z ⟨rfl, zi_mk R⟩)
theorem i_vc_optimalCount {k : Nat} {u : SX} {v : SY} (I : i_Rel k u v) (hk : k + 3 ≤ 1538) : wpX_optimalCount (fun r => wpY_optimalCount (fun r' => r' = r ∧ i_Rel (k + 3) u v) v) u := by
  obtain ⟨h, w, n, k', V, M, pr, al, re, lc, cn, A, C, x, m, rfl, rfl, R⟩ := I
  by_cases z : pr = 0
  · exact br_t z (br_t z ⟨rfl, zi_mk R⟩)
  · exact br_f z (br_f z ⟨rfl, zi_mk R⟩)
theorem i_vc_alteredBit {k : Nat} {u : SX} {v : SY} (I : i_Rel k u v) (hk : k + 3 ≤ 1538) (v1 : Int32) : wpX_alteredBit (fun r => wpY_alteredBit (fun r' => r' = r ∧ i_Rel (k + 3) u v) v v1) u v1 := by
  obtain ⟨h, w, n, k', V, M, pr, al, re, lc, cn, A, C, x, m, rfl, rfl, R⟩ := I
  by_cases z : pr = 0
  · exact br_t z (br_t z ⟨rfl, zi_mk R⟩)
  · by_cases z0 : v1 < 0
    · exact br_f z (br_t z0 (br_t rfl (br_f z (br_t z0 ⟨rfl, zi_mk R⟩))))
    · by_cases z1 : nI n ≤ v1
      · exact br_f z (br_f z0 (br_t z1 (br_t rfl (br_f z (br_f z0 (br_f (Int32.not_lt.mpr z1) ⟨rfl, zi_mk R⟩))))))
      · exact br_f z (br_f z0 (br_f z1 (br_f zb_10 (br_f z (br_f z0 (br_t (Int32.not_le.mp z1) ⟨rfl, zi_mk R⟩))))))
theorem i_vc_flip {k : Nat} {u : SX} {v : SY} (I : i_Rel k u v) (hk : k + 3 ≤ 1538) (v1 : Int32) : wpX_flip (fun r u' => wpY_flip (fun r' v' => r' = r ∧ i_Rel (k + 3) u' v') v v1) u v1 := by
  obtain ⟨h, w, n, k', V, M, pr, al, re, lc, cn, A, C, x, m, rfl, rfl, R⟩ := I
  by_cases z : pr = 0
  · exact br_t z (br_t z ⟨rfl, zi_mk R⟩)
  · by_cases z0 : v1 < 0
    · exact br_f z (br_t z0 (br_t rfl (br_f z (br_t z0 ⟨rfl, zi_mk R⟩))))
    · by_cases z1 : nI n ≤ v1
      · exact br_f z (br_f z0 (br_t z1 (br_t rfl (br_f z (br_f z0 (br_f (Int32.not_lt.mpr z1) ⟨rfl, zi_mk R⟩))))))
      · exact br_f z (br_f z0 (br_f z1 (br_f zb_10 (nm_e (br_f z (br_f z0 (br_t (Int32.not_le.mp z1) (nm_e ⟨rfl, zi_mk R⟩))))))))
theorem i_vc_extractBit {k : Nat} {u : SX} {v : SY} (I : i_Rel k u v) (hk : k + 3 ≤ 1538) (v1 : Int32) : wpX_extractBit (fun r => wpY_extractBit (fun r' => r' = r ∧ i_Rel (k + 3) u v) v v1) u v1 := by
  obtain ⟨h, w, n, k', V, M, pr, al, re, lc, cn, A, C, x, m, rfl, rfl, R⟩ := I
  have R' := R
  obtain ⟨r1, r2, r3, r4, r5, r6, r7, r8, r9, r10, r11, r12⟩ := R'
  have hk10 : k' ≤ 10 := zr_k r6
  by_cases z : pr = 0
  · exact br_t z (br_t z ⟨rfl, zi_mk R⟩)
  · by_cases z0 : v1 < 0
    · exact br_f z (br_t z0 (br_t rfl (br_f z (br_t z0 ⟨rfl, zi_mk R⟩))))
    · by_cases z1 : nI k' ≤ v1
      · exact br_f z (br_f z0 (br_t z1 (br_t rfl (br_f z (br_f z0 (br_f (Int32.not_lt.mpr z1) ⟨rfl, zi_mk R⟩))))))
      · obtain ⟨j, hj, rfl⟩ := nI_of z0
        have z2 := z1
        rw [nI_leI (by omega) hj] at z2
        have e : zb (zp_pr A w re j n) = zb (bt (zp_sy A w k' re n) j) := by
          rw [zp_sy_bt hk10 n (by omega) j (by omega), decide_eq_true (show j < k' by omega), Bool.and_true]
        exact br_f z (br_f z0 (br_f z1 (br_f zb_10 (zx_sy r3 r4 r5 (zx_bitAt j (by omega) (br_f z (br_f z0 (br_t (Int32.not_le.mp z1) (zy_sb r1 r2 r3 r4 r7 r5 j (by omega) ⟨e, zi_mk R⟩)))))))))
theorem i_vc_forcedCost {k : Nat} {u : SX} {v : SY} (I : i_Rel k u v) (hk : k + 3 ≤ 1538) (v1 : Int32) (v2 : Int32) : wpX_forcedCost (fun r => wpY_forcedCost (fun r' => r' = r ∧ i_Rel (k + 3) u v) v v1 v2) u v1 v2 := by
  obtain ⟨h, w, n, k', V, M, pr, al, re, lc, cn, A, C, x, m, rfl, rfl, R⟩ := I
  have R' := R
  obtain ⟨r1, r2, r3, r4, r5, r6, r7, r8, r9, r10, r11, r12⟩ := R'
  have hk10 : k' ≤ 10 := zr_k r6
  have P := zr_P R
  unfold wpX_forcedCost wpY_forcedCost
  dsimp only
  refine zx_ready r4 hk10 r5 ?_ ?_
  rotate_left
  · intro q
    refine br_t rfl (zy_ready r4 hk10 r5 ?_ ?_)
    · exact fun q1 q2 => absurd ⟨q1, q2⟩ q
    · exact fun _ => br_t rfl ⟨rfl, zi_mk R⟩
  intro q1 q2
  refine br_f zb_10 ?_
  have Y : ∀ {post : Int32 → Prop}, post 1 → wpY_ready post (nI h, nI w, nI n, nI k', pr, al, re, lc, cn, A, x, C, m) := fun hp => zy_ready r4 hk10 r5 (fun _ _ => hp) (fun q => absurd ⟨q1, q2⟩ q)
  by_cases z0 : v1 < 0
  · exact br_t z0 (br_t rfl (Y (br_f zb_10 (br_t z0 ⟨rfl, zi_mk R⟩))))
  · by_cases z1 : nI n ≤ v1
    · exact br_f z0 (br_t z1 (br_t rfl (Y (br_f zb_10 (br_f z0 (br_t z1 ⟨rfl, zi_mk R⟩))))))
    · by_cases z2 : v2 < 0
      · exact br_f z0 (br_f z1 (br_f zb_10 (br_t z2 (br_t rfl (Y (br_f zb_10 (br_f z0 (br_f z1 (br_t z2 ⟨rfl, zi_mk R⟩)))))))))
      · obtain ⟨j, hj, rfl⟩ := nI_of z0
        obtain ⟨b, hb, rfl⟩ := nI_of z2
        have z3 := z1
        rw [nI_leI (by omega) hj] at z3
        by_cases hb2 : b < 2
        · have y1 : ¬ (2 : Int32) ≤ nI b := nI_ge (b := 2) hb2 (by decide)
          have y2 : nI b ≤ (1 : Int32) := nI_le (b := 1) (by omega) (by decide)
          obtain ⟨β, hβ⟩ := zi_b2 hb2
          rw [hβ] at z2 y1 y2 ⊢
          refine br_f z0 (br_f z1 (br_f zb_10 (br_f z2 (br_f y1 (br_f zb_10 (zx_bitAt j (by omega) (nm_r (zb_xor _ _) (nm_r (zb_pow n (by omega)) (zx_fcL r3 r4 r5 (zr_N R) j (by omega) (bt V j ^^ β) rfl (zp_fi_P P) ?_)))))))))
          exact Y (br_f zb_10 (br_f z0 (br_f z1 (br_f z2 (br_t y2 (nm_r (zb_pow n (by omega)) (zy_fcL R rfl rfl P j (by omega) β rfl ⟨rfl, zi_mk R⟩)))))))
        · have y1 : (2 : Int32) ≤ nI b := nI_le (a := 2) (by omega) hb
          have y2 : ¬ nI b ≤ (1 : Int32) := nI_ge (a := 1) (by omega) hb
          exact br_f z0 (br_f z1 (br_f zb_10 (br_f z2 (br_t y1 (br_t rfl (Y (br_f zb_10 (br_f z0 (br_f z1 (br_f z2 (br_f y2 ⟨rfl, zi_mk R⟩)))))))))))
