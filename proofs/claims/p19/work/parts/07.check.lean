section
variable {h w l n k L : Nat} {V M pr al re lc cn : Int32} {A C : Nat → Int32} {post : Int32 → Prop} {xs : Nat → Int32} {kc ks : Nat}
variable {J : Int32 → Int32 → Int32 → Int32 → Int32 → Int32 → Int32 → Int32 → Int32 → Int32 → Int32 → Int32 → Int32 → Int32 → Int32 → Int32 → Int32 → (Nat → Int32) → (Nat → Int32) → Prop}
variable {x1 x4 x6 od x10 no co x14 : Int32}
theorem zc_a1 (b : Bool) : zb b &&& 1 = zb b := by cases b <;> decide +kernel
theorem zc_885 (O : zo_ok h w l n k M C) (F : zc_safe A C V M w k n no co) (HJ : J x6 (nI n) (nI k) od (x10 + 1) (nI h) (nI w) (nI l) V (nI n) M (nI k) pr al re lc cn A C) :
    ∃ f, wL_law_885 post L xs J x1 (nI w) x4 x6 (nI n) (nI k) od x10 no co kc ks (nI h) (nI w) (nI l) V (nI n) M (nI k) pr al re lc cn A C f M 0 := by
  have O' := O
  obtain ⟨o1, o2, o3, o4, o5, o6, o7, o8, o9⟩ := O'
  refine pk_loop (fun f i s => wL_law_885 post L xs J x1 (nI w) x4 x6 (nI n) (nI k) od x10 no co kc ks (nI h) (nI w) (nI l) V (nI n) M (nI k) pr al re lc cn A C f s (nI i)) (fun i s => s = M ^^^ zp_sy A w k V i) n 0 M (Nat.zero_le _) Int32.xor_zero.symm
    (fun f s e => pk_le n n (fun _ => ?_) (fun z => absurd z (by omega)))
    (fun f i s hi e hs => pk_le n i (fun z => absurd z (by omega)) (fun _ => zo_cB o6 i hi ?_))
  · have e0 : s = zc_D A V M w k n 0 := by
      rw [e]
      unfold zc_D
      rw [show V ^^^ nI 0 = V from Int32.xor_zero]
    rw [e0]
    exact zc_942 O rfl F HJ
  · rw [zc_a1]
    by_cases hb : bt V i = true
    · refine br_t (zb_is1.mpr hb) (zc_colm o2 o3 i (by omega) (nm_e (nm_r (nI_1 i) (hs _ ?_))))
      rw [e, zp_sy, if_pos hb, Int32.xor_assoc]
    · refine br_f (fun z => hb (zb_is1.mp z)) (nm_r (nI_1 i) (hs _ ?_))
      rw [e, zp_sy, if_neg hb]
theorem zc_xs {s : Int32} {B : Nat → Bool} {i : Nat} (hi : i < 10) (hs : ∀ t, t < 32 → bt s t = (decide (t < i) && B t)) : ∀ t, t < 32 → bt (s ^^^ (zb (B i) <<< (nI i &&& 31))) t = (decide (t < i + 1) && B t) := by
  intro t ht
  rw [b_xor, hs t ht, b_shl i (by omega) _ ht, zb_bt _ _ (by omega)]
  rcases Nat.lt_trichotomy t i with z | z | z
  · rw [decide_eq_true z, decide_eq_true (show t < i + 1 by omega), decide_eq_false (show ¬ i ≤ t by omega), Bool.false_and, Bool.xor_false]
  · subst z
    rw [decide_eq_false (show ¬ t < t by omega), decide_eq_true (show t < t + 1 by omega), decide_eq_true (show t ≤ t by omega), decide_eq_true (show t - t = 0 by omega), Bool.false_and, Bool.false_xor, Bool.true_and, Bool.and_true, Bool.true_and]
  · rw [decide_eq_false (show ¬ t < i by omega), decide_eq_false (show ¬ t < i + 1 by omega), decide_eq_false (show ¬ t - i = 0 by omega), Bool.and_false, Bool.and_false, Bool.false_and, Bool.xor_false]
theorem zc_852 (O : zo_ok h w l n k M C) (F : zc_safe A C V M w k n no co) (HJ : J x6 (nI n) (nI k) od (x10 + 1) (nI h) (nI w) (nI l) V (nI n) M (nI k) pr al re lc cn A C) :
    ∃ f, wL_law_852 post L xs J x1 (nI w) x4 x6 (nI n) (nI k) od x10 no co kc ks (nI h) (nI w) (nI l) V (nI n) M (nI k) pr al re lc cn A C f 0 0 := by
  have O' := O
  obtain ⟨o1, o2, o3, o4, o5, o6, o7, o8, o9⟩ := O'
  refine pk_loop (fun f i s => wL_law_852 post L xs J x1 (nI w) x4 x6 (nI n) (nI k) od x10 no co kc ks (nI h) (nI w) (nI l) V (nI n) M (nI k) pr al re lc cn A C f s (nI i)) (fun i s => ∀ t, t < 32 → bt s t = (decide (t < i) && bt M t)) k 0 0 (Nat.zero_le _) (fun t _ => by rw [b_0, decide_eq_false (by omega), Bool.false_and])
    (fun f s e => pk_le k k (fun _ => ?_) (fun z => absurd z (by omega)))
    (fun f i s hi e hs => pk_le k i (fun z => absurd z (by omega)) (fun _ => zo_mB (by omega) i hi ?_))
  · have es : s = M := by
      apply b_ext
      intro t ht
      rw [e t ht]
      rcases Nat.lt_or_ge t k with z | z
      · rw [decide_eq_true z, Bool.true_and]
      · rw [o9 t z, Bool.and_false]
    rw [es]
    exact zc_885 O F HJ
  · rw [zc_a1]
    exact nm_e (nm_r (nI_1 i) (hs _ (zc_xs (B := bt M) (by omega) e)))
theorem zc_836 (O : zo_ok h w l n k M C) (F : ¬ x14 = 0 ∨ ¬ no = 0 → zc_safe A C V M w k n no co) (HJ : J x6 (nI n) (nI k) od (x10 + 1) (nI h) (nI w) (nI l) V (nI n) M (nI k) pr al re lc cn A C) :
    wL_law_836 post L xs J x1 (nI w) x4 x6 (nI n) (nI k) od x10 no co x14 kc ks (nI h) (nI w) (nI l) V (nI n) M (nI k) pr al re lc cn A C :=
  br_c (fun z => br_c (fun y => nm_e HJ) (fun y => zc_852 O (F (Or.inr y)) HJ)) (fun z => zc_852 O (F (Or.inl z)) HJ)
theorem zc_781 (O : zo_ok h w l n k M C) (hpr : ¬ pr = 0) (hsy : zp_sy A w k al n = M) (hre : re = al ^^^ od)
    (H : wL_law_836 post L xs J x1 (nI w) x4 x6 (nI n) (nI k) od x10 no co x14 kc ks (nI h) (nI w) (nI l) V (nI n) M (nI k) pr al re lc cn A C) :
    ∃ f, wL_law_781 post L xs J x1 (nI w) x4 x6 (nI n) (nI k) od x10 no co x14 M kc ks (nI h) (nI w) (nI l) V (nI n) M (nI k) pr al re lc cn A C f 0 := by
  obtain ⟨o1, o2, o3, o4, o5, o6, o7, o8, o9⟩ := O
  refine pk_loop (σ := Unit) (fun f i _ => wL_law_781 post L xs J x1 (nI w) x4 x6 (nI n) (nI k) od x10 no co x14 M kc ks (nI h) (nI w) (nI l) V (nI n) M (nI k) pr al re lc cn A C f (nI i)) (fun _ _ => True) k 0 () (Nat.zero_le _) trivial
    (fun f _ _ => pk_le k k (fun _ => H) (fun z => absurd z (by omega)))
    (fun f i _ hi _ hs => pk_le k i (fun z => absurd z (by omega)) (fun _ => zo_mB (by omega) i hi ?_))
  rw [zb_bit M i (by omega)]
  refine br_t rfl (br_c (fun z => ?_) (fun _ => nm_r (nI_1 i) (hs () trivial)))
  refine zo_eB hpr o2 o3 o6 (by omega) i hi ?_
  have e : zp_sy A w k re n = M := by
    rw [hre, z, Int32.xor_zero]
    exact hsy
  exact br_t (by rw [e]) (nm_r (nI_1 i) (hs () trivial))
theorem zc_S0 {f : Nat → Nat} {b : Nat → Bool} : ∀ {m : Nat}, zq_S f b m = 0 → ∀ i, i < m → b i = true → f i = 0
  | 0, _, i, hi, _ => by omega
  | m + 1, h, i, hi, hb => by
    have h' : zq_S f b m + (if b m = true then f m else 0) = 0 := h
    rcases Nat.lt_or_ge i m with z | z
    · exact zc_S0 (m := m) (by omega) i z hb
    · have e : i = m := by omega
      subst e
      rw [if_pos hb] at h'
      omega
theorem zc_724 {J678 : Int32 → Int64 → Int32 → Prop} {i B : Nat} {d : Int32} (O : zo_ok h w l n k M C) (hi : i < n) (hal : al = V ^^^ nI B) (hW : zc_W C n B = 0)
    (H : J678 d (lN (zq_S (fun j => zq_c (C j)) (bt (nI B)) (i + 1))) (nI (i + 1))) :
    wL_law_724 post L xs J J678 x1 (nI w) x4 x6 (nI n) (nI k) od x10 no co x14 d (lN (zq_S (fun j => zq_c (C j)) (bt (nI B)) i)) (nI i) (zb (bt al i)) kc ks (nI h) (nI w) (nI l) V (nI n) M (nI k) pr al re lc cn A C := by
  obtain ⟨o1, o2, o3, o4, o5, o6, o7, o8, o9⟩ := O
  refine zo_cB o6 i hi ?_
  have es : zq_S (fun j => zq_c (C j)) (bt (nI B)) (i + 1) = zq_S (fun j => zq_c (C j)) (bt (nI B)) i + (if bt (nI B) i = true then zq_c (C i) else 0) := rfl
  by_cases hb : bt (nI B) i = true
  · rw [if_pos hb] at es
    have nw : ¬ C i = -1 := by
      intro z
      have t : zq_w (C i) = 0 := zc_S0 hW i hi hb
      unfold zq_w at t
      rw [if_pos z] at t
      omega
    obtain ⟨e, he⟩ := zq_cI (o8 i) nw
    refine br_f (fun z => ?_) (zo_cC o6 i hi (br_f nw (nm_r (?_ : lN (zq_S (fun j => zq_c (C j)) (bt (nI B)) i) + (C i).toInt64 = lN (zq_S (fun j => zq_c (C j)) (bt (nI B)) (i + 1))) (nm_r (nI_1 i) H))))
    · have t := zb_inj z
      rw [hal, b_xor, hb] at t
      revert t
      cases bt V i <;> decide
    · rw [congrArg (fun z : Int32 => z.toInt64) e, nI_l (by omega), lN_add, es]
  · rw [if_neg hb, Nat.add_zero] at es
    rw [es] at H
    refine br_t ?_ (nm_r (nI_1 i) H)
    rw [hal, b_xor, Bool.eq_false_iff.mpr hb, Bool.xor_false]
theorem zc_678 {B : Nat} (O : zo_ok h w l n k M C) (hpr : ¬ pr = 0) (hal : al = V ^^^ nI B) (hW : zc_W C n B = 0) (hco : co = nI (zc_S C n B)) (hsy : zp_sy A w k al n = M) (hre : re = al ^^^ od)
    (H : wL_law_836 post L xs J x1 (nI w) x4 x6 (nI n) (nI k) od x10 no co x14 kc ks (nI h) (nI w) (nI l) V (nI n) M (nI k) pr al re lc cn A C) :
    ∃ f, wL_law_678 post L xs J x1 (nI w) x4 x6 (nI n) (nI k) od x10 no co x14 kc ks (nI h) (nI w) (nI l) V (nI n) M (nI k) pr al re lc cn A C f 0 0 0 := by
  have O' := O
  obtain ⟨o1, o2, o3, o4, o5, o6, o7, o8, o9⟩ := O'
  refine pk_loop (fun f i (s : Int32 × Int64) => wL_law_678 post L xs J x1 (nI w) x4 x6 (nI n) (nI k) od x10 no co x14 kc ks (nI h) (nI w) (nI l) V (nI n) M (nI k) pr al re lc cn A C f s.1 s.2 (nI i)) (fun i s => s = (zp_sy A w k al i, lN (zq_S (fun j => zq_c (C j)) (bt (nI B)) i))) n 0 (0, 0) (Nat.zero_le _) rfl
    (fun f s e => pk_le n n (fun _ => ?_) (fun z => absurd z (by omega)))
    (fun f i s hi e hs => pk_le n i (fun z => absurd z (by omega)) (fun _ => zo_aB hpr o6 i hi ?_))
  · subst e
    have bS := zc_SB o8 o6 B
    refine br_t ?_ ?_
    · show lN (zc_S C n B) = co.toInt64
      rw [hco, nI_l (by omega)]
    · show ∃ f, wL_law_781 post L xs J x1 (nI w) x4 x6 (nI n) (nI k) od x10 no co x14 (zp_sy A w k al n) kc ks (nI h) (nI w) (nI l) V (nI n) M (nI k) pr al re lc cn A C f 0
      rw [hsy]
      exact zc_781 O hpr hsy hre H
  · subst e
    rw [zc_a1]
    by_cases hb : bt al i = true
    · refine br_t (zb_is1.mpr hb) (zc_colm o2 o3 i (by omega) (nm_e (zc_724 O hi hal hW ?_)))
      exact hs (zp_sy A w k al i ^^^ zp_mc A w k i, lN (zq_S (fun j => zq_c (C j)) (bt (nI B)) (i + 1))) (by rw [zp_sy, if_pos hb])
    · refine br_f (fun z => hb (zb_is1.mp z)) (zc_724 O hi hal hW ?_)
      exact hs (zp_sy A w k al i, lN (zq_S (fun j => zq_c (C j)) (bt (nI B)) (i + 1))) (by rw [zp_sy, if_neg hb])
theorem zc_628 (O : zo_ok h w l n k M C) (Rs : zo_res w n k V M pr al re lc od A C) (hno : no = 0 ∨ (pr = 0 ∧ ∀ g, g < 2 ^ n → zp_cs A C V M w k n g = none)) (HJ : J x6 (nI n) (nI k) od (x10 + 1) (nI h) (nI w) (nI l) V (nI n) M (nI k) pr al re lc cn A C) :
    wL_law_628 post L xs J x1 (nI w) x4 x6 (nI n) (nI k) od x10 no kc ks (nI h) (nI w) (nI l) V (nI n) M (nI k) pr al re lc cn A C := by
  have O' := O
  obtain ⟨o1, o2, o3, o4, o5, o6, o7, o8, o9⟩ := O'
  by_cases hpr : pr = 0
  · refine br_t hpr (br_t (by decide) (br_t rfl (zc_836 O (fun z => ?_) HJ)))
    have z' : ¬ no = 0 := z.resolve_left (fun t => t rfl)
    obtain ⟨_, q⟩ := hno.resolve_left z'
    intro g hg c hc
    rw [q g hg] at hc
    exact nomatch hc
  · obtain ⟨r1, r2, r3, B, r4, r5, r6, r7⟩ := Rs hpr
    have n0 : no = 0 := hno.elim id (fun t => absurd t.1 hpr)
    have hsy : zp_sy A w k al n = M := by
      unfold zp_cs at r6
      rw [r5]
      by_cases z : zp_sy A w k (V ^^^ nI B) n = M
      · exact z
      · rw [if_neg z] at r6
        exact nomatch r6
    have hcf : zp_cf C (nI B) n 0 0 = some lc := by
      unfold zp_cs at r6
      rw [r5] at hsy
      rw [if_pos hsy] at r6
      exact r6
    rw [zc_cs o8] at hcf
    have hW : zc_W C n B = 0 := by
      by_cases z : zc_W C n B = 0
      · exact z
      · rw [if_neg z] at hcf
        exact nomatch hcf
    rw [if_pos hW] at hcf
    have hlc : lc = nI (zc_S C n B) := (Option.some.inj hcf).symm
    have bS := zc_SB o8 o6 B
    have hm : w * k ≤ 3 * 10 := Nat.mul_le_mul o3 (by omega)
    have Fs : zc_safe A C V M w k n no lc := fun g hg c hc => ⟨n0, zc_S C n B, by omega, hlc, r7 g hg c hc⟩
    have pos : ¬ lc < 0 := by rw [hlc]; exact nI_pos (by omega)
    refine br_f hpr (br_f pos (br_f zb_10 (pk_lt k 1 (fun z => absurd z (by omega)) (fun _ => ?_))))
    rw [pk_mul]
    exact pk_eq n (w * k) (fun _ => zc_678 O hpr r5 hW hlc hsy r3 (zc_836 O (fun _ => Fs) HJ)) (fun z => absurd r2 z)
end
