section
variable {h w l n k L p p0 : Nat} {V M pr al re lc cn : Int32} {A C : Nat → Int32} {post : Int32 → Prop} {xs : Nat → Int32} {kc ks : Nat}
variable {J : Int32 → Int32 → Int32 → Int32 → Int32 → Int32 → Int32 → Int32 → Int32 → Int32 → Int32 → Int32 → Int32 → Int32 → Int32 → Int32 → Int32 → (Nat → Int32) → (Nat → Int32) → Prop}
variable {x1 x4 x6 od x10 no co x14 : Int32}
theorem zl_cell {post : Int32 → Prop} (hL : L ≤ 260) (p : Nat) (hp : p < 2 ^ 31) (H : ∀ v, post v) : wpL_cell post L xs () (nI p) :=
  pk_le L p (fun _ => H _) (fun z => ⟨vp_in_nI z (by omega), H _⟩)
theorem zl_rem {post : Int32 → Prop} {v : Int32} (q : Nat) (h1 : 1 ≤ q) (hq : q < 2 ^ 31) (H : ∀ j, j < q → post (nI j)) : wpL_rem post () v (nI q) := by
  have e : v &&& 2147483647 = nI (v.toBitVec.toNat % 2 ^ 31) := pk_and v (m := 2147483647) 31 (by decide)
  refine ⟨nI_ne0 h1 hq, ?_⟩
  rw [e, pk_rem (Nat.mod_lt _ (by decide)) h1 hq]
  exact H _ (Nat.mod_lt _ h1)
theorem zl_price {post : Int32 → Prop} {v : Int32} (H : ∀ r, post r) : wpL_price post () v :=
  nm_e ⟨by decide, nm_e (br_c (fun _ => H _) (fun _ => br_c (fun _ => ⟨by decide, H _⟩) (fun _ => ⟨by decide, by decide, H _⟩)))⟩
theorem zl_shape {post : Int32 → Prop} {v j : Int32} (hh : h ≤ 4) (H : ∀ r, post r) : wpL_shape post () v (nI h) j := by
  have hp : 2 ^ h ≤ 2 ^ 4 := Nat.pow_le_pow_right (by decide) hh
  unfold wpL_shape
  rw [zb_pow h (by omega)]
  refine zl_rem (2 ^ h) Nat.one_le_two_pow (by omega) ?_
  intro r _
  exact br_c (fun _ => br_c (fun _ => H _) (fun _ => nm_e (H _))) (fun _ => H _)
/-- what the law's loop asks behind a step that began at cell p0 -/
def zl_J (h w l p0 : Nat) (x10 : Int32) (J : Int32 → Int32 → Int32 → Int32 → Int32 → Int32 → Int32 → Int32 → Int32 → Int32 → Int32 → Int32 → Int32 → Int32 → Int32 → Int32 → Int32 → (Nat → Int32) → (Nat → Int32) → Prop) : Prop :=
  ∀ (p n k : Nat) (V M pr al re lc cn od : Int32) (A C : Nat → Int32), p0 < p → p ≤ p0 + 60 → zo_ok h w l n k M C → zo_res w n k V M pr al re lc od A C → J (nI p) (nI n) (nI k) od (x10 + 1) (nI h) (nI w) (nI l) V (nI n) M (nI k) pr al re lc cn A C
theorem zl_out (HJ : zl_J h w l p0 x10 J) (h1 : p0 < p) (h2 : p ≤ p0 + 60) (O : zo_ok h w l n k M C) (Rs : zo_res w n k V M pr al re lc od A C) (hno : no = 0 ∨ (pr = 0 ∧ ∀ g, g < 2 ^ n → zp_cs A C V M w k n g = none)) :
    wL_law_628 post L xs J x1 (nI w) x4 (nI p) (nI n) (nI k) od x10 no kc ks (nI h) (nI w) (nI l) V (nI n) M (nI k) pr al re lc cn A C := zc_628 O Rs hno (HJ p n k V M pr al re lc cn od A C h1 h2 O Rs)
theorem zl_emb (HJ : zl_J h w l p0 x10 J) (h1 : p0 < p) (h2 : p ≤ p0 + 60) (O : zo_ok h w l n k M C) (Rs : zo_res w n k V M pr al re lc od A C) :
    wpX_embed (fun r u => match u with | (f1, f2, f3, f4, f5, f6, f7, f8, f9, f10, f11, f12, a1, a2) => (((r = 0 → (wL_law_260 post L xs J x1 (nI w) x4 (nI p) (nI n) (nI k) 0 x10 r kc ks f1 f2 f3 f4 f5 f6 f7 f8 f9 f10 f11 f12 a1 a2)) ∧ (¬ r = 0 → (wL_law_260 post L xs J x1 (nI w) x4 (nI p) (nI n) (nI k) od x10 r kc ks f1 f2 f3 f4 f5 f6 f7 f8 f9 f10 f11 f12 a1 a2))))) (nI h, nI w, nI l, V, nI n, M, nI k, pr, al, re, lc, cn, A, C) := by
  have O' := O
  obtain ⟨o1, o2, o3, o4, o5, o6, o7, o8, o9⟩ := O'
  refine zx_embed o2 o3 o6 (by omega) rfl rfl (zp_cs_P o8 o6) ?_ ?_ ?_
  · intro _
    exact br_f (by decide) (br_f (by decide) (zl_out HJ h1 h2 O Rs (Or.inl rfl)))
  · intro q1 q2 q3
    exact br_f (by decide) (br_t rfl (zl_out HJ h1 h2 O zo_res0 (Or.inr ⟨rfl, fun g hg => zp_ll_none q3 g hg⟩)))
  · intro q1 q2 c b q3
    obtain ⟨⟨s1, s2⟩, s3⟩ := zp_ll_some q3
    exact br_t rfl (br_f (by decide) (zl_out HJ h1 h2 O (fun _ => ⟨q1, q2, Int32.xor_zero.symm, b, s1, rfl, s2, s3⟩) (Or.inl rfl)))
theorem zl_201 {q : Nat} {mi : Int32} (hL : L ≤ 260) (hp0 : p0 ≤ 600) (HJ : zl_J h w l p0 x10 J) (hq : q ≤ 30) (hmi : ∀ a : Nat, a < 2 ^ 31 → (mi ≤ nI a ↔ q ≤ a)) :
    ∀ (d a p n : Nat) (V pr : Int32) (C : Nat → Int32), a + d = q → p0 < p + d → p + d ≤ p0 + 60 → zo_ok h w l n k M C → zo_res w n k V M pr al re lc od A C →
      wL_law_201 post L xs J x1 (nI w) x4 (nI k) od x10 mi kc ks (d + 1) (nI p) (nI n) (nI a) (nI h) (nI w) (nI l) V (nI n) M (nI k) pr al re lc cn A C
  | 0, a, p, n, V, pr, C, ha, h1, h2, O, Rs => br_t ((hmi a (by omega)).mpr (by omega)) (zl_emb HJ h1 h2 O Rs)
  | d + 1, a, p, n, V, pr, C, ha, h1, h2, O, Rs => by
    refine br_f (fun z => absurd ((hmi a (by omega)).mp z) (by omega)) (nm_r (nI_1 p) (zl_cell hL p (by omega) (fun v => zl_price (fun r => zo_addC O ?_ ?_))))
    · intro V' C' O'
      exact br_t rfl (nm_r (nI_1 n) (nm_r (nI_1 a) (zl_201 hL hp0 HJ hq hmi d (a + 1) (p + 1) (n + 1) V' 0 C' (by omega) (by omega) (by omega) O' zo_res0)))
    · intro r hr
      exact br_f hr (nm_r (nI_1 a) (zl_201 hL hp0 HJ hq hmi d (a + 1) (p + 1) n V pr C (by omega) (by omega) (by omega) O Rs))
theorem zl_mi (hn : n ≤ 10) (hw : w ≤ 3) (hk : k ≤ 10) : ∃ q, q ≤ 30 ∧ (n < w * k → 1 ≤ q) ∧ ∀ a : Nat, a < 2 ^ 31 → (nI w * nI k - nI n ≤ nI a ↔ q ≤ a) := by
  have hm : w * k ≤ 3 * 10 := Nat.mul_le_mul hw hk
  rw [pk_mul]
  rcases Nat.lt_or_ge (w * k) n with z | z
  · refine ⟨0, by omega, fun y => absurd y (by omega), fun a ha => ⟨fun _ => Nat.zero_le _, fun _ => ?_⟩⟩
    exact Int32.le_of_lt (Int32.lt_of_lt_of_le (pk_sneg (by omega) z) (nI_pos' ha))
  · rw [pk_sub z]
    exact ⟨w * k - n, by omega, fun y => by omega, fun a ha => nI_leI (by omega) ha⟩
theorem zl_fres {m : Int32} (Rs : zo_res w n k V M pr al re lc od A C) : zo_res w n k V M pr al (re ^^^ m) lc (od ^^^ m) A C := by
  intro z
  obtain ⟨r1, r2, r3, r4⟩ := Rs z
  exact ⟨r1, r2, by rw [r3, Int32.xor_assoc], r4⟩
theorem zl_332 (HJ : zl_J h w l p0 x10 J) (h1 : p0 < p) (h2 : p ≤ p0 + 60) (O : zo_ok h w l n k M C) :
    ∀ (d i : Nat) (od re : Int32), i + d = n → zo_res w n k V M pr al re lc od A C → wL_law_332 post L xs J x1 (nI w) x4 (nI p) (nI n) (nI k) x10 0 kc ks (d + 1) od (nI i) (nI h) (nI w) (nI l) V (nI n) M (nI k) pr al re lc cn A C
  | 0, i, od, re, hi, Rs => by
    have hn : n ≤ 10 := O.2.2.2.2.2.1
    exact pk_le n i (fun _ => zl_out HJ h1 h2 O Rs (Or.inl rfl)) (fun z => absurd z (by omega))
  | d + 1, i, od, re, hi, Rs => by
    have hn : n ≤ 10 := O.2.2.2.2.2.1
    refine pk_le n i (fun z => absurd z (by omega)) (fun _ => br_c (fun _ => zo_flip ?_ ?_) (fun _ => nm_r (nI_1 i) (zl_332 HJ h1 h2 O d (i + 1) od re (by omega) Rs)))
    · intro _
      exact br_t rfl (nm_e (nm_r (nI_1 i) (zl_332 HJ h1 h2 O d (i + 1) _ _ (by omega) (zl_fres Rs))))
    · intro r hr
      exact br_f hr (nm_r (nI_1 i) (zl_332 HJ h1 h2 O d (i + 1) od re (by omega) Rs))
theorem zl_555 {q : Nat} (hL : L ≤ 260) (hp0 : p0 ≤ 600) (HJ : zl_J h w l p0 x10 J) (hq : q ≤ 10) :
    ∀ (d a p k : Nat) (M pr : Int32), a + d = q → p0 < p → p + d ≤ p0 + 60 → zo_ok h w l n k M C → zo_res w n k V M pr al re lc od A C →
      wL_law_555 post L xs J x1 (nI w) x4 (nI n) od x10 0 (nI q) kc ks (d + 1) (nI p) (nI k) (nI a) (nI h) (nI w) (nI l) V (nI n) M (nI k) pr al re lc cn A C
  | 0, a, p, k, M, pr, ha, h1, h2, O, Rs => pk_le q a (fun _ => zl_out HJ h1 (by omega) O Rs (Or.inl rfl)) (fun z => absurd z (by omega))
  | d + 1, a, p, k, M, pr, ha, h1, h2, O, Rs => by
    refine pk_le q a (fun z => absurd z (by omega)) (fun _ => nm_r (nI_1 p) (zl_cell hL p (by omega) (fun v => zo_addM O ?_ ?_)))
    · intro M' O'
      exact br_t rfl (nm_r (nI_1 k) (nm_r (nI_1 a) (zl_555 hL hp0 HJ hq d (a + 1) (p + 1) (k + 1) M' 0 (by omega) (by omega) (by omega) O' zo_res0)))
    · intro r hr
      exact br_f hr (nm_r (nI_1 a) (zl_555 hL hp0 HJ hq d (a + 1) (p + 1) k M pr (by omega) (by omega) (by omega) O Rs))
theorem zl_178 {z0 : Int32} (hL : L ≤ 260) (hp0 : p0 ≤ 600) (HJ : zl_J h w l p0 x10 J) (O : zo_ok h w l n k M C) (Rs : zo_res w n k V M pr al re lc od A C)
    (hz : (p = p0 + 1 ∧ 1 ≤ n) ∨ (p = p0 ∧ (z0 = 10 ∨ (z0 = 0 ∧ n < w * k)))) :
    wL_law_178 post L xs J (nI h) (nI w) (nI l) (nI p) (nI n) (nI k) od x10 z0 kc ks (nI h) (nI w) (nI l) V (nI n) M (nI k) pr al re lc cn A C := by
  have O' := O
  obtain ⟨o1, o2, o3, o4, o5, o6, o7, o8, o9⟩ := O'
  by_cases y4 : 4 ≤ z0
  · by_cases y6 : 6 ≤ z0
    · by_cases e10 : z0 = 10
      · subst e10
        have hp : p0 ≤ p ∧ p ≤ p0 + 1 := by rcases hz with t | t <;> omega
        refine br_t y4 (br_t y6 (br_f (by decide) (br_f (by decide) (br_f (by decide) (br_f (by decide) (br_t rfl ?_))))))
        refine nm_r (nI_1 p) (zl_cell hL p (by omega) (fun v => zl_rem l o4 (by omega) ?_))
        intro j hj
        refine nm_r (pk_sub (Nat.le_of_lt hj)) ⟨l - j + 1, ?_⟩
        exact zl_555 (n := 0) hL hp0 HJ (by omega) (l - j) 0 (p + 1) 0 0 0 (by omega) (by omega) (by omega) ⟨o1, o2, o3, o4, o5, by omega, Nat.zero_le _, o8, fun r _ => b_0 r⟩ zo_res0
      · have n10 : p = p0 + 1 ∧ 1 ≤ n := by
          rcases hz with t | ⟨_, t | t⟩
          · exact t
          · exact absurd t e10
          · rw [t.1] at y4
            exact absurd y4 (by decide)
        obtain ⟨hp, hn1⟩ := n10
        by_cases e6 : z0 = 6
        · exact br_t y4 (br_t y6 (br_t e6 ⟨n + 1, zl_332 HJ (by omega) (by omega) O n 0 od re (by omega) Rs⟩))
        · by_cases e7 : z0 = 7
          · refine br_t y4 (br_t y6 (br_f e6 (br_t e7 (nm_r (nI_1 p) (zl_cell hL p (by omega) (fun v => zl_rem n hn1 (by omega) ?_))))))
            intro j _
            refine nm_r (nI_1 (p + 1)) (zl_cell hL (p + 1) (by omega) (fun v => zl_price (fun r => zo_setC O ?_ ?_)))
            · intro C' O'
              exact zl_out HJ (by omega) (by omega) O' zo_res0 (Or.inl rfl)
            · exact zl_out HJ (by omega) (by omega) O Rs (Or.inl rfl)
          · by_cases e8 : z0 = 8
            · refine br_t y4 (br_t y6 (br_f e6 (br_f e7 (br_t e8 (nm_r (nI_1 p) (zl_cell hL p (by omega) (fun v => zl_rem w o2 (by omega) ?_)))))))
              intro j _
              refine nm_r (nI_1 (p + 1)) (zl_cell hL (p + 1) (by omega) (fun v => zl_shape o1 (fun r => zo_load o3 ?_ ?_)))
              · intro A'
                exact zl_out HJ (by omega) (by omega) O zo_res0 (Or.inl rfl)
              · exact zl_out HJ (by omega) (by omega) O Rs (Or.inl rfl)
            · by_cases e9 : z0 = 9
              · refine br_t y4 (br_t y6 (br_f e6 (br_f e7 (br_f e8 (br_t e9 (nm_r (nI_1 p) (zl_cell hL p (by omega) (fun v => br_c (fun _ => ?_) (fun _ => zo_addM O ?_ ?_)))))))))
                · exact zl_out HJ (by omega) (by omega) O Rs (Or.inl rfl)
                · intro M' O'
                  exact br_t rfl (nm_r (nI_1 k) (zl_out HJ (by omega) (by omega) O' zo_res0 (Or.inl rfl)))
                · intro r hr
                  exact br_f hr (zl_out HJ (by omega) (by omega) O Rs (Or.inl rfl))
              · refine br_t y4 (br_t y6 (br_f e6 (br_f e7 (br_f e8 (br_f e9 (br_f e10 (nm_r (nI_1 p) (zl_cell hL p (by omega) (fun v => zl_rem n hn1 (by omega) ?_)))))))))
                intro j _
                exact nm_r (nI_1 (p + 1)) (zl_cell hL (p + 1) (by omega) (fun v => zo_fc O (fun r => zl_out HJ (by omega) (by omega) O Rs (Or.inl rfl))))
    · have n10 : p = p0 + 1 ∧ 1 ≤ n := by
        rcases hz with t | ⟨_, t | t⟩
        · exact t
        · rw [t] at y6
          exact absurd (by decide) y6
        · rw [t.1] at y4
          exact absurd y4 (by decide)
      obtain ⟨hp, hn1⟩ := n10
      refine br_t y4 (br_f y6 (nm_r (nI_1 p) (zl_cell hL p (by omega) (fun v => zl_rem n hn1 (by omega) ?_))))
      intro j _
      refine zo_flip ?_ ?_
      · intro _
        exact br_t rfl (nm_e (zl_out HJ (by omega) (by omega) O (zl_fres Rs) (Or.inl rfl)))
      · intro r hr
        exact br_f hr (zl_out HJ (by omega) (by omega) O Rs (Or.inl rfl))
  · obtain ⟨q, hq, hq1, hmi⟩ := zl_mi (n := n) (w := w) (k := k) o6 o3 (by omega)
    have hp : p0 < p + q ∧ p ≤ p0 + 1 := by
      rcases hz with t | ⟨t1, t | t⟩
      · omega
      · rw [t] at y4
        exact absurd (by decide) y4
      · have := hq1 t.2
        omega
    exact br_f y4 (nm_e ⟨q + 1, zl_201 hL hp0 HJ hq hmi q 0 p n V pr C (by omega) hp.1 (by omega) O Rs⟩)
theorem zl_141 (hL : L ≤ 260) (hp0 : p ≤ 600) (HJ : zl_J h w l p x10 J) (O : zo_ok h w l n k M C) (Rs : zo_res w n k V M pr al re lc od A C) :
    wL_law_141 post L xs J (nI h) (nI w) (nI l) (nI p) (nI n) (nI k) od x10 kc ks (nI h) (nI w) (nI l) V (nI n) M (nI k) pr al re lc cn A C := by
  have O' := O
  obtain ⟨o1, o2, o3, o4, o5, o6, o7, o8, o9⟩ := O'
  have hm : w * k ≤ 3 * 10 := Nat.mul_le_mul o3 (by omega)
  refine pk_eq k 0 (fun z => zl_178 hL hp0 HJ O Rs (Or.inr ⟨rfl, Or.inl rfl⟩)) (fun z => ?_)
  have hm1 : 0 < w * k := Nat.mul_pos o2 (by omega)
  rw [pk_mul]
  refine pk_le (w * k) n (fun y => nm_r (nI_1 p) (zl_cell hL p (by omega) (fun v => zl_rem 12 (by omega) (by omega) ?_))) (fun y => zl_178 hL hp0 HJ O Rs (Or.inr ⟨rfl, Or.inr ⟨rfl, y⟩⟩))
  intro j _
  exact zl_178 hL hp0 HJ O Rs (Or.inl ⟨rfl, by omega⟩)
theorem zl_128 (hL : L ≤ 260) : ∀ (f p st n k : Nat) (V M pr al re lc cn od : Int32) (A C : Nat → Int32), L + 200 - p < f → p + 60 * (2 - st) ≤ L + 200 → st ≤ p → zo_ok h w l n k M C → zo_res w n k V M pr al re lc od A C →
    wL_law_128 (fun r => r = 1) L xs (nI h) (nI w) (nI l) kc ks f (nI p) (nI n) (nI k) od (nI st) (nI h) (nI w) (nI l) V (nI n) M (nI k) pr al re lc cn A C
  | 0, p, st, n, k, V, M, pr, al, re, lc, cn, od, A, C, h1, h2, h3, O, Rs => absurd h1 (by omega)
  | f + 1, p, st, n, k, V, M, pr, al, re, lc, cn, od, A, C, h1, h2, h3, O, Rs => by
    have HJ : (st < 2 ∨ p < L) → zl_J h w l p (nI st) (wL_law_128 (fun r => r = 1) L xs (nI h) (nI w) (nI l) kc ks f) := by
      intro hc p' n' k' V' M' pr' al' re' lc' cn' od' A' C' g1 g2 O' Rs'
      rw [nI_1]
      exact zl_128 hL f p' (st + 1) n' k' V' M' pr' al' re' lc' cn' od' A' C' (by omega) (by omega) (by omega) O' Rs'
    exact pk_lt st 2 (fun z => zl_141 hL (by omega) (HJ (Or.inl z)) O Rs) (fun z => pk_le L p (fun _ => rfl) (fun y => zl_141 hL (by omega) (HJ (Or.inr y)) O Rs))
end
