section
variable {h w l n k : Nat} {V M pr al re lc cn : Int32} {A C : Nat → Int32}
/-- what the object keeps, whatever is called -/
def zo_ok (h w l n k : Nat) (M : Int32) (C : Nat → Int32) : Prop :=
  h ≤ 4 ∧ 0 < w ∧ w ≤ 3 ∧ 1 ≤ l ∧ l ≤ 10 ∧ n ≤ 10 ∧ k ≤ l ∧ (∀ j, C j = -1 ∨ ∃ c : Nat, c ≤ 1000 ∧ C j = nI c) ∧ (∀ r, k ≤ r → bt M r = false)
/-- what a result is -/
def zo_res (w n k : Nat) (V M pr al re lc odd : Int32) (A C : Nat → Int32) : Prop :=
  ¬ pr = 0 → 1 ≤ k ∧ n = w * k ∧ re = al ^^^ odd ∧ ∃ B : Nat, B < 2 ^ n ∧ al = V ^^^ nI B ∧ zp_cs A C V M w k n B = some lc ∧ ∀ g, g < 2 ^ n → ∀ c, zp_cs A C V M w k n g = some c → ¬ c < lc
theorem zo_res0 {odd : Int32} : zo_res w n k V M 0 al re lc odd A C := fun z => absurd rfl z
theorem zo_b2 {b : Nat} (h : b < 2) : ∃ β : Bool, nI b = zb β := by
  rcases (show b = 0 ∨ b = 1 by omega) with rfl | rfl
  · exact ⟨false, rfl⟩
  · exact ⟨true, rfl⟩
theorem zo_app {b : Bool} {v : Int32} (hn : n < 32) (hV : ∀ i, n ≤ i → bt v i = false) : ∀ i, n + 1 ≤ i → bt (v ||| (zb b <<< (nI n &&& 31))) i = false := by
  intro t ht
  rcases Nat.lt_or_ge t 32 with z | z
  · rw [b_or, b_shl n hn _ z, zb_bt _ _ (by omega), hV t (by omega), decide_eq_false (show ¬ t - n = 0 by omega), Bool.and_false, Bool.and_false, Bool.or_false]
  · exact b_big z
theorem zo_upC {p : Int32} (hC : ∀ j, C j = -1 ∨ ∃ c : Nat, c ≤ 1000 ∧ C j = nI c) (hp : p = -1 ∨ ∃ c : Nat, c ≤ 1000 ∧ p = nI c) (q : Nat) : ∀ j, upd C q p j = -1 ∨ ∃ c : Nat, c ≤ 1000 ∧ upd C q p j = nI c := by
  intro j
  by_cases e : j = q
  · rw [e, pk_us]
    exact hp
  · rw [pk_un e]
    exact hC j
theorem zo_cost (a : Int32) : ((a = -1 ∨ ∃ c : Nat, c ≤ 1000 ∧ a = nI c) ∧ (∀ post : Int32 → Prop, post 1 → wpX_isCost post () a)) ∨ (∀ post : Int32 → Prop, post 0 → wpX_isCost post () a) := by
  by_cases z : a = -1
  · exact Or.inl ⟨Or.inl z, fun post hp => br_t z hp⟩
  · by_cases z0 : a < 0
    · exact Or.inr (fun post hp => br_f z (br_t z0 (br_t rfl hp)))
    · obtain ⟨c, hc, rfl⟩ := nI_of z0
      by_cases g : c ≤ 1000
      · have g1 : ¬ (1001 : Int32) ≤ nI c := nI_ge (b := 1001) (by omega) (by decide)
        exact Or.inl ⟨Or.inr ⟨c, g, rfl⟩, fun post hp => br_f z (br_f z0 (br_f g1 (br_f zb_10 hp)))⟩
      · have g1 : (1001 : Int32) ≤ nI c := nI_le (a := 1001) (by omega) hc
        exact Or.inr (fun post hp => br_f z (br_f z0 (br_t g1 (br_t rfl hp))))
theorem zo_n2 : ¬ (-2 : Int32) = 0 := by decide
theorem zo_n3 : ¬ (-3 : Int32) = 0 := by decide
theorem zo_n6 : ¬ (-6 : Int32) = 0 := by decide
theorem zo_load {post : Int32 → St2 → Prop} {a b : Int32} (hw : w ≤ 3) (H0 : ∀ A', post 0 (nI h, nI w, nI l, V, nI n, M, nI k, 0, al, re, lc, cn, A', C)) (H1 : post (-2) (nI h, nI w, nI l, V, nI n, M, nI k, pr, al, re, lc, cn, A, C)) : wpX_loadColumn post (nI h, nI w, nI l, V, nI n, M, nI k, pr, al, re, lc, cn, A, C) a b := by
  by_cases z0 : a < 0
  · exact br_t z0 (br_t rfl H1)
  · by_cases z1 : nI w ≤ a
    · exact br_f z0 (br_t z1 (br_t rfl H1))
    · have hi : vp_in a 3 := by
        obtain ⟨j, hj, rfl⟩ := nI_of z0
        rw [nI_leI (by omega) hj] at z1
        exact vp_in_nI (by omega) (by omega)
      by_cases z2 : b < 0
      · exact br_f z0 (br_f z1 (br_f zb_10 (br_t z2 (br_t rfl H1))))
      · by_cases z3 : (1 : Int32) <<< (nI h &&& 31) ≤ b
        · exact br_f z0 (br_f z1 (br_f zb_10 (br_f z2 (br_t z3 (br_t rfl H1)))))
        · exact br_f z0 (br_f z1 (br_f zb_10 (br_f z2 (br_f z3 (br_f zb_10 ⟨hi, nm_e (H0 _)⟩)))))
theorem zo_addC {post : Int32 → St2 → Prop} {a b : Int32} (O : zo_ok h w l n k M C) (H0 : ∀ V' C', zo_ok h w l (n + 1) k M C' → post 0 (nI h, nI w, nI l, V', nI (n + 1), M, nI k, 0, al, re, lc, cn, A, C')) (H1 : ∀ r, ¬ r = 0 → post r (nI h, nI w, nI l, V, nI n, M, nI k, pr, al, re, lc, cn, A, C)) : wpX_addCover post (nI h, nI w, nI l, V, nI n, M, nI k, pr, al, re, lc, cn, A, C) a b := by
  obtain ⟨o1, o2, o3, o4, o5, o6, o7, o8, o9⟩ := O
  by_cases hn : n < 10
  · have y : nI n < 10 := nI_lt (b := 10) hn (by decide)
    by_cases z0 : a < 0
    · exact br_t y (br_t z0 (br_t rfl (H1 _ zo_n2)))
    · by_cases z1 : 2 ≤ a
      · exact br_t y (br_f z0 (br_t z1 (br_t rfl (H1 _ zo_n2))))
      · rcases zo_cost b with ⟨g, gX⟩ | gX
        · have hi : vp_in (nI n) 10 := vp_in_nI hn (by omega)
          exact br_t y (br_f z0 (br_f z1 (br_f zb_10 (gX _ (br_f zb_10 (nm_e ⟨hi, nm_e (nm_r (nI_1 n) (H0 _ _ ⟨o1, o2, o3, o4, o5, by omega, o7, zo_upC o8 g _, o9⟩))⟩))))))
        · exact br_t y (br_f z0 (br_f z1 (br_f zb_10 (gX _ (br_t rfl (H1 _ zo_n2))))))
  · have y : ¬ nI n < 10 := nI_nlt (b := 10) (by omega) (by omega)
    exact br_f y (H1 _ zo_n3)
theorem zo_setC {post : Int32 → St2 → Prop} {a b : Int32} (O : zo_ok h w l n k M C) (H0 : ∀ C', zo_ok h w l n k M C' → post 0 (nI h, nI w, nI l, V, nI n, M, nI k, 0, al, re, lc, cn, A, C')) (H1 : post (-2) (nI h, nI w, nI l, V, nI n, M, nI k, pr, al, re, lc, cn, A, C)) : wpX_setCost post (nI h, nI w, nI l, V, nI n, M, nI k, pr, al, re, lc, cn, A, C) a b := by
  obtain ⟨o1, o2, o3, o4, o5, o6, o7, o8, o9⟩ := O
  by_cases z0 : a < 0
  · exact br_t z0 (br_t rfl H1)
  · by_cases z1 : nI n ≤ a
    · exact br_f z0 (br_t z1 (br_t rfl H1))
    · have hi : vp_in a 10 := by
        obtain ⟨j, hj, rfl⟩ := nI_of z0
        rw [nI_leI (by omega) hj] at z1
        exact vp_in_nI (by omega) (by omega)
      rcases zo_cost b with ⟨g, gX⟩ | gX
      · exact br_f z0 (br_f z1 (br_f zb_10 (gX _ (br_f zb_10 ⟨hi, nm_e (H0 _ ⟨o1, o2, o3, o4, o5, o6, o7, zo_upC o8 g _, o9⟩)⟩))))
      · exact br_f z0 (br_f z1 (br_f zb_10 (gX _ (br_t rfl H1))))
theorem zo_addM {post : Int32 → St2 → Prop} {a : Int32} (O : zo_ok h w l n k M C) (H0 : ∀ M', zo_ok h w l n (k + 1) M' C → post 0 (nI h, nI w, nI l, V, nI n, M', nI (k + 1), 0, al, re, lc, cn, A, C)) (H1 : ∀ r, ¬ r = 0 → post r (nI h, nI w, nI l, V, nI n, M, nI k, pr, al, re, lc, cn, A, C)) : wpX_addMessage post (nI h, nI w, nI l, V, nI n, M, nI k, pr, al, re, lc, cn, A, C) a := by
  obtain ⟨o1, o2, o3, o4, o5, o6, o7, o8, o9⟩ := O
  by_cases hn : k < l
  · have y : nI k < nI l := nI_lt hn (by omega)
    by_cases z0 : a < 0
    · exact br_t y (br_t z0 (br_t rfl (H1 _ zo_n2)))
    · obtain ⟨b, hb, rfl⟩ := nI_of z0
      by_cases hb2 : b < 2
      · have z1 : ¬ (2 : Int32) ≤ nI b := nI_ge (b := 2) hb2 (by decide)
        obtain ⟨β, hβ⟩ := zo_b2 hb2
        refine br_t y (br_f z0 (br_f z1 (br_f zb_10 (nm_e (nm_r (nI_1 k) (H0 _ ⟨o1, o2, o3, o4, o5, o6, hn, o8, ?_⟩))))))
        rw [hβ]
        exact zo_app (by omega) o9
      · have z1 : (2 : Int32) ≤ nI b := nI_le (a := 2) (by omega) hb
        exact br_t y (br_f z0 (br_t z1 (br_t rfl (H1 _ zo_n2))))
  · have y : ¬ nI k < nI l := nI_nlt (by omega) (by omega)
    exact br_f y (H1 _ zo_n3)
theorem zo_flip {post : Int32 → St2 → Prop} {a : Int32} (H0 : ¬ pr = 0 → post 0 (nI h, nI w, nI l, V, nI n, M, nI k, pr, al, re ^^^ ((1 : Int32) <<< (a &&& 31)), lc, cn, A, C)) (H1 : ∀ r, ¬ r = 0 → post r (nI h, nI w, nI l, V, nI n, M, nI k, pr, al, re, lc, cn, A, C)) : wpX_flip post (nI h, nI w, nI l, V, nI n, M, nI k, pr, al, re, lc, cn, A, C) a := by
  by_cases z : pr = 0
  · exact br_t z (H1 _ zo_n6)
  · by_cases z0 : a < 0
    · exact br_f z (br_t z0 (br_t rfl (H1 _ zo_n2)))
    · by_cases z1 : nI n ≤ a
      · exact br_f z (br_f z0 (br_t z1 (br_t rfl (H1 _ zo_n2))))
      · exact br_f z (br_f z0 (br_f z1 (br_f zb_10 (nm_e (H0 z)))))
/-- the reading methods within their range -/
theorem zo_in {post : Int32 → Prop} {i q : Nat} (hq : q < 2 ^ 31) (h1 : i < q) (hp : post 1) : wpX_isBelow post () (nI i) (nI q) := br_f (nI_pos (by omega)) (br_f (nI_ge h1 hq) hp)
theorem zo_cB {post : Int32 → Prop} (hn : n ≤ 10) (i : Nat) (hi : i < n) (hp : post (zb (bt V i))) : wpX_coverBit post (nI h, nI w, nI l, V, nI n, M, nI k, pr, al, re, lc, cn, A, C) (nI i) := by
  refine br_f (nI_pos (by omega)) (br_f (nI_ge hi (by omega)) ?_)
  exact br_f zb_10 (zx_bitAt i (by omega) hp)
theorem zo_mB {post : Int32 → Prop} (hk : k ≤ 10) (i : Nat) (hi : i < k) (hp : post (zb (bt M i))) : wpX_messageBit post (nI h, nI w, nI l, V, nI n, M, nI k, pr, al, re, lc, cn, A, C) (nI i) := by
  refine br_f (nI_pos (by omega)) (br_f (nI_ge hi (by omega)) ?_)
  exact br_f zb_10 (zx_bitAt i (by omega) hp)
theorem zo_cC {post : Int32 → Prop} (hn : n ≤ 10) (i : Nat) (hi : i < n) (hp : post (C i)) : wpX_coverCost post (nI h, nI w, nI l, V, nI n, M, nI k, pr, al, re, lc, cn, A, C) (nI i) := by
  refine br_f (nI_pos (by omega)) (br_f (nI_ge hi (by omega)) ?_)
  refine br_f zb_10 ⟨vp_in_nI (by omega) (by omega), ?_⟩
  rw [nI_clamp (by omega)]
  exact hp
theorem zo_col {post : Int32 → Prop} (hw : w ≤ 3) (i : Nat) (hi : i < w) (hp : post (A i)) : wpX_columnBits post (nI h, nI w, nI l, V, nI n, M, nI k, pr, al, re, lc, cn, A, C) (nI i) := by
  refine br_f (nI_pos (by omega)) (br_f (nI_ge hi (by omega)) ?_)
  refine br_f zb_10 ⟨vp_in_nI (by omega) (by omega), ?_⟩
  rw [nI_clamp (by omega)]
  exact hp
theorem zo_aB {post : Int32 → Prop} (hpr : ¬ pr = 0) (hn : n ≤ 10) (i : Nat) (hi : i < n) (hp : post (zb (bt al i))) : wpX_alteredBit post (nI h, nI w, nI l, V, nI n, M, nI k, pr, al, re, lc, cn, A, C) (nI i) := by
  refine br_f hpr (zo_in (by omega) hi ?_)
  exact br_f zb_10 (zx_bitAt i (by omega) hp)
theorem zo_eB {post : Int32 → Prop} (hpr : ¬ pr = 0) (hw1 : 0 < w) (hw3 : w ≤ 3) (hn : n ≤ 10) (hk : k ≤ 10) (i : Nat) (hi : i < k) (hp : post (zb (bt (zp_sy A w k re n) i))) : wpX_extractBit post (nI h, nI w, nI l, V, nI n, M, nI k, pr, al, re, lc, cn, A, C) (nI i) := by
  refine br_f hpr (zo_in (by omega) hi ?_)
  refine br_f zb_10 (zx_sy hw1 hw3 hn ?_)
  exact zx_bitAt i (by omega) hp
theorem zo_fc {post : Int32 → Prop} {a b : Int32} (O : zo_ok h w l n k M C) (H : ∀ r, post r) : wpX_forcedCost post (nI h, nI w, nI l, V, nI n, M, nI k, pr, al, re, lc, cn, A, C) a b := by
  obtain ⟨o1, o2, o3, o4, o5, o6, o7, o8, o9⟩ := O
  have hN : 2 ^ n ≤ 1024 := Nat.pow_le_pow_right (by decide) o6
  unfold wpX_forcedCost
  dsimp only
  refine zx_ready o3 (by omega) o6 ?_ ?_
  · intro q1 q2
    refine br_f zb_10 ?_
    by_cases z0 : a < 0
    · exact br_t z0 (br_t rfl (H _))
    · by_cases z1 : nI n ≤ a
      · exact br_f z0 (br_t z1 (br_t rfl (H _)))
      · by_cases z2 : b < 0
        · exact br_f z0 (br_f z1 (br_f zb_10 (br_t z2 (br_t rfl (H _)))))
        · obtain ⟨j, hj, rfl⟩ := nI_of z0
          obtain ⟨b, hb, rfl⟩ := nI_of z2
          have z3 := z1
          rw [nI_leI (by omega) hj] at z3
          by_cases hb2 : b < 2
          · have y1 : ¬ (2 : Int32) ≤ nI b := nI_ge (b := 2) hb2 (by decide)
            obtain ⟨β, hβ⟩ := zo_b2 hb2
            rw [hβ] at z2 y1 ⊢
            exact br_f z0 (br_f z1 (br_f zb_10 (br_f z2 (br_f y1 (br_f zb_10 (zx_bitAt j (by omega) (nm_r (zb_xor _ _) (nm_r (zb_pow n (by omega)) (zx_fcL o2 o3 o6 hN j (by omega) (bt V j ^^ β) rfl (zp_fi_P (zp_cs_P o8 o6)) (H _))))))))))
          · have y1 : (2 : Int32) ≤ nI b := nI_le (a := 2) (by omega) hb
            exact br_f z0 (br_f z1 (br_f zb_10 (br_f z2 (br_t y1 (br_t rfl (H _))))))
  · intro q
    exact br_t rfl (H _)
end
