section
variable {h w n k : Nat} {V M pr al re lc cn : Int32} {A x C m : Nat → Int32}
theorem zy_mul (a b : Bool) : zb a * zb b = nI (a.toNat * b.toNat) := by cases a <;> cases b <;> decide +kernel
theorem zy_entry {post : Int32 → Prop} (hh1 : 1 ≤ h) (hh : h ≤ 4) (hw1 : 0 < w) (hw3 : w ≤ 3) (hA : ∀ j, ∃ c : Nat, c < 2 ^ h ∧ A j = nI c) (r i : Nat) (hr : r < 32) (hi : i < 32) (hp : post (zb (zp_e A w i r))) : wpY_entry post (nI h, nI w, nI n, nI k, pr, al, re, lc, cn, A, x, C, m) (nI r) (nI i) := by
  have e1 : nI i / nI w = nI (i / w) := pk_div (by omega) hw1 (by omega)
  have e2 : nI i - nI (i / w) * nI w = nI (i % w) := by rw [← e1]; exact pk_rem (by omega) hw1 (by omega)
  have hb : i / w ≤ i := Nat.div_le_self i w
  have hm : i % w < 3 := Nat.lt_of_lt_of_le (Nat.mod_lt _ hw1) hw3
  have e3 : nI (i / w) + nI h - 1 = nI (i / w + h - 1) := by rw [nI_add]; exact pk_sub (b := 1) (Nat.le_trans hh1 (Nat.le_add_left h (i / w)))
  unfold zp_e at hp
  refine ⟨nI_ne0 hw1 (by omega), nm_r e1 (nm_r e2 ?_)⟩
  refine pk_lt r (i / w) (fun z => ?_) (fun z => ?_)
  · rw [decide_eq_false (by omega), Bool.false_and] at hp
    exact hp
  · rw [decide_eq_true z, Bool.true_and] at hp
    rw [e3]
    refine pk_le r (i / w + h - 1) (fun y => ⟨vp_in_nI hm (by omega), ?_⟩) (fun y => ?_)
    · rw [nI_clamp (by omega), pk_sub z, zb_bit _ _ (Nat.lt_of_le_of_lt (Nat.sub_le r (i / w)) hr)]
      exact hp
    · obtain ⟨c, hc, e⟩ := hA (i % w)
      rw [e, zb_nIf hc (by omega)] at hp
      exact hp
theorem zy_sb {post : Int32 → Prop} {v : Int32} (hh1 : 1 ≤ h) (hh : h ≤ 4) (hw1 : 0 < w) (hw3 : w ≤ 3) (hA : ∀ j, ∃ c : Nat, c < 2 ^ h ∧ A j = nI c) (hn : n ≤ 10) (r : Nat) (hr : r < 32) (hp : post (zb (zp_pr A w v r n))) : wpY_syndromeBit post (nI h, nI w, nI n, nI k, pr, al, re, lc, cn, A, x, C, m) v (nI r) :=
  pk_loop (fun f i s => wY_syndromeBit_5 post v (nI r) (nI h) (nI w) (nI n) (nI k) pr al re lc cn A x C m f s (nI i)) (fun i s => s = nI (zp_sm A w v r i)) n 0 0 (by omega) rfl
    (fun f s e => pk_le n n (fun _ => by rw [e, zp_sm_a hn]; exact hp) (fun z => absurd z (by omega)))
    (fun f i s hi e hs => pk_le n i (fun z => absurd z (by omega)) (fun _ => zy_entry hh1 hh hw1 hw3 hA r i hr (by omega) (nm_e (nm_r (nI_1 i) (hs _ (by rw [zb_bit v i (by omega), zy_mul, e, nI_add]; rfl))))))
theorem zy_vo_s {s : Int32} {B : Nat → Bool} {i : Nat} (hi : i < 10) (hs : ∀ t, t < 32 → bt s t = (decide (t < i) && B t)) : ∀ t, t < 32 → bt (s ||| (zb (B i) <<< (nI i &&& 31))) t = (decide (t < i + 1) && B t) := by
  intro t ht
  rw [b_or, hs t ht, b_shl i (by omega) _ ht, zb_bt _ _ (by omega)]
  rcases Nat.lt_trichotomy t i with z | z | z
  · rw [decide_eq_true z, decide_eq_true (show t < i + 1 by omega), decide_eq_false (show ¬ i ≤ t by omega), Bool.false_and, Bool.or_false]
  · subst z
    rw [decide_eq_false (show ¬ t < t by omega), decide_eq_true (show t < t + 1 by omega), decide_eq_true (show t ≤ t by omega), decide_eq_true (show t - t = 0 by omega), Bool.false_and, Bool.false_or, Bool.true_and, Bool.and_true, Bool.true_and]
  · rw [decide_eq_false (show ¬ t < i by omega), decide_eq_false (show ¬ t < i + 1 by omega), decide_eq_false (show ¬ t - i = 0 by omega), Bool.and_false, Bool.and_false, Bool.false_and, Bool.or_false]
theorem zy_vo {post : Int32 → Prop} (hn : n ≤ 10) (hx : ∀ i, i < n → x i = zb (bt V i)) (hV : ∀ i, n ≤ i → bt V i = false) (g : Nat) (hg : g < 2 ^ n) (hp : post (V ^^^ nI g)) : wpY_vectorOf post (nI h, nI w, nI n, nI k, pr, al, re, lc, cn, A, x, C, m) (nI g) :=
  pk_loop (fun f i s => wY_vectorOf_4 post (nI g) (nI h) (nI w) (nI n) (nI k) pr al re lc cn A x C m f s (nI i)) (fun i s => ∀ t, t < 32 → bt s t = (decide (t < i) && bt (V ^^^ nI g) t)) n 0 0 (by omega) (fun t _ => by rw [b_0, decide_eq_false (by omega), Bool.false_and])
    (fun f s e => pk_le n n (fun _ => by
      have es : s = V ^^^ nI g := by
        apply b_ext
        intro t ht
        rw [e t ht]
        rcases Nat.lt_or_ge t n with z | z
        · rw [decide_eq_true z, Bool.true_and]
        · rw [b_xor, hV t z, zb_nIf hg z, Bool.xor_false, Bool.and_false]
      rw [es]
      exact hp) (fun z => absurd z (by omega)))
    (fun f i s hi e hs => pk_le n i (fun z => absurd z (by omega)) (fun _ => ⟨vp_in_nI (by omega) (by omega), by
      rw [nI_clamp (by omega), hx i hi, zb_bit _ i (by omega), zb_xor, ← b_xor]
      exact nm_e (nm_r (nI_1 i) (hs _ (zy_vo_s (B := bt (V ^^^ nI g)) (by omega) e)))⟩))
theorem zy_r {post : Int32 → Prop} {c v : Int32} (hh1 : 1 ≤ h) (hh : h ≤ 4) (hw1 : 0 < w) (hw3 : w ≤ 3) (hA : ∀ j, ∃ c : Nat, c < 2 ^ h ∧ A j = nI c) (hn : n ≤ 10) (hk : k ≤ 10) (hm : ∀ r, r < k → m r = zb (bt M r)) (hM : ∀ r, k ≤ r → bt M r = false)
    (hp : post (zp_v (if zp_sy A w k v n = M then some c else none))) : ∀ d r, r + d = k → (∀ t, t < r → zp_pr A w v t n = bt M t) → wY_costOf_58 post c v (nI h) (nI w) (nI n) (nI k) pr al re lc cn A x C m (d + 1) (nI r)
  | 0, r, hr, ht => pk_le k r (fun _ => by
      rw [if_pos ((zp_sy_m hk hn hM).mpr (fun t z => ht t (by omega)))] at hp
      exact hp) (fun z => absurd z (by omega))
  | d + 1, r, hr, ht => pk_le k r (fun z => absurd z (by omega)) (fun _ => zy_sb hh1 hh hw1 hw3 hA hn r (by omega) ⟨vp_in_nI (by omega) (by omega), by
      rw [nI_clamp (by omega), hm r (by omega)]
      by_cases e : zp_pr A w v r n = bt M r
      · refine br_t (by rw [e]) (nm_r (nI_1 r) (zy_r hh1 hh hw1 hw3 hA hn hk hm hM hp d (r + 1) (by omega) (fun t z => ?_)))
        rcases Nat.lt_or_ge t r with y | y
        · exact ht t y
        · have : t = r := by omega
          subst this
          exact e
      · refine br_f (fun z => e (zb_inj z)) ?_
        rw [if_neg (fun z => e ((zp_sy_m hk hn hM).mp z r (by omega)))] at hp
        exact hp⟩)
theorem zy_cf {post : Int32 → Prop} (hh1 : 1 ≤ h) (hh : h ≤ 4) (hw1 : 0 < w) (hw3 : w ≤ 3) (hA : ∀ j, ∃ c : Nat, c < 2 ^ h ∧ A j = nI c) (hn : n ≤ 10) (hk : k ≤ 10) (hx : ∀ i, i < n → x i = zb (bt V i)) (hV : ∀ i, n ≤ i → bt V i = false) (hm : ∀ r, r < k → m r = zb (bt M r)) (hM : ∀ r, k ≤ r → bt M r = false)
    (g : Nat) (hg : g < 2 ^ n) : ∀ d i c, i + d = n → post (zp_v (if zp_sy A w k (V ^^^ nI g) n = M then zp_cf C (nI g) d i c else none)) → wY_costOf_4 post (nI g) (nI h) (nI w) (nI n) (nI k) pr al re lc cn A x C m (d + 1) c (nI i)
  | 0, i, c, hi, hp => pk_le n i (fun _ => zy_vo hn hx hV g hg ⟨k + 1, zy_r hh1 hh hw1 hw3 hA hn hk hm hM hp k 0 (by omega) (fun t z => absurd z (by omega))⟩) (fun z => absurd z (by omega))
  | d + 1, i, c, hi, hp => pk_le n i (fun z => absurd z (by omega)) (fun _ => by
      rw [zb_bit _ i (by omega)]
      rw [zp_cf] at hp
      by_cases hb : bt (nI g) i = true
      · rw [if_pos hb] at hp
        refine br_t (zb_is1.mpr hb) ⟨vp_in_nI (by omega) (by omega), ?_⟩
        rw [nI_clamp (by omega)]
        by_cases hw : C i = -1
        · rw [if_pos hw, ite_self] at hp
          exact br_t hw hp
        · rw [if_neg hw] at hp
          exact br_f hw ⟨vp_in_nI (by omega) (by omega), nm_e (nm_r (nI_1 i) (zy_cf hh1 hh hw1 hw3 hA hn hk hx hV hm hM g hg d (i + 1) _ (by omega) hp))⟩
      · rw [if_neg hb] at hp
        exact br_f (fun z => hb (zb_is1.mp z)) (nm_r (nI_1 i) (zy_cf hh1 hh hw1 hw3 hA hn hk hx hV hm hM g hg d (i + 1) c (by omega) hp)))
theorem zy_cs {post : Int32 → Prop} (hh1 : 1 ≤ h) (hh : h ≤ 4) (hw1 : 0 < w) (hw3 : w ≤ 3) (hA : ∀ j, ∃ c : Nat, c < 2 ^ h ∧ A j = nI c) (hn : n ≤ 10) (hk : k ≤ 10) (hx : ∀ i, i < n → x i = zb (bt V i)) (hV : ∀ i, n ≤ i → bt V i = false) (hm : ∀ r, r < k → m r = zb (bt M r)) (hM : ∀ r, k ≤ r → bt M r = false)
    (g : Nat) (hg : g < 2 ^ n) (hp : post (zp_v (zp_cs A C V M w k n g))) : wpY_costOf post (nI h, nI w, nI n, nI k, pr, al, re, lc, cn, A, x, C, m) (nI g) :=
  ⟨n + 1, zy_cf hh1 hh hw1 hw3 hA hn hk hx hV hm hM g hg n 0 0 (by omega) hp⟩
theorem zy_ready {post : Int32 → Prop} (hw : w ≤ 3) (hk : k ≤ 10) (hn : n ≤ 10) (h1 : 1 ≤ k → n = w * k → post 1) (h0 : ¬ (1 ≤ k ∧ n = w * k) → post 0) : wpY_ready post (nI h, nI w, nI n, nI k, pr, al, re, lc, cn, A, x, C, m) := by
  have hm : w * k ≤ 3 * 10 := Nat.mul_le_mul hw hk
  refine pk_lt k 1 (fun z => h0 (by omega)) (fun z => ?_)
  rw [pk_mul]
  exact pk_eq n (w * k) (fun e => h1 z e) (fun e => h0 (fun t => e t.2))
end
