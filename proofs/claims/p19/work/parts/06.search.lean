section
variable {h w l n k L : Nat} {V M pr al re lc cn : Int32} {A C : Nat → Int32} {post : Int32 → Prop} {xs : Nat → Int32} {kc ks : Nat}
variable {J : Int32 → Int32 → Int32 → Int32 → Int32 → Int32 → Int32 → Int32 → Int32 → Int32 → Int32 → Int32 → Int32 → Int32 → Int32 → Int32 → Int32 → (Nat → Int32) → (Nat → Int32) → Prop}
variable {x1 x4 x6 od x10 no co : Int32}
theorem zc_neg0 : ∀ c, c < 1001 → (-(nI c)).toInt64 = -(lN c) := by decide +kernel
theorem zc_neg {s c : Nat} (hc : c ≤ 1000) : lN (s + c) + (-(nI c)).toInt64 = lN s := by
  rw [zc_neg0 c (by omega), ← Int64.sub_eq_add_neg, lN_sub (Nat.le_add_left c s), Nat.add_sub_cancel]
theorem zc_1061 {J942 : Int32 → Int64 → Int32 → Int32 → Prop} {g : Nat} {d : Int32} {s q : Nat} (hs : s < 2 ^ 31) (hq : q < 2 ^ 31) (hd : d = 0 → q = 0 → no = 0 ∧ ∃ a : Nat, a ≤ s ∧ co = nI a) (HJ : J942 d (lN s) (nI q) (nI (g + 1))) :
    wL_law_1061 post L xs J J942 x1 (nI w) x4 x6 (nI n) (nI k) od x10 no co d (lN s) (nI q) (nI g) kc ks (nI h) (nI w) (nI l) V (nI n) M (nI k) pr al re lc cn A C :=
  br_c (fun z => pk_eq q 0 (fun y => by
    obtain ⟨e, a, ha, e2⟩ := hd z y
    exact br_t e (br_t (by rw [e2, nI_l (by omega)]; exact (lN_le (by omega) hs).mpr ha) (nm_r (nI_1 g) HJ))) (fun y => nm_r (nI_1 g) HJ)) (fun z => nm_r (nI_1 g) HJ)
theorem zc_low {post : Int32 → Prop} {g t : Nat} (ht : t < 10) (h0 : ∀ j, j < t → g.testBit j = false) (h1 : g.testBit t = true) (hp : post (nI t)) : wpL_lowest post () (nI g) :=
  pk_loop (σ := Unit) (fun f i _ => wL_lowest_2 post (nI g) f (nI i)) (fun _ _ => True) t 0 () (by omega) trivial
    (fun f _ _ => pk_le 30 t (fun z => absurd z (by omega)) (fun _ => by rw [zb_bit _ t (by omega), zb_nI g t (by omega), h1]; exact br_f zb_10 hp))
    (fun f i _ hi _ hs => pk_le 30 i (fun z => absurd z (by omega)) (fun _ => by rw [zb_bit _ i (by omega), zb_nI g i (by omega), h0 i hi]; exact br_t rfl (nm_r (nI_1 i) (hs () trivial))))
theorem zc_colm {post : Int32 → Prop} (hw1 : 0 < w) (hw3 : w ≤ 3) (i : Nat) (hi : i < 32) (hp : post (zp_mc A w k i)) : ¬ nI w = 0 ∧ wpX_columnBits (fun r => wpL_column post () r (nI i) (nI w) (nI k)) (nI h, nI w, nI l, V, nI n, M, nI k, pr, al, re, lc, cn, A, C) (nI i - nI i / nI w * nI w) := by
  rw [pk_rem (by omega) hw1 (by omega)]
  refine ⟨nI_ne0 hw1 (by omega), zo_col hw3 (i % w) (Nat.mod_lt _ hw1) ⟨nI_ne0 hw1 (by omega), ?_⟩⟩
  rw [pk_div (by omega) hw1 (by omega)]
  exact hp
theorem zc_984 {J942 : Int32 → Int64 → Int32 → Int32 → Prop} {g t : Nat} {d d' : Int32} {s q s' q' : Nat} (on : Bool) (hw1 : 0 < w) (hw3 : w ≤ 3) (hn : n ≤ 10) (ht : t < n) (hd : d' = d ^^^ zp_mc A w k t)
    (hC : C t = -1 ∨ ∃ c : Nat, c ≤ 1000 ∧ C t = nI c)
    (hs : s' + (if (!on) = true then zq_c (C t) else 0) = s + (if on = true then zq_c (C t) else 0))
    (hq : q' + (if (!on) = true then zq_w (C t) else 0) = q + (if on = true then zq_w (C t) else 0))
    (H : wL_law_1061 post L xs J J942 x1 (nI w) x4 x6 (nI n) (nI k) od x10 no co d' (lN s') (nI q') (nI g) kc ks (nI h) (nI w) (nI l) V (nI n) M (nI k) pr al re lc cn A C) :
    wL_law_984 post L xs J J942 x1 (nI w) x4 x6 (nI n) (nI k) od x10 no co d (lN s) (nI q) (nI g) (nI t) (zb on) kc ks (nI h) (nI w) (nI l) V (nI n) M (nI k) pr al re lc cn A C := by
  refine zo_cC hn t ht ?_
  refine zc_colm hw1 hw3 t (by omega) ?_
  refine nm_r hd.symm ?_
  by_cases hc : C t = -1
  · have c0 : zq_c (C t) = 0 := if_pos hc
    have w1 : zq_w (C t) = 1 := if_pos hc
    rw [c0, ite_self, ite_self] at hs
    have es : s' = s := hs
    subst es
    rw [w1] at hq
    refine br_t hc ?_
    cases on
    · have eq : q = q' + 1 := hq.symm
      subst eq
      exact br_t rfl (nm_r (pk_m1 q') H)
    · have eq : q' = q + 1 := hq
      subst eq
      exact br_f zb_10 (nm_r (nI_1 q) H)
  · have w0 : zq_w (C t) = 0 := if_neg hc
    obtain ⟨e, he⟩ := zq_cI hC hc
    rw [w0, ite_self, ite_self] at hq
    have eq : q' = q := hq
    subst eq
    refine br_f hc ?_
    cases on
    · have es : s = s' + zq_c (C t) := hs.symm
      subst es
      refine br_t rfl (nm_r (?_ : lN (s' + zq_c (C t)) + (-(C t)).toInt64 = lN s') H)
      rw [congrArg (fun z : Int32 => (-z).toInt64) e]
      exact zc_neg he
    · have es : s' = s + zq_c (C t) := hs
      subst es
      refine br_f zb_10 (nm_r (?_ : lN s + (C t).toInt64 = lN (s + zq_c (C t))) H)
      rw [congrArg (fun z : Int32 => z.toInt64) e, nI_l (by omega), lN_add]
/-! ===== the walk along the gray code ===== -/
def zc_gr (g : Nat) : Nat := g ^^^ g / 2
def zc_D (A : Nat → Int32) (V M : Int32) (w k n G : Nat) : Int32 := M ^^^ zp_sy A w k (V ^^^ nI G) n
def zc_S (C : Nat → Int32) (n G : Nat) : Nat := zq_S (fun j => zq_c (C j)) (bt (nI G)) n
def zc_W (C : Nat → Int32) (n G : Nat) : Nat := zq_S (fun j => zq_w (C j)) (bt (nI G)) n
theorem zc_btx {G t i : Nat} (hi : i < 32) : bt (nI (G ^^^ 2 ^ t)) i = (bt (nI G) i ^^ decide (t = i)) := by
  rw [zb_nI _ i hi, zb_nI _ i hi, Nat.testBit_xor, Nat.testBit_two_pow]
theorem zc_btn {G t i : Nat} (hi : i < 32) (h : i ≠ t) : bt (nI (G ^^^ 2 ^ t)) i = bt (nI G) i := by
  rw [zc_btx hi, decide_eq_false (fun z => h z.symm), Bool.xor_false]
theorem zc_bte {G t : Nat} (ht : t < 32) : bt (nI (G ^^^ 2 ^ t)) t = !bt (nI G) t := by
  rw [zc_btx ht, decide_eq_true rfl, Bool.xor_true]
theorem zc_Dx {G t : Nat} (hn : n ≤ 10) (ht : t < n) : zc_D A V M w k n (G ^^^ 2 ^ t) = zc_D A V M w k n G ^^^ zp_mc A w k t := by
  unfold zc_D
  rw [zq_sy_flip (v := V ^^^ nI G) (t := t) (by rw [b_xor, b_xor, zc_bte (by omega)]; cases bt V t <;> cases bt (nI G) t <;> rfl) n ht (fun i hi hit => by rw [b_xor, b_xor, zc_btn (by omega) hit]), Int32.xor_assoc]
theorem zc_Sx {G t : Nat} (hn : n ≤ 10) (ht : t < n) (f : Nat → Nat) : zq_S f (bt (nI (G ^^^ 2 ^ t))) n + (if (!bt (nI (G ^^^ 2 ^ t)) t) = true then f t else 0) = zq_S f (bt (nI G)) n + (if bt (nI (G ^^^ 2 ^ t)) t = true then f t else 0) := by
  have e := zq_S_flip (f := f) (b := bt (nI G)) (b' := bt (nI (G ^^^ 2 ^ t))) n ht (fun i hi hit => zc_btn (by omega) hit)
  rw [← e, zc_bte (by omega), Bool.not_not]
theorem zc_SB (hC : ∀ j, C j = -1 ∨ ∃ c : Nat, c ≤ 1000 ∧ C j = nI c) (hn : n ≤ 10) (G : Nat) : zc_S C n G ≤ 10000 := by
  have e := zq_S_le (f := fun j => zq_c (C j)) (b := bt (nI G)) (B := 1000) (fun j => zq_c_le (hC j)) n
  unfold zc_S
  omega
theorem zc_WB (hn : n ≤ 10) (G : Nat) : zc_W C n G ≤ 10 := by
  have e := zq_S_le (f := fun j => zq_w (C j)) (b := bt (nI G)) (B := 1) (fun j => by show zq_w (C j) ≤ 1; unfold zq_w; split <;> omega) n
  unfold zc_W
  omega
theorem zc_cs (hC : ∀ j, C j = -1 ∨ ∃ c : Nat, c ≤ 1000 ∧ C j = nI c) (G : Nat) : zp_cf C (nI G) n 0 0 = if zc_W C n G = 0 then some (nI (zc_S C n G)) else none := by
  have e := zq_cf (G := nI G) hC n 0 rfl
  rw [Nat.zero_add] at e
  exact e
theorem zc_x0 {a b : Int32} (h : a ^^^ b = 0) : b = a := by
  have e := zq_x0 a b
  rw [h, Int32.zero_xor] at e
  exact e
def zc_safe (A C : Nat → Int32) (V M : Int32) (w k n : Nat) (no co : Int32) : Prop := ∀ g, g < 2 ^ n → ∀ c, zp_cs A C V M w k n g = some c → no = 0 ∧ ∃ a : Nat, a < 2 ^ 31 ∧ co = nI a ∧ ¬ c < co
theorem zc_hd (hC : ∀ j, C j = -1 ∨ ∃ c : Nat, c ≤ 1000 ∧ C j = nI c) (hn : n ≤ 10) (F : zc_safe A C V M w k n no co) (G : Nat) (hG : G < 2 ^ n) : zc_D A V M w k n G = 0 → zc_W C n G = 0 → no = 0 ∧ ∃ a : Nat, a ≤ zc_S C n G ∧ co = nI a := by
  intro d q
  have e : zp_cs A C V M w k n G = some (nI (zc_S C n G)) := by
    unfold zp_cs
    rw [if_pos (zc_x0 d), zc_cs hC, if_pos q]
  obtain ⟨f1, a, f2, f3, f4⟩ := F G hG _ e
  have b := zc_SB hC hn G
  rw [f3, nI_ltI (by omega) f2] at f4
  exact ⟨f1, a, by omega, f3⟩
theorem zc_grlt {g : Nat} (hg : g < 2 ^ n) : zc_gr g < 2 ^ n := Nat.xor_lt_two_pow hg (Nat.lt_of_le_of_lt (Nat.div_le_self g 2) hg)
theorem zc_942 {N : Nat} (O : zo_ok h w l n k M C) (hN : 2 ^ n = N) (F : zc_safe A C V M w k n no co) (HJ : J x6 (nI n) (nI k) od (x10 + 1) (nI h) (nI w) (nI l) V (nI n) M (nI k) pr al re lc cn A C) :
    ∃ f, wL_law_942 post L xs J x1 (nI w) x4 x6 (nI n) (nI k) od x10 no co kc ks (nI h) (nI w) (nI l) V (nI n) M (nI k) pr al re lc cn A C f (zc_D A V M w k n 0) 0 0 0 := by
  obtain ⟨o1, o2, o3, o4, o5, o6, o7, o8, o9⟩ := O
  have hN' : N ≤ 1024 := by rw [← hN]; exact Nat.pow_le_pow_right (by decide) o6
  have eN : (1 : Int32) <<< (nI n &&& 31) = nI N := (zb_pow n (by omega)).trans (by rw [hN])
  have z0 : zc_S C n 0 = 0 := by
    have e : ∀ m, zq_S (fun j => zq_c (C j)) (bt (nI 0)) m = 0 := by
      intro m
      induction m with
      | zero => rfl
      | succ m ih =>
        show zq_S (fun j => zq_c (C j)) (bt (nI 0)) m + (if bt (nI 0) m = true then zq_c (C m) else 0) = 0
        rw [ih, if_neg (by rw [show bt (nI 0) m = false from b_0 m]; decide)]
    exact e n
  have z1 : zc_W C n 0 = 0 := by
    have e : ∀ m, zq_S (fun j => zq_w (C j)) (bt (nI 0)) m = 0 := by
      intro m
      induction m with
      | zero => rfl
      | succ m ih =>
        show zq_S (fun j => zq_w (C j)) (bt (nI 0)) m + (if bt (nI 0) m = true then zq_w (C m) else 0) = 0
        rw [ih, if_neg (by rw [show bt (nI 0) m = false from b_0 m]; decide)]
    exact e n
  have key : ∃ f, wL_law_942 post L xs J x1 (nI w) x4 x6 (nI n) (nI k) od x10 no co kc ks (nI h) (nI w) (nI l) V (nI n) M (nI k) pr al re lc cn A C f (zc_D A V M w k n 0) (lN (zc_S C n 0)) (nI (zc_W C n 0)) (nI 0) :=
    pk_loop (fun f g (s : Int32 × Int64 × Int32) => wL_law_942 post L xs J x1 (nI w) x4 x6 (nI n) (nI k) od x10 no co kc ks (nI h) (nI w) (nI l) V (nI n) M (nI k) pr al re lc cn A C f s.1 s.2.1 s.2.2 (nI g))
      (fun g s => s = (zc_D A V M w k n (zc_gr (g - 1)), lN (zc_S C n (zc_gr (g - 1))), nI (zc_W C n (zc_gr (g - 1))))) N 0 (zc_D A V M w k n 0, lN (zc_S C n 0), nI (zc_W C n 0)) (Nat.zero_le _) rfl
      (fun f s e => pk_le N N (fun _ => nm_e HJ) (fun z => absurd z (by omega)) (hx := eN))
      (fun f g s hg e hs => pk_le N g (fun z => absurd z (by omega)) (fun _ => by
        subst e
        have hs' := hs (zc_D A V M w k n (zc_gr g), lN (zc_S C n (zc_gr g)), nI (zc_W C n (zc_gr g))) rfl
        have bS := zc_SB o8 o6 (zc_gr g)
        have bW := zc_WB (C := C) o6 (zc_gr g)
        have T := zc_1061 (h := h) (w := w) (l := l) (n := n) (k := k) (L := L) (V := V) (M := M) (pr := pr) (al := al) (re := re) (lc := lc) (cn := cn) (A := A) (C := C) (post := post) (xs := xs) (kc := kc) (ks := ks) (J := J) (x1 := x1) (x4 := x4) (x6 := x6) (od := od) (x10 := x10) (no := no) (co := co) (g := g) (by omega) (by omega) (zc_hd o8 o6 F (zc_gr g) (zc_grlt (by omega))) hs'
        refine pk_le g 0 (fun y => ?_) (fun y => ?_)
        · have y' : g = 0 := by omega
          subst y'
          exact T
        · obtain ⟨t, t1, t2, t3, t4, t5⟩ := zq_gray g (by omega) y
          have tn : t < n := (Nat.pow_lt_pow_iff_right (by decide)).mp (show 2 ^ t < 2 ^ n by omega)
          have eg : zc_gr g = zc_gr (g - 1) ^^^ 2 ^ t := t5
          have eb : ((nI g ^^^ (nI g >>> ((1 : Int32) &&& 31))) >>> (nI t &&& 31)) &&& 1 = zb (bt (nI (zc_gr g)) t) := by
            rw [pk_shrN (by omega) _ 1 (by decide), nx_xor, zb_bit _ t (by omega)]
            rfl
          refine zc_low t1 t3 t4 ?_
          rw [eb]
          have X := zc_984 (h := h) (w := w) (l := l) (n := n) (k := k) (L := L) (V := V) (M := M) (pr := pr) (al := al) (re := re) (lc := lc) (cn := cn) (A := A) (C := C) (post := post) (xs := xs) (kc := kc) (ks := ks) (J := J) (x1 := x1) (x4 := x4) (x6 := x6) (od := od) (x10 := x10) (no := no) (co := co) (g := g) (t := t) (d := zc_D A V M w k n (zc_gr (g - 1))) (s := zc_S C n (zc_gr (g - 1))) (q := zc_W C n (zc_gr (g - 1))) (bt (nI (zc_gr g)) t) o2 o3 o6 tn (by rw [eg]; exact zc_Dx o6 tn) (o8 t) (by rw [eg]; exact zc_Sx o6 tn (fun j => zq_c (C j))) (by rw [eg]; exact zc_Sx o6 tn (fun j => zq_w (C j))) T
          cases hb : bt (nI (zc_gr g)) t
          · rw [hb] at X
            exact br_f zb_ne X
          · rw [hb] at X
            exact br_t rfl X) (hx := eN))
  rw [z0, z1] at key
  exact key
end
