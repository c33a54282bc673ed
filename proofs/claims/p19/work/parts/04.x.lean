section
variable {h w l n k : Nat} {V M pr al re lc cn : Int32} {A C : Nat → Int32}
theorem zx_bitAt {post : Int32 → Prop} {v : Int32} (i : Nat) (hi : i < 32) (hp : post (zb (bt v i))) : wpX_bitAt post () v (nI i) := by
  rw [← zb_bit v i hi] at hp
  exact hp
theorem zx_below {post : Int32 → Prop} {a b : Int32} (h0 : (a < 0 ∨ b ≤ a) → post 0) (h1 : ¬ a < 0 → ¬ b ≤ a → post 1) : wpX_isBelow post () a b :=
  br_c (fun z => h0 (Or.inl z)) (fun z => br_c (fun y => h0 (Or.inr y)) (fun y => h1 z y))
theorem zx_cost {post : Int32 → Prop} {a : Int32} (h0 : ¬ a = -1 → (a < 0 ∨ 1001 ≤ a) → post 0) (h1 : (a = -1 ∨ (¬ a < 0 ∧ ¬ 1001 ≤ a)) → post 1) : wpX_isCost post () a :=
  br_c (fun z => h1 (Or.inl z)) (fun z => zx_below (fun y => br_t rfl (h0 z y)) (fun y1 y2 => br_f (by decide) (h1 (Or.inr ⟨y1, y2⟩))))
theorem zx_ready {post : Int32 → Prop} (hw : w ≤ 3) (hk : k ≤ 10) (hn : n ≤ 10) (h1 : 1 ≤ k → n = w * k → post 1) (h0 : ¬ (1 ≤ k ∧ n = w * k) → post 0) : wpX_isReady post (nI h, nI w, nI l, V, nI n, M, nI k, pr, al, re, lc, cn, A, C) := by
  have hm : w * k ≤ 3 * 10 := Nat.mul_le_mul hw hk
  refine pk_lt k 1 (fun z => h0 (by omega)) (fun z => ?_)
  rw [pk_mul]
  exact pk_eq n (w * k) (fun e => h1 z e) (fun e => h0 (fun t => e t.2))
theorem zx_mc {post : Int32 → Prop} (hw1 : 0 < w) (hw3 : w ≤ 3) (i : Nat) (hi : i < 32) (hp : post (zp_mc A w k i)) : wpX_matrixColumn post (nI h, nI w, nI l, V, nI n, M, nI k, pr, al, re, lc, cn, A, C) (nI i) := by
  have e1 : nI i / nI w = nI (i / w) := pk_div (by omega) hw1 (by omega)
  have e2 : nI i - nI (i / w) * nI w = nI (i % w) := by rw [← e1]; exact pk_rem (by omega) hw1 (by omega)
  have hm : i % w < 3 := Nat.lt_of_lt_of_le (Nat.mod_lt _ hw1) hw3
  refine ⟨nI_ne0 hw1 (by omega), nm_r e1 ?_⟩
  rw [e2]
  refine ⟨vp_in_nI hm (by omega), ?_⟩
  rw [nI_clamp (by omega)]
  exact nm_e (nm_e hp)
theorem zx_sy {post : Int32 → Prop} {v : Int32} (hw1 : 0 < w) (hw3 : w ≤ 3) (hn : n ≤ 10) (hp : post (zp_sy A w k v n)) : wpX_syndromeOf post (nI h, nI w, nI l, V, nI n, M, nI k, pr, al, re, lc, cn, A, C) v :=
  pk_loop (fun f i s => wX_syndromeOf_4 post v (nI h) (nI w) (nI l) V (nI n) M (nI k) pr al re lc cn A C f s (nI i)) (fun i s => s = zp_sy A w k v i) n 0 0 (by omega) rfl
    (fun f s e => pk_le n n (fun _ => by rw [e]; exact hp) (fun z => absurd z (by omega)))
    (fun f i s hi e hs => pk_le n i (fun z => absurd z (by omega)) (fun _ => zx_bitAt i (by omega) (by
      by_cases hb : bt v i = true
      · exact br_t (zb_is1.mpr hb) (zx_mc hw1 hw3 i (by omega) (nm_e (nm_r (nI_1 i) (hs _ (by rw [e, zp_sy, if_pos hb])))))
      · exact br_f (fun z => hb (zb_is1.mp z)) (nm_r (nI_1 i) (hs _ (by rw [e, zp_sy, if_neg hb]))))))
theorem zx_cf {post : Int32 → Prop} (hn : n ≤ 10) (g : Nat) : ∀ d i c, i + d = n → post (zp_v (zp_cf C (nI g) d i c)) → wX_solutionCost_27 post (nI g) (nI h) (nI w) (nI l) V (nI n) M (nI k) pr al re lc cn A C (d + 1) c (nI i)
  | 0, i, c, hi, hp => pk_le n i (fun _ => hp) (fun z => absurd z (by omega))
  | d + 1, i, c, hi, hp => pk_le n i (fun z => absurd z (by omega)) (fun _ => zx_bitAt i (by omega) (by
      rw [zp_cf] at hp
      by_cases hb : bt (nI g) i = true
      · rw [if_pos hb] at hp
        refine br_t (zb_is1.mpr hb) ⟨vp_in_nI (by omega) (by omega), ?_⟩
        rw [nI_clamp (by omega)]
        by_cases hw : C i = -1
        · rw [if_pos hw] at hp
          exact br_t hw hp
        · rw [if_neg hw] at hp
          exact br_f hw ⟨vp_in_nI (by omega) (by omega), nm_e (nm_r (nI_1 i) (zx_cf hn g d (i + 1) _ (by omega) hp))⟩
      · rw [if_neg hb] at hp
        exact br_f (fun z => hb (zb_is1.mp z)) (nm_r (nI_1 i) (zx_cf hn g d (i + 1) c (by omega) hp))))
theorem zx_sc {post : Int32 → Prop} (hw1 : 0 < w) (hw3 : w ≤ 3) (hn : n ≤ 10) (g : Nat) (hp : post (zp_v (zp_cs A C V M w k n g))) : wpX_solutionCost post (nI h, nI w, nI l, V, nI n, M, nI k, pr, al, re, lc, cn, A, C) (nI g) := by
  refine zx_sy hw1 hw3 hn ?_
  unfold zp_cs at hp
  by_cases hs : zp_sy A w k (V ^^^ nI g) n = M
  · rw [if_pos hs] at hp
    exact br_t hs ⟨n + 1, zx_cf hn g n 0 0 (by omega) hp⟩
  · rw [if_neg hs] at hp
    exact br_f hs hp
theorem zx_lesser {post : Int32 → Prop} {a b : Int32} (h1 : a = -5 → post b) (h2 : ¬ a = -5 → b = -5 → post a) (h3 : ¬ a = -5 → ¬ b = -5 → a < b → post a) (h4 : ¬ a = -5 → ¬ b = -5 → ¬ a < b → post b) : wpX_lesserCost post () a b :=
  br_c (fun z => h1 z) (fun z => br_c (fun y => h2 z y) (fun y => br_c (fun t => h4 z y (Int32.not_lt.mpr t)) (fun t => h3 z y (Int32.not_le.mp t))))
end
section
variable {h w l n k N : Nat} {V M pr al re lc cn : Int32} {A C x m : Nat → Int32}
theorem zb_10 : ¬ (1 : Int32) = 0 := by decide
theorem zx_weigh {post : St2 → Prop} {g : Nat} {c : Int32}
    (h1 : pr = 0 ∨ c < lc → post (nI h, nI w, nI l, V, nI n, M, nI k, 1, V ^^^ nI g, V ^^^ nI g, c, 1, A, C))
    (h2 : ¬ pr = 0 → c = lc → post (nI h, nI w, nI l, V, nI n, M, nI k, pr, al, re, lc, cn + 1, A, C))
    (h3 : ¬ pr = 0 → ¬ c < lc → ¬ c = lc → post (nI h, nI w, nI l, V, nI n, M, nI k, pr, al, re, lc, cn, A, C)) : wpX_weighSolution post (nI h, nI w, nI l, V, nI n, M, nI k, pr, al, re, lc, cn, A, C) (nI g) c :=
  br_c (fun z => nm_e (h1 (Or.inl z))) (fun z => br_c (fun y => br_c (fun t => nm_e (h2 z t)) (fun t => h3 z (Int32.not_lt.mpr y) t)) (fun y => nm_e (h1 (Or.inr (Int32.not_le.mp y)))))
theorem zx_embL {post : Int32 → St2 → Prop} {F : Nat → Option Int32} (hw1 : 0 < w) (hw3 : w ≤ 3) (hn : n ≤ 10) (hN : N ≤ 1024) (hF : zp_cs A C V M w k n = F) (P : zp_pos F)
    (h5 : zp_ll F N = none → post (-5) (nI h, nI w, nI l, V, nI n, M, nI k, 0, al, re, lc, cn, A, C))
    (h0 : ∀ c b, zp_ll F N = some (c, b) → post 0 (nI h, nI w, nI l, V, nI n, M, nI k, 1, V ^^^ nI b, V ^^^ nI b, c, nI (zp_cn F c N), A, C)) :
    ∃ f, wX_embed_24 post (nI N) f 0 (nI h) (nI w) (nI l) V (nI n) M (nI k) 0 al re lc cn A C :=
  pk_loop (fun f g (s : Int32 × Int32 × Int32 × Int32 × Int32) => wX_embed_24 post (nI N) f (nI g) (nI h) (nI w) (nI l) V (nI n) M (nI k) s.1 s.2.1 s.2.2.1 s.2.2.2.1 s.2.2.2.2 A C)
    (fun g s => (zp_ll F g = none ∧ s = (0, al, re, lc, cn)) ∨ ∃ c b, zp_ll F g = some (c, b) ∧ s = (1, V ^^^ nI b, V ^^^ nI b, c, nI (zp_cn F c g)))
    N 0 (0, al, re, lc, cn) (Nat.zero_le _) (Or.inl ⟨rfl, rfl⟩)
    (fun f s I => pk_le N N (fun _ => by
      rcases I with ⟨e, rfl⟩ | ⟨c, b, e, rfl⟩
      · exact br_t rfl (h5 e)
      · exact br_f zb_10 (h0 c b e)) (fun z => absurd z (by omega)))
    (fun f g s hg I hs => pk_le N g (fun z => absurd z (by omega)) (fun _ => by
      rcases I with ⟨e, rfl⟩ | ⟨l', b, e, rfl⟩
      · refine zx_sc hw1 hw3 hn g ?_
        rw [hF]
        cases hf : F g with
        | none => exact br_t rfl (nm_r (nI_1 g) (hs (0, al, re, lc, cn) (Or.inl ⟨(zp_ll_n hf).trans e, rfl⟩)))
        | some c =>
          have e1 : zp_cn F c (g + 1) = 1 := by rw [zp_cn_t hf, zp_cn_0 (fun j hj => by rw [zp_ll_none e j hj]; exact nofun)]
          exact br_f (zp_pos5 P hf) (zx_weigh (fun _ => nm_r (nI_1 g) (hs (1, V ^^^ nI g, V ^^^ nI g, c, 1) (Or.inr ⟨c, g, zp_ll_0 hf e, by rw [e1]; rfl⟩))) (fun z => absurd rfl z) (fun z => absurd rfl z))
      · refine zx_sc hw1 hw3 hn g ?_
        rw [hF]
        cases hf : F g with
        | none => exact br_t rfl (nm_r (nI_1 g) (hs (1, V ^^^ nI b, V ^^^ nI b, l', nI (zp_cn F l' g)) (Or.inr ⟨l', b, (zp_ll_n hf).trans e, by rw [zp_cn_f (by rw [hf]; exact nofun)]⟩)))
        | some c =>
          refine br_f (zp_pos5 P hf) (zx_weigh (fun z => ?_) (fun _ z => ?_) (fun _ z1 z2 => ?_))
          · have z' : c < l' := z.resolve_left zb_10
            have e1 : zp_cn F c (g + 1) = 1 := by rw [zp_cn_t hf, zp_cn_0 (fun j hj t => (zp_ll_some e).2 j hj c t z')]
            exact nm_r (nI_1 g) (hs (1, V ^^^ nI g, V ^^^ nI g, c, 1) (Or.inr ⟨c, g, zp_ll_t hf e z', by rw [e1]; rfl⟩))
          · subst z
            exact nm_r (nI_1 g) (hs (1, V ^^^ nI b, V ^^^ nI b, c, nI (zp_cn F c g) + 1) (Or.inr ⟨c, b, zp_ll_f hf e Int32.lt_irrefl, by rw [zp_cn_t hf, nI_1]⟩))
          · exact nm_r (nI_1 g) (hs (1, V ^^^ nI b, V ^^^ nI b, l', nI (zp_cn F l' g)) (Or.inr ⟨l', b, zp_ll_f hf e z1, by rw [zp_cn_f (by rw [hf]; exact fun t => z2 (Option.some.inj t))]⟩))))
theorem zx_embed {post : Int32 → St2 → Prop} {F : Nat → Option Int32} (hw1 : 0 < w) (hw3 : w ≤ 3) (hn : n ≤ 10) (hk : k ≤ 10) (hN : 2 ^ n = N) (hF : zp_cs A C V M w k n = F) (P : zp_pos F)
    (h4 : ¬ (1 ≤ k ∧ n = w * k) → post (-4) (nI h, nI w, nI l, V, nI n, M, nI k, pr, al, re, lc, cn, A, C))
    (h5 : 1 ≤ k → n = w * k → zp_ll F N = none → post (-5) (nI h, nI w, nI l, V, nI n, M, nI k, 0, al, re, lc, cn, A, C))
    (h0 : 1 ≤ k → n = w * k → ∀ c b, zp_ll F N = some (c, b) → post 0 (nI h, nI w, nI l, V, nI n, M, nI k, 1, V ^^^ nI b, V ^^^ nI b, c, nI (zp_cn F c N), A, C)) : wpX_embed post (nI h, nI w, nI l, V, nI n, M, nI k, pr, al, re, lc, cn, A, C) := by
  have hN' : N ≤ 1024 := by rw [← hN]; exact Nat.pow_le_pow_right (by decide) hn
  unfold wpX_embed
  dsimp only
  refine zx_ready hw3 hk hn ?_ ?_
  · intro r1 r2
    exact br_f zb_10 (nm_r ((zb_pow n (by omega)).trans (by rw [hN])) (zx_embL hw1 hw3 hn hN' hF P (h5 r1 r2) (h0 r1 r2)))
  · intro r
    exact br_t rfl (h4 r)
end
section
variable {h w l n k N : Nat} {V M pr al re lc cn : Int32} {A C : Nat → Int32}
theorem zx_les {post : Int32 → Prop} {G : Nat → Option Int32} {g : Nat} (P : zp_pos G) (hp : post (zp_lv (zp_ll G (g + 1)))) : wpX_lesserCost post () (zp_lv (zp_ll G g)) (zp_v (G g)) := by
  cases hq : zp_ll G g with
  | none =>
    cases ho : G g with
    | none =>
      rw [zp_ll_n ho, hq] at hp
      exact br_t rfl hp
    | some c =>
      rw [zp_ll_0 ho hq] at hp
      exact br_t rfl hp
  | some p =>
    obtain ⟨l', b⟩ := p
    have n5 : ¬ l' = -5 := zp_pos5 P (zp_ll_some hq).1.2
    cases ho : G g with
    | none =>
      rw [zp_ll_n ho, hq] at hp
      exact br_f n5 (br_t rfl hp)
    | some c =>
      refine br_f n5 (br_f (zp_pos5 P ho) ?_)
      by_cases z : c < l'
      · rw [zp_ll_t ho hq z] at hp
        exact br_t (Int32.le_of_lt z) hp
      · rw [zp_ll_f ho hq z] at hp
        refine br_c (fun y => ?_) (fun _ => hp)
        rw [show zp_v (some c) = l' from Int32.le_antisymm y (Int32.not_lt.mp z)]
        exact hp
theorem zx_fcL {post : Int32 → Prop} {G : Nat → Option Int32} (hw1 : 0 < w) (hw3 : w ≤ 3) (hn : n ≤ 10) (hN : N ≤ 1024) (i : Nat) (hi : i < n) (t : Bool) (hG : zp_fi (zp_cs A C V M w k n) (fun g => bt (nI g) i == t) = G) (P : zp_pos G) (hp : post (zp_lv (zp_ll G N))) :
    ∃ f, wX_forcedCost_58 post (nI i) (zb t) (nI N) (nI h) (nI w) (nI l) V (nI n) M (nI k) pr al re lc cn A C f (-5) 0 :=
  pk_loop (fun f g s => wX_forcedCost_58 post (nI i) (zb t) (nI N) (nI h) (nI w) (nI l) V (nI n) M (nI k) pr al re lc cn A C f s (nI g)) (fun g s => s = zp_lv (zp_ll G g)) N 0 (-5) (Nat.zero_le _) rfl
    (fun f s e => pk_le N N (fun _ => by rw [e]; exact hp) (fun z => absurd z (by omega)))
    (fun f g s hg e hs => pk_le N g (fun z => absurd z (by omega)) (fun _ => zx_bitAt i (by omega) (by
      by_cases hb : bt (nI g) i = t
      · refine br_t (by rw [hb]) (zx_sc hw1 hw3 hn g ?_)
        have e2 : zp_cs A C V M w k n g = G g := by
          rw [← hG]
          unfold zp_fi
          rw [if_pos (by show (bt (nI g) i == t) = true; rw [hb]; exact beq_self_eq_true t)]
        rw [e2, e]
        exact zx_les P (nm_r (nI_1 g) (hs _ rfl))
      · refine br_f (fun z => hb (zb_inj z)) (nm_r (nI_1 g) (hs _ ?_))
        have e2 : G g = none := by
          rw [← hG]
          unfold zp_fi
          rw [if_neg (fun z => hb (eq_of_beq z))]
        rw [zp_ll_n e2, e])))
end
