section
variable {h w l n k : Nat} {V M pr al re lc cn : Int32} {A C : Nat → Int32}
theorem zx_bitAt {post : Int32 → Prop} {v : Int32} (i : Nat) (hi : i < 32) (hp : post (zb (bt v i))) : wpX_bitAt post v (nI i) := by
  rw [← zb_bit v i hi] at hp
  exact hp
theorem zx_below {post : Int32 → Prop} {a b : Int32} (h0 : (a < 0 ∨ b ≤ a) → post 0) (h1 : ¬ a < 0 → ¬ b ≤ a → post 1) : wpX_isBelow post a b :=
  br_c (fun z => h0 (Or.inl z)) (fun z => br_c (fun y => h0 (Or.inr y)) (fun y => h1 z y))
theorem zx_cost {post : Int32 → Prop} {a : Int32} (h0 : ¬ a = -1 → (a < 0 ∨ 1001 ≤ a) → post 0) (h1 : (a = -1 ∨ (¬ a < 0 ∧ ¬ 1001 ≤ a)) → post 1) : wpX_isCost post a :=
  br_c (fun z => h1 (Or.inl z)) (fun z => zx_below (fun y => br_t rfl (h0 z y)) (fun y1 y2 => br_f (by decide) (h1 (Or.inr ⟨y1, y2⟩))))
theorem zx_ready {post : Int32 → Prop} (hw : w ≤ 3) (hk : k ≤ 10) (hn : n ≤ 10) (h1 : 1 ≤ k → n = w * k → post 1) (h0 : ¬ (1 ≤ k ∧ n = w * k) → post 0) : wpX_isReady post (nI h, nI w, nI l, V, nI n, M, nI k, pr, al, re, lc, cn, A, C) := by
  have hm : w * k ≤ 3 * 10 := Nat.mul_le_mul hw hk
  refine pk_lt k 1 (fun z => h0 (by omega)) (fun z => ?_)
  rw [pk_mul]
  exact pk_eq n (w * k) (fun e => h1 z e) (fun e => h0 (fun t => e t.2))
theorem zx_mc {post : Int32 → Prop} (hw1 : 0 < w) (hw3 : w ≤ 3) (i : Nat) (hi : i < 32) (hp : post (zp_mc A w k i)) : wpX_matrixColumn post (nI h, nI w, nI l, V, nI n, M, nI k, pr, al, re, lc, cn, A, C) (nI i) := by
  have e1 : nI i / nI w = nI (i / w) := pk_div (by omega) hw1 (by omega)
  have e2 : nI i - nI (i / w) * nI w = nI (i % w) := by rw [← e1]; exact pk_rem (by omega) hw1 (by omega)
  have hm : i % w < 3 := Nat.lt_of_lt_of_le (Nat.mod_lt _ hw1) hw3
  refine ⟨nI_ne0 hw1 (by omega), nm_r e1 ?_⟩
  rw [e2]
  refine ⟨vp_in_nI hm (by omega), ?_⟩
  rw [nI_clamp (by omega)]
  exact nm_e (nm_e hp)
theorem zx_sy {post : Int32 → Prop} {v : Int32} (hw1 : 0 < w) (hw3 : w ≤ 3) (hn : n ≤ 10) (hp : post (zp_sy A w k v n)) : wpX_syndromeOf post (nI h, nI w, nI l, V, nI n, M, nI k, pr, al, re, lc, cn, A, C) v :=
  pk_loop (fun f i s => wX_syndromeOf_4 post v (nI h) (nI w) (nI l) V (nI n) M (nI k) pr al re lc cn A C f s (nI i)) (fun i s => s = zp_sy A w k v i) n 0 0 (by omega) rfl
    (fun f s e => pk_le n n (fun _ => by rw [e]; exact hp) (fun z => absurd z (by omega)))
    (fun f i s hi e hs => pk_le n i (fun z => absurd z (by omega)) (fun _ => zx_bitAt i (by omega) (by
      by_cases hb : bt v i = true
      · exact br_t (zb_is1.mpr hb) (zx_mc hw1 hw3 i (by omega) (nm_e (nm_r (nI_1 i) (hs _ (by rw [e, zp_sy, if_pos hb])))))
      · exact br_f (fun z => hb (zb_is1.mp z)) (nm_r (nI_1 i) (hs _ (by rw [e, zp_sy, if_neg hb]))))))
theorem zx_cf {post : Int32 → Prop} (hn : n ≤ 10) (g : Nat) : ∀ d i c, i + d = n → post (zp_v (zp_cf C (nI g) d i c)) → wX_solutionCost_27 post (nI g) (nI h) (nI w) (nI l) V (nI n) M (nI k) pr al re lc cn A C (d + 1) c (nI i)
  | 0, i, c, hi, hp => pk_le n i (fun _ => hp) (fun z => absurd z (by omega))
  | d + 1, i, c, hi, hp => pk_le n i (fun z => absurd z (by omega)) (fun _ => zx_bitAt i (by omega) (by
      rw [zp_cf] at hp
      by_cases hb : bt (nI g) i = true
      · rw [if_pos hb] at hp
        refine br_t (zb_is1.mpr hb) ⟨vp_in_nI (by omega) (by omega), ?_⟩
        rw [nI_clamp (by omega)]
        by_cases hw : C i = -1
        · rw [if_pos hw] at hp
          exact br_t hw hp
        · rw [if_neg hw] at hp
          exact br_f hw ⟨vp_in_nI (by omega) (by omega), nm_e (nm_r (nI_1 i) (zx_cf hn g d (i + 1) _ (by omega) hp))⟩
      · rw [if_neg hb] at hp
        exact br_f (fun z => hb (zb_is1.mp z)) (nm_r (nI_1 i) (zx_cf hn g d (i + 1) c (by omega) hp))))
theorem zx_sc {post : Int32 → Prop} (hw1 : 0 < w) (hw3 : w ≤ 3) (hn : n ≤ 10) (g : Nat) (hp : post (zp_v (zp_cs A C V M w k n g))) : wpX_solutionCost post (nI h, nI w, nI l, V, nI n, M, nI k, pr, al, re, lc, cn, A, C) (nI g) := by
  refine zx_sy hw1 hw3 hn ?_
  unfold zp_cs at hp
  by_cases hs : zp_sy A w k (V ^^^ nI g) n = M
  · rw [if_pos hs] at hp
    exact br_t hs ⟨n + 1, zx_cf hn g n 0 0 (by omega) hp⟩
  · rw [if_neg hs] at hp
    exact br_f hs hp
theorem zx_lesser {post : Int32 → Prop} {a b : Int32} (h1 : a = -5 → post b) (h2 : ¬ a = -5 → b = -5 → post a) (h3 : ¬ a = -5 → ¬ b = -5 → a < b → post a) (h4 : ¬ a = -5 → ¬ b = -5 → ¬ a < b → post b) : wpX_lesserCost post a b :=
  br_c (fun z => h1 z) (fun z => br_c (fun y => h2 z y) (fun y => br_c (fun t => h4 z y (Int32.not_lt.mpr t)) (fun t => h3 z y (Int32.not_le.mp t))))
end
