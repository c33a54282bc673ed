section
variable {h w l n k N : Nat} {V M pr al re lc cn : Int32} {A C x m : Nat → Int32}
theorem zb_10 : ¬ (1 : Int32) = 0 := by decide
theorem zx_weigh {post : SX → Prop} {g : Nat} {c : Int32}
    (h1 : pr = 0 ∨ c < lc → post (nI h, nI w, nI l, V, nI n, M, nI k, 1, V ^^^ nI g, V ^^^ nI g, c, 1, A, C))
    (h2 : ¬ pr = 0 → c = lc → post (nI h, nI w, nI l, V, nI n, M, nI k, pr, al, re, lc, cn + 1, A, C))
    (h3 : ¬ pr = 0 → ¬ c < lc → ¬ c = lc → post (nI h, nI w, nI l, V, nI n, M, nI k, pr, al, re, lc, cn, A, C)) : wpX_weighSolution post (nI h, nI w, nI l, V, nI n, M, nI k, pr, al, re, lc, cn, A, C) (nI g) c :=
  br_c (fun z => nm_e (h1 (Or.inl z))) (fun z => br_c (fun y => br_c (fun t => nm_e (h2 z t)) (fun t => h3 z (Int32.not_lt.mpr y) t)) (fun y => nm_e (h1 (Or.inr (Int32.not_le.mp y)))))
theorem zx_embL {post : Int32 → SX → Prop} {F : Nat → Option Int32} (hw1 : 0 < w) (hw3 : w ≤ 3) (hn : n ≤ 10) (hN : N ≤ 1024) (hF : zp_cs A C V M w k n = F) (P : zp_pos F)
    (h5 : zp_ll F N = none → post (-5) (nI h, nI w, nI l, V, nI n, M, nI k, 0, al, re, lc, cn, A, C))
    (h0 : ∀ c b, zp_ll F N = some (c, b) → post 0 (nI h, nI w, nI l, V, nI n, M, nI k, 1, V ^^^ nI b, V ^^^ nI b, c, nI (zp_cn F c N), A, C)) :
    ∃ f, wX_embed_24 post (nI N) f 0 (nI h) (nI w) (nI l) V (nI n) M (nI k) 0 al re lc cn A C :=
  pk_loop (fun f g (s : Int32 × Int32 × Int32 × Int32 × Int32) => wX_embed_24 post (nI N) f (nI g) (nI h) (nI w) (nI l) V (nI n) M (nI k) s.1 s.2.1 s.2.2.1 s.2.2.2.1 s.2.2.2.2 A C)
    (fun g s => (zp_ll F g = none ∧ s = (0, al, re, lc, cn)) ∨ ∃ c b, zp_ll F g = some (c, b) ∧ s = (1, V ^^^ nI b, V ^^^ nI b, c, nI (zp_cn F c g)))
    N 0 (0, al, re, lc, cn) (Nat.zero_le _) (Or.inl ⟨rfl, rfl⟩)
    (fun f s I => pk_le N N (fun _ => by
      rcases I with ⟨e, rfl⟩ | ⟨c, b, e, rfl⟩
      · exact br_t rfl (h5 e)
      · exact br_f zb_10 (h0 c b e)) (fun z => absurd z (by omega)))
    (fun f g s hg I hs => pk_le N g (fun z => absurd z (by omega)) (fun _ => by
      rcases I with ⟨e, rfl⟩ | ⟨l', b, e, rfl⟩
      · refine zx_sc hw1 hw3 hn g ?_
        rw [hF]
        cases hf : F g with
        | none => exact br_t rfl (nm_r (nI_1 g) (hs (0, al, re, lc, cn) (Or.inl ⟨(zp_ll_n hf).trans e, rfl⟩)))
        | some c =>
          have e1 : zp_cn F c (g + 1) = 1 := by rw [zp_cn_t hf, zp_cn_0 (fun j hj => by rw [zp_ll_none e j hj]; exact nofun)]
          exact br_f (zp_pos5 P hf) (zx_weigh (fun _ => nm_r (nI_1 g) (hs (1, V ^^^ nI g, V ^^^ nI g, c, 1) (Or.inr ⟨c, g, zp_ll_0 hf e, by rw [e1]; rfl⟩))) (fun z => absurd rfl z) (fun z => absurd rfl z))
      · refine zx_sc hw1 hw3 hn g ?_
        rw [hF]
        cases hf : F g with
        | none => exact br_t rfl (nm_r (nI_1 g) (hs (1, V ^^^ nI b, V ^^^ nI b, l', nI (zp_cn F l' g)) (Or.inr ⟨l', b, (zp_ll_n hf).trans e, by rw [zp_cn_f (by rw [hf]; exact nofun)]⟩)))
        | some c =>
          refine br_f (zp_pos5 P hf) (zx_weigh (fun z => ?_) (fun _ z => ?_) (fun _ z1 z2 => ?_))
          · have z' : c < l' := z.resolve_left zb_10
            have e1 : zp_cn F c (g + 1) = 1 := by rw [zp_cn_t hf, zp_cn_0 (fun j hj t => (zp_ll_some e).2 j hj c t z')]
            exact nm_r (nI_1 g) (hs (1, V ^^^ nI g, V ^^^ nI g, c, 1) (Or.inr ⟨c, g, zp_ll_t hf e z', by rw [e1]; rfl⟩))
          · subst z
            exact nm_r (nI_1 g) (hs (1, V ^^^ nI b, V ^^^ nI b, c, nI (zp_cn F c g) + 1) (Or.inr ⟨c, b, zp_ll_f hf e Int32.lt_irrefl, by rw [zp_cn_t hf, nI_1]⟩))
          · exact nm_r (nI_1 g) (hs (1, V ^^^ nI b, V ^^^ nI b, l', nI (zp_cn F l' g)) (Or.inr ⟨l', b, zp_ll_f hf e z1, by rw [zp_cn_f (by rw [hf]; exact fun t => z2 (Option.some.inj t))]⟩))))
theorem zx_embed {post : Int32 → SX → Prop} {F : Nat → Option Int32} (hw1 : 0 < w) (hw3 : w ≤ 3) (hn : n ≤ 10) (hk : k ≤ 10) (hN : 2 ^ n = N) (hF : zp_cs A C V M w k n = F) (P : zp_pos F)
    (h4 : ¬ (1 ≤ k ∧ n = w * k) → post (-4) (nI h, nI w, nI l, V, nI n, M, nI k, pr, al, re, lc, cn, A, C))
    (h5 : 1 ≤ k → n = w * k → zp_ll F N = none → post (-5) (nI h, nI w, nI l, V, nI n, M, nI k, 0, al, re, lc, cn, A, C))
    (h0 : 1 ≤ k → n = w * k → ∀ c b, zp_ll F N = some (c, b) → post 0 (nI h, nI w, nI l, V, nI n, M, nI k, 1, V ^^^ nI b, V ^^^ nI b, c, nI (zp_cn F c N), A, C)) : wpX_embed post (nI h, nI w, nI l, V, nI n, M, nI k, pr, al, re, lc, cn, A, C) := by
  have hN' : N ≤ 1024 := by rw [← hN]; exact Nat.pow_le_pow_right (by decide) hn
  unfold wpX_embed
  dsimp only
  refine zx_ready hw3 hk hn ?_ ?_
  · intro r1 r2
    exact br_f zb_10 (nm_r ((zb_pow n (by omega)).trans (by rw [hN])) (zx_embL hw1 hw3 hn hN' hF P (h5 r1 r2) (h0 r1 r2)))
  · intro r
    exact br_t rfl (h4 r)
end
