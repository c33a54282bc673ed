section
variable {h w l n k N : Nat} {V M pr al re lc cn : Int32} {A C x m : Nat → Int32}
def zr_ok (h w n k : Nat) (V M : Int32) (A C x m : Nat → Int32) : Prop :=
  1 ≤ h ∧ h ≤ 4 ∧ 0 < w ∧ w ≤ 3 ∧ n ≤ 10 ∧ k ≤ 10 / w ∧ (∀ j, ∃ c : Nat, c < 2 ^ h ∧ A j = nI c) ∧ (∀ j, C j = -1 ∨ ∃ c : Nat, c ≤ 1000 ∧ C j = nI c) ∧ (∀ i, i < n → x i = zb (bt V i)) ∧ (∀ i, n ≤ i → bt V i = false) ∧ (∀ r, r < k → m r = zb (bt M r)) ∧ (∀ r, k ≤ r → bt M r = false)
theorem zr_k {a b : Nat} (h : a ≤ 10 / b) : a ≤ 10 := Nat.le_trans h (Nat.div_le_self 10 b)
theorem zr_cs {post : Int32 → Prop} (R : zr_ok h w n k V M A C x m) (g : Nat) (hg : g < 2 ^ n) (hp : post (zp_v (zp_cs A C V M w k n g))) : wpY_costOf post (nI h, nI w, nI n, nI k, pr, al, re, lc, cn, A, x, C, m) (nI g) := by
  obtain ⟨r1, r2, r3, r4, r5, r6, r7, r8, r9, r10, r11, r12⟩ := R
  exact zy_cs r1 r2 r3 r4 r7 r5 (zr_k r6) r9 r10 r11 r12 g hg hp
theorem zr_vo {post : Int32 → Prop} (R : zr_ok h w n k V M A C x m) (g : Nat) (hg : g < 2 ^ n) (hp : post (V ^^^ nI g)) : wpY_vectorOf post (nI h, nI w, nI n, nI k, pr, al, re, lc, cn, A, x, C, m) (nI g) := by
  obtain ⟨r1, r2, r3, r4, r5, r6, r7, r8, r9, r10, r11, r12⟩ := R
  exact zy_vo r5 r9 r10 g hg hp
theorem zr_P (R : zr_ok h w n k V M A C x m) : zp_pos (zp_cs A C V M w k n) := by
  obtain ⟨r1, r2, r3, r4, r5, r6, r7, r8, r9, r10, r11, r12⟩ := R
  exact zp_cs_P r8 r5
theorem zr_N (R : zr_ok h w n k V M A C x m) : 2 ^ n ≤ 1024 := by
  obtain ⟨r1, r2, r3, r4, r5, r6, r7, r8, r9, r10, r11, r12⟩ := R
  exact Nat.pow_le_pow_right (by decide) r5
theorem zp_v_is {o : Option Int32} {c : Int32} (hc : ¬ c = -5) (h : zp_v o = c) : o = some c := by
  cases o with
  | none => exact absurd h.symm hc
  | some d => exact congrArg some h
theorem zy_emb2 {post : Int32 → SY → Prop} {F : Nat → Option Int32} (R : zr_ok h w n k V M A C x m) (hN : 2 ^ n = N) (hF : zp_cs A C V M w k n = F) {c : Int32} (hc : ¬ c = -5) (b : Nat) (hb : b < N)
    (hp : post 0 (nI h, nI w, nI n, nI k, 1, V ^^^ nI b, V ^^^ nI b, c, nI (zp_cn F c N), A, x, C, m)) :
    ∃ f, wY_embed_86 post (nI N) (nI b) c (nI h) (nI w) (nI n) (nI k) pr al re lc A x C m f 0 0 := by
  have hN' : N ≤ 1024 := by rw [← hN]; exact zr_N R
  exact pk_loop (fun f g s => wY_embed_86 post (nI N) (nI b) c (nI h) (nI w) (nI n) (nI k) pr al re lc A x C m f (nI g) s) (fun g s => s = nI (zp_cn F c g)) N 0 0 (Nat.zero_le _) rfl
    (fun f s e => pk_le N N (fun _ => zr_vo R b (by omega) (by rw [e]; exact hp)) (fun z => absurd z (by omega)))
    (fun f g s hg e hs => pk_le N g (fun z => absurd z (by omega)) (fun _ => zr_cs R g (by omega) (by
      rw [hF]
      by_cases hf : F g = some c
      · exact br_t (by rw [hf]; rfl) (nm_r (show s + 1 = nI (zp_cn F c g + 1) by rw [e, nI_1]) (nm_r (nI_1 g) (hs _ (by rw [zp_cn_t hf]))))
      · exact br_f (fun z => hf (zp_v_is hc z)) (nm_r (nI_1 g) (hs s (by rw [e, zp_cn_f hf]))))))
theorem zy_emb1 {post : Int32 → SY → Prop} {F : Nat → Option Int32} (R : zr_ok h w n k V M A C x m) (hN : 2 ^ n = N) (hF : zp_cs A C V M w k n = F) (P : zp_pos F)
    (h5 : zp_ll F N = none → post (-5) (nI h, nI w, nI n, nI k, 0, al, re, lc, cn, A, x, C, m))
    (h0 : ∀ c b, zp_ll F N = some (c, b) → post 0 (nI h, nI w, nI n, nI k, 1, V ^^^ nI b, V ^^^ nI b, c, nI (zp_cn F c N), A, x, C, m)) :
    ∃ f, wY_embed_30 post (nI N) (nI h) (nI w) (nI n) (nI k) 0 al re lc cn A x C m f 0 (-5) 0 := by
  have hN' : N ≤ 1024 := by rw [← hN]; exact zr_N R
  exact pk_loop (fun f g (s : Int32 × Int32) => wY_embed_30 post (nI N) (nI h) (nI w) (nI n) (nI k) 0 al re lc cn A x C m f s.1 s.2 (nI g)) (fun g s => (zp_ll F g = none ∧ s = (0, -5)) ∨ ∃ c b, zp_ll F g = some (c, b) ∧ s = (nI b, c)) N 0 (0, -5) (Nat.zero_le _) (Or.inl ⟨rfl, rfl⟩)
    (fun f s I => pk_le N N (fun _ => by
      rcases I with ⟨e, rfl⟩ | ⟨c, b, e, rfl⟩
      · exact br_f (by decide) (h5 e)
      · have t := zp_ll_some e
        exact br_t (Int32.not_lt.mp (zp_pos0 P t.1.2)) (zy_emb2 R hN hF (zp_pos5 P t.1.2) b t.1.1 (h0 c b e))) (fun z => absurd z (by omega)))
    (fun f g s hg I hs => pk_le N g (fun z => absurd z (by omega)) (fun _ => zr_cs R g (by omega) (by
      rw [hF]
      rcases I with ⟨e, rfl⟩ | ⟨c', b, e, rfl⟩
      · cases hf : F g with
        | none => exact br_t zp_n50 (nm_r (nI_1 g) (hs (0, -5) (Or.inl ⟨(zp_ll_n hf).trans e, rfl⟩)))
        | some c => exact br_f (zp_pos0 P hf) (br_t zp_n50 (nm_r (nI_1 g) (hs (nI g, c) (Or.inr ⟨c, g, zp_ll_0 hf e, rfl⟩))))
      · cases hf : F g with
        | none => exact br_t zp_n50 (nm_r (nI_1 g) (hs (nI b, c') (Or.inr ⟨c', b, (zp_ll_n hf).trans e, rfl⟩)))
        | some c => exact br_f (zp_pos0 P hf) (br_f (zp_pos0 P (zp_ll_some e).1.2) (br_c (fun z => nm_r (nI_1 g) (hs (nI b, c') (Or.inr ⟨c', b, zp_ll_f hf e (Int32.not_lt.mpr z), rfl⟩))) (fun z => nm_r (nI_1 g) (hs (nI g, c) (Or.inr ⟨c, g, zp_ll_t hf e (Int32.not_le.mp z), rfl⟩))))))))
theorem zy_embed {post : Int32 → SY → Prop} {F : Nat → Option Int32} (R : zr_ok h w n k V M A C x m) (hN : 2 ^ n = N) (hF : zp_cs A C V M w k n = F) (P : zp_pos F)
    (h4 : ¬ (1 ≤ k ∧ n = w * k) → post (-4) (nI h, nI w, nI n, nI k, pr, al, re, lc, cn, A, x, C, m))
    (h5 : 1 ≤ k → n = w * k → zp_ll F N = none → post (-5) (nI h, nI w, nI n, nI k, 0, al, re, lc, cn, A, x, C, m))
    (h0 : 1 ≤ k → n = w * k → ∀ c b, zp_ll F N = some (c, b) → post 0 (nI h, nI w, nI n, nI k, 1, V ^^^ nI b, V ^^^ nI b, c, nI (zp_cn F c N), A, x, C, m)) : wpY_embed post (nI h, nI w, nI n, nI k, pr, al, re, lc, cn, A, x, C, m) := by
  have R' := R
  obtain ⟨r1, r2, r3, r4, r5, r6, r7, r8, r9, r10, r11, r12⟩ := R'
  unfold wpY_embed
  dsimp only
  refine zy_ready r4 (zr_k r6) r5 ?_ ?_
  · intro q1 q2
    exact br_f zb_10 (nm_r ((zb_pow n (by omega)).trans (by rw [hN])) (zy_emb1 R hN hF P (h5 q1 q2) (h0 q1 q2)))
  · intro q
    exact br_t rfl (h4 q)
/-! ===== forcedCost ===== -/
theorem zx_les {post : Int32 → Prop} {G : Nat → Option Int32} {g : Nat} (P : zp_pos G) (hp : post (zp_lv (zp_ll G (g + 1)))) : wpX_lesserCost post (zp_lv (zp_ll G g)) (zp_v (G g)) := by
  cases hq : zp_ll G g with
  | none =>
    cases ho : G g with
    | none =>
      rw [zp_ll_n ho, hq] at hp
      exact br_t rfl hp
    | some c =>
      rw [zp_ll_0 ho hq] at hp
      exact br_t rfl hp
  | some p =>
    obtain ⟨l', b⟩ := p
    have n5 : ¬ l' = -5 := zp_pos5 P (zp_ll_some hq).1.2
    cases ho : G g with
    | none =>
      rw [zp_ll_n ho, hq] at hp
      exact br_f n5 (br_t rfl hp)
    | some c =>
      refine br_f n5 (br_f (zp_pos5 P ho) ?_)
      by_cases z : c < l'
      · rw [zp_ll_t ho hq z] at hp
        exact br_t (Int32.le_of_lt z) hp
      · rw [zp_ll_f ho hq z] at hp
        refine br_c (fun y => ?_) (fun _ => hp)
        rw [show zp_v (some c) = l' from Int32.le_antisymm y (Int32.not_lt.mp z)]
        exact hp
theorem zx_fcL {post : Int32 → Prop} {G : Nat → Option Int32} (hw1 : 0 < w) (hw3 : w ≤ 3) (hn : n ≤ 10) (hN : N ≤ 1024) (i : Nat) (hi : i < n) (t : Bool) (hG : zp_fi (zp_cs A C V M w k n) (fun g => bt (nI g) i == t) = G) (P : zp_pos G) (hp : post (zp_lv (zp_ll G N))) :
    ∃ f, wX_forcedCost_58 post (nI i) (zb t) (nI N) (nI h) (nI w) (nI l) V (nI n) M (nI k) pr al re lc cn A C f (-5) 0 :=
  pk_loop (fun f g s => wX_forcedCost_58 post (nI i) (zb t) (nI N) (nI h) (nI w) (nI l) V (nI n) M (nI k) pr al re lc cn A C f s (nI g)) (fun g s => s = zp_lv (zp_ll G g)) N 0 (-5) (Nat.zero_le _) rfl
    (fun f s e => pk_le N N (fun _ => by rw [e]; exact hp) (fun z => absurd z (by omega)))
    (fun f g s hg e hs => pk_le N g (fun z => absurd z (by omega)) (fun _ => zx_bitAt i (by omega) (by
      by_cases hb : bt (nI g) i = t
      · refine br_t (by rw [hb]) (zx_sc hw1 hw3 hn g ?_)
        have e2 : zp_cs A C V M w k n g = G g := by
          rw [← hG]
          unfold zp_fi
          rw [if_pos (by show (bt (nI g) i == t) = true; rw [hb]; exact beq_self_eq_true t)]
        rw [e2, e]
        exact zx_les P (nm_r (nI_1 g) (hs _ rfl))
      · refine br_f (fun z => hb (zb_inj z)) (nm_r (nI_1 g) (hs _ ?_))
        have e2 : G g = none := by
          rw [← hG]
          unfold zp_fi
          rw [if_neg (fun z => hb (eq_of_beq z))]
        rw [zp_ll_n e2, e])))
theorem zy_fb (a b c : Bool) : (a ^^ b) = c ↔ b = (a ^^ c) := by cases a <;> cases b <;> cases c <;> decide
theorem zy_fcL {post : Int32 → Prop} {F G : Nat → Option Int32} (R : zr_ok h w n k V M A C x m) (hN : 2 ^ n = N) (hF : zp_cs A C V M w k n = F) (P : zp_pos F) (i : Nat) (hi : i < n) (b : Bool) (hG : zp_fi F (fun g => bt (nI g) i == (bt V i ^^ b)) = G) (hp : post (zp_lv (zp_ll G N))) :
    ∃ f, wY_forcedCost_48 post (nI i) (zb b) (nI N) (nI h) (nI w) (nI n) (nI k) pr al re lc cn A x C m f (-5) 0 := by
  have hN' : N ≤ 1024 := by rw [← hN]; exact zr_N R
  have hn : n ≤ 10 := R.2.2.2.2.1
  have PG : zp_pos G := by rw [← hG]; exact zp_fi_P P
  refine pk_loop (fun f g s => wY_forcedCost_48 post (nI i) (zb b) (nI N) (nI h) (nI w) (nI n) (nI k) pr al re lc cn A x C m f s (nI g)) (fun g s => s = zp_lv (zp_ll G g)) N 0 (-5) (Nat.zero_le _) rfl
    (fun f s e => pk_le N N (fun _ => by rw [e]; exact hp) (fun z => absurd z (by omega)))
    (fun f g s hg e hs => pk_le N g (fun z => absurd z (by omega)) (fun _ => zr_cs R g (by omega) (zr_vo R g (by omega) ?_)))
  rw [hF, zb_bit _ i (by omega), b_xor]
  have hGg : G g = if (bt (nI g) i == (bt V i ^^ b)) = true then F g else none := by rw [← hG]; rfl
  cases hf : F g with
  | none =>
    have e2 : G g = none := by rw [hGg, hf, ite_self]
    exact br_t zp_n50 (nm_r (nI_1 g) (hs _ (by rw [zp_ll_n e2, e])))
  | some c =>
    refine br_f (zp_pos0 P hf) ?_
    by_cases hb : bt (nI g) i = (bt V i ^^ b)
    · refine br_t (by rw [(zy_fb _ _ _).mpr hb]) ?_
      have e2 : G g = some c := by rw [hGg, if_pos (by rw [hb]; exact beq_self_eq_true _), hf]
      rw [e]
      cases hq : zp_ll G g with
      | none => exact br_t zp_n50 (nm_r (nI_1 g) (hs _ (by rw [zp_ll_0 e2 hq]; rfl)))
      | some p =>
        obtain ⟨l', b'⟩ := p
        exact br_f (zp_pos0 PG (zp_ll_some hq).1.2) (br_c (fun z => nm_r (nI_1 g) (hs _ (by rw [zp_ll_f e2 hq (Int32.not_lt.mpr z)]))) (fun z => nm_r (nI_1 g) (hs _ (by rw [zp_ll_t e2 hq (Int32.not_le.mp z)]; rfl))))
    · have e2 : G g = none := by rw [hGg, if_neg (fun z => hb (eq_of_beq z))]
      exact br_f (fun z => hb ((zy_fb _ _ _).mp (zb_inj z))) (nm_r (nI_1 g) (hs _ (by rw [zp_ll_n e2, e])))
end
