def i_Rel (_ : Nat) (u : SX) (v : SY) : Prop := ∃ (h w n k : Nat) (V M pr al re lc cn : Int32) (A C x m : Nat → Int32),
  u = (nI h, nI w, nI (10 / w), V, nI n, M, nI k, pr, al, re, lc, cn, A, C) ∧ v = (nI h, nI w, nI n, nI k, pr, al, re, lc, cn, A, x, C, m) ∧ zr_ok h w n k V M A C x m
section
variable {h w n k K : Nat} {V M pr al re lc cn : Int32} {A C x m : Nat → Int32}
theorem zi_mk (R : zr_ok h w n k V M A C x m) : i_Rel K (nI h, nI w, nI (10 / w), V, nI n, M, nI k, pr, al, re, lc, cn, A, C) (nI h, nI w, nI n, nI k, pr, al, re, lc, cn, A, x, C, m) := ⟨h, w, n, k, V, M, pr, al, re, lc, cn, A, C, x, m, rfl, rfl, R⟩
/-! ===== the constructor ===== -/
theorem zi_cl (a : Int32) (B : Nat) (h1 : 1 ≤ B) (hB : B < 2 ^ 31) : ∃ j : Nat, 1 ≤ j ∧ j ≤ B ∧ ∀ Z : Int32 → Prop, Z (nI j) → ((1 ≤ a → ((a ≤ nI B → Z a) ∧ (¬ a ≤ nI B → Z (nI B)))) ∧ (¬ 1 ≤ a → Z 1)) := by
  by_cases z1 : (1 : Int32) ≤ a
  · have z0 : ¬ a < 0 := Int32.not_lt.mpr (Int32.le_trans (by decide) z1)
    by_cases z2 : a ≤ nI B
    · obtain ⟨j, hj, rfl⟩ := nI_of z0
      have g1 : 1 ≤ j := (nI_leI (a := 1) (by decide) hj).mp z1
      have g2 : j ≤ B := (nI_leI hj hB).mp z2
      exact ⟨j, g1, g2, fun Z hZ => br_t z1 (br_t z2 hZ)⟩
    · exact ⟨B, h1, Nat.le_refl _, fun Z hZ => br_t z1 (br_f z2 hZ)⟩
  · exact ⟨1, Nat.le_refl _, h1, fun Z hZ => br_f z1 hZ⟩
def zi_A : Nat → Nat → Int32
  | 0 => fun _ => 0
  | i + 1 => upd (zi_A i) i 1
theorem zi_A01 : ∀ i j, zi_A i j = nI 0 ∨ zi_A i j = nI 1
  | 0, j => Or.inl rfl
  | i + 1, j => by
    show upd (zi_A i) i 1 j = nI 0 ∨ upd (zi_A i) i 1 j = nI 1
    by_cases e : j = i
    · rw [e, pk_us]
      exact Or.inr rfl
    · rw [pk_un e]
      exact zi_A01 i j
theorem zi_x {post : SX → Prop} {l : Int32} (hp : post (nI h, nI w, l, 0, 0, 0, 0, 0, 0, 0, 0, 0, zi_A 3, (fun _ => 0))) : ∃ f, wX_init_97 post (nI h) (nI w) l 0 0 0 0 0 0 0 0 0 f 0 (fun _ => 0) (fun _ => 0) :=
  pk_loop (fun f i s => wX_init_97 post (nI h) (nI w) l 0 0 0 0 0 0 0 0 0 f (nI i) s (fun _ => 0)) (fun i s => s = zi_A i) 3 0 (fun _ => 0) (by omega) rfl
    (fun f s e => pk_le 3 3 (fun _ => by rw [e]; exact hp) (fun z => absurd z (by omega)))
    (fun f i s hi e hs => pk_le 3 i (fun z => absurd z (by omega)) (fun _ => ⟨vp_in_nI hi (by omega), nm_e (nm_r (nI_1 i) (hs _ (by rw [nI_clamp (by omega), e]; rfl)))⟩))
theorem zi_y {post : SY → Prop} (hp : post (nI h, nI w, 0, 0, 0, 0, 0, 0, 0, zi_A 3, (fun _ => 0), (fun _ => 0), (fun _ => 0))) : ∃ f, wY_init_118 post (nI h) (nI w) 0 0 0 0 0 0 0 f 0 (fun _ => 0) (fun _ => 0) (fun _ => 0) (fun _ => 0) :=
  pk_loop (fun f i s => wY_init_118 post (nI h) (nI w) 0 0 0 0 0 0 0 f (nI i) s (fun _ => 0) (fun _ => 0) (fun _ => 0)) (fun i s => s = zi_A i) 3 0 (fun _ => 0) (by omega) rfl
    (fun f s e => pk_le 3 3 (fun _ => by rw [e]; exact hp) (fun z => absurd z (by omega)))
    (fun f i s hi e hs => pk_le 3 i (fun z => absurd z (by omega)) (fun _ => ⟨vp_in_nI hi (by omega), nm_e (nm_r (nI_1 i) (hs _ (by rw [nI_clamp (by omega), e]; rfl)))⟩))
theorem zi_xi {post : SX → Prop} {a b : Int32} (w1 : 1 ≤ w) (w3 : w ≤ 3)
    (H : ∀ Z : Int32 → Prop, Z (nI h) → ((1 ≤ a → ((a ≤ nI 4 → Z a) ∧ (¬ a ≤ nI 4 → Z (nI 4)))) ∧ (¬ 1 ≤ a → Z 1)))
    (W : ∀ Z : Int32 → Prop, Z (nI w) → ((1 ≤ b → ((b ≤ nI 3 → Z b) ∧ (¬ b ≤ nI 3 → Z (nI 3)))) ∧ (¬ 1 ≤ b → Z 1)))
    (hp : post (nI h, nI w, nI (10 / w), 0, 0, 0, 0, 0, 0, 0, 0, 0, zi_A 3, (fun _ => 0))) : wpX_init post a b := by
  have e : (10 : Int32) / nI w = nI (10 / w) := pk_div (a := 10) (by decide) w1 (by omega)
  exact H (fun r1 => wpX_clamp (fun r2 => ¬ r2 = 0 ∧ ∀ y : Int32, y = 10 / r2 → ∃ f, wX_init_97 post r1 r2 y 0 0 0 0 0 0 0 0 0 f 0 (fun _ => 0) (fun _ => 0)) b 1 3)
    (W (fun r2 => ¬ r2 = 0 ∧ ∀ y : Int32, y = 10 / r2 → ∃ f, wX_init_97 post (nI h) r2 y 0 0 0 0 0 0 0 0 0 f 0 (fun _ => 0) (fun _ => 0)) ⟨nI_ne0 w1 (by omega), nm_r e (zi_x hp)⟩)
theorem zi_yi {post : SY → Prop} {a b : Int32}
    (H : ∀ Z : Int32 → Prop, Z (nI h) → ((1 ≤ a → ((a ≤ nI 4 → Z a) ∧ (¬ a ≤ nI 4 → Z (nI 4)))) ∧ (¬ 1 ≤ a → Z 1)))
    (W : ∀ Z : Int32 → Prop, Z (nI w) → ((1 ≤ b → ((b ≤ nI 3 → Z b) ∧ (¬ b ≤ nI 3 → Z (nI 3)))) ∧ (¬ 1 ≤ b → Z 1)))
    (hp : post (nI h, nI w, 0, 0, 0, 0, 0, 0, 0, zi_A 3, (fun _ => 0), (fun _ => 0), (fun _ => 0))) : wpY_init post a b :=
  H (fun z => wY_init_90 post b z 0 0 0 0 0 0 0 0 0 (fun _ => 0) (fun _ => 0) (fun _ => 0) (fun _ => 0))
    (W (fun z => ∃ f, wY_init_118 post (nI h) z 0 0 0 0 0 0 0 f 0 (fun _ => 0) (fun _ => 0) (fun _ => 0) (fun _ => 0)) (zi_y hp))
theorem zi_ok0 (h1 : 1 ≤ h) (h4 : h ≤ 4) (w1 : 1 ≤ w) (w3 : w ≤ 3) : zr_ok h w 0 0 0 0 (zi_A 3) (fun _ => 0) (fun _ => 0) (fun _ => 0) := by
  have hp : 1 < 2 ^ h := Nat.one_lt_two_pow (by omega)
  refine ⟨h1, h4, w1, w3, by omega, Nat.zero_le _, fun j => ?_, fun j => Or.inr ⟨0, by omega, rfl⟩, fun i hi => absurd hi (by omega), fun i _ => b_0 i, fun i hi => absurd hi (by omega), fun i _ => b_0 i⟩
  rcases zi_A01 3 j with e | e
  · exact ⟨0, by omega, e⟩
  · exact ⟨1, hp, e⟩
/-! ===== appending a bit ===== -/
theorem zi_app {b : Bool} {v : Int32} (hn : n < 32) (hV : ∀ i, n ≤ i → bt v i = false) (t : Nat) : bt (v ||| (zb b <<< (nI n &&& 31))) t = if t = n then b else bt v t := by
  rcases Nat.lt_or_ge t 32 with z | z
  · rw [b_or, b_shl n hn _ z, zb_bt _ _ (by omega)]
    by_cases e : t = n
    · subst e
      rw [if_pos rfl, hV t (Nat.le_refl t), decide_eq_true (Nat.le_refl t), decide_eq_true (Nat.sub_self t), Bool.false_or, Bool.true_and, Bool.and_true]
    · rw [if_neg e]
      by_cases e2 : n ≤ t
      · rw [decide_eq_false (show ¬ t - n = 0 by omega), Bool.and_false, Bool.and_false, Bool.or_false]
      · rw [decide_eq_false e2, Bool.false_and, Bool.or_false]
  · rw [b_big z, if_neg (by omega), b_big z]
theorem zi_app1 {b : Bool} {v : Int32} {y : Nat → Int32} (hn : n < 32) (hV : ∀ i, n ≤ i → bt v i = false) (hy : ∀ i, i < n → y i = zb (bt v i)) : ∀ i, i < n + 1 → upd y n (zb b) i = zb (bt (v ||| (zb b <<< (nI n &&& 31))) i) := by
  intro i hi
  rw [zi_app hn hV]
  by_cases e : i = n
  · rw [e, pk_us, if_pos rfl]
  · rw [pk_un e, if_neg e, hy i (by omega)]
theorem zi_app2 {b : Bool} {v : Int32} (hn : n < 32) (hV : ∀ i, n ≤ i → bt v i = false) : ∀ i, n + 1 ≤ i → bt (v ||| (zb b <<< (nI n &&& 31))) i = false := by
  intro i hi
  rw [zi_app hn hV, if_neg (by omega)]
  exact hV i (by omega)
theorem zi_b2 {b : Nat} (h : b < 2) : ∃ β : Bool, nI b = zb β := by
  rcases (show b = 0 ∨ b = 1 by omega) with rfl | rfl
  · exact ⟨false, rfl⟩
  · exact ⟨true, rfl⟩
theorem zi_upC {p : Int32} (hC : ∀ j, C j = -1 ∨ ∃ c : Nat, c ≤ 1000 ∧ C j = nI c) (hp : p = -1 ∨ ∃ c : Nat, c ≤ 1000 ∧ p = nI c) (q : Nat) : ∀ j, upd C q p j = -1 ∨ ∃ c : Nat, c ≤ 1000 ∧ upd C q p j = nI c := by
  intro j
  by_cases e : j = q
  · rw [e, pk_us]
    exact hp
  · rw [pk_un e]
    exact hC j
theorem zi_cost (a : Int32) : ((a = -1 ∨ ∃ c : Nat, c ≤ 1000 ∧ a = nI c) ∧ (∀ post : Int32 → Prop, post 1 → wpX_isCost post a) ∧ (∀ post : Int32 → Prop, post 0 → wpY_badCost post (nI h, nI w, nI n, nI k, pr, al, re, lc, cn, A, x, C, m) a)) ∨ ((∀ post : Int32 → Prop, post 0 → wpX_isCost post a) ∧ (∀ post : Int32 → Prop, post 1 → wpY_badCost post (nI h, nI w, nI n, nI k, pr, al, re, lc, cn, A, x, C, m) a)) := by
  by_cases z : a = -1
  · exact Or.inl ⟨Or.inl z, fun post hp => br_t z hp, fun post hp => br_t z hp⟩
  · by_cases z0 : a < 0
    · exact Or.inr ⟨fun post hp => br_f z (br_t z0 (br_t rfl hp)), fun post hp => br_f z (br_t z0 hp)⟩
    · obtain ⟨c, hc, rfl⟩ := nI_of z0
      by_cases g : c ≤ 1000
      · have g1 : ¬ (1001 : Int32) ≤ nI c := nI_ge (b := 1001) (by omega) (by decide)
        have g2 : nI c ≤ (1000 : Int32) := nI_le (b := 1000) g (by decide)
        exact Or.inl ⟨Or.inr ⟨c, g, rfl⟩, fun post hp => br_f z (br_f z0 (br_f g1 (br_f (by decide) hp))), fun post hp => br_f z (br_f z0 (br_t g2 hp))⟩
      · have g1 : (1001 : Int32) ≤ nI c := nI_le (a := 1001) (by omega) hc
        have g2 : ¬ nI c ≤ (1000 : Int32) := nI_ge (a := 1000) (by omega) hc
        exact Or.inr ⟨fun post hp => br_f z (br_f z0 (br_t g1 (br_t rfl hp))), fun post hp => br_f z (br_f z0 (br_f g2 hp))⟩
theorem zi_lim {post : Int32 → SY → Prop} {p : Int32} (w1 : 0 < w) (w3 : w ≤ 3) (H : wY_addMessage_26 post p (nI (10 / w)) (nI h) (nI w) (nI n) (nI k) pr al re lc cn A x C m) : wpY_addMessage post (nI h, nI w, nI n, nI k, pr, al, re, lc, cn, A, x, C, m) p := by
  rcases (show w = 1 ∨ w = 2 ∨ w = 3 by omega) with rfl | rfl | rfl
  · exact br_t rfl H
  · exact br_f (by decide) (br_t rfl H)
  · exact br_f (by decide) (br_f (by decide) H)
end
