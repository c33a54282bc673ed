/-! ===== sums over the set bits ===== -/
def zq_S (f : Nat → Nat) (b : Nat → Bool) : Nat → Nat
  | 0 => 0
  | j + 1 => zq_S f b j + (if b j = true then f j else 0)
theorem zq_S_mono (f : Nat → Nat) (b : Nat → Bool) (j : Nat) : ∀ d, zq_S f b j ≤ zq_S f b (j + d)
  | 0 => Nat.le_refl _
  | d + 1 => by
    have ih := zq_S_mono f b j d
    show zq_S f b j ≤ zq_S f b (j + d) + (if b (j + d) = true then f (j + d) else 0)
    omega
theorem zq_S_le {f : Nat → Nat} {b : Nat → Bool} {B : Nat} (hf : ∀ j, f j ≤ B) : ∀ j, zq_S f b j ≤ B * j
  | 0 => Nat.zero_le _
  | j + 1 => by
    have ih := zq_S_le (b := b) hf j
    have h := hf j
    rw [zq_S, Nat.mul_succ]
    split <;> omega
theorem zq_S_same {f : Nat → Nat} {b b' : Nat → Bool} : ∀ n, (∀ i, i < n → b' i = b i) → zq_S f b' n = zq_S f b n
  | 0, _ => rfl
  | n + 1, h => by
    rw [zq_S, zq_S, zq_S_same n (fun i hi => h i (by omega)), h n (by omega)]
theorem zq_S_flip {f : Nat → Nat} {b b' : Nat → Bool} {t : Nat} : ∀ n, t < n → (∀ i, i < n → i ≠ t → b' i = b i) → zq_S f b' n + (if b t = true then f t else 0) = zq_S f b n + (if b' t = true then f t else 0)
  | 0, h, _ => by omega
  | n + 1, ht, h => by
    rw [zq_S, zq_S]
    rcases Nat.lt_or_ge t n with z | z
    · have ih := zq_S_flip (f := f) (b := b) (b' := b') n z (fun i hi hn => h i (by omega) hn)
      rw [h n (by omega) (by omega)]
      omega
    · have e : t = n := by omega
      subst e
      rw [zq_S_same t (fun i hi => h i (by omega) (by omega))]
      omega
/-! ===== the cost by sums ===== -/
def zq_c (x : Int32) : Nat := if x = -1 then 0 else x.toNatClampNeg
def zq_w (x : Int32) : Nat := if x = -1 then 1 else 0
theorem zq_cI {x : Int32} (h : x = -1 ∨ ∃ c : Nat, c ≤ 1000 ∧ x = nI c) (hw : ¬ x = -1) : x = nI (zq_c x) ∧ zq_c x ≤ 1000 := by
  rcases h with z | ⟨c, hc, rfl⟩
  · exact absurd z hw
  · unfold zq_c
    rw [if_neg hw, nI_clamp (by omega)]
    exact ⟨rfl, hc⟩
theorem zq_c_le {x : Int32} (h : x = -1 ∨ ∃ c : Nat, c ≤ 1000 ∧ x = nI c) : zq_c x ≤ 1000 := by
  by_cases hw : x = -1
  · unfold zq_c
    rw [if_pos hw]
    omega
  · exact (zq_cI h hw).2
theorem zq_cf {C : Nat → Int32} {G : Int32} (hC : ∀ j, C j = -1 ∨ ∃ c : Nat, c ≤ 1000 ∧ C j = nI c) : ∀ d i, zq_S (fun j => zq_w (C j)) (bt G) i = 0 →
    zp_cf C G d i (nI (zq_S (fun j => zq_c (C j)) (bt G) i)) = if zq_S (fun j => zq_w (C j)) (bt G) (i + d) = 0 then some (nI (zq_S (fun j => zq_c (C j)) (bt G) (i + d))) else none
  | 0, i, h => by
    rw [zp_cf, Nat.add_zero, if_pos h]
  | d + 1, i, h => by
    rw [zp_cf]
    have es : zq_S (fun j => zq_c (C j)) (bt G) (i + 1) = zq_S (fun j => zq_c (C j)) (bt G) i + (if bt G i = true then zq_c (C i) else 0) := rfl
    have ew : zq_S (fun j => zq_w (C j)) (bt G) (i + 1) = zq_S (fun j => zq_w (C j)) (bt G) i + (if bt G i = true then zq_w (C i) else 0) := rfl
    have ea : i + (d + 1) = i + 1 + d := by omega
    rw [ea]
    by_cases hb : bt G i = true
    · rw [if_pos hb] at es ew ⊢
      by_cases hw : C i = -1
      · have m := zq_S_mono (fun j => zq_w (C j)) (bt G) (i + 1) d
        have e1 : zq_w (C i) = 1 := if_pos hw
        rw [if_pos hw, if_neg (by omega)]
      · have e0 : zq_w (C i) = 0 := if_neg hw
        have e := (zq_cI (hC i) hw).1
        rw [if_neg hw]
        have ec : nI (zq_S (fun j => zq_c (C j)) (bt G) i) + C i = nI (zq_S (fun j => zq_c (C j)) (bt G) (i + 1)) := by
          rw [es, ← nI_add, ← e]
        rw [ec]
        exact zq_cf hC d (i + 1) (by omega)
    · rw [if_neg hb] at es ew ⊢
      rw [show zq_S (fun j => zq_c (C j)) (bt G) i = zq_S (fun j => zq_c (C j)) (bt G) (i + 1) by omega]
      exact zq_cf hC d (i + 1) (by omega)
/-! ===== the syndrome when one bit is flipped ===== -/
theorem zq_sy_same {A : Nat → Int32} {w k : Nat} {v v' : Int32} : ∀ n, (∀ i, i < n → bt v' i = bt v i) → zp_sy A w k v' n = zp_sy A w k v n
  | 0, _ => rfl
  | n + 1, h => by
    rw [zp_sy, zp_sy, zq_sy_same n (fun i hi => h i (by omega)), h n (by omega)]
theorem zq_x3 (a b c : Int32) : (a ^^^ b) ^^^ c = (a ^^^ c) ^^^ b := by
  rw [Int32.xor_assoc, Int32.xor_comm b c, ← Int32.xor_assoc]
theorem zq_x0 (a b : Int32) : (a ^^^ b) ^^^ b = a := by
  rw [Int32.xor_assoc, Int32.xor_self, Int32.xor_zero]
theorem zq_sy_flip {A : Nat → Int32} {w k : Nat} {v v' : Int32} {t : Nat} (ht' : bt v' t = !bt v t) : ∀ n, t < n → (∀ i, i < n → i ≠ t → bt v' i = bt v i) → zp_sy A w k v' n = zp_sy A w k v n ^^^ zp_mc A w k t
  | 0, h, _ => by omega
  | n + 1, ht, h => by
    rw [zp_sy, zp_sy]
    rcases Nat.lt_or_ge t n with z | z
    · have ih := zq_sy_flip (A := A) (w := w) (k := k) ht' n z (fun i hi hn => h i (by omega) hn)
      rw [h n (by omega) (by omega), ih]
      by_cases hb : bt v n = true
      · rw [if_pos hb, if_pos hb, zq_x3]
      · rw [if_neg hb, if_neg hb]
    · have e : t = n := by omega
      subst e
      rw [zq_sy_same t (fun i hi => h i (by omega) (by omega)), ht']
      cases hb : bt v t
      · rw [if_pos (by rfl), if_neg (by decide)]
      · rw [if_neg (by decide), if_pos (by rfl), zq_x0]
/-! ===== the gray code ===== -/
theorem zq_gray : ∀ g, g < 1024 → 0 < g → ∃ t, t < 10 ∧ 2 ^ t ≤ g ∧ (∀ j, j < t → g.testBit j = false) ∧ g.testBit t = true ∧ g ^^^ g / 2 = ((g - 1) ^^^ (g - 1) / 2) ^^^ 2 ^ t := by decide +kernel
