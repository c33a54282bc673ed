section
theorem pk_us {f : Nat → Int32} {k : Nat} {x : Int32} : upd f k x k = x := if_pos rfl
theorem pk_un {f : Nat → Int32} {k j : Nat} {x : Int32} (h : j ≠ k) : upd f k x j = f j := if_neg h
theorem pk_sub {a b : Nat} (h : b ≤ a) : nI a - nI b = nI (a - b) := by
  obtain ⟨c, rfl⟩ : ∃ c, a = c + b := ⟨a - b, by omega⟩
  rw [← nI_add, Int32.add_sub_cancel, Nat.add_sub_cancel]
theorem pk_m1 (n : Nat) : nI (n + 1) + (-1) = nI n := by
  rw [← nI_1, Int32.add_assoc, show (1 : Int32) + (-1) = 0 from rfl, Int32.add_zero]
theorem pk_mul (a b : Nat) : nI a * nI b = nI (a * b) := (Int32.ofNat_mul a b).symm
theorem pk_div {a d : Nat} (ha : a < 2 ^ 31) (h0 : 0 < d) (hd : d < 2 ^ 31) : nI a / nI d = nI (a / d) := by
  apply Int32.toInt_inj.mp
  rw [lg_idiv_nonneg (by rw [nI_toInt ha]; omega) (by rw [nI_toInt hd]; omega), nI_toInt ha, nI_toInt hd, nI_toInt (Nat.lt_of_le_of_lt (Nat.div_le_self a d) ha)]
  first | rfl | exact (Int.natCast_ediv _ _).symm
theorem pk_rem {a d : Nat} (ha : a < 2 ^ 31) (h0 : 0 < d) (hd : d < 2 ^ 31) : nI a - nI a / nI d * nI d = nI (a % d) := by
  rw [pk_div ha h0 hd, pk_mul, pk_sub (Nat.div_mul_le_self a d)]
  exact congrArg nI (by have := Nat.div_add_mod' a d; omega)
theorem pk_ix (x : Int32) {n : Nat} (hn : n < 2 ^ 31) : x < 0 ∨ nI n ≤ x ∨ ∃ j : Nat, j < n ∧ x = nI j := by
  by_cases h : x < 0
  · exact Or.inl h
  · obtain ⟨j, hj, rfl⟩ := nI_of h
    by_cases h2 : j < n
    · exact Or.inr (Or.inr ⟨j, h2, rfl⟩)
    · exact Or.inr (Or.inl (nI_le (by omega) hj))
theorem pk_le {x y : Int32} {A B : Prop} (a b : Nat) (f : a ≤ b → A) (g : b < a → B) (hx : x = nI a := by rfl) (hy : y = nI b := by rfl) (ha : a < 2 ^ 31 := by omega) (hb : b < 2 ^ 31 := by omega) : (x ≤ y → A) ∧ (¬ x ≤ y → B) := by
  subst hx hy
  rw [nI_leI ha hb]
  exact ⟨f, fun z => g (by omega)⟩
theorem pk_lt {x y : Int32} {A B : Prop} (a b : Nat) (f : a < b → A) (g : b ≤ a → B) (hx : x = nI a := by rfl) (hy : y = nI b := by rfl) (ha : a < 2 ^ 31 := by omega) (hb : b < 2 ^ 31 := by omega) : (x < y → A) ∧ (¬ x < y → B) := by
  subst hx hy
  rw [nI_ltI ha hb]
  exact ⟨f, fun z => g (by omega)⟩
theorem pk_eq {x y : Int32} {A B : Prop} (a b : Nat) (f : a = b → A) (g : a ≠ b → B) (hx : x = nI a := by rfl) (hy : y = nI b := by rfl) (ha : a < 2 ^ 31 := by omega) (hb : b < 2 ^ 31 := by omega) : (x = y → A) ∧ (¬ x = y → B) := by
  subst hx hy
  rw [nI_eq ha hb]
  exact ⟨f, g⟩
theorem pk_in {x : Int32} (n N : Nat) (h : n < N) (hx : x = nI n := by rfl) (hN : N < 2 ^ 31 := by omega) : vp_in x N := by
  subst hx
  exact vp_in_nI h hN
theorem pk_cl {x : Int32} (n : Nat) (hx : x = nI n := by rfl) (h : n < 2 ^ 31 := by omega) : x.toNatClampNeg = n := by
  subst hx
  exact nI_clamp h
theorem pk_tn {n : Nat} (h : n < 2 ^ 32) : (nI n).toBitVec.toNat = n := Nat.mod_eq_of_lt h
theorem pk_and (x : Int32) {m : Int32} (k : Nat) (hm : m.toBitVec.toNat = 2 ^ k - 1) : x &&& m = nI (x.toBitVec.toNat % 2 ^ k) := by
  apply Int32.toBitVec_inj.mp
  apply BitVec.eq_of_toNat_eq
  rw [Int32.toBitVec_and, BitVec.toNat_and, hm, Nat.and_two_pow_sub_one_eq_mod]
  show _ = (BitVec.ofNat 32 _).toNat
  rw [BitVec.toNat_ofNat]
  exact (Nat.mod_eq_of_lt (Nat.lt_of_le_of_lt (Nat.mod_le _ _) x.toBitVec.isLt)).symm
theorem pk_andN {n : Nat} (h : n < 2 ^ 32) {m : Int32} (k : Nat) (hm : m.toBitVec.toNat = 2 ^ k - 1) : nI n &&& m = nI (n % 2 ^ k) := by
  rw [pk_and _ k hm, pk_tn h]
theorem pk_loop {σ : Type} (W : Nat → Nat → σ → Prop) (I : Nat → σ → Prop) (e i0 : Nat) (s : σ) (hi : i0 ≤ e) (h0 : I i0 s) (hx : ∀ n s, I e s → W (n + 1) e s)
    (hs : ∀ n i s, i < e → I i s → (∀ s', I (i + 1) s' → W n (i + 1) s') → W (n + 1) i s) : ∃ n, W n i0 s :=
  ⟨e + 1, loop_i W I e hx hs (e + 1) i0 s hi (by omega) h0⟩
/-! ===== Int32 by its bits: bt x i ===== -/
def bt (x : Int32) (i : Nat) : Bool := x.toBitVec.getLsbD i
theorem b_ext {x y : Int32} (h : ∀ i, i < 32 → bt x i = bt y i) : x = y := Int32.toBitVec_inj.mp (BitVec.eq_of_getLsbD_eq (fun i hi => h i hi))
theorem b_or (x y : Int32) (i : Nat) : bt (x ||| y) i = (bt x i || bt y i) := by unfold bt; rw [Int32.toBitVec_or, BitVec.getLsbD_or]
theorem b_and (x y : Int32) (i : Nat) : bt (x &&& y) i = (bt x i && bt y i) := by unfold bt; rw [Int32.toBitVec_and, BitVec.getLsbD_and]
theorem b_xor (x y : Int32) (i : Nat) : bt (x ^^^ y) i = (bt x i ^^ bt y i) := by unfold bt; rw [Int32.toBitVec_xor, BitVec.getLsbD_xor]
theorem b_big {x : Int32} {i : Nat} (h : 32 ≤ i) : bt x i = false := BitVec.getLsbD_of_ge _ _ h
theorem b_255 (i : Nat) : bt 255 i = decide (i < 8) := by
  rcases Nat.lt_or_ge i 32 with h | h
  · exact (by decide +kernel : ∀ i, i < 32 → bt 255 i = decide (i < 8)) i h
  · rw [b_big h, decide_eq_false (by omega)]
theorem b_65535 (i : Nat) : bt 65535 i = decide (i < 16) := by
  rcases Nat.lt_or_ge i 32 with h | h
  · exact (by decide +kernel : ∀ i, i < 32 → bt 65535 i = decide (i < 16)) i h
  · rw [b_big h, decide_eq_false (by omega)]
theorem b_m1 : ∀ i, i < 32 → bt (-1) i = true := by decide +kernel
theorem b_0 (i : Nat) : bt 0 i = false := BitVec.getLsbD_zero
theorem s_l : ∀ n, n < 32 → ((nI n &&& 31).toBitVec.smod 32).toNat = n := by decide +kernel
theorem s_u : ∀ n, n < 32 → (((nI n).toUInt32 &&& Int32.toUInt32 31).toBitVec % 32).toNat = n := by decide +kernel
theorem b_shl (n : Nat) (hn : n < 32) (x : Int32) {i : Nat} (hi : i < 32) : bt (x <<< (nI n &&& 31)) i = (decide (n ≤ i) && bt x (i - n)) := by
  unfold bt
  rw [Int32.toBitVec_shiftLeft]
  show (x.toBitVec <<< ((nI n &&& 31).toBitVec.smod 32).toNat).getLsbD i = _
  rw [s_l n hn, BitVec.getLsbD_shiftLeft]
  rcases Nat.lt_or_ge i n with h | h
  · simp [h, Nat.not_le.mpr h]
  · simp [hi, h, Nat.not_lt.mpr h]
theorem b_ushr (n : Nat) (hn : n < 32) (x : Int32) (i : Nat) : bt ((x.toUInt32 >>> ((nI n).toUInt32 &&& Int32.toUInt32 31)).toInt32) i = bt x (n + i) := by
  show (x.toUInt32 >>> ((nI n).toUInt32 &&& Int32.toUInt32 31)).toBitVec.getLsbD i = x.toUInt32.toBitVec.getLsbD (n + i)
  rw [UInt32.toBitVec_shiftRight]
  show (x.toUInt32.toBitVec >>> (((nI n).toUInt32 &&& Int32.toUInt32 31).toBitVec % 32).toNat).getLsbD i = _
  rw [s_u n hn, BitVec.getLsbD_ushiftRight]
theorem b_sshr (n : Nat) (hn : n < 32) (x : Int32) {i : Nat} (hi : i < 32) : bt (x >>> (nI n &&& 31)) i = if n + i < 32 then bt x (n + i) else bt x 31 := by
  unfold bt
  rw [Int32.toBitVec_shiftRight]
  show (x.toBitVec.sshiftRight ((nI n &&& 31).toBitVec.smod 32).toNat).getLsbD i = _
  rw [s_l n hn, BitVec.getLsbD_sshiftRight, BitVec.msb_eq_getLsbD_last]
  simp [hi]
theorem b_shl8 (x : Int32) {i : Nat} (hi : i < 32) : bt (x <<< ((8 : Int32) &&& 31)) i = (decide (8 ≤ i) && bt x (i - 8)) := b_shl 8 (by omega) x hi
theorem b_shl16 (x : Int32) {i : Nat} (hi : i < 32) : bt (x <<< ((16 : Int32) &&& 31)) i = (decide (16 ≤ i) && bt x (i - 16)) := b_shl 16 (by omega) x hi
theorem b_shl24 (x : Int32) {i : Nat} (hi : i < 32) : bt (x <<< ((24 : Int32) &&& 31)) i = (decide (24 ≤ i) && bt x (i - 24)) := b_shl 24 (by omega) x hi
theorem b_sshr8 (x : Int32) {i : Nat} (hi : i < 32) : bt (x >>> ((8 : Int32) &&& 31)) i = if 8 + i < 32 then bt x (8 + i) else bt x 31 := b_sshr 8 (by omega) x hi
/-! ===== nI under and, xor, >>>, one bit, 65535 ===== -/
theorem nx_and (a b : Nat) : nI a &&& nI b = nI (a &&& b) := by
  apply Int32.toBitVec_inj.1
  show BitVec.ofNat 32 a &&& BitVec.ofNat 32 b = BitVec.ofNat 32 (a &&& b)
  apply BitVec.eq_of_getLsbD_eq
  intro i hi
  simp [hi]
theorem nx_xor (a b : Nat) : nI a ^^^ nI b = nI (a ^^^ b) := by
  apply Int32.toBitVec_inj.1
  show BitVec.ofNat 32 a ^^^ BitVec.ofNat 32 b = BitVec.ofNat 32 (a ^^^ b)
  apply BitVec.eq_of_getLsbD_eq
  intro i hi
  simp [hi]
theorem nx_cnt : ∀ j : Fin 32, (UInt32.ofNat j.val &&& Int32.toUInt32 31).toNat % 32 = j.val := by decide +kernel
theorem nx_ush {k j : Nat} (hk : k < 65536) (hj : j < 32) : ((nI k).toUInt32 >>> ((nI j).toUInt32 &&& Int32.toUInt32 31)).toInt32 = nI (k >>> j) := by
  have hs : k >>> j ≤ k := by
    rw [Nat.shiftRight_eq_div_pow]
    exact Nat.div_le_self _ _
  have e2 : UInt32.ofNat k >>> (UInt32.ofNat j &&& Int32.toUInt32 31) = UInt32.ofNat (k >>> j) := by
    apply UInt32.toNat_inj.1
    have h1 : (UInt32.ofNat k).toNat = k := Nat.mod_eq_of_lt (by omega)
    have h2 : (UInt32.ofNat (k >>> j)).toNat = k >>> j := Nat.mod_eq_of_lt (by omega)
    rw [UInt32.toNat_shiftRight, nx_cnt ⟨j, hj⟩, h1, h2]
  show (UInt32.ofNat k >>> (UInt32.ofNat j &&& Int32.toUInt32 31)).toInt32 = _
  rw [e2]
  rfl
theorem nx_bit {k j : Nat} (hk : k < 65536) (hj : j < 16) : (((nI k).toUInt32 >>> ((nI j).toUInt32 &&& Int32.toUInt32 31)).toInt32 &&& 1) = 0 ↔ k.testBit j = false := by
  rw [nx_ush hk (by omega)]
  show nI (k >>> j) &&& nI 1 = 0 ↔ _
  rw [nx_and, Nat.and_one_is_mod, ← nI_0, nI_eq (by omega) (by omega), Nat.testBit_eq_decide_div_mod_eq, Nat.shiftRight_eq_div_pow, decide_eq_false_iff_not]
  generalize k / 2 ^ j = z
  omega
theorem nx_mod (k : Nat) : nI k &&& 65535 = nI (k % 65536) := by
  show nI k &&& nI 65535 = _
  rw [nx_and, show (65535 : Nat) = 2 ^ 16 - 1 from rfl, Nat.and_two_pow_sub_one_eq_mod]
theorem nx_m16 {k : Nat} (h : k < 65536) : nI k &&& 65535 = nI k := by rw [nx_mod, Nat.mod_eq_of_lt h]
theorem nx_mask (x : Int32) : ∃ k, k < 65536 ∧ x &&& 65535 = nI k := by
  have e : x = nI x.toBitVec.toNat := by
    apply Int32.toBitVec_inj.1
    show x.toBitVec = BitVec.ofNat 32 x.toBitVec.toNat
    simp
  refine ⟨x.toBitVec.toNat % 65536, Nat.mod_lt _ (by omega), ?_⟩
  rw [← nx_mod, ← e]
end
section
/-! ===== one bit as the machine answers it ===== -/
def zb : Bool → Int32
  | true => 1
  | false => 0
theorem zb_1 : ∀ j, j < 32 → bt 1 j = decide (j = 0) := by decide +kernel
theorem zb_bt (b : Bool) (j : Nat) (hj : j < 32) : bt (zb b) j = (b && decide (j = 0)) := by
  cases b
  · show bt 0 j = _
    rw [b_0, Bool.false_and]
  · show bt 1 j = _
    rw [zb_1 j hj, Bool.true_and]
theorem zb_bit (v : Int32) (i : Nat) (hi : i < 32) : (v >>> (nI i &&& 31)) &&& 1 = zb (bt v i) := by
  apply b_ext
  intro j hj
  rw [b_and, b_sshr i hi v hj, zb_1 j hj, zb_bt _ j hj]
  by_cases h : j = 0
  · subst h
    rw [if_pos (by omega)]
    rfl
  · rw [decide_eq_false h, Bool.and_false, Bool.and_false]
theorem zb_ne : ¬ zb false = 1 := by decide +kernel
theorem zb_is1 {b : Bool} : zb b = 1 ↔ b = true := by
  cases b
  · exact ⟨fun h => absurd h zb_ne, fun h => nomatch h⟩
  · exact ⟨fun _ => rfl, fun _ => rfl⟩
theorem zb_inj {a b : Bool} (h : zb a = zb b) : a = b := by
  cases a <;> cases b <;> first | rfl | exact absurd h (by decide +kernel)
theorem zb_xor (a b : Bool) : zb a ^^^ zb b = zb (a ^^ b) := by
  cases a <;> cases b <;> decide +kernel
theorem zb_nat (b : Bool) : nI b.toNat = zb b := by cases b <;> rfl
theorem zb_01 (b : Bool) : zb b = 0 ∨ zb b = 1 := by cases b; exact Or.inl rfl; exact Or.inr rfl
theorem zb_mask : ∀ k, k < 11 → ∀ r, r < 32 → bt (((1 : Int32) <<< (nI k &&& 31)) - 1) r = decide (r < k) := by decide +kernel
theorem zb_pow : ∀ n, n < 11 → (1 : Int32) <<< (nI n &&& 31) = nI (2 ^ n) := by decide +kernel
theorem zb_nI (g i : Nat) (hi : i < 32) : bt (nI g) i = g.testBit i := by
  show (BitVec.ofNat 32 g).getLsbD i = _
  rw [BitVec.getLsbD_ofNat, decide_eq_true hi, Bool.true_and]
theorem zb_nIf {g n i : Nat} (h : g < 2 ^ n) (hn : n ≤ i) : bt (nI g) i = false := by
  rcases Nat.lt_or_ge i 32 with z | z
  · rw [zb_nI g i z]
    exact Nat.testBit_lt_two_pow (Nat.lt_of_lt_of_le h (Nat.pow_le_pow_right (by decide) hn))
  · exact b_big z
/-! ===== the matrix, the syndrome ===== -/
def zp_mc (A : Nat → Int32) (w k i : Nat) : Int32 := (A (i % w) <<< (nI (i / w) &&& 31)) &&& (((1 : Int32) <<< (nI k &&& 31)) - 1)
def zp_e (A : Nat → Int32) (w i r : Nat) : Bool := decide (i / w ≤ r) && bt (A (i % w)) (r - i / w)
theorem zp_mc_bt {A : Nat → Int32} {w k i r : Nat} (hk : k ≤ 10) (hi : i < 32) (hr : r < 32) : bt (zp_mc A w k i) r = (zp_e A w i r && decide (r < k)) := by
  unfold zp_mc zp_e
  rw [b_and, b_shl _ (Nat.lt_of_le_of_lt (Nat.div_le_self i w) hi) _ hr, zb_mask k (by omega) r hr]
def zp_sy (A : Nat → Int32) (w k : Nat) (v : Int32) : Nat → Int32
  | 0 => 0
  | j + 1 => if bt v j = true then zp_sy A w k v j ^^^ zp_mc A w k j else zp_sy A w k v j
def zp_pr (A : Nat → Int32) (w : Nat) (v : Int32) (r : Nat) : Nat → Bool
  | 0 => false
  | j + 1 => zp_pr A w v r j ^^ (bt v j && zp_e A w j r)
theorem zp_sy_bt {A : Nat → Int32} {w k : Nat} {v : Int32} (hk : k ≤ 10) : ∀ j, j ≤ 31 → ∀ r, r < 32 → bt (zp_sy A w k v j) r = (zp_pr A w v r j && decide (r < k))
  | 0, _, r, _ => by
    show bt 0 r = _
    rw [b_0]
    rfl
  | j + 1, hj, r, hr => by
    have ih := zp_sy_bt (A := A) (w := w) (v := v) hk j (by omega) r hr
    have e : zp_pr A w v r (j + 1) = (zp_pr A w v r j ^^ (bt v j && zp_e A w j r)) := rfl
    rw [zp_sy, e]
    by_cases h : bt v j = true
    · rw [if_pos h, b_xor, ih, zp_mc_bt hk (by omega) hr, h]
      cases zp_pr A w v r j <;> cases zp_e A w j r <;> cases decide (r < k) <;> rfl
    · rw [if_neg h, ih, Bool.eq_false_iff.mpr h]
      cases zp_pr A w v r j <;> cases zp_e A w j r <;> cases decide (r < k) <;> rfl
def zp_sm (A : Nat → Int32) (w : Nat) (v : Int32) (r : Nat) : Nat → Nat
  | 0 => 0
  | j + 1 => zp_sm A w v r j + (zp_e A w j r).toNat * (bt v j).toNat
theorem zp_sm_le (A : Nat → Int32) (w : Nat) (v : Int32) (r : Nat) : ∀ j, zp_sm A w v r j ≤ j
  | 0 => Nat.le_refl _
  | j + 1 => by
    have ih := zp_sm_le A w v r j
    have e : (zp_e A w j r).toNat * (bt v j).toNat ≤ 1 := by cases zp_e A w j r <;> cases bt v j <;> decide
    show zp_sm A w v r j + (zp_e A w j r).toNat * (bt v j).toNat ≤ j + 1
    omega
theorem zp_sm_pr (A : Nat → Int32) (w : Nat) (v : Int32) (r : Nat) : ∀ j, zp_sm A w v r j % 2 = (zp_pr A w v r j).toNat
  | 0 => rfl
  | j + 1 => by
    have ih := zp_sm_pr A w v r j
    show (zp_sm A w v r j + (zp_e A w j r).toNat * (bt v j).toNat) % 2 = (zp_pr A w v r j ^^ (bt v j && zp_e A w j r)).toNat
    rw [Nat.add_mod, ih]
    cases zp_pr A w v r j <;> cases zp_e A w j r <;> cases bt v j <;> rfl
theorem zp_sm_a {A : Nat → Int32} {w : Nat} {v : Int32} {r j : Nat} (hj : j ≤ 10) : nI (zp_sm A w v r j) &&& 1 = zb (zp_pr A w v r j) := by
  have h := zp_sm_le A w v r j
  have e : nI (zp_sm A w v r j) &&& 1 = nI (zp_sm A w v r j % 2) := pk_andN (n := zp_sm A w v r j) (m := 1) (by omega) 1 (by decide)
  rw [e, ← zb_nat, ← zp_sm_pr]
theorem zp_sy_m {A : Nat → Int32} {w k n : Nat} {v M : Int32} (hk : k ≤ 10) (hn : n ≤ 10) (hM : ∀ r, k ≤ r → bt M r = false) : zp_sy A w k v n = M ↔ ∀ r, r < k → zp_pr A w v r n = bt M r := by
  constructor
  · intro h r hr
    have e := zp_sy_bt (A := A) (w := w) (v := v) hk n (by omega) r (by omega)
    rw [h, decide_eq_true hr, Bool.and_true] at e
    exact e.symm
  · intro h
    apply b_ext
    intro r hr
    rw [zp_sy_bt hk n (by omega) r hr]
    rcases Nat.lt_or_ge r k with z | z
    · rw [h r z, decide_eq_true z, Bool.and_true]
    · rw [hM r z, decide_eq_false (by omega), Bool.and_false]
/-! ===== the cost of a change ===== -/
def zp_cf (C : Nat → Int32) (ch : Int32) : Nat → Nat → Int32 → Option Int32
  | 0, _, c => some c
  | d + 1, i, c => if bt ch i = true then (if C i = -1 then none else zp_cf C ch d (i + 1) (c + C i)) else zp_cf C ch d (i + 1) c
theorem zp_cf_pos {C : Nat → Int32} {ch : Int32} (hC : ∀ j, C j = -1 ∨ ∃ c : Nat, c ≤ 1000 ∧ C j = nI c) : ∀ d i a c', zp_cf C ch d i (nI a) = some c' → ∃ a' : Nat, a' ≤ a + 1000 * d ∧ c' = nI a'
  | 0, i, a, c', h => ⟨a, by omega, (Option.some.inj h).symm⟩
  | d + 1, i, a, c', h => by
    rw [zp_cf] at h
    by_cases hb : bt ch i = true
    · rw [if_pos hb] at h
      by_cases hw : C i = -1
      · rw [if_pos hw] at h
        exact nomatch h
      · rw [if_neg hw] at h
        rcases hC i with z | ⟨c, hc, z⟩
        · exact absurd z hw
        · rw [z, nI_add] at h
          obtain ⟨a', h1, h2⟩ := zp_cf_pos hC d (i + 1) (a + c) c' h
          exact ⟨a', by omega, h2⟩
    · rw [if_neg hb] at h
      obtain ⟨a', h1, h2⟩ := zp_cf_pos hC d (i + 1) a c' h
      exact ⟨a', by omega, h2⟩
def zp_cs (A C : Nat → Int32) (V M : Int32) (w k n g : Nat) : Option Int32 := if zp_sy A w k (V ^^^ nI g) n = M then zp_cf C (nI g) n 0 0 else none
def zp_v : Option Int32 → Int32
  | none => -5
  | some c => c
theorem zp_cs_pos {A C : Nat → Int32} {V M : Int32} {w k n g : Nat} {c : Int32} (hC : ∀ j, C j = -1 ∨ ∃ c : Nat, c ≤ 1000 ∧ C j = nI c) (h : zp_cs A C V M w k n g = some c) : ∃ a : Nat, a ≤ 1000 * n ∧ c = nI a := by
  unfold zp_cs at h
  by_cases hs : zp_sy A w k (V ^^^ nI g) n = M
  · rw [if_pos hs, ← nI_0] at h
    obtain ⟨a, h1, h2⟩ := zp_cf_pos hC n 0 0 c h
    exact ⟨a, by omega, h2⟩
  · rw [if_neg hs] at h
    exact nomatch h
/-! ===== the search ===== -/
def zp_st (o : Option Int32) (g : Nat) (q : Option (Int32 × Nat)) : Option (Int32 × Nat) :=
  match o, q with
  | none, q => q
  | some c, none => some (c, g)
  | some c, some (l, b) => if c < l then some (c, g) else some (l, b)
theorem zp_st_n (g : Nat) (q : Option (Int32 × Nat)) : zp_st none g q = q := rfl
theorem zp_st_0 (c : Int32) (g : Nat) : zp_st (some c) g none = some (c, g) := rfl
theorem zp_st_1 (c : Int32) (g : Nat) (l : Int32) (b : Nat) : zp_st (some c) g (some (l, b)) = if c < l then some (c, g) else some (l, b) := rfl
def zp_ll (f : Nat → Option Int32) : Nat → Option (Int32 × Nat)
  | 0 => none
  | g + 1 => zp_st (f g) g (zp_ll f g)
def zp_cn (f : Nat → Option Int32) (l : Int32) : Nat → Nat
  | 0 => 0
  | g + 1 => zp_cn f l g + (if f g = some l then 1 else 0)
theorem zp_ll_none {f : Nat → Option Int32} : ∀ {g : Nat}, zp_ll f g = none → ∀ j, j < g → f j = none
  | 0, _, j, hj => by omega
  | g + 1, h, j, hj => by
    have e : zp_st (f g) g (zp_ll f g) = none := h
    have hg : f g = none ∧ zp_ll f g = none := by
      revert e
      cases hf : f g with
      | none => exact fun e => ⟨rfl, e⟩
      | some c =>
        cases hl : zp_ll f g with
        | none =>
          intro e
          rw [zp_st_0] at e
          exact nomatch e
        | some p =>
          obtain ⟨l, b⟩ := p
          intro e
          rw [zp_st_1] at e
          by_cases z : c < l
          · rw [if_pos z] at e; exact nomatch e
          · rw [if_neg z] at e; exact nomatch e
    rcases Nat.lt_or_ge j g with z | z
    · exact zp_ll_none hg.2 j z
    · have : j = g := by omega
      subst this
      exact hg.1
theorem zp_ll_some {f : Nat → Option Int32} : ∀ {g : Nat} {l : Int32} {b : Nat}, zp_ll f g = some (l, b) → (b < g ∧ f b = some l) ∧ ∀ j, j < g → ∀ c, f j = some c → ¬ c < l
  | 0, l, b, h => by
    have h' : (none : Option (Int32 × Nat)) = some (l, b) := h
    exact nomatch h'
  | g + 1, l, b, h => by
    have e : zp_st (f g) g (zp_ll f g) = some (l, b) := h
    cases hf : f g with
    | none =>
      rw [hf] at e
      obtain ⟨⟨h1, h2⟩, h3⟩ := zp_ll_some (g := g) (l := l) (b := b) e
      refine ⟨⟨by omega, h2⟩, fun j hj c hc => ?_⟩
      rcases Nat.lt_or_ge j g with z | z
      · exact h3 j z c hc
      · have : j = g := by omega
        subst this
        rw [hf] at hc
        exact nomatch hc
    | some c0 =>
      cases hl : zp_ll f g with
      | none =>
        rw [hf, hl] at e
        have e' : some (c0, g) = some (l, b) := e
        have e1 : c0 = l := congrArg Prod.fst (Option.some.inj e')
        have e2 : g = b := congrArg Prod.snd (Option.some.inj e')
        subst e1 e2
        refine ⟨⟨by omega, hf⟩, fun j hj c hc => ?_⟩
        rcases Nat.lt_or_ge j g with z | z
        · rw [zp_ll_none hl j z] at hc
          exact nomatch hc
        · have : j = g := by omega
          subst this
          rw [hf] at hc
          rw [← Option.some.inj hc]
          exact Int32.lt_irrefl
      | some p =>
        obtain ⟨l0, b0⟩ := p
        rw [hf, hl] at e
        have e' : (if c0 < l0 then some (c0, g) else some (l0, b0)) = some (l, b) := e
        obtain ⟨⟨h1, h2⟩, h3⟩ := zp_ll_some hl
        by_cases z : c0 < l0
        · rw [if_pos z] at e'
          have e1 : c0 = l := congrArg Prod.fst (Option.some.inj e')
          have e2 : g = b := congrArg Prod.snd (Option.some.inj e')
          subst e1 e2
          refine ⟨⟨by omega, hf⟩, fun j hj c hc => ?_⟩
          rcases Nat.lt_or_ge j g with y | y
          · exact fun q => h3 j y c hc (Int32.lt_trans q z)
          · have : j = g := by omega
            subst this
            rw [hf] at hc
            rw [← Option.some.inj hc]
            exact Int32.lt_irrefl
        · rw [if_neg z] at e'
          have e1 : l0 = l := congrArg Prod.fst (Option.some.inj e')
          have e2 : b0 = b := congrArg Prod.snd (Option.some.inj e')
          subst e1 e2
          refine ⟨⟨by omega, h2⟩, fun j hj c hc => ?_⟩
          rcases Nat.lt_or_ge j g with y | y
          · exact h3 j y c hc
          · have : j = g := by omega
            subst this
            rw [hf] at hc
            rw [← Option.some.inj hc]
            exact z
theorem zp_cn_0 {f : Nat → Option Int32} {l : Int32} : ∀ {g : Nat}, (∀ j, j < g → f j ≠ some l) → zp_cn f l g = 0
  | 0, _ => rfl
  | g + 1, h => by
    have h1 := zp_cn_0 (f := f) (l := l) (g := g) (fun j hj => h j (by omega))
    have h2 : (if f g = some l then 1 else 0) = 0 := if_neg (h g (by omega))
    show zp_cn f l g + (if f g = some l then 1 else 0) = 0
    omega
theorem zp_cn_le (f : Nat → Option Int32) (l : Int32) : ∀ g, zp_cn f l g ≤ g
  | 0 => Nat.le_refl _
  | g + 1 => by
    have ih := zp_cn_le f l g
    rw [zp_cn]
    split <;> omega
/-! ===== costs are never negative ===== -/
theorem zp_m5 {a : Nat} (h : a < 2 ^ 31) : ¬ nI a = -5 := fun e => nI_pos h (by rw [e]; decide)
def zp_pos (f : Nat → Option Int32) : Prop := ∀ g c, f g = some c → ∃ a : Nat, a ≤ 10000 ∧ c = nI a
theorem zp_cs_P {A C : Nat → Int32} {V M : Int32} {w k n : Nat} (hC : ∀ j, C j = -1 ∨ ∃ c : Nat, c ≤ 1000 ∧ C j = nI c) (hn : n ≤ 10) : zp_pos (zp_cs A C V M w k n) := by
  intro g c h
  obtain ⟨a, h1, h2⟩ := zp_cs_pos hC h
  exact ⟨a, by omega, h2⟩
theorem zp_pos5 {f : Nat → Option Int32} {g : Nat} {c : Int32} (P : zp_pos f) (h : f g = some c) : ¬ c = -5 := by
  obtain ⟨a, h1, rfl⟩ := P g c h
  exact zp_m5 (by omega)
theorem zp_pos0 {f : Nat → Option Int32} {g : Nat} {c : Int32} (P : zp_pos f) (h : f g = some c) : ¬ c < 0 := by
  obtain ⟨a, h1, rfl⟩ := P g c h
  exact nI_pos (by omega)
theorem zp_n50 : (-5 : Int32) < 0 := by decide
/-- the least cost that a search has met -/
def zp_lv : Option (Int32 × Nat) → Int32
  | none => -5
  | some (l, _) => l
def zp_fi (f : Nat → Option Int32) (p : Nat → Bool) (g : Nat) : Option Int32 := if p g = true then f g else none
theorem zp_fi_P {f : Nat → Option Int32} {p : Nat → Bool} (P : zp_pos f) : zp_pos (zp_fi f p) := by
  intro g c h
  unfold zp_fi at h
  by_cases z : p g = true
  · rw [if_pos z] at h
    exact P g c h
  · rw [if_neg z] at h
    exact nomatch h
theorem zp_ll_n {f : Nat → Option Int32} {g : Nat} (h : f g = none) : zp_ll f (g + 1) = zp_ll f g := by
  show zp_st (f g) g (zp_ll f g) = _
  rw [h, zp_st_n]
theorem zp_ll_0 {f : Nat → Option Int32} {g : Nat} {c : Int32} (h : f g = some c) (h2 : zp_ll f g = none) : zp_ll f (g + 1) = some (c, g) := by
  show zp_st (f g) g (zp_ll f g) = _
  rw [h, h2, zp_st_0]
theorem zp_ll_t {f : Nat → Option Int32} {g : Nat} {c l : Int32} {b : Nat} (h : f g = some c) (h2 : zp_ll f g = some (l, b)) (z : c < l) : zp_ll f (g + 1) = some (c, g) := by
  show zp_st (f g) g (zp_ll f g) = _
  rw [h, h2, zp_st_1, if_pos z]
theorem zp_ll_f {f : Nat → Option Int32} {g : Nat} {c l : Int32} {b : Nat} (h : f g = some c) (h2 : zp_ll f g = some (l, b)) (z : ¬ c < l) : zp_ll f (g + 1) = some (l, b) := by
  show zp_st (f g) g (zp_ll f g) = _
  rw [h, h2, zp_st_1, if_neg z]
theorem zp_cn_t {f : Nat → Option Int32} {g : Nat} {c : Int32} (h : f g = some c) : zp_cn f c (g + 1) = zp_cn f c g + 1 := by
  show zp_cn f c g + (if f g = some c then 1 else 0) = _
  rw [if_pos h]
theorem zp_cn_f {f : Nat → Option Int32} {g : Nat} {l : Int32} (h : f g ≠ some l) : zp_cn f l (g + 1) = zp_cn f l g := by
  show zp_cn f l g + (if f g = some l then 1 else 0) = _
  rw [if_neg h, Nat.add_zero]
end
section
section
variable {h w l n k : Nat} {V M pr al re lc cn : Int32} {A C : Nat → Int32}
theorem zx_bitAt {post : Int32 → Prop} {v : Int32} (i : Nat) (hi : i < 32) (hp : post (zb (bt v i))) : wpX_bitAt post v (nI i) := by
  rw [← zb_bit v i hi] at hp
  exact hp
theorem zx_below {post : Int32 → Prop} {a b : Int32} (h0 : (a < 0 ∨ b ≤ a) → post 0) (h1 : ¬ a < 0 → ¬ b ≤ a → post 1) : wpX_isBelow post a b :=
  br_c (fun z => h0 (Or.inl z)) (fun z => br_c (fun y => h0 (Or.inr y)) (fun y => h1 z y))
theorem zx_cost {post : Int32 → Prop} {a : Int32} (h0 : ¬ a = -1 → (a < 0 ∨ 1001 ≤ a) → post 0) (h1 : (a = -1 ∨ (¬ a < 0 ∧ ¬ 1001 ≤ a)) → post 1) : wpX_isCost post a :=
  br_c (fun z => h1 (Or.inl z)) (fun z => zx_below (fun y => br_t rfl (h0 z y)) (fun y1 y2 => br_f (by decide) (h1 (Or.inr ⟨y1, y2⟩))))
theorem zx_ready {post : Int32 → Prop} (hw : w ≤ 3) (hk : k ≤ 10) (hn : n ≤ 10) (h1 : 1 ≤ k → n = w * k → post 1) (h0 : ¬ (1 ≤ k ∧ n = w * k) → post 0) : wpX_isReady post (nI h, nI w, nI l, V, nI n, M, nI k, pr, al, re, lc, cn, A, C) := by
  have hm : w * k ≤ 3 * 10 := Nat.mul_le_mul hw hk
  refine pk_lt k 1 (fun z => h0 (by omega)) (fun z => ?_)
  rw [pk_mul]
  exact pk_eq n (w * k) (fun e => h1 z e) (fun e => h0 (fun t => e t.2))
theorem zx_mc {post : Int32 → Prop} (hw1 : 0 < w) (hw3 : w ≤ 3) (i : Nat) (hi : i < 32) (hp : post (zp_mc A w k i)) : wpX_matrixColumn post (nI h, nI w, nI l, V, nI n, M, nI k, pr, al, re, lc, cn, A, C) (nI i) := by
  have e1 : nI i / nI w = nI (i / w) := pk_div (by omega) hw1 (by omega)
  have e2 : nI i - nI (i / w) * nI w = nI (i % w) := by rw [← e1]; exact pk_rem (by omega) hw1 (by omega)
  have hm : i % w < 3 := Nat.lt_of_lt_of_le (Nat.mod_lt _ hw1) hw3
  refine ⟨nI_ne0 hw1 (by omega), nm_r e1 ?_⟩
  rw [e2]
  refine ⟨vp_in_nI hm (by omega), ?_⟩
  rw [nI_clamp (by omega)]
  exact nm_e (nm_e hp)
theorem zx_sy {post : Int32 → Prop} {v : Int32} (hw1 : 0 < w) (hw3 : w ≤ 3) (hn : n ≤ 10) (hp : post (zp_sy A w k v n)) : wpX_syndromeOf post (nI h, nI w, nI l, V, nI n, M, nI k, pr, al, re, lc, cn, A, C) v :=
  pk_loop (fun f i s => wX_syndromeOf_4 post v (nI h) (nI w) (nI l) V (nI n) M (nI k) pr al re lc cn A C f s (nI i)) (fun i s => s = zp_sy A w k v i) n 0 0 (by omega) rfl
    (fun f s e => pk_le n n (fun _ => by rw [e]; exact hp) (fun z => absurd z (by omega)))
    (fun f i s hi e hs => pk_le n i (fun z => absurd z (by omega)) (fun _ => zx_bitAt i (by omega) (by
      by_cases hb : bt v i = true
      · exact br_t (zb_is1.mpr hb) (zx_mc hw1 hw3 i (by omega) (nm_e (nm_r (nI_1 i) (hs _ (by rw [e, zp_sy, if_pos hb])))))
      · exact br_f (fun z => hb (zb_is1.mp z)) (nm_r (nI_1 i) (hs _ (by rw [e, zp_sy, if_neg hb]))))))
theorem zx_cf {post : Int32 → Prop} (hn : n ≤ 10) (g : Nat) : ∀ d i c, i + d = n → post (zp_v (zp_cf C (nI g) d i c)) → wX_solutionCost_27 post (nI g) (nI h) (nI w) (nI l) V (nI n) M (nI k) pr al re lc cn A C (d + 1) c (nI i)
  | 0, i, c, hi, hp => pk_le n i (fun _ => hp) (fun z => absurd z (by omega))
  | d + 1, i, c, hi, hp => pk_le n i (fun z => absurd z (by omega)) (fun _ => zx_bitAt i (by omega) (by
      rw [zp_cf] at hp
      by_cases hb : bt (nI g) i = true
      · rw [if_pos hb] at hp
        refine br_t (zb_is1.mpr hb) ⟨vp_in_nI (by omega) (by omega), ?_⟩
        rw [nI_clamp (by omega)]
        by_cases hw : C i = -1
        · rw [if_pos hw] at hp
          exact br_t hw hp
        · rw [if_neg hw] at hp
          exact br_f hw ⟨vp_in_nI (by omega) (by omega), nm_e (nm_r (nI_1 i) (zx_cf hn g d (i + 1) _ (by omega) hp))⟩
      · rw [if_neg hb] at hp
        exact br_f (fun z => hb (zb_is1.mp z)) (nm_r (nI_1 i) (zx_cf hn g d (i + 1) c (by omega) hp))))
theorem zx_sc {post : Int32 → Prop} (hw1 : 0 < w) (hw3 : w ≤ 3) (hn : n ≤ 10) (g : Nat) (hp : post (zp_v (zp_cs A C V M w k n g))) : wpX_solutionCost post (nI h, nI w, nI l, V, nI n, M, nI k, pr, al, re, lc, cn, A, C) (nI g) := by
  refine zx_sy hw1 hw3 hn ?_
  unfold zp_cs at hp
  by_cases hs : zp_sy A w k (V ^^^ nI g) n = M
  · rw [if_pos hs] at hp
    exact br_t hs ⟨n + 1, zx_cf hn g n 0 0 (by omega) hp⟩
  · rw [if_neg hs] at hp
    exact br_f hs hp
theorem zx_lesser {post : Int32 → Prop} {a b : Int32} (h1 : a = -5 → post b) (h2 : ¬ a = -5 → b = -5 → post a) (h3 : ¬ a = -5 → ¬ b = -5 → a < b → post a) (h4 : ¬ a = -5 → ¬ b = -5 → ¬ a < b → post b) : wpX_lesserCost post a b :=
  br_c (fun z => h1 z) (fun z => br_c (fun y => h2 z y) (fun y => br_c (fun t => h4 z y (Int32.not_lt.mpr t)) (fun t => h3 z y (Int32.not_le.mp t))))
end
end
section
section
variable {h w n k : Nat} {V M pr al re lc cn : Int32} {A x C m : Nat → Int32}
theorem zy_mul (a b : Bool) : zb a * zb b = nI (a.toNat * b.toNat) := by cases a <;> cases b <;> decide +kernel
theorem zy_entry {post : Int32 → Prop} (hh1 : 1 ≤ h) (hh : h ≤ 4) (hw1 : 0 < w) (hw3 : w ≤ 3) (hA : ∀ j, ∃ c : Nat, c < 2 ^ h ∧ A j = nI c) (r i : Nat) (hr : r < 32) (hi : i < 32) (hp : post (zb (zp_e A w i r))) : wpY_entry post (nI h, nI w, nI n, nI k, pr, al, re, lc, cn, A, x, C, m) (nI r) (nI i) := by
  have e1 : nI i / nI w = nI (i / w) := pk_div (by omega) hw1 (by omega)
  have e2 : nI i - nI (i / w) * nI w = nI (i % w) := by rw [← e1]; exact pk_rem (by omega) hw1 (by omega)
  have hb : i / w ≤ i := Nat.div_le_self i w
  have hm : i % w < 3 := Nat.lt_of_lt_of_le (Nat.mod_lt _ hw1) hw3
  have e3 : nI (i / w) + nI h - 1 = nI (i / w + h - 1) := by rw [nI_add]; exact pk_sub (b := 1) (Nat.le_trans hh1 (Nat.le_add_left h (i / w)))
  unfold zp_e at hp
  refine ⟨nI_ne0 hw1 (by omega), nm_r e1 (nm_r e2 ?_)⟩
  refine pk_lt r (i / w) (fun z => ?_) (fun z => ?_)
  · rw [decide_eq_false (by omega), Bool.false_and] at hp
    exact hp
  · rw [decide_eq_true z, Bool.true_and] at hp
    rw [e3]
    refine pk_le r (i / w + h - 1) (fun y => ⟨vp_in_nI hm (by omega), ?_⟩) (fun y => ?_)
    · rw [nI_clamp (by omega), pk_sub z, zb_bit _ _ (Nat.lt_of_le_of_lt (Nat.sub_le r (i / w)) hr)]
      exact hp
    · obtain ⟨c, hc, e⟩ := hA (i % w)
      rw [e, zb_nIf hc (by omega)] at hp
      exact hp
theorem zy_sb {post : Int32 → Prop} {v : Int32} (hh1 : 1 ≤ h) (hh : h ≤ 4) (hw1 : 0 < w) (hw3 : w ≤ 3) (hA : ∀ j, ∃ c : Nat, c < 2 ^ h ∧ A j = nI c) (hn : n ≤ 10) (r : Nat) (hr : r < 32) (hp : post (zb (zp_pr A w v r n))) : wpY_syndromeBit post (nI h, nI w, nI n, nI k, pr, al, re, lc, cn, A, x, C, m) v (nI r) :=
  pk_loop (fun f i s => wY_syndromeBit_5 post v (nI r) (nI h) (nI w) (nI n) (nI k) pr al re lc cn A x C m f s (nI i)) (fun i s => s = nI (zp_sm A w v r i)) n 0 0 (by omega) rfl
    (fun f s e => pk_le n n (fun _ => by rw [e, zp_sm_a hn]; exact hp) (fun z => absurd z (by omega)))
    (fun f i s hi e hs => pk_le n i (fun z => absurd z (by omega)) (fun _ => zy_entry hh1 hh hw1 hw3 hA r i hr (by omega) (nm_e (nm_r (nI_1 i) (hs _ (by rw [zb_bit v i (by omega), zy_mul, e, nI_add]; rfl))))))
theorem zy_vo_s {s : Int32} {B : Nat → Bool} {i : Nat} (hi : i < 10) (hs : ∀ t, t < 32 → bt s t = (decide (t < i) && B t)) : ∀ t, t < 32 → bt (s ||| (zb (B i) <<< (nI i &&& 31))) t = (decide (t < i + 1) && B t) := by
  intro t ht
  rw [b_or, hs t ht, b_shl i (by omega) _ ht, zb_bt _ _ (by omega)]
  rcases Nat.lt_trichotomy t i with z | z | z
  · rw [decide_eq_true z, decide_eq_true (show t < i + 1 by omega), decide_eq_false (show ¬ i ≤ t by omega), Bool.false_and, Bool.or_false]
  · subst z
    rw [decide_eq_false (show ¬ t < t by omega), decide_eq_true (show t < t + 1 by omega), decide_eq_true (show t ≤ t by omega), decide_eq_true (show t - t = 0 by omega), Bool.false_and, Bool.false_or, Bool.true_and, Bool.and_true, Bool.true_and]
  · rw [decide_eq_false (show ¬ t < i by omega), decide_eq_false (show ¬ t < i + 1 by omega), decide_eq_false (show ¬ t - i = 0 by omega), Bool.and_false, Bool.and_false, Bool.false_and, Bool.or_false]
theorem zy_vo {post : Int32 → Prop} (hn : n ≤ 10) (hx : ∀ i, i < n → x i = zb (bt V i)) (hV : ∀ i, n ≤ i → bt V i = false) (g : Nat) (hg : g < 2 ^ n) (hp : post (V ^^^ nI g)) : wpY_vectorOf post (nI h, nI w, nI n, nI k, pr, al, re, lc, cn, A, x, C, m) (nI g) :=
  pk_loop (fun f i s => wY_vectorOf_4 post (nI g) (nI h) (nI w) (nI n) (nI k) pr al re lc cn A x C m f s (nI i)) (fun i s => ∀ t, t < 32 → bt s t = (decide (t < i) && bt (V ^^^ nI g) t)) n 0 0 (by omega) (fun t _ => by rw [b_0, decide_eq_false (by omega), Bool.false_and])
    (fun f s e => pk_le n n (fun _ => by
      have es : s = V ^^^ nI g := by
        apply b_ext
        intro t ht
        rw [e t ht]
        rcases Nat.lt_or_ge t n with z | z
        · rw [decide_eq_true z, Bool.true_and]
        · rw [b_xor, hV t z, zb_nIf hg z, Bool.xor_false, Bool.and_false]
      rw [es]
      exact hp) (fun z => absurd z (by omega)))
    (fun f i s hi e hs => pk_le n i (fun z => absurd z (by omega)) (fun _ => ⟨vp_in_nI (by omega) (by omega), by
      rw [nI_clamp (by omega), hx i hi, zb_bit _ i (by omega), zb_xor, ← b_xor]
      exact nm_e (nm_r (nI_1 i) (hs _ (zy_vo_s (B := bt (V ^^^ nI g)) (by omega) e)))⟩))
theorem zy_r {post : Int32 → Prop} {c v : Int32} (hh1 : 1 ≤ h) (hh : h ≤ 4) (hw1 : 0 < w) (hw3 : w ≤ 3) (hA : ∀ j, ∃ c : Nat, c < 2 ^ h ∧ A j = nI c) (hn : n ≤ 10) (hk : k ≤ 10) (hm : ∀ r, r < k → m r = zb (bt M r)) (hM : ∀ r, k ≤ r → bt M r = false)
    (hp : post (zp_v (if zp_sy A w k v n = M then some c else none))) : ∀ d r, r + d = k → (∀ t, t < r → zp_pr A w v t n = bt M t) → wY_costOf_58 post c v (nI h) (nI w) (nI n) (nI k) pr al re lc cn A x C m (d + 1) (nI r)
  | 0, r, hr, ht => pk_le k r (fun _ => by
      rw [if_pos ((zp_sy_m hk hn hM).mpr (fun t z => ht t (by omega)))] at hp
      exact hp) (fun z => absurd z (by omega))
  | d + 1, r, hr, ht => pk_le k r (fun z => absurd z (by omega)) (fun _ => zy_sb hh1 hh hw1 hw3 hA hn r (by omega) ⟨vp_in_nI (by omega) (by omega), by
      rw [nI_clamp (by omega), hm r (by omega)]
      by_cases e : zp_pr A w v r n = bt M r
      · refine br_t (by rw [e]) (nm_r (nI_1 r) (zy_r hh1 hh hw1 hw3 hA hn hk hm hM hp d (r + 1) (by omega) (fun t z => ?_)))
        rcases Nat.lt_or_ge t r with y | y
        · exact ht t y
        · have : t = r := by omega
          subst this
          exact e
      · refine br_f (fun z => e (zb_inj z)) ?_
        rw [if_neg (fun z => e ((zp_sy_m hk hn hM).mp z r (by omega)))] at hp
        exact hp⟩)
theorem zy_cf {post : Int32 → Prop} (hh1 : 1 ≤ h) (hh : h ≤ 4) (hw1 : 0 < w) (hw3 : w ≤ 3) (hA : ∀ j, ∃ c : Nat, c < 2 ^ h ∧ A j = nI c) (hn : n ≤ 10) (hk : k ≤ 10) (hx : ∀ i, i < n → x i = zb (bt V i)) (hV : ∀ i, n ≤ i → bt V i = false) (hm : ∀ r, r < k → m r = zb (bt M r)) (hM : ∀ r, k ≤ r → bt M r = false)
    (g : Nat) (hg : g < 2 ^ n) : ∀ d i c, i + d = n → post (zp_v (if zp_sy A w k (V ^^^ nI g) n = M then zp_cf C (nI g) d i c else none)) → wY_costOf_4 post (nI g) (nI h) (nI w) (nI n) (nI k) pr al re lc cn A x C m (d + 1) c (nI i)
  | 0, i, c, hi, hp => pk_le n i (fun _ => zy_vo hn hx hV g hg ⟨k + 1, zy_r hh1 hh hw1 hw3 hA hn hk hm hM hp k 0 (by omega) (fun t z => absurd z (by omega))⟩) (fun z => absurd z (by omega))
  | d + 1, i, c, hi, hp => pk_le n i (fun z => absurd z (by omega)) (fun _ => by
      rw [zb_bit _ i (by omega)]
      rw [zp_cf] at hp
      by_cases hb : bt (nI g) i = true
      · rw [if_pos hb] at hp
        refine br_t (zb_is1.mpr hb) ⟨vp_in_nI (by omega) (by omega), ?_⟩
        rw [nI_clamp (by omega)]
        by_cases hw : C i = -1
        · rw [if_pos hw, ite_self] at hp
          exact br_t hw hp
        · rw [if_neg hw] at hp
          exact br_f hw ⟨vp_in_nI (by omega) (by omega), nm_e (nm_r (nI_1 i) (zy_cf hh1 hh hw1 hw3 hA hn hk hx hV hm hM g hg d (i + 1) _ (by omega) hp))⟩
      · rw [if_neg hb] at hp
        exact br_f (fun z => hb (zb_is1.mp z)) (nm_r (nI_1 i) (zy_cf hh1 hh hw1 hw3 hA hn hk hx hV hm hM g hg d (i + 1) c (by omega) hp)))
theorem zy_cs {post : Int32 → Prop} (hh1 : 1 ≤ h) (hh : h ≤ 4) (hw1 : 0 < w) (hw3 : w ≤ 3) (hA : ∀ j, ∃ c : Nat, c < 2 ^ h ∧ A j = nI c) (hn : n ≤ 10) (hk : k ≤ 10) (hx : ∀ i, i < n → x i = zb (bt V i)) (hV : ∀ i, n ≤ i → bt V i = false) (hm : ∀ r, r < k → m r = zb (bt M r)) (hM : ∀ r, k ≤ r → bt M r = false)
    (g : Nat) (hg : g < 2 ^ n) (hp : post (zp_v (zp_cs A C V M w k n g))) : wpY_costOf post (nI h, nI w, nI n, nI k, pr, al, re, lc, cn, A, x, C, m) (nI g) :=
  ⟨n + 1, zy_cf hh1 hh hw1 hw3 hA hn hk hx hV hm hM g hg n 0 0 (by omega) hp⟩
theorem zy_ready {post : Int32 → Prop} (hw : w ≤ 3) (hk : k ≤ 10) (hn : n ≤ 10) (h1 : 1 ≤ k → n = w * k → post 1) (h0 : ¬ (1 ≤ k ∧ n = w * k) → post 0) : wpY_ready post (nI h, nI w, nI n, nI k, pr, al, re, lc, cn, A, x, C, m) := by
  have hm : w * k ≤ 3 * 10 := Nat.mul_le_mul hw hk
  refine pk_lt k 1 (fun z => h0 (by omega)) (fun z => ?_)
  rw [pk_mul]
  exact pk_eq n (w * k) (fun e => h1 z e) (fun e => h0 (fun t => e t.2))
end
end
section
section
variable {h w l n k N : Nat} {V M pr al re lc cn : Int32} {A C x m : Nat → Int32}
theorem zb_10 : ¬ (1 : Int32) = 0 := by decide
theorem zx_weigh {post : SX → Prop} {g : Nat} {c : Int32}
    (h1 : pr = 0 ∨ c < lc → post (nI h, nI w, nI l, V, nI n, M, nI k, 1, V ^^^ nI g, V ^^^ nI g, c, 1, A, C))
    (h2 : ¬ pr = 0 → c = lc → post (nI h, nI w, nI l, V, nI n, M, nI k, pr, al, re, lc, cn + 1, A, C))
    (h3 : ¬ pr = 0 → ¬ c < lc → ¬ c = lc → post (nI h, nI w, nI l, V, nI n, M, nI k, pr, al, re, lc, cn, A, C)) : wpX_weighSolution post (nI h, nI w, nI l, V, nI n, M, nI k, pr, al, re, lc, cn, A, C) (nI g) c :=
  br_c (fun z => nm_e (h1 (Or.inl z))) (fun z => br_c (fun y => br_c (fun t => nm_e (h2 z t)) (fun t => h3 z (Int32.not_lt.mpr y) t)) (fun y => nm_e (h1 (Or.inr (Int32.not_le.mp y)))))
theorem zx_embL {post : Int32 → SX → Prop} {F : Nat → Option Int32} (hw1 : 0 < w) (hw3 : w ≤ 3) (hn : n ≤ 10) (hN : N ≤ 1024) (hF : zp_cs A C V M w k n = F) (P : zp_pos F)
    (h5 : zp_ll F N = none → post (-5) (nI h, nI w, nI l, V, nI n, M, nI k, 0, al, re, lc, cn, A, C))
    (h0 : ∀ c b, zp_ll F N = some (c, b) → post 0 (nI h, nI w, nI l, V, nI n, M, nI k, 1, V ^^^ nI b, V ^^^ nI b, c, nI (zp_cn F c N), A, C)) :
    ∃ f, wX_embed_24 post (nI N) f 0 (nI h) (nI w) (nI l) V (nI n) M (nI k) 0 al re lc cn A C :=
  pk_loop (fun f g (s : Int32 × Int32 × Int32 × Int32 × Int32) => wX_embed_24 post (nI N) f (nI g) (nI h) (nI w) (nI l) V (nI n) M (nI k) s.1 s.2.1 s.2.2.1 s.2.2.2.1 s.2.2.2.2 A C)
    (fun g s => (zp_ll F g = none ∧ s = (0, al, re, lc, cn)) ∨ ∃ c b, zp_ll F g = some (c, b) ∧ s = (1, V ^^^ nI b, V ^^^ nI b, c, nI (zp_cn F c g)))
    N 0 (0, al, re, lc, cn) (Nat.zero_le _) (Or.inl ⟨rfl, rfl⟩)
    (fun f s I => pk_le N N (fun _ => by
      rcases I with ⟨e, rfl⟩ | ⟨c, b, e, rfl⟩
      · exact br_t rfl (h5 e)
      · exact br_f zb_10 (h0 c b e)) (fun z => absurd z (by omega)))
    (fun f g s hg I hs => pk_le N g (fun z => absurd z (by omega)) (fun _ => by
      rcases I with ⟨e, rfl⟩ | ⟨l', b, e, rfl⟩
      · refine zx_sc hw1 hw3 hn g ?_
        rw [hF]
        cases hf : F g with
        | none => exact br_t rfl (nm_r (nI_1 g) (hs (0, al, re, lc, cn) (Or.inl ⟨(zp_ll_n hf).trans e, rfl⟩)))
        | some c =>
          have e1 : zp_cn F c (g + 1) = 1 := by rw [zp_cn_t hf, zp_cn_0 (fun j hj => by rw [zp_ll_none e j hj]; exact nofun)]
          exact br_f (zp_pos5 P hf) (zx_weigh (fun _ => nm_r (nI_1 g) (hs (1, V ^^^ nI g, V ^^^ nI g, c, 1) (Or.inr ⟨c, g, zp_ll_0 hf e, by rw [e1]; rfl⟩))) (fun z => absurd rfl z) (fun z => absurd rfl z))
      · refine zx_sc hw1 hw3 hn g ?_
        rw [hF]
        cases hf : F g with
        | none => exact br_t rfl (nm_r (nI_1 g) (hs (1, V ^^^ nI b, V ^^^ nI b, l', nI (zp_cn F l' g)) (Or.inr ⟨l', b, (zp_ll_n hf).trans e, by rw [zp_cn_f (by rw [hf]; exact nofun)]⟩)))
        | some c =>
          refine br_f (zp_pos5 P hf) (zx_weigh (fun z => ?_) (fun _ z => ?_) (fun _ z1 z2 => ?_))
          · have z' : c < l' := z.resolve_left zb_10
            have e1 : zp_cn F c (g + 1) = 1 := by rw [zp_cn_t hf, zp_cn_0 (fun j hj t => (zp_ll_some e).2 j hj c t z')]
            exact nm_r (nI_1 g) (hs (1, V ^^^ nI g, V ^^^ nI g, c, 1) (Or.inr ⟨c, g, zp_ll_t hf e z', by rw [e1]; rfl⟩))
          · subst z
            exact nm_r (nI_1 g) (hs (1, V ^^^ nI b, V ^^^ nI b, c, nI (zp_cn F c g) + 1) (Or.inr ⟨c, b, zp_ll_f hf e Int32.lt_irrefl, by rw [zp_cn_t hf, nI_1]⟩))
          · exact nm_r (nI_1 g) (hs (1, V ^^^ nI b, V ^^^ nI b, l', nI (zp_cn F l' g)) (Or.inr ⟨l', b, zp_ll_f hf e z1, by rw [zp_cn_f (by rw [hf]; exact fun t => z2 (Option.some.inj t))]⟩))))
theorem zx_embed {post : Int32 → SX → Prop} {F : Nat → Option Int32} (hw1 : 0 < w) (hw3 : w ≤ 3) (hn : n ≤ 10) (hk : k ≤ 10) (hN : 2 ^ n = N) (hF : zp_cs A C V M w k n = F) (P : zp_pos F)
    (h4 : ¬ (1 ≤ k ∧ n = w * k) → post (-4) (nI h, nI w, nI l, V, nI n, M, nI k, pr, al, re, lc, cn, A, C))
    (h5 : 1 ≤ k → n = w * k → zp_ll F N = none → post (-5) (nI h, nI w, nI l, V, nI n, M, nI k, 0, al, re, lc, cn, A, C))
    (h0 : 1 ≤ k → n = w * k → ∀ c b, zp_ll F N = some (c, b) → post 0 (nI h, nI w, nI l, V, nI n, M, nI k, 1, V ^^^ nI b, V ^^^ nI b, c, nI (zp_cn F c N), A, C)) : wpX_embed post (nI h, nI w, nI l, V, nI n, M, nI k, pr, al, re, lc, cn, A, C) := by
  have hN' : N ≤ 1024 := by rw [← hN]; exact Nat.pow_le_pow_right (by decide) hn
  unfold wpX_embed
  dsimp only
  refine zx_ready hw3 hk hn ?_ ?_
  · intro r1 r2
    exact br_f zb_10 (nm_r ((zb_pow n (by omega)).trans (by rw [hN])) (zx_embL hw1 hw3 hn hN' hF P (h5 r1 r2) (h0 r1 r2)))
  · intro r
    exact br_t rfl (h4 r)
end
end
section
section
variable {h w l n k N : Nat} {V M pr al re lc cn : Int32} {A C x m : Nat → Int32}
def zr_ok (h w n k : Nat) (V M : Int32) (A C x m : Nat → Int32) : Prop :=
  1 ≤ h ∧ h ≤ 4 ∧ 0 < w ∧ w ≤ 3 ∧ n ≤ 10 ∧ k ≤ 10 / w ∧ (∀ j, ∃ c : Nat, c < 2 ^ h ∧ A j = nI c) ∧ (∀ j, C j = -1 ∨ ∃ c : Nat, c ≤ 1000 ∧ C j = nI c) ∧ (∀ i, i < n → x i = zb (bt V i)) ∧ (∀ i, n ≤ i → bt V i = false) ∧ (∀ r, r < k → m r = zb (bt M r)) ∧ (∀ r, k ≤ r → bt M r = false)
theorem zr_k {a b : Nat} (h : a ≤ 10 / b) : a ≤ 10 := Nat.le_trans h (Nat.div_le_self 10 b)
theorem zr_cs {post : Int32 → Prop} (R : zr_ok h w n k V M A C x m) (g : Nat) (hg : g < 2 ^ n) (hp : post (zp_v (zp_cs A C V M w k n g))) : wpY_costOf post (nI h, nI w, nI n, nI k, pr, al, re, lc, cn, A, x, C, m) (nI g) := by
  obtain ⟨r1, r2, r3, r4, r5, r6, r7, r8, r9, r10, r11, r12⟩ := R
  exact zy_cs r1 r2 r3 r4 r7 r5 (zr_k r6) r9 r10 r11 r12 g hg hp
theorem zr_vo {post : Int32 → Prop} (R : zr_ok h w n k V M A C x m) (g : Nat) (hg : g < 2 ^ n) (hp : post (V ^^^ nI g)) : wpY_vectorOf post (nI h, nI w, nI n, nI k, pr, al, re, lc, cn, A, x, C, m) (nI g) := by
  obtain ⟨r1, r2, r3, r4, r5, r6, r7, r8, r9, r10, r11, r12⟩ := R
  exact zy_vo r5 r9 r10 g hg hp
theorem zr_P (R : zr_ok h w n k V M A C x m) : zp_pos (zp_cs A C V M w k n) := by
  obtain ⟨r1, r2, r3, r4, r5, r6, r7, r8, r9, r10, r11, r12⟩ := R
  exact zp_cs_P r8 r5
theorem zr_N (R : zr_ok h w n k V M A C x m) : 2 ^ n ≤ 1024 := by
  obtain ⟨r1, r2, r3, r4, r5, r6, r7, r8, r9, r10, r11, r12⟩ := R
  exact Nat.pow_le_pow_right (by decide) r5
theorem zp_v_is {o : Option Int32} {c : Int32} (hc : ¬ c = -5) (h : zp_v o = c) : o = some c := by
  cases o with
  | none => exact absurd h.symm hc
  | some d => exact congrArg some h
theorem zy_emb2 {post : Int32 → SY → Prop} {F : Nat → Option Int32} (R : zr_ok h w n k V M A C x m) (hN : 2 ^ n = N) (hF : zp_cs A C V M w k n = F) {c : Int32} (hc : ¬ c = -5) (b : Nat) (hb : b < N)
    (hp : post 0 (nI h, nI w, nI n, nI k, 1, V ^^^ nI b, V ^^^ nI b, c, nI (zp_cn F c N), A, x, C, m)) :
    ∃ f, wY_embed_86 post (nI N) (nI b) c (nI h) (nI w) (nI n) (nI k) pr al re lc A x C m f 0 0 := by
  have hN' : N ≤ 1024 := by rw [← hN]; exact zr_N R
  exact pk_loop (fun f g s => wY_embed_86 post (nI N) (nI b) c (nI h) (nI w) (nI n) (nI k) pr al re lc A x C m f (nI g) s) (fun g s => s = nI (zp_cn F c g)) N 0 0 (Nat.zero_le _) rfl
    (fun f s e => pk_le N N (fun _ => zr_vo R b (by omega) (by rw [e]; exact hp)) (fun z => absurd z (by omega)))
    (fun f g s hg e hs => pk_le N g (fun z => absurd z (by omega)) (fun _ => zr_cs R g (by omega) (by
      rw [hF]
      by_cases hf : F g = some c
      · exact br_t (by rw [hf]; rfl) (nm_r (show s + 1 = nI (zp_cn F c g + 1) by rw [e, nI_1]) (nm_r (nI_1 g) (hs _ (by rw [zp_cn_t hf]))))
      · exact br_f (fun z => hf (zp_v_is hc z)) (nm_r (nI_1 g) (hs s (by rw [e, zp_cn_f hf]))))))
theorem zy_emb1 {post : Int32 → SY → Prop} {F : Nat → Option Int32} (R : zr_ok h w n k V M A C x m) (hN : 2 ^ n = N) (hF : zp_cs A C V M w k n = F) (P : zp_pos F)
    (h5 : zp_ll F N = none → post (-5) (nI h, nI w, nI n, nI k, 0, al, re, lc, cn, A, x, C, m))
    (h0 : ∀ c b, zp_ll F N = some (c, b) → post 0 (nI h, nI w, nI n, nI k, 1, V ^^^ nI b, V ^^^ nI b, c, nI (zp_cn F c N), A, x, C, m)) :
    ∃ f, wY_embed_30 post (nI N) (nI h) (nI w) (nI n) (nI k) 0 al re lc cn A x C m f 0 (-5) 0 := by
  have hN' : N ≤ 1024 := by rw [← hN]; exact zr_N R
  exact pk_loop (fun f g (s : Int32 × Int32) => wY_embed_30 post (nI N) (nI h) (nI w) (nI n) (nI k) 0 al re lc cn A x C m f s.1 s.2 (nI g)) (fun g s => (zp_ll F g = none ∧ s = (0, -5)) ∨ ∃ c b, zp_ll F g = some (c, b) ∧ s = (nI b, c)) N 0 (0, -5) (Nat.zero_le _) (Or.inl ⟨rfl, rfl⟩)
    (fun f s I => pk_le N N (fun _ => by
      rcases I with ⟨e, rfl⟩ | ⟨c, b, e, rfl⟩
      · exact br_f (by decide) (h5 e)
      · have t := zp_ll_some e
        exact br_t (Int32.not_lt.mp (zp_pos0 P t.1.2)) (zy_emb2 R hN hF (zp_pos5 P t.1.2) b t.1.1 (h0 c b e))) (fun z => absurd z (by omega)))
    (fun f g s hg I hs => pk_le N g (fun z => absurd z (by omega)) (fun _ => zr_cs R g (by omega) (by
      rw [hF]
      rcases I with ⟨e, rfl⟩ | ⟨c', b, e, rfl⟩
      · cases hf : F g with
        | none => exact br_t zp_n50 (nm_r (nI_1 g) (hs (0, -5) (Or.inl ⟨(zp_ll_n hf).trans e, rfl⟩)))
        | some c => exact br_f (zp_pos0 P hf) (br_t zp_n50 (nm_r (nI_1 g) (hs (nI g, c) (Or.inr ⟨c, g, zp_ll_0 hf e, rfl⟩))))
      · cases hf : F g with
        | none => exact br_t zp_n50 (nm_r (nI_1 g) (hs (nI b, c') (Or.inr ⟨c', b, (zp_ll_n hf).trans e, rfl⟩)))
        | some c => exact br_f (zp_pos0 P hf) (br_f (zp_pos0 P (zp_ll_some e).1.2) (br_c (fun z => nm_r (nI_1 g) (hs (nI b, c') (Or.inr ⟨c', b, zp_ll_f hf e (Int32.not_lt.mpr z), rfl⟩))) (fun z => nm_r (nI_1 g) (hs (nI g, c) (Or.inr ⟨c, g, zp_ll_t hf e (Int32.not_le.mp z), rfl⟩))))))))
theorem zy_embed {post : Int32 → SY → Prop} {F : Nat → Option Int32} (R : zr_ok h w n k V M A C x m) (hN : 2 ^ n = N) (hF : zp_cs A C V M w k n = F) (P : zp_pos F)
    (h4 : ¬ (1 ≤ k ∧ n = w * k) → post (-4) (nI h, nI w, nI n, nI k, pr, al, re, lc, cn, A, x, C, m))
    (h5 : 1 ≤ k → n = w * k → zp_ll F N = none → post (-5) (nI h, nI w, nI n, nI k, 0, al, re, lc, cn, A, x, C, m))
    (h0 : 1 ≤ k → n = w * k → ∀ c b, zp_ll F N = some (c, b) → post 0 (nI h, nI w, nI n, nI k, 1, V ^^^ nI b, V ^^^ nI b, c, nI (zp_cn F c N), A, x, C, m)) : wpY_embed post (nI h, nI w, nI n, nI k, pr, al, re, lc, cn, A, x, C, m) := by
  have R' := R
  obtain ⟨r1, r2, r3, r4, r5, r6, r7, r8, r9, r10, r11, r12⟩ := R'
  unfold wpY_embed
  dsimp only
  refine zy_ready r4 (zr_k r6) r5 ?_ ?_
  · intro q1 q2
    exact br_f zb_10 (nm_r ((zb_pow n (by omega)).trans (by rw [hN])) (zy_emb1 R hN hF P (h5 q1 q2) (h0 q1 q2)))
  · intro q
    exact br_t rfl (h4 q)
/-! ===== forcedCost ===== -/
theorem zx_les {post : Int32 → Prop} {G : Nat → Option Int32} {g : Nat} (P : zp_pos G) (hp : post (zp_lv (zp_ll G (g + 1)))) : wpX_lesserCost post (zp_lv (zp_ll G g)) (zp_v (G g)) := by
  cases hq : zp_ll G g with
  | none =>
    cases ho : G g with
    | none =>
      rw [zp_ll_n ho, hq] at hp
      exact br_t rfl hp
    | some c =>
      rw [zp_ll_0 ho hq] at hp
      exact br_t rfl hp
  | some p =>
    obtain ⟨l', b⟩ := p
    have n5 : ¬ l' = -5 := zp_pos5 P (zp_ll_some hq).1.2
    cases ho : G g with
    | none =>
      rw [zp_ll_n ho, hq] at hp
      exact br_f n5 (br_t rfl hp)
    | some c =>
      refine br_f n5 (br_f (zp_pos5 P ho) ?_)
      by_cases z : c < l'
      · rw [zp_ll_t ho hq z] at hp
        exact br_t (Int32.le_of_lt z) hp
      · rw [zp_ll_f ho hq z] at hp
        refine br_c (fun y => ?_) (fun _ => hp)
        rw [show zp_v (some c) = l' from Int32.le_antisymm y (Int32.not_lt.mp z)]
        exact hp
theorem zx_fcL {post : Int32 → Prop} {G : Nat → Option Int32} (hw1 : 0 < w) (hw3 : w ≤ 3) (hn : n ≤ 10) (hN : N ≤ 1024) (i : Nat) (hi : i < n) (t : Bool) (hG : zp_fi (zp_cs A C V M w k n) (fun g => bt (nI g) i == t) = G) (P : zp_pos G) (hp : post (zp_lv (zp_ll G N))) :
    ∃ f, wX_forcedCost_58 post (nI i) (zb t) (nI N) (nI h) (nI w) (nI l) V (nI n) M (nI k) pr al re lc cn A C f (-5) 0 :=
  pk_loop (fun f g s => wX_forcedCost_58 post (nI i) (zb t) (nI N) (nI h) (nI w) (nI l) V (nI n) M (nI k) pr al re lc cn A C f s (nI g)) (fun g s => s = zp_lv (zp_ll G g)) N 0 (-5) (Nat.zero_le _) rfl
    (fun f s e => pk_le N N (fun _ => by rw [e]; exact hp) (fun z => absurd z (by omega)))
    (fun f g s hg e hs => pk_le N g (fun z => absurd z (by omega)) (fun _ => zx_bitAt i (by omega) (by
      by_cases hb : bt (nI g) i = t
      · refine br_t (by rw [hb]) (zx_sc hw1 hw3 hn g ?_)
        have e2 : zp_cs A C V M w k n g = G g := by
          rw [← hG]
          unfold zp_fi
          rw [if_pos (by show (bt (nI g) i == t) = true; rw [hb]; exact beq_self_eq_true t)]
        rw [e2, e]
        exact zx_les P (nm_r (nI_1 g) (hs _ rfl))
      · refine br_f (fun z => hb (zb_inj z)) (nm_r (nI_1 g) (hs _ ?_))
        have e2 : G g = none := by
          rw [← hG]
          unfold zp_fi
          rw [if_neg (fun z => hb (eq_of_beq z))]
        rw [zp_ll_n e2, e])))
theorem zy_fb (a b c : Bool) : (a ^^ b) = c ↔ b = (a ^^ c) := by cases a <;> cases b <;> cases c <;> decide
theorem zy_fcL {post : Int32 → Prop} {F G : Nat → Option Int32} (R : zr_ok h w n k V M A C x m) (hN : 2 ^ n = N) (hF : zp_cs A C V M w k n = F) (P : zp_pos F) (i : Nat) (hi : i < n) (b : Bool) (hG : zp_fi F (fun g => bt (nI g) i == (bt V i ^^ b)) = G) (hp : post (zp_lv (zp_ll G N))) :
    ∃ f, wY_forcedCost_48 post (nI i) (zb b) (nI N) (nI h) (nI w) (nI n) (nI k) pr al re lc cn A x C m f (-5) 0 := by
  have hN' : N ≤ 1024 := by rw [← hN]; exact zr_N R
  have hn : n ≤ 10 := R.2.2.2.2.1
  have PG : zp_pos G := by rw [← hG]; exact zp_fi_P P
  refine pk_loop (fun f g s => wY_forcedCost_48 post (nI i) (zb b) (nI N) (nI h) (nI w) (nI n) (nI k) pr al re lc cn A x C m f s (nI g)) (fun g s => s = zp_lv (zp_ll G g)) N 0 (-5) (Nat.zero_le _) rfl
    (fun f s e => pk_le N N (fun _ => by rw [e]; exact hp) (fun z => absurd z (by omega)))
    (fun f g s hg e hs => pk_le N g (fun z => absurd z (by omega)) (fun _ => zr_cs R g (by omega) (zr_vo R g (by omega) ?_)))
  rw [hF, zb_bit _ i (by omega), b_xor]
  have hGg : G g = if (bt (nI g) i == (bt V i ^^ b)) = true then F g else none := by rw [← hG]; rfl
  cases hf : F g with
  | none =>
    have e2 : G g = none := by rw [hGg, hf, ite_self]
    exact br_t zp_n50 (nm_r (nI_1 g) (hs _ (by rw [zp_ll_n e2, e])))
  | some c =>
    refine br_f (zp_pos0 P hf) ?_
    by_cases hb : bt (nI g) i = (bt V i ^^ b)
    · refine br_t (by rw [(zy_fb _ _ _).mpr hb]) ?_
      have e2 : G g = some c := by rw [hGg, if_pos (by rw [hb]; exact beq_self_eq_true _), hf]
      rw [e]
      cases hq : zp_ll G g with
      | none => exact br_t zp_n50 (nm_r (nI_1 g) (hs _ (by rw [zp_ll_0 e2 hq]; rfl)))
      | some p =>
        obtain ⟨l', b'⟩ := p
        exact br_f (zp_pos0 PG (zp_ll_some hq).1.2) (br_c (fun z => nm_r (nI_1 g) (hs _ (by rw [zp_ll_f e2 hq (Int32.not_lt.mpr z)]))) (fun z => nm_r (nI_1 g) (hs _ (by rw [zp_ll_t e2 hq (Int32.not_le.mp z)]; rfl))))
    · have e2 : G g = none := by rw [hGg, if_neg (fun z => hb (eq_of_beq z))]
      exact br_f (fun z => hb ((zy_fb _ _ _).mp (zb_inj z))) (nm_r (nI_1 g) (hs _ (by rw [zp_ll_n e2, e])))
end
end
section
def i_Rel (_ : Nat) (u : SX) (v : SY) : Prop := ∃ (h w n k : Nat) (V M pr al re lc cn : Int32) (A C x m : Nat → Int32),
  u = (nI h, nI w, nI (10 / w), V, nI n, M, nI k, pr, al, re, lc, cn, A, C) ∧ v = (nI h, nI w, nI n, nI k, pr, al, re, lc, cn, A, x, C, m) ∧ zr_ok h w n k V M A C x m
section
variable {h w n k K : Nat} {V M pr al re lc cn : Int32} {A C x m : Nat → Int32}
theorem zi_mk (R : zr_ok h w n k V M A C x m) : i_Rel K (nI h, nI w, nI (10 / w), V, nI n, M, nI k, pr, al, re, lc, cn, A, C) (nI h, nI w, nI n, nI k, pr, al, re, lc, cn, A, x, C, m) := ⟨h, w, n, k, V, M, pr, al, re, lc, cn, A, C, x, m, rfl, rfl, R⟩
/-! ===== the constructor ===== -/
theorem zi_cl (a : Int32) (B : Nat) (h1 : 1 ≤ B) (hB : B < 2 ^ 31) : ∃ j : Nat, 1 ≤ j ∧ j ≤ B ∧ ∀ Z : Int32 → Prop, Z (nI j) → ((1 ≤ a → ((a ≤ nI B → Z a) ∧ (¬ a ≤ nI B → Z (nI B)))) ∧ (¬ 1 ≤ a → Z 1)) := by
  by_cases z1 : (1 : Int32) ≤ a
  · have z0 : ¬ a < 0 := Int32.not_lt.mpr (Int32.le_trans (by decide) z1)
    by_cases z2 : a ≤ nI B
    · obtain ⟨j, hj, rfl⟩ := nI_of z0
      have g1 : 1 ≤ j := (nI_leI (a := 1) (by decide) hj).mp z1
      have g2 : j ≤ B := (nI_leI hj hB).mp z2
      exact ⟨j, g1, g2, fun Z hZ => br_t z1 (br_t z2 hZ)⟩
    · exact ⟨B, h1, Nat.le_refl _, fun Z hZ => br_t z1 (br_f z2 hZ)⟩
  · exact ⟨1, Nat.le_refl _, h1, fun Z hZ => br_f z1 hZ⟩
def zi_A : Nat → Nat → Int32
  | 0 => fun _ => 0
  | i + 1 => upd (zi_A i) i 1
theorem zi_A01 : ∀ i j, zi_A i j = nI 0 ∨ zi_A i j = nI 1
  | 0, j => Or.inl rfl
  | i + 1, j => by
    show upd (zi_A i) i 1 j = nI 0 ∨ upd (zi_A i) i 1 j = nI 1
    by_cases e : j = i
    · rw [e, pk_us]
      exact Or.inr rfl
    · rw [pk_un e]
      exact zi_A01 i j
theorem zi_x {post : SX → Prop} {l : Int32} (hp : post (nI h, nI w, l, 0, 0, 0, 0, 0, 0, 0, 0, 0, zi_A 3, (fun _ => 0))) : ∃ f, wX_init_97 post (nI h) (nI w) l 0 0 0 0 0 0 0 0 0 f 0 (fun _ => 0) (fun _ => 0) :=
  pk_loop (fun f i s => wX_init_97 post (nI h) (nI w) l 0 0 0 0 0 0 0 0 0 f (nI i) s (fun _ => 0)) (fun i s => s = zi_A i) 3 0 (fun _ => 0) (by omega) rfl
    (fun f s e => pk_le 3 3 (fun _ => by rw [e]; exact hp) (fun z => absurd z (by omega)))
    (fun f i s hi e hs => pk_le 3 i (fun z => absurd z (by omega)) (fun _ => ⟨vp_in_nI hi (by omega), nm_e (nm_r (nI_1 i) (hs _ (by rw [nI_clamp (by omega), e]; rfl)))⟩))
theorem zi_y {post : SY → Prop} (hp : post (nI h, nI w, 0, 0, 0, 0, 0, 0, 0, zi_A 3, (fun _ => 0), (fun _ => 0), (fun _ => 0))) : ∃ f, wY_init_118 post (nI h) (nI w) 0 0 0 0 0 0 0 f 0 (fun _ => 0) (fun _ => 0) (fun _ => 0) (fun _ => 0) :=
  pk_loop (fun f i s => wY_init_118 post (nI h) (nI w) 0 0 0 0 0 0 0 f (nI i) s (fun _ => 0) (fun _ => 0) (fun _ => 0)) (fun i s => s = zi_A i) 3 0 (fun _ => 0) (by omega) rfl
    (fun f s e => pk_le 3 3 (fun _ => by rw [e]; exact hp) (fun z => absurd z (by omega)))
    (fun f i s hi e hs => pk_le 3 i (fun z => absurd z (by omega)) (fun _ => ⟨vp_in_nI hi (by omega), nm_e (nm_r (nI_1 i) (hs _ (by rw [nI_clamp (by omega), e]; rfl)))⟩))
theorem zi_xi {post : SX → Prop} {a b : Int32} (w1 : 1 ≤ w) (w3 : w ≤ 3)
    (H : ∀ Z : Int32 → Prop, Z (nI h) → ((1 ≤ a → ((a ≤ nI 4 → Z a) ∧ (¬ a ≤ nI 4 → Z (nI 4)))) ∧ (¬ 1 ≤ a → Z 1)))
    (W : ∀ Z : Int32 → Prop, Z (nI w) → ((1 ≤ b → ((b ≤ nI 3 → Z b) ∧ (¬ b ≤ nI 3 → Z (nI 3)))) ∧ (¬ 1 ≤ b → Z 1)))
    (hp : post (nI h, nI w, nI (10 / w), 0, 0, 0, 0, 0, 0, 0, 0, 0, zi_A 3, (fun _ => 0))) : wpX_init post a b := by
  have e : (10 : Int32) / nI w = nI (10 / w) := pk_div (a := 10) (by decide) w1 (by omega)
  exact H (fun r1 => wpX_clamp (fun r2 => ¬ r2 = 0 ∧ ∀ y : Int32, y = 10 / r2 → ∃ f, wX_init_97 post r1 r2 y 0 0 0 0 0 0 0 0 0 f 0 (fun _ => 0) (fun _ => 0)) b 1 3)
    (W (fun r2 => ¬ r2 = 0 ∧ ∀ y : Int32, y = 10 / r2 → ∃ f, wX_init_97 post (nI h) r2 y 0 0 0 0 0 0 0 0 0 f 0 (fun _ => 0) (fun _ => 0)) ⟨nI_ne0 w1 (by omega), nm_r e (zi_x hp)⟩)
theorem zi_yi {post : SY → Prop} {a b : Int32}
    (H : ∀ Z : Int32 → Prop, Z (nI h) → ((1 ≤ a → ((a ≤ nI 4 → Z a) ∧ (¬ a ≤ nI 4 → Z (nI 4)))) ∧ (¬ 1 ≤ a → Z 1)))
    (W : ∀ Z : Int32 → Prop, Z (nI w) → ((1 ≤ b → ((b ≤ nI 3 → Z b) ∧ (¬ b ≤ nI 3 → Z (nI 3)))) ∧ (¬ 1 ≤ b → Z 1)))
    (hp : post (nI h, nI w, 0, 0, 0, 0, 0, 0, 0, zi_A 3, (fun _ => 0), (fun _ => 0), (fun _ => 0))) : wpY_init post a b :=
  H (fun z => wY_init_90 post b z 0 0 0 0 0 0 0 0 0 (fun _ => 0) (fun _ => 0) (fun _ => 0) (fun _ => 0))
    (W (fun z => ∃ f, wY_init_118 post (nI h) z 0 0 0 0 0 0 0 f 0 (fun _ => 0) (fun _ => 0) (fun _ => 0) (fun _ => 0)) (zi_y hp))
theorem zi_ok0 (h1 : 1 ≤ h) (h4 : h ≤ 4) (w1 : 1 ≤ w) (w3 : w ≤ 3) : zr_ok h w 0 0 0 0 (zi_A 3) (fun _ => 0) (fun _ => 0) (fun _ => 0) := by
  have hp : 1 < 2 ^ h := Nat.one_lt_two_pow (by omega)
  refine ⟨h1, h4, w1, w3, by omega, Nat.zero_le _, fun j => ?_, fun j => Or.inr ⟨0, by omega, rfl⟩, fun i hi => absurd hi (by omega), fun i _ => b_0 i, fun i hi => absurd hi (by omega), fun i _ => b_0 i⟩
  rcases zi_A01 3 j with e | e
  · exact ⟨0, by omega, e⟩
  · exact ⟨1, hp, e⟩
/-! ===== appending a bit ===== -/
theorem zi_app {b : Bool} {v : Int32} (hn : n < 32) (hV : ∀ i, n ≤ i → bt v i = false) (t : Nat) : bt (v ||| (zb b <<< (nI n &&& 31))) t = if t = n then b else bt v t := by
  rcases Nat.lt_or_ge t 32 with z | z
  · rw [b_or, b_shl n hn _ z, zb_bt _ _ (by omega)]
    by_cases e : t = n
    · subst e
      rw [if_pos rfl, hV t (Nat.le_refl t), decide_eq_true (Nat.le_refl t), decide_eq_true (Nat.sub_self t), Bool.false_or, Bool.true_and, Bool.and_true]
    · rw [if_neg e]
      by_cases e2 : n ≤ t
      · rw [decide_eq_false (show ¬ t - n = 0 by omega), Bool.and_false, Bool.and_false, Bool.or_false]
      · rw [decide_eq_false e2, Bool.false_and, Bool.or_false]
  · rw [b_big z, if_neg (by omega), b_big z]
theorem zi_app1 {b : Bool} {v : Int32} {y : Nat → Int32} (hn : n < 32) (hV : ∀ i, n ≤ i → bt v i = false) (hy : ∀ i, i < n → y i = zb (bt v i)) : ∀ i, i < n + 1 → upd y n (zb b) i = zb (bt (v ||| (zb b <<< (nI n &&& 31))) i) := by
  intro i hi
  rw [zi_app hn hV]
  by_cases e : i = n
  · rw [e, pk_us, if_pos rfl]
  · rw [pk_un e, if_neg e, hy i (by omega)]
theorem zi_app2 {b : Bool} {v : Int32} (hn : n < 32) (hV : ∀ i, n ≤ i → bt v i = false) : ∀ i, n + 1 ≤ i → bt (v ||| (zb b <<< (nI n &&& 31))) i = false := by
  intro i hi
  rw [zi_app hn hV, if_neg (by omega)]
  exact hV i (by omega)
theorem zi_b2 {b : Nat} (h : b < 2) : ∃ β : Bool, nI b = zb β := by
  rcases (show b = 0 ∨ b = 1 by omega) with rfl | rfl
  · exact ⟨false, rfl⟩
  · exact ⟨true, rfl⟩
theorem zi_upC {p : Int32} (hC : ∀ j, C j = -1 ∨ ∃ c : Nat, c ≤ 1000 ∧ C j = nI c) (hp : p = -1 ∨ ∃ c : Nat, c ≤ 1000 ∧ p = nI c) (q : Nat) : ∀ j, upd C q p j = -1 ∨ ∃ c : Nat, c ≤ 1000 ∧ upd C q p j = nI c := by
  intro j
  by_cases e : j = q
  · rw [e, pk_us]
    exact hp
  · rw [pk_un e]
    exact hC j
theorem zi_cost (a : Int32) : ((a = -1 ∨ ∃ c : Nat, c ≤ 1000 ∧ a = nI c) ∧ (∀ post : Int32 → Prop, post 1 → wpX_isCost post a) ∧ (∀ post : Int32 → Prop, post 0 → wpY_badCost post (nI h, nI w, nI n, nI k, pr, al, re, lc, cn, A, x, C, m) a)) ∨ ((∀ post : Int32 → Prop, post 0 → wpX_isCost post a) ∧ (∀ post : Int32 → Prop, post 1 → wpY_badCost post (nI h, nI w, nI n, nI k, pr, al, re, lc, cn, A, x, C, m) a)) := by
  by_cases z : a = -1
  · exact Or.inl ⟨Or.inl z, fun post hp => br_t z hp, fun post hp => br_t z hp⟩
  · by_cases z0 : a < 0
    · exact Or.inr ⟨fun post hp => br_f z (br_t z0 (br_t rfl hp)), fun post hp => br_f z (br_t z0 hp)⟩
    · obtain ⟨c, hc, rfl⟩ := nI_of z0
      by_cases g : c ≤ 1000
      · have g1 : ¬ (1001 : Int32) ≤ nI c := nI_ge (b := 1001) (by omega) (by decide)
        have g2 : nI c ≤ (1000 : Int32) := nI_le (b := 1000) g (by decide)
        exact Or.inl ⟨Or.inr ⟨c, g, rfl⟩, fun post hp => br_f z (br_f z0 (br_f g1 (br_f (by decide) hp))), fun post hp => br_f z (br_f z0 (br_t g2 hp))⟩
      · have g1 : (1001 : Int32) ≤ nI c := nI_le (a := 1001) (by omega) hc
        have g2 : ¬ nI c ≤ (1000 : Int32) := nI_ge (a := 1000) (by omega) hc
        exact Or.inr ⟨fun post hp => br_f z (br_f z0 (br_t g1 (br_t rfl hp))), fun post hp => br_f z (br_f z0 (br_f g2 hp))⟩
theorem zi_lim {post : Int32 → SY → Prop} {p : Int32} (w1 : 0 < w) (w3 : w ≤ 3) (H : wY_addMessage_26 post p (nI (10 / w)) (nI h) (nI w) (nI n) (nI k) pr al re lc cn A x C m) : wpY_addMessage post (nI h, nI w, nI n, nI k, pr, al, re, lc, cn, A, x, C, m) p := by
  rcases (show w = 1 ∨ w = 2 ∨ w = 3 by omega) with rfl | rfl | rfl
  · exact br_t rfl H
  · exact br_f (by decide) (br_t rfl H)
  · exact br_f (by decide) (br_f (by decide) H)
end
end
section
theorem i_up {k : Nat} {u : SX} {v : SY} (h : i_Rel k u v) : i_Rel (k + 3) u v := h
theorem i_vc0 (k0 : Int32) (k1 : Int32) : wpX_init (fun u => wpY_init (fun v => i_Rel 2 u v) k0 k1) k0 k1 := by
  obtain ⟨h, h1, h4, H⟩ := zi_cl k0 4 (by decide) (by decide)
  obtain ⟨w, w1, w3, W⟩ := zi_cl k1 3 (by decide) (by decide)
  exact zi_xi w1 w3 H W (zi_yi H W (zi_mk (n := 0) (k := 0) (K := 2) (zi_ok0 h1 h4 w1 w3)))
theorem i_vc_loadColumn {k : Nat} {u : SX} {v : SY} (I : i_Rel k u v) (hk : k + 3 ≤ 1538) (v1 : Int32) (v2 : Int32) : wpX_loadColumn (fun r u' => wpY_loadColumn (fun r' v' => r' = r ∧ i_Rel (k + 3) u' v') v v1 v2) u v1 v2 := by
  obtain ⟨h, w, n, k', V, M, pr, al, re, lc, cn, A, C, x, m, rfl, rfl, R⟩ := I
  have R' := R
  obtain ⟨r1, r2, r3, r4, r5, r6, r7, r8, r9, r10, r11, r12⟩ := R'
  have eh : (1 : Int32) <<< (nI h &&& 31) = nI (2 ^ h) := zb_pow h (by omega)
  have hh : 2 ^ h ≤ 2 ^ 4 := Nat.pow_le_pow_right (by decide) r2
  by_cases z0 : v1 < 0
  · exact br_t z0 (br_t rfl (br_t z0 ⟨rfl, zi_mk R⟩))
  · by_cases z1 : nI w ≤ v1
    · exact br_f z0 (br_t z1 (br_t rfl (br_f z0 (br_t z1 ⟨rfl, zi_mk R⟩))))
    · by_cases z2 : v2 < 0
      · exact br_f z0 (br_f z1 (br_f zb_10 (br_t z2 (br_t rfl (br_f z0 (br_f z1 (br_t z2 ⟨rfl, zi_mk R⟩)))))))
      · by_cases z3 : (1 : Int32) <<< (nI h &&& 31) ≤ v2
        · exact br_f z0 (br_f z1 (br_f zb_10 (br_f z2 (br_t z3 (br_t rfl (br_f z0 (br_f z1 (br_f z2 (br_f (Int32.not_lt.mpr z3) ⟨rfl, zi_mk R⟩)))))))))
        · obtain ⟨j, hj, rfl⟩ := nI_of z0
          obtain ⟨c, hc, rfl⟩ := nI_of z2
          have hjw : j < w := by
            rw [nI_leI (by omega) hj] at z1
            omega
          have hc2 : c < 2 ^ h := by
            have z4 := z3
            rw [eh, nI_leI (by omega) hc] at z4
            omega
          have hi : vp_in (nI j) 3 := vp_in_nI (by omega) (by omega)
          have e : (nI j).toNatClampNeg = j := nI_clamp hj
          refine br_f z0 (br_f z1 (br_f zb_10 (br_f z2 (br_f z3 (br_f zb_10 ⟨hi, nm_e (br_f z0 (br_f z1 (br_f z2 (br_t (Int32.not_le.mp z3) ⟨hi, nm_e ⟨rfl, zi_mk ?_⟩⟩))))⟩)))))
          refine ⟨r1, r2, r3, r4, r5, r6, fun i => ?_, r8, r9, r10, r11, r12⟩
          by_cases ei : i = (nI j).toNatClampNeg
          · exact ⟨c, hc2, by rw [ei, pk_us]⟩
          · rw [pk_un ei]
            exact r7 i
theorem i_vc_columnBits {k : Nat} {u : SX} {v : SY} (I : i_Rel k u v) (hk : k + 3 ≤ 1538) (v1 : Int32) : wpX_columnBits (fun r => wpY_columnBits (fun r' => r' = r ∧ i_Rel (k + 3) u v) v v1) u v1 := by
  obtain ⟨h, w, n, k', V, M, pr, al, re, lc, cn, A, C, x, m, rfl, rfl, R⟩ := I
  have R' := R
  obtain ⟨r1, r2, r3, r4, r5, r6, r7, r8, r9, r10, r11, r12⟩ := R'
  by_cases z0 : v1 < 0
  · exact br_t z0 (br_t rfl (br_t z0 ⟨rfl, zi_mk R⟩))
  · by_cases z1 : nI w ≤ v1
    · exact br_f z0 (br_t z1 (br_t rfl (br_f z0 (br_f (Int32.not_lt.mpr z1) ⟨rfl, zi_mk R⟩))))
    · have hi : vp_in v1 3 := by
        obtain ⟨j, hj, rfl⟩ := nI_of z0
        rw [nI_leI (by omega) hj] at z1
        exact vp_in_nI (by omega) (by omega)
      exact br_f z0 (br_f z1 (br_f zb_10 ⟨hi, br_f z0 (br_t (Int32.not_le.mp z1) ⟨hi, rfl, zi_mk R⟩)⟩))
theorem i_vc_addCover {k : Nat} {u : SX} {v : SY} (I : i_Rel k u v) (hk : k + 3 ≤ 1538) (v1 : Int32) (v2 : Int32) : wpX_addCover (fun r u' => wpY_addCover (fun r' v' => r' = r ∧ i_Rel (k + 3) u' v') v v1 v2) u v1 v2 := by
  obtain ⟨h, w, n, k', V, M, pr, al, re, lc, cn, A, C, x, m, rfl, rfl, R⟩ := I
  have R' := R
  obtain ⟨r1, r2, r3, r4, r5, r6, r7, r8, r9, r10, r11, r12⟩ := R'
  by_cases hn : n < 10
  · have y : nI n < 10 := nI_lt (b := 10) hn (by decide)
    by_cases z0 : v1 < 0
    · exact br_t y (br_t z0 (br_t rfl (br_t y (br_t z0 ⟨rfl, zi_mk R⟩))))
    · obtain ⟨b, hb, rfl⟩ := nI_of z0
      by_cases hb2 : b < 2
      · have z1 : ¬ (2 : Int32) ≤ nI b := nI_ge (b := 2) hb2 (by decide)
        have z2 : ¬ (1 : Int32) < nI b := nI_nlt (b := b) (a := 1) (by omega) (by decide)
        rcases zi_cost (h := h) (w := w) (n := n) (k := k') (pr := pr) (al := al) (re := re) (lc := lc) (cn := cn) (A := A) (C := C) (x := x) (m := m) v2 with ⟨g, gX, gY⟩ | ⟨gX, gY⟩
        · obtain ⟨β, hβ⟩ := zi_b2 hb2
          have e : (nI n).toNatClampNeg = n := nI_clamp (by omega)
          have hi : vp_in (nI n) 10 := vp_in_nI hn (by omega)
          refine br_t y (br_f z0 (br_f z1 (br_f zb_10 (gX _ (br_f zb_10 (nm_e ⟨hi, nm_e (nm_r (nI_1 n) (br_t y (br_f z0 (br_f z2 (gY _ (br_t rfl ⟨hi, nm_e ⟨hi, nm_e (nm_r (nI_1 n) ⟨rfl, ?_⟩)⟩⟩))))))⟩))))))
          rw [e, hβ]
          exact zi_mk ⟨r1, r2, r3, r4, by omega, r6, r7, zi_upC r8 g n, zi_app1 (by omega) r10 r9, zi_app2 (by omega) r10, r11, r12⟩
        · exact br_t y (br_f z0 (br_f z1 (br_f zb_10 (gX _ (br_t rfl (br_t y (br_f z0 (br_f z2 (gY _ (br_f zb_10 ⟨rfl, zi_mk R⟩))))))))))
      · have z1 : (2 : Int32) ≤ nI b := nI_le (a := 2) (by omega) hb
        have z2 : (1 : Int32) < nI b := nI_lt (a := 1) (by omega) hb
        exact br_t y (br_f z0 (br_t z1 (br_t rfl (br_t y (br_f z0 (br_t z2 ⟨rfl, zi_mk R⟩))))))
  · have y : ¬ nI n < 10 := nI_nlt (b := 10) (by omega) (by omega)
    exact br_f y (br_f y ⟨rfl, zi_mk R⟩)
theorem i_vc_setCost {k : Nat} {u : SX} {v : SY} (I : i_Rel k u v) (hk : k + 3 ≤ 1538) (v1 : Int32) (v2 : Int32) : wpX_setCost (fun r u' => wpY_setCost (fun r' v' => r' = r ∧ i_Rel (k + 3) u' v') v v1 v2) u v1 v2 := by
  obtain ⟨h, w, n, k', V, M, pr, al, re, lc, cn, A, C, x, m, rfl, rfl, R⟩ := I
  have R' := R
  obtain ⟨r1, r2, r3, r4, r5, r6, r7, r8, r9, r10, r11, r12⟩ := R'
  by_cases z0 : v1 < 0
  · exact br_t z0 (br_t rfl (br_t z0 ⟨rfl, zi_mk R⟩))
  · by_cases z1 : nI n ≤ v1
    · exact br_f z0 (br_t z1 (br_t rfl (br_f z0 (br_t z1 ⟨rfl, zi_mk R⟩))))
    · have hi : vp_in v1 10 := by
        obtain ⟨j, hj, rfl⟩ := nI_of z0
        rw [nI_leI (by omega) hj] at z1
        exact vp_in_nI (by omega) (by omega)
      rcases zi_cost (h := h) (w := w) (n := n) (k := k') (pr := pr) (al := al) (re := re) (lc := lc) (cn := cn) (A := A) (C := C) (x := x) (m := m) v2 with ⟨g, gX, gY⟩ | ⟨gX, gY⟩
      · exact br_f z0 (br_f z1 (br_f zb_10 (gX _ (br_f zb_10 ⟨hi, nm_e (br_f z0 (br_f z1 (gY _ (br_t rfl ⟨hi, nm_e ⟨rfl, zi_mk ⟨r1, r2, r3, r4, r5, r6, r7, zi_upC r8 g _, r9, r10, r11, r12⟩⟩⟩))))⟩))))
      · exact br_f z0 (br_f z1 (br_f zb_10 (gX _ (br_t rfl (br_f z0 (br_f z1 (gY _ (br_f zb_10 ⟨rfl, zi_mk R⟩))))))))
theorem i_vc_addMessage {k : Nat} {u : SX} {v : SY} (I : i_Rel k u v) (hk : k + 3 ≤ 1538) (v1 : Int32) : wpX_addMessage (fun r u' => wpY_addMessage (fun r' v' => r' = r ∧ i_Rel (k + 3) u' v') v v1) u v1 := by
  obtain ⟨h, w, n, k', V, M, pr, al, re, lc, cn, A, C, x, m, rfl, rfl, R⟩ := I
  have R' := R
  obtain ⟨r1, r2, r3, r4, r5, r6, r7, r8, r9, r10, r11, r12⟩ := R'
  have hd : 10 / w ≤ 10 := Nat.div_le_self 10 w
  by_cases hn : k' < 10 / w
  · have y : nI k' < nI (10 / w) := nI_lt hn (by omega)
    by_cases z0 : v1 < 0
    · exact br_t y (br_t z0 (br_t rfl (zi_lim r3 r4 (br_t y (br_t z0 ⟨rfl, zi_mk R⟩)))))
    · obtain ⟨b, hb, rfl⟩ := nI_of z0
      by_cases hb2 : b < 2
      · have z1 : ¬ (2 : Int32) ≤ nI b := nI_ge (b := 2) hb2 (by decide)
        have z2 : nI b ≤ (1 : Int32) := nI_le (b := 1) (by omega) (by decide)
        obtain ⟨β, hβ⟩ := zi_b2 hb2
        have e : (nI k').toNatClampNeg = k' := nI_clamp (by omega)
        have hi : vp_in (nI k') 10 := vp_in_nI (by omega) (by omega)
        refine br_t y (br_f z0 (br_f z1 (br_f zb_10 (nm_e (nm_r (nI_1 k') (zi_lim r3 r4 (br_t y (br_f z0 (br_t z2 ⟨hi, nm_e (nm_r (nI_1 k') ⟨rfl, ?_⟩)⟩)))))))))
        rw [e, hβ]
        exact zi_mk ⟨r1, r2, r3, r4, r5, hn, r7, r8, r9, r10, zi_app1 (by omega) r12 r11, zi_app2 (by omega) r12⟩
      · have z1 : (2 : Int32) ≤ nI b := nI_le (a := 2) (by omega) hb
        have z2 : ¬ nI b ≤ (1 : Int32) := nI_ge (a := 1) (by omega) hb
        exact br_t y (br_f z0 (br_t z1 (br_t rfl (zi_lim r3 r4 (br_t y (br_f z0 (br_f z2 ⟨rfl, zi_mk R⟩)))))))
  · have y : ¬ nI k' < nI (10 / w) := nI_nlt (by omega) (by omega)
    exact br_f y (zi_lim r3 r4 (br_f y ⟨rfl, zi_mk R⟩))
theorem i_vc_clear {k : Nat} {u : SX} {v : SY} (I : i_Rel k u v) (hk : k + 3 ≤ 1538) : wpX_clear (fun u' => wpY_clear (fun v' => i_Rel (k + 3) u' v') v) u := by
  obtain ⟨h, w, n, k', V, M, pr, al, re, lc, cn, A, C, x, m, rfl, rfl, R⟩ := I
  obtain ⟨r1, r2, r3, r4, r5, r6, r7, r8, r9, r10, r11, r12⟩ := R
  exact zi_mk (K := k + 3) (n := 0) (k := 0) ⟨r1, r2, r3, r4, by omega, Nat.zero_le _, r7, r8, fun i hi => absurd hi (by omega), fun i _ => b_0 i, fun i hi => absurd hi (by omega), fun i _ => b_0 i⟩
theorem i_vc_coverBit {k : Nat} {u : SX} {v : SY} (I : i_Rel k u v) (hk : k + 3 ≤ 1538) (v1 : Int32) : wpX_coverBit (fun r => wpY_coverBit (fun r' => r' = r ∧ i_Rel (k + 3) u v) v v1) u v1 := by
  obtain ⟨h, w, n, k', V, M, pr, al, re, lc, cn, A, C, x, m, rfl, rfl, R⟩ := I
  have R' := R
  obtain ⟨r1, r2, r3, r4, r5, r6, r7, r8, r9, r10, r11, r12⟩ := R'
  by_cases z0 : v1 < 0
  · exact br_t z0 (br_t rfl (br_t z0 ⟨rfl, zi_mk R⟩))
  · by_cases z1 : nI n ≤ v1
    · exact br_f z0 (br_t z1 (br_t rfl (br_f z0 (br_f (Int32.not_lt.mpr z1) ⟨rfl, zi_mk R⟩))))
    · obtain ⟨j, hj, rfl⟩ := nI_of z0
      have z2 := z1
      rw [nI_leI (by omega) hj] at z2
      have hi : vp_in (nI j) 10 := vp_in_nI (by omega) (by omega)
      have e : x (nI j).toNatClampNeg = zb (bt V j) := by rw [nI_clamp hj]; exact r9 j (by omega)
      exact br_f z0 (br_f z1 (br_f zb_10 (zx_bitAt j (by omega) (br_f z0 (br_t (Int32.not_le.mp z1) ⟨hi, e, zi_mk R⟩)))))
theorem i_vc_coverCost {k : Nat} {u : SX} {v : SY} (I : i_Rel k u v) (hk : k + 3 ≤ 1538) (v1 : Int32) : wpX_coverCost (fun r => wpY_coverCost (fun r' => r' = r ∧ i_Rel (k + 3) u v) v v1) u v1 := by
  obtain ⟨h, w, n, k', V, M, pr, al, re, lc, cn, A, C, x, m, rfl, rfl, R⟩ := I
  have R' := R
  obtain ⟨r1, r2, r3, r4, r5, r6, r7, r8, r9, r10, r11, r12⟩ := R'
  by_cases z0 : v1 < 0
  · exact br_t z0 (br_t rfl (br_t z0 ⟨rfl, zi_mk R⟩))
  · by_cases z1 : nI n ≤ v1
    · exact br_f z0 (br_t z1 (br_t rfl (br_f z0 (br_f (Int32.not_lt.mpr z1) ⟨rfl, zi_mk R⟩))))
    · have hi : vp_in v1 10 := by
        obtain ⟨j, hj, rfl⟩ := nI_of z0
        rw [nI_leI (by omega) hj] at z1
        exact vp_in_nI (by omega) (by omega)
      exact br_f z0 (br_f z1 (br_f zb_10 ⟨hi, br_f z0 (br_t (Int32.not_le.mp z1) ⟨hi, rfl, zi_mk R⟩)⟩))
theorem i_vc_messageBit {k : Nat} {u : SX} {v : SY} (I : i_Rel k u v) (hk : k + 3 ≤ 1538) (v1 : Int32) : wpX_messageBit (fun r => wpY_messageBit (fun r' => r' = r ∧ i_Rel (k + 3) u v) v v1) u v1 := by
  obtain ⟨h, w, n, k', V, M, pr, al, re, lc, cn, A, C, x, m, rfl, rfl, R⟩ := I
  have R' := R
  obtain ⟨r1, r2, r3, r4, r5, r6, r7, r8, r9, r10, r11, r12⟩ := R'
  have hk10 : k' ≤ 10 := zr_k r6
  by_cases z0 : v1 < 0
  · exact br_t z0 (br_t rfl (br_t z0 ⟨rfl, zi_mk R⟩))
  · by_cases z1 : nI k' ≤ v1
    · exact br_f z0 (br_t z1 (br_t rfl (br_f z0 (br_f (Int32.not_lt.mpr z1) ⟨rfl, zi_mk R⟩))))
    · obtain ⟨j, hj, rfl⟩ := nI_of z0
      have z2 := z1
      rw [nI_leI (by omega) hj] at z2
      have hi : vp_in (nI j) 10 := vp_in_nI (by omega) (by omega)
      have e : m (nI j).toNatClampNeg = zb (bt M j) := by rw [nI_clamp hj]; exact r11 j (by omega)
      exact br_f z0 (br_f z1 (br_f zb_10 (zx_bitAt j (by omega) (br_f z0 (br_t (Int32.not_le.mp z1) ⟨hi, e, zi_mk R⟩)))))
theorem i_vc_embed {k : Nat} {u : SX} {v : SY} (I : i_Rel k u v) (hk : k + 3 ≤ 1538) : wpX_embed (fun r u' => wpY_embed (fun r' v' => r' = r ∧ i_Rel (k + 3) u' v') v) u := by
  obtain ⟨h, w, n, k', V, M, pr, al, re, lc, cn, A, C, x, m, rfl, rfl, R⟩ := I
  have R' := R
  obtain ⟨r1, r2, r3, r4, r5, r6, r7, r8, r9, r10, r11, r12⟩ := R'
  have P := zr_P R
  refine zx_embed r3 r4 r5 (zr_k r6) rfl rfl P (fun q => ?_) (fun q1 q2 q3 => ?_) (fun q1 q2 c b q3 => ?_)
  · exact zy_embed R rfl rfl P (fun _ => ⟨rfl, zi_mk R⟩) (fun q1 q2 => absurd ⟨q1, q2⟩ q) (fun q1 q2 => absurd ⟨q1, q2⟩ q)
  · exact zy_embed R rfl rfl P (fun q => absurd ⟨q1, q2⟩ q) (fun _ _ _ => ⟨rfl, zi_mk R⟩) (fun _ _ c b e => absurd (q3.symm.trans e) (fun z => nomatch z))
  · refine zy_embed R rfl rfl P (fun q => absurd ⟨q1, q2⟩ q) (fun _ _ e => absurd (e.symm.trans q3) (fun z => nomatch z)) (fun _ _ c' b' e => ?_)
    have t := Option.some.inj (q3.symm.trans e)
    have t1 : c = c' := congrArg Prod.fst t
    have t2 : b = b' := congrArg Prod.snd t
    subst t1 t2
    exact ⟨rfl, zi_mk R⟩
theorem i_vc_totalCost {k : Nat} {u : SX} {v : SY} (I : i_Rel k u v) (hk : k + 3 ≤ 1538) : wpX_totalCost (fun r => wpY_totalCost (fun r' => r' = r ∧ i_Rel (k + 3) u v) v) u := by
  obtain ⟨h, w, n, k', V, M, pr, al, re, lc, cn, A, C, x, m, rfl, rfl, R⟩ := I
  by_cases z : pr = 0
  · exact br_t z (br_t z ⟨rfl, zi_mk R⟩)
  · exact br_f z (br_f z ⟨rfl, zi_mk R⟩)
theorem i_vc_optimalCount {k : Nat} {u : SX} {v : SY} (I : i_Rel k u v) (hk : k + 3 ≤ 1538) : wpX_optimalCount (fun r => wpY_optimalCount (fun r' => r' = r ∧ i_Rel (k + 3) u v) v) u := by
  obtain ⟨h, w, n, k', V, M, pr, al, re, lc, cn, A, C, x, m, rfl, rfl, R⟩ := I
  by_cases z : pr = 0
  · exact br_t z (br_t z ⟨rfl, zi_mk R⟩)
  · exact br_f z (br_f z ⟨rfl, zi_mk R⟩)
theorem i_vc_alteredBit {k : Nat} {u : SX} {v : SY} (I : i_Rel k u v) (hk : k + 3 ≤ 1538) (v1 : Int32) : wpX_alteredBit (fun r => wpY_alteredBit (fun r' => r' = r ∧ i_Rel (k + 3) u v) v v1) u v1 := by
  obtain ⟨h, w, n, k', V, M, pr, al, re, lc, cn, A, C, x, m, rfl, rfl, R⟩ := I
  by_cases z : pr = 0
  · exact br_t z (br_t z ⟨rfl, zi_mk R⟩)
  · by_cases z0 : v1 < 0
    · exact br_f z (br_t z0 (br_t rfl (br_f z (br_t z0 ⟨rfl, zi_mk R⟩))))
    · by_cases z1 : nI n ≤ v1
      · exact br_f z (br_f z0 (br_t z1 (br_t rfl (br_f z (br_f z0 (br_f (Int32.not_lt.mpr z1) ⟨rfl, zi_mk R⟩))))))
      · exact br_f z (br_f z0 (br_f z1 (br_f zb_10 (br_f z (br_f z0 (br_t (Int32.not_le.mp z1) ⟨rfl, zi_mk R⟩))))))
theorem i_vc_flip {k : Nat} {u : SX} {v : SY} (I : i_Rel k u v) (hk : k + 3 ≤ 1538) (v1 : Int32) : wpX_flip (fun r u' => wpY_flip (fun r' v' => r' = r ∧ i_Rel (k + 3) u' v') v v1) u v1 := by
  obtain ⟨h, w, n, k', V, M, pr, al, re, lc, cn, A, C, x, m, rfl, rfl, R⟩ := I
  by_cases z : pr = 0
  · exact br_t z (br_t z ⟨rfl, zi_mk R⟩)
  · by_cases z0 : v1 < 0
    · exact br_f z (br_t z0 (br_t rfl (br_f z (br_t z0 ⟨rfl, zi_mk R⟩))))
    · by_cases z1 : nI n ≤ v1
      · exact br_f z (br_f z0 (br_t z1 (br_t rfl (br_f z (br_f z0 (br_f (Int32.not_lt.mpr z1) ⟨rfl, zi_mk R⟩))))))
      · exact br_f z (br_f z0 (br_f z1 (br_f zb_10 (nm_e (br_f z (br_f z0 (br_t (Int32.not_le.mp z1) (nm_e ⟨rfl, zi_mk R⟩))))))))
theorem i_vc_extractBit {k : Nat} {u : SX} {v : SY} (I : i_Rel k u v) (hk : k + 3 ≤ 1538) (v1 : Int32) : wpX_extractBit (fun r => wpY_extractBit (fun r' => r' = r ∧ i_Rel (k + 3) u v) v v1) u v1 := by
  obtain ⟨h, w, n, k', V, M, pr, al, re, lc, cn, A, C, x, m, rfl, rfl, R⟩ := I
  have R' := R
  obtain ⟨r1, r2, r3, r4, r5, r6, r7, r8, r9, r10, r11, r12⟩ := R'
  have hk10 : k' ≤ 10 := zr_k r6
  by_cases z : pr = 0
  · exact br_t z (br_t z ⟨rfl, zi_mk R⟩)
  · by_cases z0 : v1 < 0
    · exact br_f z (br_t z0 (br_t rfl (br_f z (br_t z0 ⟨rfl, zi_mk R⟩))))
    · by_cases z1 : nI k' ≤ v1
      · exact br_f z (br_f z0 (br_t z1 (br_t rfl (br_f z (br_f z0 (br_f (Int32.not_lt.mpr z1) ⟨rfl, zi_mk R⟩))))))
      · obtain ⟨j, hj, rfl⟩ := nI_of z0
        have z2 := z1
        rw [nI_leI (by omega) hj] at z2
        have e : zb (zp_pr A w re j n) = zb (bt (zp_sy A w k' re n) j) := by
          rw [zp_sy_bt hk10 n (by omega) j (by omega), decide_eq_true (show j < k' by omega), Bool.and_true]
        exact br_f z (br_f z0 (br_f z1 (br_f zb_10 (zx_sy r3 r4 r5 (zx_bitAt j (by omega) (br_f z (br_f z0 (br_t (Int32.not_le.mp z1) (zy_sb r1 r2 r3 r4 r7 r5 j (by omega) ⟨e, zi_mk R⟩)))))))))
theorem i_vc_forcedCost {k : Nat} {u : SX} {v : SY} (I : i_Rel k u v) (hk : k + 3 ≤ 1538) (v1 : Int32) (v2 : Int32) : wpX_forcedCost (fun r => wpY_forcedCost (fun r' => r' = r ∧ i_Rel (k + 3) u v) v v1 v2) u v1 v2 := by
  obtain ⟨h, w, n, k', V, M, pr, al, re, lc, cn, A, C, x, m, rfl, rfl, R⟩ := I
  have R' := R
  obtain ⟨r1, r2, r3, r4, r5, r6, r7, r8, r9, r10, r11, r12⟩ := R'
  have hk10 : k' ≤ 10 := zr_k r6
  have P := zr_P R
  unfold wpX_forcedCost wpY_forcedCost
  dsimp only
  refine zx_ready r4 hk10 r5 ?_ ?_
  rotate_left
  · intro q
    refine br_t rfl (zy_ready r4 hk10 r5 ?_ ?_)
    · exact fun q1 q2 => absurd ⟨q1, q2⟩ q
    · exact fun _ => br_t rfl ⟨rfl, zi_mk R⟩
  intro q1 q2
  refine br_f zb_10 ?_
  have Y : ∀ {post : Int32 → Prop}, post 1 → wpY_ready post (nI h, nI w, nI n, nI k', pr, al, re, lc, cn, A, x, C, m) := fun hp => zy_ready r4 hk10 r5 (fun _ _ => hp) (fun q => absurd ⟨q1, q2⟩ q)
  by_cases z0 : v1 < 0
  · exact br_t z0 (br_t rfl (Y (br_f zb_10 (br_t z0 ⟨rfl, zi_mk R⟩))))
  · by_cases z1 : nI n ≤ v1
    · exact br_f z0 (br_t z1 (br_t rfl (Y (br_f zb_10 (br_f z0 (br_t z1 ⟨rfl, zi_mk R⟩))))))
    · by_cases z2 : v2 < 0
      · exact br_f z0 (br_f z1 (br_f zb_10 (br_t z2 (br_t rfl (Y (br_f zb_10 (br_f z0 (br_f z1 (br_t z2 ⟨rfl, zi_mk R⟩)))))))))
      · obtain ⟨j, hj, rfl⟩ := nI_of z0
        obtain ⟨b, hb, rfl⟩ := nI_of z2
        have z3 := z1
        rw [nI_leI (by omega) hj] at z3
        by_cases hb2 : b < 2
        · have y1 : ¬ (2 : Int32) ≤ nI b := nI_ge (b := 2) hb2 (by decide)
          have y2 : nI b ≤ (1 : Int32) := nI_le (b := 1) (by omega) (by decide)
          obtain ⟨β, hβ⟩ := zi_b2 hb2
          rw [hβ] at z2 y1 y2 ⊢
          refine br_f z0 (br_f z1 (br_f zb_10 (br_f z2 (br_f y1 (br_f zb_10 (zx_bitAt j (by omega) (nm_r (zb_xor _ _) (nm_r (zb_pow n (by omega)) (zx_fcL r3 r4 r5 (zr_N R) j (by omega) (bt V j ^^ β) rfl (zp_fi_P P) ?_)))))))))
          exact Y (br_f zb_10 (br_f z0 (br_f z1 (br_f z2 (br_t y2 (nm_r (zb_pow n (by omega)) (zy_fcL R rfl rfl P j (by omega) β rfl ⟨rfl, zi_mk R⟩)))))))
        · have y1 : (2 : Int32) ≤ nI b := nI_le (a := 2) (by omega) hb
          have y2 : ¬ nI b ≤ (1 : Int32) := nI_ge (a := 1) (by omega) hb
          exact br_f z0 (br_f z1 (br_f zb_10 (br_f z2 (br_t y1 (br_t rfl (Y (br_f zb_10 (br_f z0 (br_f z1 (br_f z2 (br_f y2 ⟨rfl, zi_mk R⟩)))))))))))
end
