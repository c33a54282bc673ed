section
/-! ===== Int32 by its bits: bt x i ===== -/
def bt (x : Int32) (i : Nat) : Bool := x.toBitVec.getLsbD i
theorem b_ext {x y : Int32} (h : ∀ i, i < 32 → bt x i = bt y i) : x = y := Int32.toBitVec_inj.mp (BitVec.eq_of_getLsbD_eq (fun i hi => h i hi))
theorem b_or (x y : Int32) (i : Nat) : bt (x ||| y) i = (bt x i || bt y i) := by unfold bt; rw [Int32.toBitVec_or, BitVec.getLsbD_or]
theorem b_and (x y : Int32) (i : Nat) : bt (x &&& y) i = (bt x i && bt y i) := by unfold bt; rw [Int32.toBitVec_and, BitVec.getLsbD_and]
theorem b_xor (x y : Int32) (i : Nat) : bt (x ^^^ y) i = (bt x i ^^ bt y i) := by unfold bt; rw [Int32.toBitVec_xor, BitVec.getLsbD_xor]
theorem b_big {x : Int32} {i : Nat} (h : 32 ≤ i) : bt x i = false := BitVec.getLsbD_of_ge _ _ h
theorem b_255 (i : Nat) : bt 255 i = decide (i < 8) := by
  rcases Nat.lt_or_ge i 32 with h | h
  · exact (by decide +kernel : ∀ i, i < 32 → bt 255 i = decide (i < 8)) i h
  · rw [b_big h, decide_eq_false (by omega)]
theorem b_65535 (i : Nat) : bt 65535 i = decide (i < 16) := by
  rcases Nat.lt_or_ge i 32 with h | h
  · exact (by decide +kernel : ∀ i, i < 32 → bt 65535 i = decide (i < 16)) i h
  · rw [b_big h, decide_eq_false (by omega)]
theorem b_m1 : ∀ i, i < 32 → bt (-1) i = true := by decide +kernel
theorem b_0 (i : Nat) : bt 0 i = false := BitVec.getLsbD_zero
theorem s_l : ∀ n, n < 32 → ((nI n &&& 31).toBitVec.smod 32).toNat = n := by decide +kernel
theorem s_u : ∀ n, n < 32 → (((nI n).toUInt32 &&& Int32.toUInt32 31).toBitVec % 32).toNat = n := by decide +kernel
theorem b_shl (n : Nat) (hn : n < 32) (x : Int32) {i : Nat} (hi : i < 32) : bt (x <<< (nI n &&& 31)) i = (decide (n ≤ i) && bt x (i - n)) := by
  unfold bt
  rw [Int32.toBitVec_shiftLeft]
  show (x.toBitVec <<< ((nI n &&& 31).toBitVec.smod 32).toNat).getLsbD i = _
  rw [s_l n hn, BitVec.getLsbD_shiftLeft]
  rcases Nat.lt_or_ge i n with h | h
  · simp [h, Nat.not_le.mpr h]
  · simp [hi, h, Nat.not_lt.mpr h]
theorem b_ushr (n : Nat) (hn : n < 32) (x : Int32) (i : Nat) : bt ((x.toUInt32 >>> ((nI n).toUInt32 &&& Int32.toUInt32 31)).toInt32) i = bt x (n + i) := by
  show (x.toUInt32 >>> ((nI n).toUInt32 &&& Int32.toUInt32 31)).toBitVec.getLsbD i = x.toUInt32.toBitVec.getLsbD (n + i)
  rw [UInt32.toBitVec_shiftRight]
  show (x.toUInt32.toBitVec >>> (((nI n).toUInt32 &&& Int32.toUInt32 31).toBitVec % 32).toNat).getLsbD i = _
  rw [s_u n hn, BitVec.getLsbD_ushiftRight]
theorem b_sshr (n : Nat) (hn : n < 32) (x : Int32) {i : Nat} (hi : i < 32) : bt (x >>> (nI n &&& 31)) i = if n + i < 32 then bt x (n + i) else bt x 31 := by
  unfold bt
  rw [Int32.toBitVec_shiftRight]
  show (x.toBitVec.sshiftRight ((nI n &&& 31).toBitVec.smod 32).toNat).getLsbD i = _
  rw [s_l n hn, BitVec.getLsbD_sshiftRight, BitVec.msb_eq_getLsbD_last]
  simp [hi]
theorem b_shl8 (x : Int32) {i : Nat} (hi : i < 32) : bt (x <<< ((8 : Int32) &&& 31)) i = (decide (8 ≤ i) && bt x (i - 8)) := b_shl 8 (by omega) x hi
theorem b_shl16 (x : Int32) {i : Nat} (hi : i < 32) : bt (x <<< ((16 : Int32) &&& 31)) i = (decide (16 ≤ i) && bt x (i - 16)) := b_shl 16 (by omega) x hi
theorem b_shl24 (x : Int32) {i : Nat} (hi : i < 32) : bt (x <<< ((24 : Int32) &&& 31)) i = (decide (24 ≤ i) && bt x (i - 24)) := b_shl 24 (by omega) x hi
theorem b_sshr8 (x : Int32) {i : Nat} (hi : i < 32) : bt (x >>> ((8 : Int32) &&& 31)) i = if 8 + i < 32 then bt x (8 + i) else bt x 31 := b_sshr 8 (by omega) x hi
/-! ===== nI under and, xor, >>>, one bit, 65535 ===== -/
theorem nx_and (a b : Nat) : nI a &&& nI b = nI (a &&& b) := by
  apply Int32.toBitVec_inj.1
  show BitVec.ofNat 32 a &&& BitVec.ofNat 32 b = BitVec.ofNat 32 (a &&& b)
  apply BitVec.eq_of_getLsbD_eq
  intro i hi
  simp [hi]
theorem nx_xor (a b : Nat) : nI a ^^^ nI b = nI (a ^^^ b) := by
  apply Int32.toBitVec_inj.1
  show BitVec.ofNat 32 a ^^^ BitVec.ofNat 32 b = BitVec.ofNat 32 (a ^^^ b)
  apply BitVec.eq_of_getLsbD_eq
  intro i hi
  simp [hi]
theorem nx_cnt : ∀ j : Fin 32, (UInt32.ofNat j.val &&& Int32.toUInt32 31).toNat % 32 = j.val := by decide +kernel
theorem nx_ush {k j : Nat} (hk : k < 65536) (hj : j < 32) : ((nI k).toUInt32 >>> ((nI j).toUInt32 &&& Int32.toUInt32 31)).toInt32 = nI (k >>> j) := by
  have hs : k >>> j ≤ k := by
    rw [Nat.shiftRight_eq_div_pow]
    exact Nat.div_le_self _ _
  have e2 : UInt32.ofNat k >>> (UInt32.ofNat j &&& Int32.toUInt32 31) = UInt32.ofNat (k >>> j) := by
    apply UInt32.toNat_inj.1
    have h1 : (UInt32.ofNat k).toNat = k := Nat.mod_eq_of_lt (by omega)
    have h2 : (UInt32.ofNat (k >>> j)).toNat = k >>> j := Nat.mod_eq_of_lt (by omega)
    rw [UInt32.toNat_shiftRight, nx_cnt ⟨j, hj⟩, h1, h2]
  show (UInt32.ofNat k >>> (UInt32.ofNat j &&& Int32.toUInt32 31)).toInt32 = _
  rw [e2]
  rfl
theorem nx_bit {k j : Nat} (hk : k < 65536) (hj : j < 16) : (((nI k).toUInt32 >>> ((nI j).toUInt32 &&& Int32.toUInt32 31)).toInt32 &&& 1) = 0 ↔ k.testBit j = false := by
  rw [nx_ush hk (by omega)]
  show nI (k >>> j) &&& nI 1 = 0 ↔ _
  rw [nx_and, Nat.and_one_is_mod, ← nI_0, nI_eq (by omega) (by omega), Nat.testBit_eq_decide_div_mod_eq, Nat.shiftRight_eq_div_pow, decide_eq_false_iff_not]
  generalize k / 2 ^ j = z
  omega
theorem nx_mod (k : Nat) : nI k &&& 65535 = nI (k % 65536) := by
  show nI k &&& nI 65535 = _
  rw [nx_and, show (65535 : Nat) = 2 ^ 16 - 1 from rfl, Nat.and_two_pow_sub_one_eq_mod]
theorem nx_m16 {k : Nat} (h : k < 65536) : nI k &&& 65535 = nI k := by rw [nx_mod, Nat.mod_eq_of_lt h]
theorem nx_mask (x : Int32) : ∃ k, k < 65536 ∧ x &&& 65535 = nI k := by
  have e : x = nI x.toBitVec.toNat := by
    apply Int32.toBitVec_inj.1
    show x.toBitVec = BitVec.ofNat 32 x.toBitVec.toNat
    simp
  refine ⟨x.toBitVec.toNat % 65536, Nat.mod_lt _ (by omega), ?_⟩
  rw [← nx_mod, ← e]
end
section
/-! ===== one bit as the machine answers it ===== -/
def zb : Bool → Int32
  | true => 1
  | false => 0
theorem zb_1 : ∀ j, j < 32 → bt 1 j = decide (j = 0) := by decide +kernel
theorem zb_bt (b : Bool) (j : Nat) (hj : j < 32) : bt (zb b) j = (b && decide (j = 0)) := by
  cases b
  · show bt 0 j = _
    rw [b_0, Bool.false_and]
  · show bt 1 j = _
    rw [zb_1 j hj, Bool.true_and]
theorem zb_bit (v : Int32) (i : Nat) (hi : i < 32) : (v >>> (nI i &&& 31)) &&& 1 = zb (bt v i) := by
  apply b_ext
  intro j hj
  rw [b_and, b_sshr i hi v hj, zb_1 j hj, zb_bt _ j hj]
  by_cases h : j = 0
  · subst h
    rw [if_pos (by omega)]
    rfl
  · rw [decide_eq_false h, Bool.and_false, Bool.and_false]
theorem zb_ne : ¬ zb false = 1 := by decide +kernel
theorem zb_is1 {b : Bool} : zb b = 1 ↔ b = true := by
  cases b
  · exact ⟨fun h => absurd h zb_ne, fun h => nomatch h⟩
  · exact ⟨fun _ => rfl, fun _ => rfl⟩
theorem zb_inj {a b : Bool} (h : zb a = zb b) : a = b := by
  cases a <;> cases b <;> first | rfl | exact absurd h (by decide +kernel)
theorem zb_xor (a b : Bool) : zb a ^^^ zb b = zb (a ^^ b) := by
  cases a <;> cases b <;> decide +kernel
theorem zb_nat (b : Bool) : nI b.toNat = zb b := by cases b <;> rfl
theorem zb_01 (b : Bool) : zb b = 0 ∨ zb b = 1 := by cases b; exact Or.inl rfl; exact Or.inr rfl
theorem zb_mask : ∀ k, k < 11 → ∀ r, r < 32 → bt (((1 : Int32) <<< (nI k &&& 31)) - 1) r = decide (r < k) := by decide +kernel
theorem zb_pow : ∀ n, n < 11 → (1 : Int32) <<< (nI n &&& 31) = nI (2 ^ n) := by decide +kernel
theorem zb_nI (g i : Nat) (hi : i < 32) : bt (nI g) i = g.testBit i := by
  show (BitVec.ofNat 32 g).getLsbD i = _
  rw [BitVec.getLsbD_ofNat, decide_eq_true hi, Bool.true_and]
theorem zb_nIf {g n i : Nat} (h : g < 2 ^ n) (hn : n ≤ i) : bt (nI g) i = false := by
  rcases Nat.lt_or_ge i 32 with z | z
  · rw [zb_nI g i z]
    exact Nat.testBit_lt_two_pow (Nat.lt_of_lt_of_le h (Nat.pow_le_pow_right (by decide) hn))
  · exact b_big z
/-! ===== the matrix, the syndrome ===== -/
def zp_mc (A : Nat → Int32) (w k i : Nat) : Int32 := (A (i % w) <<< (nI (i / w) &&& 31)) &&& (((1 : Int32) <<< (nI k &&& 31)) - 1)
def zp_e (A : Nat → Int32) (w i r : Nat) : Bool := decide (i / w ≤ r) && bt (A (i % w)) (r - i / w)
theorem zp_mc_bt {A : Nat → Int32} {w k i r : Nat} (hk : k ≤ 10) (hi : i < 32) (hr : r < 32) : bt (zp_mc A w k i) r = (zp_e A w i r && decide (r < k)) := by
  unfold zp_mc zp_e
  rw [b_and, b_shl _ (Nat.lt_of_le_of_lt (Nat.div_le_self i w) hi) _ hr, zb_mask k (by omega) r hr]
def zp_sy (A : Nat → Int32) (w k : Nat) (v : Int32) : Nat → Int32
  | 0 => 0
  | j + 1 => if bt v j = true then zp_sy A w k v j ^^^ zp_mc A w k j else zp_sy A w k v j
def zp_pr (A : Nat → Int32) (w : Nat) (v : Int32) (r : Nat) : Nat → Bool
  | 0 => false
  | j + 1 => zp_pr A w v r j ^^ (bt v j && zp_e A w j r)
theorem zp_sy_bt {A : Nat → Int32} {w k : Nat} {v : Int32} (hk : k ≤ 10) : ∀ j, j ≤ 31 → ∀ r, r < 32 → bt (zp_sy A w k v j) r = (zp_pr A w v r j && decide (r < k))
  | 0, _, r, _ => by
    show bt 0 r = _
    rw [b_0]
    rfl
  | j + 1, hj, r, hr => by
    have ih := zp_sy_bt (A := A) (w := w) (v := v) hk j (by omega) r hr
    have e : zp_pr A w v r (j + 1) = (zp_pr A w v r j ^^ (bt v j && zp_e A w j r)) := rfl
    rw [zp_sy, e]
    by_cases h : bt v j = true
    · rw [if_pos h, b_xor, ih, zp_mc_bt hk (by omega) hr, h]
      cases zp_pr A w v r j <;> cases zp_e A w j r <;> cases decide (r < k) <;> rfl
    · rw [if_neg h, ih, Bool.eq_false_iff.mpr h]
      cases zp_pr A w v r j <;> cases zp_e A w j r <;> cases decide (r < k) <;> rfl
def zp_sm (A : Nat → Int32) (w : Nat) (v : Int32) (r : Nat) : Nat → Nat
  | 0 => 0
  | j + 1 => zp_sm A w v r j + (zp_e A w j r).toNat * (bt v j).toNat
theorem zp_sm_le (A : Nat → Int32) (w : Nat) (v : Int32) (r : Nat) : ∀ j, zp_sm A w v r j ≤ j
  | 0 => Nat.le_refl _
  | j + 1 => by
    have ih := zp_sm_le A w v r j
    have e : (zp_e A w j r).toNat * (bt v j).toNat ≤ 1 := by cases zp_e A w j r <;> cases bt v j <;> decide
    show zp_sm A w v r j + (zp_e A w j r).toNat * (bt v j).toNat ≤ j + 1
    omega
theorem zp_sm_pr (A : Nat → Int32) (w : Nat) (v : Int32) (r : Nat) : ∀ j, zp_sm A w v r j % 2 = (zp_pr A w v r j).toNat
  | 0 => rfl
  | j + 1 => by
    have ih := zp_sm_pr A w v r j
    show (zp_sm A w v r j + (zp_e A w j r).toNat * (bt v j).toNat) % 2 = (zp_pr A w v r j ^^ (bt v j && zp_e A w j r)).toNat
    rw [Nat.add_mod, ih]
    cases zp_pr A w v r j <;> cases zp_e A w j r <;> cases bt v j <;> rfl
theorem zp_sm_a {A : Nat → Int32} {w : Nat} {v : Int32} {r j : Nat} (hj : j ≤ 10) : nI (zp_sm A w v r j) &&& 1 = zb (zp_pr A w v r j) := by
  have h := zp_sm_le A w v r j
  have e : nI (zp_sm A w v r j) &&& 1 = nI (zp_sm A w v r j % 2) := pk_andN (n := zp_sm A w v r j) (m := 1) (by omega) 1 (by decide)
  rw [e, ← zb_nat, ← zp_sm_pr]
theorem zp_sy_m {A : Nat → Int32} {w k n : Nat} {v M : Int32} (hk : k ≤ 10) (hn : n ≤ 10) (hM : ∀ r, k ≤ r → bt M r = false) : zp_sy A w k v n = M ↔ ∀ r, r < k → zp_pr A w v r n = bt M r := by
  constructor
  · intro h r hr
    have e := zp_sy_bt (A := A) (w := w) (v := v) hk n (by omega) r (by omega)
    rw [h, decide_eq_true hr, Bool.and_true] at e
    exact e.symm
  · intro h
    apply b_ext
    intro r hr
    rw [zp_sy_bt hk n (by omega) r hr]
    rcases Nat.lt_or_ge r k with z | z
    · rw [h r z, decide_eq_true z, Bool.and_true]
    · rw [hM r z, decide_eq_false (by omega), Bool.and_false]
/-! ===== the cost of a change ===== -/
def zp_cf (C : Nat → Int32) (ch : Int32) : Nat → Nat → Int32 → Option Int32
  | 0, _, c => some c
  | d + 1, i, c => if bt ch i = true then (if C i = -1 then none else zp_cf C ch d (i + 1) (c + C i)) else zp_cf C ch d (i + 1) c
theorem zp_cf_pos {C : Nat → Int32} {ch : Int32} (hC : ∀ j, C j = -1 ∨ ∃ c : Nat, c ≤ 1000 ∧ C j = nI c) : ∀ d i a c', zp_cf C ch d i (nI a) = some c' → ∃ a' : Nat, a' ≤ a + 1000 * d ∧ c' = nI a'
  | 0, i, a, c', h => ⟨a, by omega, (Option.some.inj h).symm⟩
  | d + 1, i, a, c', h => by
    rw [zp_cf] at h
    by_cases hb : bt ch i = true
    · rw [if_pos hb] at h
      by_cases hw : C i = -1
      · rw [if_pos hw] at h
        exact nomatch h
      · rw [if_neg hw] at h
        rcases hC i with z | ⟨c, hc, z⟩
        · exact absurd z hw
        · rw [z, nI_add] at h
          obtain ⟨a', h1, h2⟩ := zp_cf_pos hC d (i + 1) (a + c) c' h
          exact ⟨a', by omega, h2⟩
    · rw [if_neg hb] at h
      obtain ⟨a', h1, h2⟩ := zp_cf_pos hC d (i + 1) a c' h
      exact ⟨a', by omega, h2⟩
def zp_cs (A C : Nat → Int32) (V M : Int32) (w k n g : Nat) : Option Int32 := if zp_sy A w k (V ^^^ nI g) n = M then zp_cf C (nI g) n 0 0 else none
def zp_v : Option Int32 → Int32
  | none => -5
  | some c => c
theorem zp_cs_pos {A C : Nat → Int32} {V M : Int32} {w k n g : Nat} {c : Int32} (hC : ∀ j, C j = -1 ∨ ∃ c : Nat, c ≤ 1000 ∧ C j = nI c) (h : zp_cs A C V M w k n g = some c) : ∃ a : Nat, a ≤ 1000 * n ∧ c = nI a := by
  unfold zp_cs at h
  by_cases hs : zp_sy A w k (V ^^^ nI g) n = M
  · rw [if_pos hs, ← nI_0] at h
    obtain ⟨a, h1, h2⟩ := zp_cf_pos hC n 0 0 c h
    exact ⟨a, by omega, h2⟩
  · rw [if_neg hs] at h
    exact nomatch h
/-! ===== the search ===== -/
def zp_st (o : Option Int32) (g : Nat) (q : Option (Int32 × Nat)) : Option (Int32 × Nat) :=
  match o, q with
  | none, q => q
  | some c, none => some (c, g)
  | some c, some (l, b) => if c < l then some (c, g) else some (l, b)
theorem zp_st_n (g : Nat) (q : Option (Int32 × Nat)) : zp_st none g q = q := rfl
theorem zp_st_0 (c : Int32) (g : Nat) : zp_st (some c) g none = some (c, g) := rfl
theorem zp_st_1 (c : Int32) (g : Nat) (l : Int32) (b : Nat) : zp_st (some c) g (some (l, b)) = if c < l then some (c, g) else some (l, b) := rfl
def zp_ll (f : Nat → Option Int32) : Nat → Option (Int32 × Nat)
  | 0 => none
  | g + 1 => zp_st (f g) g (zp_ll f g)
def zp_cn (f : Nat → Option Int32) (l : Int32) : Nat → Nat
  | 0 => 0
  | g + 1 => zp_cn f l g + (if f g = some l then 1 else 0)
theorem zp_ll_none {f : Nat → Option Int32} : ∀ {g : Nat}, zp_ll f g = none → ∀ j, j < g → f j = none
  | 0, _, j, hj => by omega
  | g + 1, h, j, hj => by
    have e : zp_st (f g) g (zp_ll f g) = none := h
    have hg : f g = none ∧ zp_ll f g = none := by
      revert e
      cases hf : f g with
      | none => exact fun e => ⟨rfl, e⟩
      | some c =>
        cases hl : zp_ll f g with
        | none =>
          intro e
          rw [zp_st_0] at e
          exact nomatch e
        | some p =>
          obtain ⟨l, b⟩ := p
          intro e
          rw [zp_st_1] at e
          by_cases z : c < l
          · rw [if_pos z] at e; exact nomatch e
          · rw [if_neg z] at e; exact nomatch e
    rcases Nat.lt_or_ge j g with z | z
    · exact zp_ll_none hg.2 j z
    · have : j = g := by omega
      subst this
      exact hg.1
theorem zp_ll_some {f : Nat → Option Int32} : ∀ {g : Nat} {l : Int32} {b : Nat}, zp_ll f g = some (l, b) → (b < g ∧ f b = some l) ∧ ∀ j, j < g → ∀ c, f j = some c → ¬ c < l
  | 0, l, b, h => by
    have h' : (none : Option (Int32 × Nat)) = some (l, b) := h
    exact nomatch h'
  | g + 1, l, b, h => by
    have e : zp_st (f g) g (zp_ll f g) = some (l, b) := h
    cases hf : f g with
    | none =>
      rw [hf] at e
      obtain ⟨⟨h1, h2⟩, h3⟩ := zp_ll_some (g := g) (l := l) (b := b) e
      refine ⟨⟨by omega, h2⟩, fun j hj c hc => ?_⟩
      rcases Nat.lt_or_ge j g with z | z
      · exact h3 j z c hc
      · have : j = g := by omega
        subst this
        rw [hf] at hc
        exact nomatch hc
    | some c0 =>
      cases hl : zp_ll f g with
      | none =>
        rw [hf, hl] at e
        have e' : some (c0, g) = some (l, b) := e
        have e1 : c0 = l := congrArg Prod.fst (Option.some.inj e')
        have e2 : g = b := congrArg Prod.snd (Option.some.inj e')
        subst e1 e2
        refine ⟨⟨by omega, hf⟩, fun j hj c hc => ?_⟩
        rcases Nat.lt_or_ge j g with z | z
        · rw [zp_ll_none hl j z] at hc
          exact nomatch hc
        · have : j = g := by omega
          subst this
          rw [hf] at hc
          rw [← Option.some.inj hc]
          exact Int32.lt_irrefl
      | some p =>
        obtain ⟨l0, b0⟩ := p
        rw [hf, hl] at e
        have e' : (if c0 < l0 then some (c0, g) else some (l0, b0)) = some (l, b) := e
        obtain ⟨⟨h1, h2⟩, h3⟩ := zp_ll_some hl
        by_cases z : c0 < l0
        · rw [if_pos z] at e'
          have e1 : c0 = l := congrArg Prod.fst (Option.some.inj e')
          have e2 : g = b := congrArg Prod.snd (Option.some.inj e')
          subst e1 e2
          refine ⟨⟨by omega, hf⟩, fun j hj c hc => ?_⟩
          rcases Nat.lt_or_ge j g with y | y
          · exact fun q => h3 j y c hc (Int32.lt_trans q z)
          · have : j = g := by omega
            subst this
            rw [hf] at hc
            rw [← Option.some.inj hc]
            exact Int32.lt_irrefl
        · rw [if_neg z] at e'
          have e1 : l0 = l := congrArg Prod.fst (Option.some.inj e')
          have e2 : b0 = b := congrArg Prod.snd (Option.some.inj e')
          subst e1 e2
          refine ⟨⟨by omega, h2⟩, fun j hj c hc => ?_⟩
          rcases Nat.lt_or_ge j g with y | y
          · exact h3 j y c hc
          · have : j = g := by omega
            subst this
            rw [hf] at hc
            rw [← Option.some.inj hc]
            exact z
theorem zp_cn_0 {f : Nat → Option Int32} {l : Int32} : ∀ {g : Nat}, (∀ j, j < g → f j ≠ some l) → zp_cn f l g = 0
  | 0, _ => rfl
  | g + 1, h => by
    have h1 := zp_cn_0 (f := f) (l := l) (g := g) (fun j hj => h j (by omega))
    have h2 : (if f g = some l then 1 else 0) = 0 := if_neg (h g (by omega))
    show zp_cn f l g + (if f g = some l then 1 else 0) = 0
    omega
theorem zp_cn_le (f : Nat → Option Int32) (l : Int32) : ∀ g, zp_cn f l g ≤ g
  | 0 => Nat.le_refl _
  | g + 1 => by
    have ih := zp_cn_le f l g
    rw [zp_cn]
    split <;> omega
/-! ===== costs are never negative ===== -/
theorem zp_m5 {a : Nat} (h : a < 2 ^ 31) : ¬ nI a = -5 := fun e => nI_pos h (by rw [e]; decide)
def zp_pos (f : Nat → Option Int32) : Prop := ∀ g c, f g = some c → ∃ a : Nat, a ≤ 10000 ∧ c = nI a
theorem zp_cs_P {A C : Nat → Int32} {V M : Int32} {w k n : Nat} (hC : ∀ j, C j = -1 ∨ ∃ c : Nat, c ≤ 1000 ∧ C j = nI c) (hn : n ≤ 10) : zp_pos (zp_cs A C V M w k n) := by
  intro g c h
  obtain ⟨a, h1, h2⟩ := zp_cs_pos hC h
  exact ⟨a, by omega, h2⟩
theorem zp_pos5 {f : Nat → Option Int32} {g : Nat} {c : Int32} (P : zp_pos f) (h : f g = some c) : ¬ c = -5 := by
  obtain ⟨a, h1, rfl⟩ := P g c h
  exact zp_m5 (by omega)
theorem zp_pos0 {f : Nat → Option Int32} {g : Nat} {c : Int32} (P : zp_pos f) (h : f g = some c) : ¬ c < 0 := by
  obtain ⟨a, h1, rfl⟩ := P g c h
  exact nI_pos (by omega)
theorem zp_n50 : (-5 : Int32) < 0 := by decide
/-- the least cost that a search has met -/
def zp_lv : Option (Int32 × Nat) → Int32
  | none => -5
  | some (l, _) => l
def zp_fi (f : Nat → Option Int32) (p : Nat → Bool) (g : Nat) : Option Int32 := if p g = true then f g else none
theorem zp_fi_P {f : Nat → Option Int32} {p : Nat → Bool} (P : zp_pos f) : zp_pos (zp_fi f p) := by
  intro g c h
  unfold zp_fi at h
  by_cases z : p g = true
  · rw [if_pos z] at h
    exact P g c h
  · rw [if_neg z] at h
    exact nomatch h
theorem zp_ll_n {f : Nat → Option Int32} {g : Nat} (h : f g = none) : zp_ll f (g + 1) = zp_ll f g := by
  show zp_st (f g) g (zp_ll f g) = _
  rw [h, zp_st_n]
theorem zp_ll_0 {f : Nat → Option Int32} {g : Nat} {c : Int32} (h : f g = some c) (h2 : zp_ll f g = none) : zp_ll f (g + 1) = some (c, g) := by
  show zp_st (f g) g (zp_ll f g) = _
  rw [h, h2, zp_st_0]
theorem zp_ll_t {f : Nat → Option Int32} {g : Nat} {c l : Int32} {b : Nat} (h : f g = some c) (h2 : zp_ll f g = some (l, b)) (z : c < l) : zp_ll f (g + 1) = some (c, g) := by
  show zp_st (f g) g (zp_ll f g) = _
  rw [h, h2, zp_st_1, if_pos z]
theorem zp_ll_f {f : Nat → Option Int32} {g : Nat} {c l : Int32} {b : Nat} (h : f g = some c) (h2 : zp_ll f g = some (l, b)) (z : ¬ c < l) : zp_ll f (g + 1) = some (l, b) := by
  show zp_st (f g) g (zp_ll f g) = _
  rw [h, h2, zp_st_1, if_neg z]
theorem zp_cn_t {f : Nat → Option Int32} {g : Nat} {c : Int32} (h : f g = some c) : zp_cn f c (g + 1) = zp_cn f c g + 1 := by
  show zp_cn f c g + (if f g = some c then 1 else 0) = _
  rw [if_pos h]
theorem zp_cn_f {f : Nat → Option Int32} {g : Nat} {l : Int32} (h : f g ≠ some l) : zp_cn f l (g + 1) = zp_cn f l g := by
  show zp_cn f l g + (if f g = some l then 1 else 0) = _
  rw [if_neg h, Nat.add_zero]
end
section
/-! ===== sums over the set bits ===== -/
def zq_S (f : Nat → Nat) (b : Nat → Bool) : Nat → Nat
  | 0 => 0
  | j + 1 => zq_S f b j + (if b j = true then f j else 0)
theorem zq_S_mono (f : Nat → Nat) (b : Nat → Bool) (j : Nat) : ∀ d, zq_S f b j ≤ zq_S f b (j + d)
  | 0 => Nat.le_refl _
  | d + 1 => by
    have ih := zq_S_mono f b j d
    show zq_S f b j ≤ zq_S f b (j + d) + (if b (j + d) = true then f (j + d) else 0)
    omega
theorem zq_S_le {f : Nat → Nat} {b : Nat → Bool} {B : Nat} (hf : ∀ j, f j ≤ B) : ∀ j, zq_S f b j ≤ B * j
  | 0 => Nat.zero_le _
  | j + 1 => by
    have ih := zq_S_le (b := b) hf j
    have h := hf j
    rw [zq_S, Nat.mul_succ]
    split <;> omega
theorem zq_S_same {f : Nat → Nat} {b b' : Nat → Bool} : ∀ n, (∀ i, i < n → b' i = b i) → zq_S f b' n = zq_S f b n
  | 0, _ => rfl
  | n + 1, h => by
    rw [zq_S, zq_S, zq_S_same n (fun i hi => h i (by omega)), h n (by omega)]
theorem zq_S_flip {f : Nat → Nat} {b b' : Nat → Bool} {t : Nat} : ∀ n, t < n → (∀ i, i < n → i ≠ t → b' i = b i) → zq_S f b' n + (if b t = true then f t else 0) = zq_S f b n + (if b' t = true then f t else 0)
  | 0, h, _ => by omega
  | n + 1, ht, h => by
    rw [zq_S, zq_S]
    rcases Nat.lt_or_ge t n with z | z
    · have ih := zq_S_flip (f := f) (b := b) (b' := b') n z (fun i hi hn => h i (by omega) hn)
      rw [h n (by omega) (by omega)]
      omega
    · have e : t = n := by omega
      subst e
      rw [zq_S_same t (fun i hi => h i (by omega) (by omega))]
      omega
/-! ===== the cost by sums ===== -/
def zq_c (x : Int32) : Nat := if x = -1 then 0 else x.toNatClampNeg
def zq_w (x : Int32) : Nat := if x = -1 then 1 else 0
theorem zq_cI {x : Int32} (h : x = -1 ∨ ∃ c : Nat, c ≤ 1000 ∧ x = nI c) (hw : ¬ x = -1) : x = nI (zq_c x) ∧ zq_c x ≤ 1000 := by
  rcases h with z | ⟨c, hc, rfl⟩
  · exact absurd z hw
  · unfold zq_c
    rw [if_neg hw, nI_clamp (by omega)]
    exact ⟨rfl, hc⟩
theorem zq_c_le {x : Int32} (h : x = -1 ∨ ∃ c : Nat, c ≤ 1000 ∧ x = nI c) : zq_c x ≤ 1000 := by
  by_cases hw : x = -1
  · unfold zq_c
    rw [if_pos hw]
    omega
  · exact (zq_cI h hw).2
theorem zq_cf {C : Nat → Int32} {G : Int32} (hC : ∀ j, C j = -1 ∨ ∃ c : Nat, c ≤ 1000 ∧ C j = nI c) : ∀ d i, zq_S (fun j => zq_w (C j)) (bt G) i = 0 →
    zp_cf C G d i (nI (zq_S (fun j => zq_c (C j)) (bt G) i)) = if zq_S (fun j => zq_w (C j)) (bt G) (i + d) = 0 then some (nI (zq_S (fun j => zq_c (C j)) (bt G) (i + d))) else none
  | 0, i, h => by
    rw [zp_cf, Nat.add_zero, if_pos h]
  | d + 1, i, h => by
    rw [zp_cf]
    have es : zq_S (fun j => zq_c (C j)) (bt G) (i + 1) = zq_S (fun j => zq_c (C j)) (bt G) i + (if bt G i = true then zq_c (C i) else 0) := rfl
    have ew : zq_S (fun j => zq_w (C j)) (bt G) (i + 1) = zq_S (fun j => zq_w (C j)) (bt G) i + (if bt G i = true then zq_w (C i) else 0) := rfl
    have ea : i + (d + 1) = i + 1 + d := by omega
    rw [ea]
    by_cases hb : bt G i = true
    · rw [if_pos hb] at es ew ⊢
      by_cases hw : C i = -1
      · have m := zq_S_mono (fun j => zq_w (C j)) (bt G) (i + 1) d
        have e1 : zq_w (C i) = 1 := if_pos hw
        rw [if_pos hw, if_neg (by omega)]
      · have e0 : zq_w (C i) = 0 := if_neg hw
        have e := (zq_cI (hC i) hw).1
        rw [if_neg hw]
        have ec : nI (zq_S (fun j => zq_c (C j)) (bt G) i) + C i = nI (zq_S (fun j => zq_c (C j)) (bt G) (i + 1)) := by
          rw [es, ← nI_add, ← e]
        rw [ec]
        exact zq_cf hC d (i + 1) (by omega)
    · rw [if_neg hb] at es ew ⊢
      rw [show zq_S (fun j => zq_c (C j)) (bt G) i = zq_S (fun j => zq_c (C j)) (bt G) (i + 1) by omega]
      exact zq_cf hC d (i + 1) (by omega)
/-! ===== the syndrome when one bit is flipped ===== -/
theorem zq_sy_same {A : Nat → Int32} {w k : Nat} {v v' : Int32} : ∀ n, (∀ i, i < n → bt v' i = bt v i) → zp_sy A w k v' n = zp_sy A w k v n
  | 0, _ => rfl
  | n + 1, h => by
    rw [zp_sy, zp_sy, zq_sy_same n (fun i hi => h i (by omega)), h n (by omega)]
theorem zq_x3 (a b c : Int32) : (a ^^^ b) ^^^ c = (a ^^^ c) ^^^ b := by
  rw [Int32.xor_assoc, Int32.xor_comm b c, ← Int32.xor_assoc]
theorem zq_x0 (a b : Int32) : (a ^^^ b) ^^^ b = a := by
  rw [Int32.xor_assoc, Int32.xor_self, Int32.xor_zero]
theorem zq_sy_flip {A : Nat → Int32} {w k : Nat} {v v' : Int32} {t : Nat} (ht' : bt v' t = !bt v t) : ∀ n, t < n → (∀ i, i < n → i ≠ t → bt v' i = bt v i) → zp_sy A w k v' n = zp_sy A w k v n ^^^ zp_mc A w k t
  | 0, h, _ => by omega
  | n + 1, ht, h => by
    rw [zp_sy, zp_sy]
    rcases Nat.lt_or_ge t n with z | z
    · have ih := zq_sy_flip (A := A) (w := w) (k := k) ht' n z (fun i hi hn => h i (by omega) hn)
      rw [h n (by omega) (by omega), ih]
      by_cases hb : bt v n = true
      · rw [if_pos hb, if_pos hb, zq_x3]
      · rw [if_neg hb, if_neg hb]
    · have e : t = n := by omega
      subst e
      rw [zq_sy_same t (fun i hi => h i (by omega) (by omega)), ht']
      cases hb : bt v t
      · rw [if_pos (by rfl), if_neg (by decide)]
      · rw [if_neg (by decide), if_pos (by rfl), zq_x0]
/-! ===== the gray code ===== -/
theorem zq_gray : ∀ g, g < 1024 → 0 < g → ∃ t, t < 10 ∧ 2 ^ t ≤ g ∧ (∀ j, j < t → g.testBit j = false) ∧ g.testBit t = true ∧ g ^^^ g / 2 = ((g - 1) ^^^ (g - 1) / 2) ^^^ 2 ^ t := by decide +kernel
end
section
section
variable {h w l n k : Nat} {V M pr al re lc cn : Int32} {A C : Nat → Int32}
theorem zx_bitAt {post : Int32 → Prop} {v : Int32} (i : Nat) (hi : i < 32) (hp : post (zb (bt v i))) : wpX_bitAt post () v (nI i) := by
  rw [← zb_bit v i hi] at hp
  exact hp
theorem zx_below {post : Int32 → Prop} {a b : Int32} (h0 : (a < 0 ∨ b ≤ a) → post 0) (h1 : ¬ a < 0 → ¬ b ≤ a → post 1) : wpX_isBelow post () a b :=
  br_c (fun z => h0 (Or.inl z)) (fun z => br_c (fun y => h0 (Or.inr y)) (fun y => h1 z y))
theorem zx_cost {post : Int32 → Prop} {a : Int32} (h0 : ¬ a = -1 → (a < 0 ∨ 1001 ≤ a) → post 0) (h1 : (a = -1 ∨ (¬ a < 0 ∧ ¬ 1001 ≤ a)) → post 1) : wpX_isCost post () a :=
  br_c (fun z => h1 (Or.inl z)) (fun z => zx_below (fun y => br_t rfl (h0 z y)) (fun y1 y2 => br_f (by decide) (h1 (Or.inr ⟨y1, y2⟩))))
theorem zx_ready {post : Int32 → Prop} (hw : w ≤ 3) (hk : k ≤ 10) (hn : n ≤ 10) (h1 : 1 ≤ k → n = w * k → post 1) (h0 : ¬ (1 ≤ k ∧ n = w * k) → post 0) : wpX_isReady post (nI h, nI w, nI l, V, nI n, M, nI k, pr, al, re, lc, cn, A, C) := by
  have hm : w * k ≤ 3 * 10 := Nat.mul_le_mul hw hk
  refine pk_lt k 1 (fun z => h0 (by omega)) (fun z => ?_)
  rw [pk_mul]
  exact pk_eq n (w * k) (fun e => h1 z e) (fun e => h0 (fun t => e t.2))
theorem zx_mc {post : Int32 → Prop} (hw1 : 0 < w) (hw3 : w ≤ 3) (i : Nat) (hi : i < 32) (hp : post (zp_mc A w k i)) : wpX_matrixColumn post (nI h, nI w, nI l, V, nI n, M, nI k, pr, al, re, lc, cn, A, C) (nI i) := by
  have e1 : nI i / nI w = nI (i / w) := pk_div (by omega) hw1 (by omega)
  have e2 : nI i - nI (i / w) * nI w = nI (i % w) := by rw [← e1]; exact pk_rem (by omega) hw1 (by omega)
  have hm : i % w < 3 := Nat.lt_of_lt_of_le (Nat.mod_lt _ hw1) hw3
  refine ⟨nI_ne0 hw1 (by omega), nm_r e1 ?_⟩
  rw [e2]
  refine ⟨vp_in_nI hm (by omega), ?_⟩
  rw [nI_clamp (by omega)]
  exact nm_e (nm_e hp)
theorem zx_sy {post : Int32 → Prop} {v : Int32} (hw1 : 0 < w) (hw3 : w ≤ 3) (hn : n ≤ 10) (hp : post (zp_sy A w k v n)) : wpX_syndromeOf post (nI h, nI w, nI l, V, nI n, M, nI k, pr, al, re, lc, cn, A, C) v :=
  pk_loop (fun f i s => wX_syndromeOf_4 post v (nI h) (nI w) (nI l) V (nI n) M (nI k) pr al re lc cn A C f s (nI i)) (fun i s => s = zp_sy A w k v i) n 0 0 (by omega) rfl
    (fun f s e => pk_le n n (fun _ => by rw [e]; exact hp) (fun z => absurd z (by omega)))
    (fun f i s hi e hs => pk_le n i (fun z => absurd z (by omega)) (fun _ => zx_bitAt i (by omega) (by
      by_cases hb : bt v i = true
      · exact br_t (zb_is1.mpr hb) (zx_mc hw1 hw3 i (by omega) (nm_e (nm_r (nI_1 i) (hs _ (by rw [e, zp_sy, if_pos hb])))))
      · exact br_f (fun z => hb (zb_is1.mp z)) (nm_r (nI_1 i) (hs _ (by rw [e, zp_sy, if_neg hb]))))))
theorem zx_cf {post : Int32 → Prop} (hn : n ≤ 10) (g : Nat) : ∀ d i c, i + d = n → post (zp_v (zp_cf C (nI g) d i c)) → wX_solutionCost_27 post (nI g) (nI h) (nI w) (nI l) V (nI n) M (nI k) pr al re lc cn A C (d + 1) c (nI i)
  | 0, i, c, hi, hp => pk_le n i (fun _ => hp) (fun z => absurd z (by omega))
  | d + 1, i, c, hi, hp => pk_le n i (fun z => absurd z (by omega)) (fun _ => zx_bitAt i (by omega) (by
      rw [zp_cf] at hp
      by_cases hb : bt (nI g) i = true
      · rw [if_pos hb] at hp
        refine br_t (zb_is1.mpr hb) ⟨vp_in_nI (by omega) (by omega), ?_⟩
        rw [nI_clamp (by omega)]
        by_cases hw : C i = -1
        · rw [if_pos hw] at hp
          exact br_t hw hp
        · rw [if_neg hw] at hp
          exact br_f hw ⟨vp_in_nI (by omega) (by omega), nm_e (nm_r (nI_1 i) (zx_cf hn g d (i + 1) _ (by omega) hp))⟩
      · rw [if_neg hb] at hp
        exact br_f (fun z => hb (zb_is1.mp z)) (nm_r (nI_1 i) (zx_cf hn g d (i + 1) c (by omega) hp))))
theorem zx_sc {post : Int32 → Prop} (hw1 : 0 < w) (hw3 : w ≤ 3) (hn : n ≤ 10) (g : Nat) (hp : post (zp_v (zp_cs A C V M w k n g))) : wpX_solutionCost post (nI h, nI w, nI l, V, nI n, M, nI k, pr, al, re, lc, cn, A, C) (nI g) := by
  refine zx_sy hw1 hw3 hn ?_
  unfold zp_cs at hp
  by_cases hs : zp_sy A w k (V ^^^ nI g) n = M
  · rw [if_pos hs] at hp
    exact br_t hs ⟨n + 1, zx_cf hn g n 0 0 (by omega) hp⟩
  · rw [if_neg hs] at hp
    exact br_f hs hp
theorem zx_lesser {post : Int32 → Prop} {a b : Int32} (h1 : a = -5 → post b) (h2 : ¬ a = -5 → b = -5 → post a) (h3 : ¬ a = -5 → ¬ b = -5 → a < b → post a) (h4 : ¬ a = -5 → ¬ b = -5 → ¬ a < b → post b) : wpX_lesserCost post () a b :=
  br_c (fun z => h1 z) (fun z => br_c (fun y => h2 z y) (fun y => br_c (fun t => h4 z y (Int32.not_lt.mpr t)) (fun t => h3 z y (Int32.not_le.mp t))))
end
section
variable {h w l n k N : Nat} {V M pr al re lc cn : Int32} {A C x m : Nat → Int32}
theorem zb_10 : ¬ (1 : Int32) = 0 := by decide
theorem zx_weigh {post : St2 → Prop} {g : Nat} {c : Int32}
    (h1 : pr = 0 ∨ c < lc → post (nI h, nI w, nI l, V, nI n, M, nI k, 1, V ^^^ nI g, V ^^^ nI g, c, 1, A, C))
    (h2 : ¬ pr = 0 → c = lc → post (nI h, nI w, nI l, V, nI n, M, nI k, pr, al, re, lc, cn + 1, A, C))
    (h3 : ¬ pr = 0 → ¬ c < lc → ¬ c = lc → post (nI h, nI w, nI l, V, nI n, M, nI k, pr, al, re, lc, cn, A, C)) : wpX_weighSolution post (nI h, nI w, nI l, V, nI n, M, nI k, pr, al, re, lc, cn, A, C) (nI g) c :=
  br_c (fun z => nm_e (h1 (Or.inl z))) (fun z => br_c (fun y => br_c (fun t => nm_e (h2 z t)) (fun t => h3 z (Int32.not_lt.mpr y) t)) (fun y => nm_e (h1 (Or.inr (Int32.not_le.mp y)))))
theorem zx_embL {post : Int32 → St2 → Prop} {F : Nat → Option Int32} (hw1 : 0 < w) (hw3 : w ≤ 3) (hn : n ≤ 10) (hN : N ≤ 1024) (hF : zp_cs A C V M w k n = F) (P : zp_pos F)
    (h5 : zp_ll F N = none → post (-5) (nI h, nI w, nI l, V, nI n, M, nI k, 0, al, re, lc, cn, A, C))
    (h0 : ∀ c b, zp_ll F N = some (c, b) → post 0 (nI h, nI w, nI l, V, nI n, M, nI k, 1, V ^^^ nI b, V ^^^ nI b, c, nI (zp_cn F c N), A, C)) :
    ∃ f, wX_embed_24 post (nI N) f 0 (nI h) (nI w) (nI l) V (nI n) M (nI k) 0 al re lc cn A C :=
  pk_loop (fun f g (s : Int32 × Int32 × Int32 × Int32 × Int32) => wX_embed_24 post (nI N) f (nI g) (nI h) (nI w) (nI l) V (nI n) M (nI k) s.1 s.2.1 s.2.2.1 s.2.2.2.1 s.2.2.2.2 A C)
    (fun g s => (zp_ll F g = none ∧ s = (0, al, re, lc, cn)) ∨ ∃ c b, zp_ll F g = some (c, b) ∧ s = (1, V ^^^ nI b, V ^^^ nI b, c, nI (zp_cn F c g)))
    N 0 (0, al, re, lc, cn) (Nat.zero_le _) (Or.inl ⟨rfl, rfl⟩)
    (fun f s I => pk_le N N (fun _ => by
      rcases I with ⟨e, rfl⟩ | ⟨c, b, e, rfl⟩
      · exact br_t rfl (h5 e)
      · exact br_f zb_10 (h0 c b e)) (fun z => absurd z (by omega)))
    (fun f g s hg I hs => pk_le N g (fun z => absurd z (by omega)) (fun _ => by
      rcases I with ⟨e, rfl⟩ | ⟨l', b, e, rfl⟩
      · refine zx_sc hw1 hw3 hn g ?_
        rw [hF]
        cases hf : F g with
        | none => exact br_t rfl (nm_r (nI_1 g) (hs (0, al, re, lc, cn) (Or.inl ⟨(zp_ll_n hf).trans e, rfl⟩)))
        | some c =>
          have e1 : zp_cn F c (g + 1) = 1 := by rw [zp_cn_t hf, zp_cn_0 (fun j hj => by rw [zp_ll_none e j hj]; exact nofun)]
          exact br_f (zp_pos5 P hf) (zx_weigh (fun _ => nm_r (nI_1 g) (hs (1, V ^^^ nI g, V ^^^ nI g, c, 1) (Or.inr ⟨c, g, zp_ll_0 hf e, by rw [e1]; rfl⟩))) (fun z => absurd rfl z) (fun z => absurd rfl z))
      · refine zx_sc hw1 hw3 hn g ?_
        rw [hF]
        cases hf : F g with
        | none => exact br_t rfl (nm_r (nI_1 g) (hs (1, V ^^^ nI b, V ^^^ nI b, l', nI (zp_cn F l' g)) (Or.inr ⟨l', b, (zp_ll_n hf).trans e, by rw [zp_cn_f (by rw [hf]; exact nofun)]⟩)))
        | some c =>
          refine br_f (zp_pos5 P hf) (zx_weigh (fun z => ?_) (fun _ z => ?_) (fun _ z1 z2 => ?_))
          · have z' : c < l' := z.resolve_left zb_10
            have e1 : zp_cn F c (g + 1) = 1 := by rw [zp_cn_t hf, zp_cn_0 (fun j hj t => (zp_ll_some e).2 j hj c t z')]
            exact nm_r (nI_1 g) (hs (1, V ^^^ nI g, V ^^^ nI g, c, 1) (Or.inr ⟨c, g, zp_ll_t hf e z', by rw [e1]; rfl⟩))
          · subst z
            exact nm_r (nI_1 g) (hs (1, V ^^^ nI b, V ^^^ nI b, c, nI (zp_cn F c g) + 1) (Or.inr ⟨c, b, zp_ll_f hf e Int32.lt_irrefl, by rw [zp_cn_t hf, nI_1]⟩))
          · exact nm_r (nI_1 g) (hs (1, V ^^^ nI b, V ^^^ nI b, l', nI (zp_cn F l' g)) (Or.inr ⟨l', b, zp_ll_f hf e z1, by rw [zp_cn_f (by rw [hf]; exact fun t => z2 (Option.some.inj t))]⟩))))
theorem zx_embed {post : Int32 → St2 → Prop} {F : Nat → Option Int32} (hw1 : 0 < w) (hw3 : w ≤ 3) (hn : n ≤ 10) (hk : k ≤ 10) (hN : 2 ^ n = N) (hF : zp_cs A C V M w k n = F) (P : zp_pos F)
    (h4 : ¬ (1 ≤ k ∧ n = w * k) → post (-4) (nI h, nI w, nI l, V, nI n, M, nI k, pr, al, re, lc, cn, A, C))
    (h5 : 1 ≤ k → n = w * k → zp_ll F N = none → post (-5) (nI h, nI w, nI l, V, nI n, M, nI k, 0, al, re, lc, cn, A, C))
    (h0 : 1 ≤ k → n = w * k → ∀ c b, zp_ll F N = some (c, b) → post 0 (nI h, nI w, nI l, V, nI n, M, nI k, 1, V ^^^ nI b, V ^^^ nI b, c, nI (zp_cn F c N), A, C)) : wpX_embed post (nI h, nI w, nI l, V, nI n, M, nI k, pr, al, re, lc, cn, A, C) := by
  have hN' : N ≤ 1024 := by rw [← hN]; exact Nat.pow_le_pow_right (by decide) hn
  unfold wpX_embed
  dsimp only
  refine zx_ready hw3 hk hn ?_ ?_
  · intro r1 r2
    exact br_f zb_10 (nm_r ((zb_pow n (by omega)).trans (by rw [hN])) (zx_embL hw1 hw3 hn hN' hF P (h5 r1 r2) (h0 r1 r2)))
  · intro r
    exact br_t rfl (h4 r)
end
section
variable {h w l n k N : Nat} {V M pr al re lc cn : Int32} {A C : Nat → Int32}
theorem zx_les {post : Int32 → Prop} {G : Nat → Option Int32} {g : Nat} (P : zp_pos G) (hp : post (zp_lv (zp_ll G (g + 1)))) : wpX_lesserCost post () (zp_lv (zp_ll G g)) (zp_v (G g)) := by
  cases hq : zp_ll G g with
  | none =>
    cases ho : G g with
    | none =>
      rw [zp_ll_n ho, hq] at hp
      exact br_t rfl hp
    | some c =>
      rw [zp_ll_0 ho hq] at hp
      exact br_t rfl hp
  | some p =>
    obtain ⟨l', b⟩ := p
    have n5 : ¬ l' = -5 := zp_pos5 P (zp_ll_some hq).1.2
    cases ho : G g with
    | none =>
      rw [zp_ll_n ho, hq] at hp
      exact br_f n5 (br_t rfl hp)
    | some c =>
      refine br_f n5 (br_f (zp_pos5 P ho) ?_)
      by_cases z : c < l'
      · rw [zp_ll_t ho hq z] at hp
        exact br_t (Int32.le_of_lt z) hp
      · rw [zp_ll_f ho hq z] at hp
        refine br_c (fun y => ?_) (fun _ => hp)
        rw [show zp_v (some c) = l' from Int32.le_antisymm y (Int32.not_lt.mp z)]
        exact hp
theorem zx_fcL {post : Int32 → Prop} {G : Nat → Option Int32} (hw1 : 0 < w) (hw3 : w ≤ 3) (hn : n ≤ 10) (hN : N ≤ 1024) (i : Nat) (hi : i < n) (t : Bool) (hG : zp_fi (zp_cs A C V M w k n) (fun g => bt (nI g) i == t) = G) (P : zp_pos G) (hp : post (zp_lv (zp_ll G N))) :
    ∃ f, wX_forcedCost_58 post (nI i) (zb t) (nI N) (nI h) (nI w) (nI l) V (nI n) M (nI k) pr al re lc cn A C f (-5) 0 :=
  pk_loop (fun f g s => wX_forcedCost_58 post (nI i) (zb t) (nI N) (nI h) (nI w) (nI l) V (nI n) M (nI k) pr al re lc cn A C f s (nI g)) (fun g s => s = zp_lv (zp_ll G g)) N 0 (-5) (Nat.zero_le _) rfl
    (fun f s e => pk_le N N (fun _ => by rw [e]; exact hp) (fun z => absurd z (by omega)))
    (fun f g s hg e hs => pk_le N g (fun z => absurd z (by omega)) (fun _ => zx_bitAt i (by omega) (by
      by_cases hb : bt (nI g) i = t
      · refine br_t (by rw [hb]) (zx_sc hw1 hw3 hn g ?_)
        have e2 : zp_cs A C V M w k n g = G g := by
          rw [← hG]
          unfold zp_fi
          rw [if_pos (by show (bt (nI g) i == t) = true; rw [hb]; exact beq_self_eq_true t)]
        rw [e2, e]
        exact zx_les P (nm_r (nI_1 g) (hs _ rfl))
      · refine br_f (fun z => hb (zb_inj z)) (nm_r (nI_1 g) (hs _ ?_))
        have e2 : G g = none := by
          rw [← hG]
          unfold zp_fi
          rw [if_neg (fun z => hb (eq_of_beq z))]
        rw [zp_ll_n e2, e])))
end
end
section
section
variable {h w l n k : Nat} {V M pr al re lc cn : Int32} {A C : Nat → Int32}
/-- what the object keeps, whatever is called -/
def zo_ok (h w l n k : Nat) (M : Int32) (C : Nat → Int32) : Prop :=
  h ≤ 4 ∧ 0 < w ∧ w ≤ 3 ∧ 1 ≤ l ∧ l ≤ 10 ∧ n ≤ 10 ∧ k ≤ l ∧ (∀ j, C j = -1 ∨ ∃ c : Nat, c ≤ 1000 ∧ C j = nI c) ∧ (∀ r, k ≤ r → bt M r = false)
/-- what a result is -/
def zo_res (w n k : Nat) (V M pr al re lc odd : Int32) (A C : Nat → Int32) : Prop :=
  ¬ pr = 0 → 1 ≤ k ∧ n = w * k ∧ re = al ^^^ odd ∧ ∃ B : Nat, B < 2 ^ n ∧ al = V ^^^ nI B ∧ zp_cs A C V M w k n B = some lc ∧ ∀ g, g < 2 ^ n → ∀ c, zp_cs A C V M w k n g = some c → ¬ c < lc
theorem zo_res0 {odd : Int32} : zo_res w n k V M 0 al re lc odd A C := fun z => absurd rfl z
theorem zo_b2 {b : Nat} (h : b < 2) : ∃ β : Bool, nI b = zb β := by
  rcases (show b = 0 ∨ b = 1 by omega) with rfl | rfl
  · exact ⟨false, rfl⟩
  · exact ⟨true, rfl⟩
theorem zo_app {b : Bool} {v : Int32} (hn : n < 32) (hV : ∀ i, n ≤ i → bt v i = false) : ∀ i, n + 1 ≤ i → bt (v ||| (zb b <<< (nI n &&& 31))) i = false := by
  intro t ht
  rcases Nat.lt_or_ge t 32 with z | z
  · rw [b_or, b_shl n hn _ z, zb_bt _ _ (by omega), hV t (by omega), decide_eq_false (show ¬ t - n = 0 by omega), Bool.and_false, Bool.and_false, Bool.or_false]
  · exact b_big z
theorem zo_upC {p : Int32} (hC : ∀ j, C j = -1 ∨ ∃ c : Nat, c ≤ 1000 ∧ C j = nI c) (hp : p = -1 ∨ ∃ c : Nat, c ≤ 1000 ∧ p = nI c) (q : Nat) : ∀ j, upd C q p j = -1 ∨ ∃ c : Nat, c ≤ 1000 ∧ upd C q p j = nI c := by
  intro j
  by_cases e : j = q
  · rw [e, pk_us]
    exact hp
  · rw [pk_un e]
    exact hC j
theorem zo_cost (a : Int32) : ((a = -1 ∨ ∃ c : Nat, c ≤ 1000 ∧ a = nI c) ∧ (∀ post : Int32 → Prop, post 1 → wpX_isCost post () a)) ∨ (∀ post : Int32 → Prop, post 0 → wpX_isCost post () a) := by
  by_cases z : a = -1
  · exact Or.inl ⟨Or.inl z, fun post hp => br_t z hp⟩
  · by_cases z0 : a < 0
    · exact Or.inr (fun post hp => br_f z (br_t z0 (br_t rfl hp)))
    · obtain ⟨c, hc, rfl⟩ := nI_of z0
      by_cases g : c ≤ 1000
      · have g1 : ¬ (1001 : Int32) ≤ nI c := nI_ge (b := 1001) (by omega) (by decide)
        exact Or.inl ⟨Or.inr ⟨c, g, rfl⟩, fun post hp => br_f z (br_f z0 (br_f g1 (br_f zb_10 hp)))⟩
      · have g1 : (1001 : Int32) ≤ nI c := nI_le (a := 1001) (by omega) hc
        exact Or.inr (fun post hp => br_f z (br_f z0 (br_t g1 (br_t rfl hp))))
theorem zo_n2 : ¬ (-2 : Int32) = 0 := by decide
theorem zo_n3 : ¬ (-3 : Int32) = 0 := by decide
theorem zo_n6 : ¬ (-6 : Int32) = 0 := by decide
theorem zo_load {post : Int32 → St2 → Prop} {a b : Int32} (hw : w ≤ 3) (H0 : ∀ A', post 0 (nI h, nI w, nI l, V, nI n, M, nI k, 0, al, re, lc, cn, A', C)) (H1 : post (-2) (nI h, nI w, nI l, V, nI n, M, nI k, pr, al, re, lc, cn, A, C)) : wpX_loadColumn post (nI h, nI w, nI l, V, nI n, M, nI k, pr, al, re, lc, cn, A, C) a b := by
  by_cases z0 : a < 0
  · exact br_t z0 (br_t rfl H1)
  · by_cases z1 : nI w ≤ a
    · exact br_f z0 (br_t z1 (br_t rfl H1))
    · have hi : vp_in a 3 := by
        obtain ⟨j, hj, rfl⟩ := nI_of z0
        rw [nI_leI (by omega) hj] at z1
        exact vp_in_nI (by omega) (by omega)
      by_cases z2 : b < 0
      · exact br_f z0 (br_f z1 (br_f zb_10 (br_t z2 (br_t rfl H1))))
      · by_cases z3 : (1 : Int32) <<< (nI h &&& 31) ≤ b
        · exact br_f z0 (br_f z1 (br_f zb_10 (br_f z2 (br_t z3 (br_t rfl H1)))))
        · exact br_f z0 (br_f z1 (br_f zb_10 (br_f z2 (br_f z3 (br_f zb_10 ⟨hi, nm_e (H0 _)⟩)))))
theorem zo_addC {post : Int32 → St2 → Prop} {a b : Int32} (O : zo_ok h w l n k M C) (H0 : ∀ V' C', zo_ok h w l (n + 1) k M C' → post 0 (nI h, nI w, nI l, V', nI (n + 1), M, nI k, 0, al, re, lc, cn, A, C')) (H1 : ∀ r, ¬ r = 0 → post r (nI h, nI w, nI l, V, nI n, M, nI k, pr, al, re, lc, cn, A, C)) : wpX_addCover post (nI h, nI w, nI l, V, nI n, M, nI k, pr, al, re, lc, cn, A, C) a b := by
  obtain ⟨o1, o2, o3, o4, o5, o6, o7, o8, o9⟩ := O
  by_cases hn : n < 10
  · have y : nI n < 10 := nI_lt (b := 10) hn (by decide)
    by_cases z0 : a < 0
    · exact br_t y (br_t z0 (br_t rfl (H1 _ zo_n2)))
    · by_cases z1 : 2 ≤ a
      · exact br_t y (br_f z0 (br_t z1 (br_t rfl (H1 _ zo_n2))))
      · rcases zo_cost b with ⟨g, gX⟩ | gX
        · have hi : vp_in (nI n) 10 := vp_in_nI hn (by omega)
          exact br_t y (br_f z0 (br_f z1 (br_f zb_10 (gX _ (br_f zb_10 (nm_e ⟨hi, nm_e (nm_r (nI_1 n) (H0 _ _ ⟨o1, o2, o3, o4, o5, by omega, o7, zo_upC o8 g _, o9⟩))⟩))))))
        · exact br_t y (br_f z0 (br_f z1 (br_f zb_10 (gX _ (br_t rfl (H1 _ zo_n2))))))
  · have y : ¬ nI n < 10 := nI_nlt (b := 10) (by omega) (by omega)
    exact br_f y (H1 _ zo_n3)
theorem zo_setC {post : Int32 → St2 → Prop} {a b : Int32} (O : zo_ok h w l n k M C) (H0 : ∀ C', zo_ok h w l n k M C' → post 0 (nI h, nI w, nI l, V, nI n, M, nI k, 0, al, re, lc, cn, A, C')) (H1 : post (-2) (nI h, nI w, nI l, V, nI n, M, nI k, pr, al, re, lc, cn, A, C)) : wpX_setCost post (nI h, nI w, nI l, V, nI n, M, nI k, pr, al, re, lc, cn, A, C) a b := by
  obtain ⟨o1, o2, o3, o4, o5, o6, o7, o8, o9⟩ := O
  by_cases z0 : a < 0
  · exact br_t z0 (br_t rfl H1)
  · by_cases z1 : nI n ≤ a
    · exact br_f z0 (br_t z1 (br_t rfl H1))
    · have hi : vp_in a 10 := by
        obtain ⟨j, hj, rfl⟩ := nI_of z0
        rw [nI_leI (by omega) hj] at z1
        exact vp_in_nI (by omega) (by omega)
      rcases zo_cost b with ⟨g, gX⟩ | gX
      · exact br_f z0 (br_f z1 (br_f zb_10 (gX _ (br_f zb_10 ⟨hi, nm_e (H0 _ ⟨o1, o2, o3, o4, o5, o6, o7, zo_upC o8 g _, o9⟩)⟩))))
      · exact br_f z0 (br_f z1 (br_f zb_10 (gX _ (br_t rfl H1))))
theorem zo_addM {post : Int32 → St2 → Prop} {a : Int32} (O : zo_ok h w l n k M C) (H0 : ∀ M', zo_ok h w l n (k + 1) M' C → post 0 (nI h, nI w, nI l, V, nI n, M', nI (k + 1), 0, al, re, lc, cn, A, C)) (H1 : ∀ r, ¬ r = 0 → post r (nI h, nI w, nI l, V, nI n, M, nI k, pr, al, re, lc, cn, A, C)) : wpX_addMessage post (nI h, nI w, nI l, V, nI n, M, nI k, pr, al, re, lc, cn, A, C) a := by
  obtain ⟨o1, o2, o3, o4, o5, o6, o7, o8, o9⟩ := O
  by_cases hn : k < l
  · have y : nI k < nI l := nI_lt hn (by omega)
    by_cases z0 : a < 0
    · exact br_t y (br_t z0 (br_t rfl (H1 _ zo_n2)))
    · obtain ⟨b, hb, rfl⟩ := nI_of z0
      by_cases hb2 : b < 2
      · have z1 : ¬ (2 : Int32) ≤ nI b := nI_ge (b := 2) hb2 (by decide)
        obtain ⟨β, hβ⟩ := zo_b2 hb2
        refine br_t y (br_f z0 (br_f z1 (br_f zb_10 (nm_e (nm_r (nI_1 k) (H0 _ ⟨o1, o2, o3, o4, o5, o6, hn, o8, ?_⟩))))))
        rw [hβ]
        exact zo_app (by omega) o9
      · have z1 : (2 : Int32) ≤ nI b := nI_le (a := 2) (by omega) hb
        exact br_t y (br_f z0 (br_t z1 (br_t rfl (H1 _ zo_n2))))
  · have y : ¬ nI k < nI l := nI_nlt (by omega) (by omega)
    exact br_f y (H1 _ zo_n3)
theorem zo_flip {post : Int32 → St2 → Prop} {a : Int32} (H0 : ¬ pr = 0 → post 0 (nI h, nI w, nI l, V, nI n, M, nI k, pr, al, re ^^^ ((1 : Int32) <<< (a &&& 31)), lc, cn, A, C)) (H1 : ∀ r, ¬ r = 0 → post r (nI h, nI w, nI l, V, nI n, M, nI k, pr, al, re, lc, cn, A, C)) : wpX_flip post (nI h, nI w, nI l, V, nI n, M, nI k, pr, al, re, lc, cn, A, C) a := by
  by_cases z : pr = 0
  · exact br_t z (H1 _ zo_n6)
  · by_cases z0 : a < 0
    · exact br_f z (br_t z0 (br_t rfl (H1 _ zo_n2)))
    · by_cases z1 : nI n ≤ a
      · exact br_f z (br_f z0 (br_t z1 (br_t rfl (H1 _ zo_n2))))
      · exact br_f z (br_f z0 (br_f z1 (br_f zb_10 (nm_e (H0 z)))))
/-- the reading methods within their range -/
theorem zo_in {post : Int32 → Prop} {i q : Nat} (hq : q < 2 ^ 31) (h1 : i < q) (hp : post 1) : wpX_isBelow post () (nI i) (nI q) := br_f (nI_pos (by omega)) (br_f (nI_ge h1 hq) hp)
theorem zo_cB {post : Int32 → Prop} (hn : n ≤ 10) (i : Nat) (hi : i < n) (hp : post (zb (bt V i))) : wpX_coverBit post (nI h, nI w, nI l, V, nI n, M, nI k, pr, al, re, lc, cn, A, C) (nI i) := by
  refine br_f (nI_pos (by omega)) (br_f (nI_ge hi (by omega)) ?_)
  exact br_f zb_10 (zx_bitAt i (by omega) hp)
theorem zo_mB {post : Int32 → Prop} (hk : k ≤ 10) (i : Nat) (hi : i < k) (hp : post (zb (bt M i))) : wpX_messageBit post (nI h, nI w, nI l, V, nI n, M, nI k, pr, al, re, lc, cn, A, C) (nI i) := by
  refine br_f (nI_pos (by omega)) (br_f (nI_ge hi (by omega)) ?_)
  exact br_f zb_10 (zx_bitAt i (by omega) hp)
theorem zo_cC {post : Int32 → Prop} (hn : n ≤ 10) (i : Nat) (hi : i < n) (hp : post (C i)) : wpX_coverCost post (nI h, nI w, nI l, V, nI n, M, nI k, pr, al, re, lc, cn, A, C) (nI i) := by
  refine br_f (nI_pos (by omega)) (br_f (nI_ge hi (by omega)) ?_)
  refine br_f zb_10 ⟨vp_in_nI (by omega) (by omega), ?_⟩
  rw [nI_clamp (by omega)]
  exact hp
theorem zo_col {post : Int32 → Prop} (hw : w ≤ 3) (i : Nat) (hi : i < w) (hp : post (A i)) : wpX_columnBits post (nI h, nI w, nI l, V, nI n, M, nI k, pr, al, re, lc, cn, A, C) (nI i) := by
  refine br_f (nI_pos (by omega)) (br_f (nI_ge hi (by omega)) ?_)
  refine br_f zb_10 ⟨vp_in_nI (by omega) (by omega), ?_⟩
  rw [nI_clamp (by omega)]
  exact hp
theorem zo_aB {post : Int32 → Prop} (hpr : ¬ pr = 0) (hn : n ≤ 10) (i : Nat) (hi : i < n) (hp : post (zb (bt al i))) : wpX_alteredBit post (nI h, nI w, nI l, V, nI n, M, nI k, pr, al, re, lc, cn, A, C) (nI i) := by
  refine br_f hpr (zo_in (by omega) hi ?_)
  exact br_f zb_10 (zx_bitAt i (by omega) hp)
theorem zo_eB {post : Int32 → Prop} (hpr : ¬ pr = 0) (hw1 : 0 < w) (hw3 : w ≤ 3) (hn : n ≤ 10) (hk : k ≤ 10) (i : Nat) (hi : i < k) (hp : post (zb (bt (zp_sy A w k re n) i))) : wpX_extractBit post (nI h, nI w, nI l, V, nI n, M, nI k, pr, al, re, lc, cn, A, C) (nI i) := by
  refine br_f hpr (zo_in (by omega) hi ?_)
  refine br_f zb_10 (zx_sy hw1 hw3 hn ?_)
  exact zx_bitAt i (by omega) hp
theorem zo_fc {post : Int32 → Prop} {a b : Int32} (O : zo_ok h w l n k M C) (H : ∀ r, post r) : wpX_forcedCost post (nI h, nI w, nI l, V, nI n, M, nI k, pr, al, re, lc, cn, A, C) a b := by
  obtain ⟨o1, o2, o3, o4, o5, o6, o7, o8, o9⟩ := O
  have hN : 2 ^ n ≤ 1024 := Nat.pow_le_pow_right (by decide) o6
  unfold wpX_forcedCost
  dsimp only
  refine zx_ready o3 (by omega) o6 ?_ ?_
  · intro q1 q2
    refine br_f zb_10 ?_
    by_cases z0 : a < 0
    · exact br_t z0 (br_t rfl (H _))
    · by_cases z1 : nI n ≤ a
      · exact br_f z0 (br_t z1 (br_t rfl (H _)))
      · by_cases z2 : b < 0
        · exact br_f z0 (br_f z1 (br_f zb_10 (br_t z2 (br_t rfl (H _)))))
        · obtain ⟨j, hj, rfl⟩ := nI_of z0
          obtain ⟨b, hb, rfl⟩ := nI_of z2
          have z3 := z1
          rw [nI_leI (by omega) hj] at z3
          by_cases hb2 : b < 2
          · have y1 : ¬ (2 : Int32) ≤ nI b := nI_ge (b := 2) hb2 (by decide)
            obtain ⟨β, hβ⟩ := zo_b2 hb2
            rw [hβ] at z2 y1 ⊢
            exact br_f z0 (br_f z1 (br_f zb_10 (br_f z2 (br_f y1 (br_f zb_10 (zx_bitAt j (by omega) (nm_r (zb_xor _ _) (nm_r (zb_pow n (by omega)) (zx_fcL o2 o3 o6 hN j (by omega) (bt V j ^^ β) rfl (zp_fi_P (zp_cs_P o8 o6)) (H _))))))))))
          · have y1 : (2 : Int32) ≤ nI b := nI_le (a := 2) (by omega) hb
            exact br_f z0 (br_f z1 (br_f zb_10 (br_f z2 (br_t y1 (br_t rfl (H _))))))
  · intro q
    exact br_t rfl (H _)
end
end
section
section
variable {h w l n k L : Nat} {V M pr al re lc cn : Int32} {A C : Nat → Int32} {post : Int32 → Prop} {xs : Nat → Int32} {kc ks : Nat}
variable {J : Int32 → Int32 → Int32 → Int32 → Int32 → Int32 → Int32 → Int32 → Int32 → Int32 → Int32 → Int32 → Int32 → Int32 → Int32 → Int32 → Int32 → (Nat → Int32) → (Nat → Int32) → Prop}
variable {x1 x4 x6 od x10 no co : Int32}
theorem zc_neg0 : ∀ c, c < 1001 → (-(nI c)).toInt64 = -(lN c) := by decide +kernel
theorem zc_neg {s c : Nat} (hc : c ≤ 1000) : lN (s + c) + (-(nI c)).toInt64 = lN s := by
  rw [zc_neg0 c (by omega), ← Int64.sub_eq_add_neg, lN_sub (Nat.le_add_left c s), Nat.add_sub_cancel]
theorem zc_1061 {J942 : Int32 → Int64 → Int32 → Int32 → Prop} {g : Nat} {d : Int32} {s q : Nat} (hs : s < 2 ^ 31) (hq : q < 2 ^ 31) (hd : d = 0 → q = 0 → no = 0 ∧ ∃ a : Nat, a ≤ s ∧ co = nI a) (HJ : J942 d (lN s) (nI q) (nI (g + 1))) :
    wL_law_1061 post L xs J J942 x1 (nI w) x4 x6 (nI n) (nI k) od x10 no co d (lN s) (nI q) (nI g) kc ks (nI h) (nI w) (nI l) V (nI n) M (nI k) pr al re lc cn A C :=
  br_c (fun z => pk_eq q 0 (fun y => by
    obtain ⟨e, a, ha, e2⟩ := hd z y
    exact br_t e (br_t (by rw [e2, nI_l (by omega)]; exact (lN_le (by omega) hs).mpr ha) (nm_r (nI_1 g) HJ))) (fun y => nm_r (nI_1 g) HJ)) (fun z => nm_r (nI_1 g) HJ)
theorem zc_low {post : Int32 → Prop} {g t : Nat} (ht : t < 10) (h0 : ∀ j, j < t → g.testBit j = false) (h1 : g.testBit t = true) (hp : post (nI t)) : wpL_lowest post () (nI g) :=
  pk_loop (σ := Unit) (fun f i _ => wL_lowest_2 post (nI g) f (nI i)) (fun _ _ => True) t 0 () (by omega) trivial
    (fun f _ _ => pk_le 30 t (fun z => absurd z (by omega)) (fun _ => by rw [zb_bit _ t (by omega), zb_nI g t (by omega), h1]; exact br_f zb_10 hp))
    (fun f i _ hi _ hs => pk_le 30 i (fun z => absurd z (by omega)) (fun _ => by rw [zb_bit _ i (by omega), zb_nI g i (by omega), h0 i hi]; exact br_t rfl (nm_r (nI_1 i) (hs () trivial))))
theorem zc_colm {post : Int32 → Prop} (hw1 : 0 < w) (hw3 : w ≤ 3) (i : Nat) (hi : i < 32) (hp : post (zp_mc A w k i)) : ¬ nI w = 0 ∧ wpX_columnBits (fun r => wpL_column post () r (nI i) (nI w) (nI k)) (nI h, nI w, nI l, V, nI n, M, nI k, pr, al, re, lc, cn, A, C) (nI i - nI i / nI w * nI w) := by
  rw [pk_rem (by omega) hw1 (by omega)]
  refine ⟨nI_ne0 hw1 (by omega), zo_col hw3 (i % w) (Nat.mod_lt _ hw1) ⟨nI_ne0 hw1 (by omega), ?_⟩⟩
  rw [pk_div (by omega) hw1 (by omega)]
  exact hp
theorem zc_984 {J942 : Int32 → Int64 → Int32 → Int32 → Prop} {g t : Nat} {d d' : Int32} {s q s' q' : Nat} (on : Bool) (hw1 : 0 < w) (hw3 : w ≤ 3) (hn : n ≤ 10) (ht : t < n) (hd : d' = d ^^^ zp_mc A w k t)
    (hC : C t = -1 ∨ ∃ c : Nat, c ≤ 1000 ∧ C t = nI c)
    (hs : s' + (if (!on) = true then zq_c (C t) else 0) = s + (if on = true then zq_c (C t) else 0))
    (hq : q' + (if (!on) = true then zq_w (C t) else 0) = q + (if on = true then zq_w (C t) else 0))
    (H : wL_law_1061 post L xs J J942 x1 (nI w) x4 x6 (nI n) (nI k) od x10 no co d' (lN s') (nI q') (nI g) kc ks (nI h) (nI w) (nI l) V (nI n) M (nI k) pr al re lc cn A C) :
    wL_law_984 post L xs J J942 x1 (nI w) x4 x6 (nI n) (nI k) od x10 no co d (lN s) (nI q) (nI g) (nI t) (zb on) kc ks (nI h) (nI w) (nI l) V (nI n) M (nI k) pr al re lc cn A C := by
  refine zo_cC hn t ht ?_
  refine zc_colm hw1 hw3 t (by omega) ?_
  refine nm_r hd.symm ?_
  by_cases hc : C t = -1
  · have c0 : zq_c (C t) = 0 := if_pos hc
    have w1 : zq_w (C t) = 1 := if_pos hc
    rw [c0, ite_self, ite_self] at hs
    have es : s' = s := hs
    subst es
    rw [w1] at hq
    refine br_t hc ?_
    cases on
    · have eq : q = q' + 1 := hq.symm
      subst eq
      exact br_t rfl (nm_r (pk_m1 q') H)
    · have eq : q' = q + 1 := hq
      subst eq
      exact br_f zb_10 (nm_r (nI_1 q) H)
  · have w0 : zq_w (C t) = 0 := if_neg hc
    obtain ⟨e, he⟩ := zq_cI hC hc
    rw [w0, ite_self, ite_self] at hq
    have eq : q' = q := hq
    subst eq
    refine br_f hc ?_
    cases on
    · have es : s = s' + zq_c (C t) := hs.symm
      subst es
      refine br_t rfl (nm_r (?_ : lN (s' + zq_c (C t)) + (-(C t)).toInt64 = lN s') H)
      rw [congrArg (fun z : Int32 => (-z).toInt64) e]
      exact zc_neg he
    · have es : s' = s + zq_c (C t) := hs
      subst es
      refine br_f zb_10 (nm_r (?_ : lN s + (C t).toInt64 = lN (s + zq_c (C t))) H)
      rw [congrArg (fun z : Int32 => z.toInt64) e, nI_l (by omega), lN_add]
/-! ===== the walk along the gray code ===== -/
def zc_gr (g : Nat) : Nat := g ^^^ g / 2
def zc_D (A : Nat → Int32) (V M : Int32) (w k n G : Nat) : Int32 := M ^^^ zp_sy A w k (V ^^^ nI G) n
def zc_S (C : Nat → Int32) (n G : Nat) : Nat := zq_S (fun j => zq_c (C j)) (bt (nI G)) n
def zc_W (C : Nat → Int32) (n G : Nat) : Nat := zq_S (fun j => zq_w (C j)) (bt (nI G)) n
theorem zc_btx {G t i : Nat} (hi : i < 32) : bt (nI (G ^^^ 2 ^ t)) i = (bt (nI G) i ^^ decide (t = i)) := by
  rw [zb_nI _ i hi, zb_nI _ i hi, Nat.testBit_xor, Nat.testBit_two_pow]
theorem zc_btn {G t i : Nat} (hi : i < 32) (h : i ≠ t) : bt (nI (G ^^^ 2 ^ t)) i = bt (nI G) i := by
  rw [zc_btx hi, decide_eq_false (fun z => h z.symm), Bool.xor_false]
theorem zc_bte {G t : Nat} (ht : t < 32) : bt (nI (G ^^^ 2 ^ t)) t = !bt (nI G) t := by
  rw [zc_btx ht, decide_eq_true rfl, Bool.xor_true]
theorem zc_Dx {G t : Nat} (hn : n ≤ 10) (ht : t < n) : zc_D A V M w k n (G ^^^ 2 ^ t) = zc_D A V M w k n G ^^^ zp_mc A w k t := by
  unfold zc_D
  rw [zq_sy_flip (v := V ^^^ nI G) (t := t) (by rw [b_xor, b_xor, zc_bte (by omega)]; cases bt V t <;> cases bt (nI G) t <;> rfl) n ht (fun i hi hit => by rw [b_xor, b_xor, zc_btn (by omega) hit]), Int32.xor_assoc]
theorem zc_Sx {G t : Nat} (hn : n ≤ 10) (ht : t < n) (f : Nat → Nat) : zq_S f (bt (nI (G ^^^ 2 ^ t))) n + (if (!bt (nI (G ^^^ 2 ^ t)) t) = true then f t else 0) = zq_S f (bt (nI G)) n + (if bt (nI (G ^^^ 2 ^ t)) t = true then f t else 0) := by
  have e := zq_S_flip (f := f) (b := bt (nI G)) (b' := bt (nI (G ^^^ 2 ^ t))) n ht (fun i hi hit => zc_btn (by omega) hit)
  rw [← e, zc_bte (by omega), Bool.not_not]
theorem zc_SB (hC : ∀ j, C j = -1 ∨ ∃ c : Nat, c ≤ 1000 ∧ C j = nI c) (hn : n ≤ 10) (G : Nat) : zc_S C n G ≤ 10000 := by
  have e := zq_S_le (f := fun j => zq_c (C j)) (b := bt (nI G)) (B := 1000) (fun j => zq_c_le (hC j)) n
  unfold zc_S
  omega
theorem zc_WB (hn : n ≤ 10) (G : Nat) : zc_W C n G ≤ 10 := by
  have e := zq_S_le (f := fun j => zq_w (C j)) (b := bt (nI G)) (B := 1) (fun j => by show zq_w (C j) ≤ 1; unfold zq_w; split <;> omega) n
  unfold zc_W
  omega
theorem zc_cs (hC : ∀ j, C j = -1 ∨ ∃ c : Nat, c ≤ 1000 ∧ C j = nI c) (G : Nat) : zp_cf C (nI G) n 0 0 = if zc_W C n G = 0 then some (nI (zc_S C n G)) else none := by
  have e := zq_cf (G := nI G) hC n 0 rfl
  rw [Nat.zero_add] at e
  exact e
theorem zc_x0 {a b : Int32} (h : a ^^^ b = 0) : b = a := by
  have e := zq_x0 a b
  rw [h, Int32.zero_xor] at e
  exact e
def zc_safe (A C : Nat → Int32) (V M : Int32) (w k n : Nat) (no co : Int32) : Prop := ∀ g, g < 2 ^ n → ∀ c, zp_cs A C V M w k n g = some c → no = 0 ∧ ∃ a : Nat, a < 2 ^ 31 ∧ co = nI a ∧ ¬ c < co
theorem zc_hd (hC : ∀ j, C j = -1 ∨ ∃ c : Nat, c ≤ 1000 ∧ C j = nI c) (hn : n ≤ 10) (F : zc_safe A C V M w k n no co) (G : Nat) (hG : G < 2 ^ n) : zc_D A V M w k n G = 0 → zc_W C n G = 0 → no = 0 ∧ ∃ a : Nat, a ≤ zc_S C n G ∧ co = nI a := by
  intro d q
  have e : zp_cs A C V M w k n G = some (nI (zc_S C n G)) := by
    unfold zp_cs
    rw [if_pos (zc_x0 d), zc_cs hC, if_pos q]
  obtain ⟨f1, a, f2, f3, f4⟩ := F G hG _ e
  have b := zc_SB hC hn G
  rw [f3, nI_ltI (by omega) f2] at f4
  exact ⟨f1, a, by omega, f3⟩
theorem zc_grlt {g : Nat} (hg : g < 2 ^ n) : zc_gr g < 2 ^ n := Nat.xor_lt_two_pow hg (Nat.lt_of_le_of_lt (Nat.div_le_self g 2) hg)
theorem zc_942 {N : Nat} (O : zo_ok h w l n k M C) (hN : 2 ^ n = N) (F : zc_safe A C V M w k n no co) (HJ : J x6 (nI n) (nI k) od (x10 + 1) (nI h) (nI w) (nI l) V (nI n) M (nI k) pr al re lc cn A C) :
    ∃ f, wL_law_942 post L xs J x1 (nI w) x4 x6 (nI n) (nI k) od x10 no co kc ks (nI h) (nI w) (nI l) V (nI n) M (nI k) pr al re lc cn A C f (zc_D A V M w k n 0) 0 0 0 := by
  obtain ⟨o1, o2, o3, o4, o5, o6, o7, o8, o9⟩ := O
  have hN' : N ≤ 1024 := by rw [← hN]; exact Nat.pow_le_pow_right (by decide) o6
  have eN : (1 : Int32) <<< (nI n &&& 31) = nI N := (zb_pow n (by omega)).trans (by rw [hN])
  have z0 : zc_S C n 0 = 0 := by
    have e : ∀ m, zq_S (fun j => zq_c (C j)) (bt (nI 0)) m = 0 := by
      intro m
      induction m with
      | zero => rfl
      | succ m ih =>
        show zq_S (fun j => zq_c (C j)) (bt (nI 0)) m + (if bt (nI 0) m = true then zq_c (C m) else 0) = 0
        rw [ih, if_neg (by rw [show bt (nI 0) m = false from b_0 m]; decide)]
    exact e n
  have z1 : zc_W C n 0 = 0 := by
    have e : ∀ m, zq_S (fun j => zq_w (C j)) (bt (nI 0)) m = 0 := by
      intro m
      induction m with
      | zero => rfl
      | succ m ih =>
        show zq_S (fun j => zq_w (C j)) (bt (nI 0)) m + (if bt (nI 0) m = true then zq_w (C m) else 0) = 0
        rw [ih, if_neg (by rw [show bt (nI 0) m = false from b_0 m]; decide)]
    exact e n
  have key : ∃ f, wL_law_942 post L xs J x1 (nI w) x4 x6 (nI n) (nI k) od x10 no co kc ks (nI h) (nI w) (nI l) V (nI n) M (nI k) pr al re lc cn A C f (zc_D A V M w k n 0) (lN (zc_S C n 0)) (nI (zc_W C n 0)) (nI 0) :=
    pk_loop (fun f g (s : Int32 × Int64 × Int32) => wL_law_942 post L xs J x1 (nI w) x4 x6 (nI n) (nI k) od x10 no co kc ks (nI h) (nI w) (nI l) V (nI n) M (nI k) pr al re lc cn A C f s.1 s.2.1 s.2.2 (nI g))
      (fun g s => s = (zc_D A V M w k n (zc_gr (g - 1)), lN (zc_S C n (zc_gr (g - 1))), nI (zc_W C n (zc_gr (g - 1))))) N 0 (zc_D A V M w k n 0, lN (zc_S C n 0), nI (zc_W C n 0)) (Nat.zero_le _) rfl
      (fun f s e => pk_le N N (fun _ => nm_e HJ) (fun z => absurd z (by omega)) (hx := eN))
      (fun f g s hg e hs => pk_le N g (fun z => absurd z (by omega)) (fun _ => by
        subst e
        have hs' := hs (zc_D A V M w k n (zc_gr g), lN (zc_S C n (zc_gr g)), nI (zc_W C n (zc_gr g))) rfl
        have bS := zc_SB o8 o6 (zc_gr g)
        have bW := zc_WB (C := C) o6 (zc_gr g)
        have T := zc_1061 (h := h) (w := w) (l := l) (n := n) (k := k) (L := L) (V := V) (M := M) (pr := pr) (al := al) (re := re) (lc := lc) (cn := cn) (A := A) (C := C) (post := post) (xs := xs) (kc := kc) (ks := ks) (J := J) (x1 := x1) (x4 := x4) (x6 := x6) (od := od) (x10 := x10) (no := no) (co := co) (g := g) (by omega) (by omega) (zc_hd o8 o6 F (zc_gr g) (zc_grlt (by omega))) hs'
        refine pk_le g 0 (fun y => ?_) (fun y => ?_)
        · have y' : g = 0 := by omega
          subst y'
          exact T
        · obtain ⟨t, t1, t2, t3, t4, t5⟩ := zq_gray g (by omega) y
          have tn : t < n := (Nat.pow_lt_pow_iff_right (by decide)).mp (show 2 ^ t < 2 ^ n by omega)
          have eg : zc_gr g = zc_gr (g - 1) ^^^ 2 ^ t := t5
          have eb : ((nI g ^^^ (nI g >>> ((1 : Int32) &&& 31))) >>> (nI t &&& 31)) &&& 1 = zb (bt (nI (zc_gr g)) t) := by
            rw [pk_shrN (by omega) _ 1 (by decide), nx_xor, zb_bit _ t (by omega)]
            rfl
          refine zc_low t1 t3 t4 ?_
          rw [eb]
          have X := zc_984 (h := h) (w := w) (l := l) (n := n) (k := k) (L := L) (V := V) (M := M) (pr := pr) (al := al) (re := re) (lc := lc) (cn := cn) (A := A) (C := C) (post := post) (xs := xs) (kc := kc) (ks := ks) (J := J) (x1 := x1) (x4 := x4) (x6 := x6) (od := od) (x10 := x10) (no := no) (co := co) (g := g) (t := t) (d := zc_D A V M w k n (zc_gr (g - 1))) (s := zc_S C n (zc_gr (g - 1))) (q := zc_W C n (zc_gr (g - 1))) (bt (nI (zc_gr g)) t) o2 o3 o6 tn (by rw [eg]; exact zc_Dx o6 tn) (o8 t) (by rw [eg]; exact zc_Sx o6 tn (fun j => zq_c (C j))) (by rw [eg]; exact zc_Sx o6 tn (fun j => zq_w (C j))) T
          cases hb : bt (nI (zc_gr g)) t
          · rw [hb] at X
            exact br_f zb_ne X
          · rw [hb] at X
            exact br_t rfl X) (hx := eN))
  rw [z0, z1] at key
  exact key
end
end
section
section
variable {h w l n k L : Nat} {V M pr al re lc cn : Int32} {A C : Nat → Int32} {post : Int32 → Prop} {xs : Nat → Int32} {kc ks : Nat}
variable {J : Int32 → Int32 → Int32 → Int32 → Int32 → Int32 → Int32 → Int32 → Int32 → Int32 → Int32 → Int32 → Int32 → Int32 → Int32 → Int32 → Int32 → (Nat → Int32) → (Nat → Int32) → Prop}
variable {x1 x4 x6 od x10 no co x14 : Int32}
theorem zc_a1 (b : Bool) : zb b &&& 1 = zb b := by cases b <;> decide +kernel
theorem zc_885 (O : zo_ok h w l n k M C) (F : zc_safe A C V M w k n no co) (HJ : J x6 (nI n) (nI k) od (x10 + 1) (nI h) (nI w) (nI l) V (nI n) M (nI k) pr al re lc cn A C) :
    ∃ f, wL_law_885 post L xs J x1 (nI w) x4 x6 (nI n) (nI k) od x10 no co kc ks (nI h) (nI w) (nI l) V (nI n) M (nI k) pr al re lc cn A C f M 0 := by
  have O' := O
  obtain ⟨o1, o2, o3, o4, o5, o6, o7, o8, o9⟩ := O'
  refine pk_loop (fun f i s => wL_law_885 post L xs J x1 (nI w) x4 x6 (nI n) (nI k) od x10 no co kc ks (nI h) (nI w) (nI l) V (nI n) M (nI k) pr al re lc cn A C f s (nI i)) (fun i s => s = M ^^^ zp_sy A w k V i) n 0 M (Nat.zero_le _) Int32.xor_zero.symm
    (fun f s e => pk_le n n (fun _ => ?_) (fun z => absurd z (by omega)))
    (fun f i s hi e hs => pk_le n i (fun z => absurd z (by omega)) (fun _ => zo_cB o6 i hi ?_))
  · have e0 : s = zc_D A V M w k n 0 := by
      rw [e]
      unfold zc_D
      rw [show V ^^^ nI 0 = V from Int32.xor_zero]
    rw [e0]
    exact zc_942 O rfl F HJ
  · rw [zc_a1]
    by_cases hb : bt V i = true
    · refine br_t (zb_is1.mpr hb) (zc_colm o2 o3 i (by omega) (nm_e (nm_r (nI_1 i) (hs _ ?_))))
      rw [e, zp_sy, if_pos hb, Int32.xor_assoc]
    · refine br_f (fun z => hb (zb_is1.mp z)) (nm_r (nI_1 i) (hs _ ?_))
      rw [e, zp_sy, if_neg hb]
theorem zc_xs {s : Int32} {B : Nat → Bool} {i : Nat} (hi : i < 10) (hs : ∀ t, t < 32 → bt s t = (decide (t < i) && B t)) : ∀ t, t < 32 → bt (s ^^^ (zb (B i) <<< (nI i &&& 31))) t = (decide (t < i + 1) && B t) := by
  intro t ht
  rw [b_xor, hs t ht, b_shl i (by omega) _ ht, zb_bt _ _ (by omega)]
  rcases Nat.lt_trichotomy t i with z | z | z
  · rw [decide_eq_true z, decide_eq_true (show t < i + 1 by omega), decide_eq_false (show ¬ i ≤ t by omega), Bool.false_and, Bool.xor_false]
  · subst z
    rw [decide_eq_false (show ¬ t < t by omega), decide_eq_true (show t < t + 1 by omega), decide_eq_true (show t ≤ t by omega), decide_eq_true (show t - t = 0 by omega), Bool.false_and, Bool.false_xor, Bool.true_and, Bool.and_true, Bool.true_and]
  · rw [decide_eq_false (show ¬ t < i by omega), decide_eq_false (show ¬ t < i + 1 by omega), decide_eq_false (show ¬ t - i = 0 by omega), Bool.and_false, Bool.and_false, Bool.false_and, Bool.xor_false]
theorem zc_852 (O : zo_ok h w l n k M C) (F : zc_safe A C V M w k n no co) (HJ : J x6 (nI n) (nI k) od (x10 + 1) (nI h) (nI w) (nI l) V (nI n) M (nI k) pr al re lc cn A C) :
    ∃ f, wL_law_852 post L xs J x1 (nI w) x4 x6 (nI n) (nI k) od x10 no co kc ks (nI h) (nI w) (nI l) V (nI n) M (nI k) pr al re lc cn A C f 0 0 := by
  have O' := O
  obtain ⟨o1, o2, o3, o4, o5, o6, o7, o8, o9⟩ := O'
  refine pk_loop (fun f i s => wL_law_852 post L xs J x1 (nI w) x4 x6 (nI n) (nI k) od x10 no co kc ks (nI h) (nI w) (nI l) V (nI n) M (nI k) pr al re lc cn A C f s (nI i)) (fun i s => ∀ t, t < 32 → bt s t = (decide (t < i) && bt M t)) k 0 0 (Nat.zero_le _) (fun t _ => by rw [b_0, decide_eq_false (by omega), Bool.false_and])
    (fun f s e => pk_le k k (fun _ => ?_) (fun z => absurd z (by omega)))
    (fun f i s hi e hs => pk_le k i (fun z => absurd z (by omega)) (fun _ => zo_mB (by omega) i hi ?_))
  · have es : s = M := by
      apply b_ext
      intro t ht
      rw [e t ht]
      rcases Nat.lt_or_ge t k with z | z
      · rw [decide_eq_true z, Bool.true_and]
      · rw [o9 t z, Bool.and_false]
    rw [es]
    exact zc_885 O F HJ
  · rw [zc_a1]
    exact nm_e (nm_r (nI_1 i) (hs _ (zc_xs (B := bt M) (by omega) e)))
theorem zc_836 (O : zo_ok h w l n k M C) (F : ¬ x14 = 0 ∨ ¬ no = 0 → zc_safe A C V M w k n no co) (HJ : J x6 (nI n) (nI k) od (x10 + 1) (nI h) (nI w) (nI l) V (nI n) M (nI k) pr al re lc cn A C) :
    wL_law_836 post L xs J x1 (nI w) x4 x6 (nI n) (nI k) od x10 no co x14 kc ks (nI h) (nI w) (nI l) V (nI n) M (nI k) pr al re lc cn A C :=
  br_c (fun z => br_c (fun y => nm_e HJ) (fun y => zc_852 O (F (Or.inr y)) HJ)) (fun z => zc_852 O (F (Or.inl z)) HJ)
theorem zc_781 (O : zo_ok h w l n k M C) (hpr : ¬ pr = 0) (hsy : zp_sy A w k al n = M) (hre : re = al ^^^ od)
    (H : wL_law_836 post L xs J x1 (nI w) x4 x6 (nI n) (nI k) od x10 no co x14 kc ks (nI h) (nI w) (nI l) V (nI n) M (nI k) pr al re lc cn A C) :
    ∃ f, wL_law_781 post L xs J x1 (nI w) x4 x6 (nI n) (nI k) od x10 no co x14 M kc ks (nI h) (nI w) (nI l) V (nI n) M (nI k) pr al re lc cn A C f 0 := by
  obtain ⟨o1, o2, o3, o4, o5, o6, o7, o8, o9⟩ := O
  refine pk_loop (σ := Unit) (fun f i _ => wL_law_781 post L xs J x1 (nI w) x4 x6 (nI n) (nI k) od x10 no co x14 M kc ks (nI h) (nI w) (nI l) V (nI n) M (nI k) pr al re lc cn A C f (nI i)) (fun _ _ => True) k 0 () (Nat.zero_le _) trivial
    (fun f _ _ => pk_le k k (fun _ => H) (fun z => absurd z (by omega)))
    (fun f i _ hi _ hs => pk_le k i (fun z => absurd z (by omega)) (fun _ => zo_mB (by omega) i hi ?_))
  rw [zb_bit M i (by omega)]
  refine br_t rfl (br_c (fun z => ?_) (fun _ => nm_r (nI_1 i) (hs () trivial)))
  refine zo_eB hpr o2 o3 o6 (by omega) i hi ?_
  have e : zp_sy A w k re n = M := by
    rw [hre, z, Int32.xor_zero]
    exact hsy
  exact br_t (by rw [e]) (nm_r (nI_1 i) (hs () trivial))
theorem zc_S0 {f : Nat → Nat} {b : Nat → Bool} : ∀ {m : Nat}, zq_S f b m = 0 → ∀ i, i < m → b i = true → f i = 0
  | 0, _, i, hi, _ => by omega
  | m + 1, h, i, hi, hb => by
    have h' : zq_S f b m + (if b m = true then f m else 0) = 0 := h
    rcases Nat.lt_or_ge i m with z | z
    · exact zc_S0 (m := m) (by omega) i z hb
    · have e : i = m := by omega
      subst e
      rw [if_pos hb] at h'
      omega
theorem zc_724 {J678 : Int32 → Int64 → Int32 → Prop} {i B : Nat} {d : Int32} (O : zo_ok h w l n k M C) (hi : i < n) (hal : al = V ^^^ nI B) (hW : zc_W C n B = 0)
    (H : J678 d (lN (zq_S (fun j => zq_c (C j)) (bt (nI B)) (i + 1))) (nI (i + 1))) :
    wL_law_724 post L xs J J678 x1 (nI w) x4 x6 (nI n) (nI k) od x10 no co x14 d (lN (zq_S (fun j => zq_c (C j)) (bt (nI B)) i)) (nI i) (zb (bt al i)) kc ks (nI h) (nI w) (nI l) V (nI n) M (nI k) pr al re lc cn A C := by
  obtain ⟨o1, o2, o3, o4, o5, o6, o7, o8, o9⟩ := O
  refine zo_cB o6 i hi ?_
  have es : zq_S (fun j => zq_c (C j)) (bt (nI B)) (i + 1) = zq_S (fun j => zq_c (C j)) (bt (nI B)) i + (if bt (nI B) i = true then zq_c (C i) else 0) := rfl
  by_cases hb : bt (nI B) i = true
  · rw [if_pos hb] at es
    have nw : ¬ C i = -1 := by
      intro z
      have t : zq_w (C i) = 0 := zc_S0 hW i hi hb
      unfold zq_w at t
      rw [if_pos z] at t
      omega
    obtain ⟨e, he⟩ := zq_cI (o8 i) nw
    refine br_f (fun z => ?_) (zo_cC o6 i hi (br_f nw (nm_r (?_ : lN (zq_S (fun j => zq_c (C j)) (bt (nI B)) i) + (C i).toInt64 = lN (zq_S (fun j => zq_c (C j)) (bt (nI B)) (i + 1))) (nm_r (nI_1 i) H))))
    · have t := zb_inj z
      rw [hal, b_xor, hb] at t
      revert t
      cases bt V i <;> decide
    · rw [congrArg (fun z : Int32 => z.toInt64) e, nI_l (by omega), lN_add, es]
  · rw [if_neg hb, Nat.add_zero] at es
    rw [es] at H
    refine br_t ?_ (nm_r (nI_1 i) H)
    rw [hal, b_xor, Bool.eq_false_iff.mpr hb, Bool.xor_false]
theorem zc_678 {B : Nat} (O : zo_ok h w l n k M C) (hpr : ¬ pr = 0) (hal : al = V ^^^ nI B) (hW : zc_W C n B = 0) (hco : co = nI (zc_S C n B)) (hsy : zp_sy A w k al n = M) (hre : re = al ^^^ od)
    (H : wL_law_836 post L xs J x1 (nI w) x4 x6 (nI n) (nI k) od x10 no co x14 kc ks (nI h) (nI w) (nI l) V (nI n) M (nI k) pr al re lc cn A C) :
    ∃ f, wL_law_678 post L xs J x1 (nI w) x4 x6 (nI n) (nI k) od x10 no co x14 kc ks (nI h) (nI w) (nI l) V (nI n) M (nI k) pr al re lc cn A C f 0 0 0 := by
  have O' := O
  obtain ⟨o1, o2, o3, o4, o5, o6, o7, o8, o9⟩ := O'
  refine pk_loop (fun f i (s : Int32 × Int64) => wL_law_678 post L xs J x1 (nI w) x4 x6 (nI n) (nI k) od x10 no co x14 kc ks (nI h) (nI w) (nI l) V (nI n) M (nI k) pr al re lc cn A C f s.1 s.2 (nI i)) (fun i s => s = (zp_sy A w k al i, lN (zq_S (fun j => zq_c (C j)) (bt (nI B)) i))) n 0 (0, 0) (Nat.zero_le _) rfl
    (fun f s e => pk_le n n (fun _ => ?_) (fun z => absurd z (by omega)))
    (fun f i s hi e hs => pk_le n i (fun z => absurd z (by omega)) (fun _ => zo_aB hpr o6 i hi ?_))
  · subst e
    have bS := zc_SB o8 o6 B
    refine br_t ?_ ?_
    · show lN (zc_S C n B) = co.toInt64
      rw [hco, nI_l (by omega)]
    · show ∃ f, wL_law_781 post L xs J x1 (nI w) x4 x6 (nI n) (nI k) od x10 no co x14 (zp_sy A w k al n) kc ks (nI h) (nI w) (nI l) V (nI n) M (nI k) pr al re lc cn A C f 0
      rw [hsy]
      exact zc_781 O hpr hsy hre H
  · subst e
    rw [zc_a1]
    by_cases hb : bt al i = true
    · refine br_t (zb_is1.mpr hb) (zc_colm o2 o3 i (by omega) (nm_e (zc_724 O hi hal hW ?_)))
      exact hs (zp_sy A w k al i ^^^ zp_mc A w k i, lN (zq_S (fun j => zq_c (C j)) (bt (nI B)) (i + 1))) (by rw [zp_sy, if_pos hb])
    · refine br_f (fun z => hb (zb_is1.mp z)) (zc_724 O hi hal hW ?_)
      exact hs (zp_sy A w k al i, lN (zq_S (fun j => zq_c (C j)) (bt (nI B)) (i + 1))) (by rw [zp_sy, if_neg hb])
theorem zc_628 (O : zo_ok h w l n k M C) (Rs : zo_res w n k V M pr al re lc od A C) (hno : no = 0 ∨ (pr = 0 ∧ ∀ g, g < 2 ^ n → zp_cs A C V M w k n g = none)) (HJ : J x6 (nI n) (nI k) od (x10 + 1) (nI h) (nI w) (nI l) V (nI n) M (nI k) pr al re lc cn A C) :
    wL_law_628 post L xs J x1 (nI w) x4 x6 (nI n) (nI k) od x10 no kc ks (nI h) (nI w) (nI l) V (nI n) M (nI k) pr al re lc cn A C := by
  have O' := O
  obtain ⟨o1, o2, o3, o4, o5, o6, o7, o8, o9⟩ := O'
  by_cases hpr : pr = 0
  · refine br_t hpr (br_t (by decide) (br_t rfl (zc_836 O (fun z => ?_) HJ)))
    have z' : ¬ no = 0 := z.resolve_left (fun t => t rfl)
    obtain ⟨_, q⟩ := hno.resolve_left z'
    intro g hg c hc
    rw [q g hg] at hc
    exact nomatch hc
  · obtain ⟨r1, r2, r3, B, r4, r5, r6, r7⟩ := Rs hpr
    have n0 : no = 0 := hno.elim id (fun t => absurd t.1 hpr)
    have hsy : zp_sy A w k al n = M := by
      unfold zp_cs at r6
      rw [r5]
      by_cases z : zp_sy A w k (V ^^^ nI B) n = M
      · exact z
      · rw [if_neg z] at r6
        exact nomatch r6
    have hcf : zp_cf C (nI B) n 0 0 = some lc := by
      unfold zp_cs at r6
      rw [r5] at hsy
      rw [if_pos hsy] at r6
      exact r6
    rw [zc_cs o8] at hcf
    have hW : zc_W C n B = 0 := by
      by_cases z : zc_W C n B = 0
      · exact z
      · rw [if_neg z] at hcf
        exact nomatch hcf
    rw [if_pos hW] at hcf
    have hlc : lc = nI (zc_S C n B) := (Option.some.inj hcf).symm
    have bS := zc_SB o8 o6 B
    have hm : w * k ≤ 3 * 10 := Nat.mul_le_mul o3 (by omega)
    have Fs : zc_safe A C V M w k n no lc := fun g hg c hc => ⟨n0, zc_S C n B, by omega, hlc, r7 g hg c hc⟩
    have pos : ¬ lc < 0 := by rw [hlc]; exact nI_pos (by omega)
    refine br_f hpr (br_f pos (br_f zb_10 (pk_lt k 1 (fun z => absurd z (by omega)) (fun _ => ?_))))
    rw [pk_mul]
    exact pk_eq n (w * k) (fun _ => zc_678 O hpr r5 hW hlc hsy r3 (zc_836 O (fun _ => Fs) HJ)) (fun z => absurd r2 z)
end
end
section
section
variable {h w l n k L p p0 : Nat} {V M pr al re lc cn : Int32} {A C : Nat → Int32} {post : Int32 → Prop} {xs : Nat → Int32} {kc ks : Nat}
variable {J : Int32 → Int32 → Int32 → Int32 → Int32 → Int32 → Int32 → Int32 → Int32 → Int32 → Int32 → Int32 → Int32 → Int32 → Int32 → Int32 → Int32 → (Nat → Int32) → (Nat → Int32) → Prop}
variable {x1 x4 x6 od x10 no co x14 : Int32}
theorem zl_cell {post : Int32 → Prop} (hL : L ≤ 260) (p : Nat) (hp : p < 2 ^ 31) (H : ∀ v, post v) : wpL_cell post L xs () (nI p) :=
  pk_le L p (fun _ => H _) (fun z => ⟨vp_in_nI z (by omega), H _⟩)
theorem zl_rem {post : Int32 → Prop} {v : Int32} (q : Nat) (h1 : 1 ≤ q) (hq : q < 2 ^ 31) (H : ∀ j, j < q → post (nI j)) : wpL_rem post () v (nI q) := by
  have e : v &&& 2147483647 = nI (v.toBitVec.toNat % 2 ^ 31) := pk_and v (m := 2147483647) 31 (by decide)
  refine ⟨nI_ne0 h1 hq, ?_⟩
  rw [e, pk_rem (Nat.mod_lt _ (by decide)) h1 hq]
  exact H _ (Nat.mod_lt _ h1)
theorem zl_price {post : Int32 → Prop} {v : Int32} (H : ∀ r, post r) : wpL_price post () v :=
  nm_e ⟨by decide, nm_e (br_c (fun _ => H _) (fun _ => br_c (fun _ => ⟨by decide, H _⟩) (fun _ => ⟨by decide, by decide, H _⟩)))⟩
theorem zl_shape {post : Int32 → Prop} {v j : Int32} (hh : h ≤ 4) (H : ∀ r, post r) : wpL_shape post () v (nI h) j := by
  have hp : 2 ^ h ≤ 2 ^ 4 := Nat.pow_le_pow_right (by decide) hh
  unfold wpL_shape
  rw [zb_pow h (by omega)]
  refine zl_rem (2 ^ h) Nat.one_le_two_pow (by omega) ?_
  intro r _
  exact br_c (fun _ => br_c (fun _ => H _) (fun _ => nm_e (H _))) (fun _ => H _)
/-- what the law's loop asks behind a step that began at cell p0 -/
def zl_J (h w l p0 : Nat) (x10 : Int32) (J : Int32 → Int32 → Int32 → Int32 → Int32 → Int32 → Int32 → Int32 → Int32 → Int32 → Int32 → Int32 → Int32 → Int32 → Int32 → Int32 → Int32 → (Nat → Int32) → (Nat → Int32) → Prop) : Prop :=
  ∀ (p n k : Nat) (V M pr al re lc cn od : Int32) (A C : Nat → Int32), p0 < p → p ≤ p0 + 60 → zo_ok h w l n k M C → zo_res w n k V M pr al re lc od A C → J (nI p) (nI n) (nI k) od (x10 + 1) (nI h) (nI w) (nI l) V (nI n) M (nI k) pr al re lc cn A C
theorem zl_out (HJ : zl_J h w l p0 x10 J) (h1 : p0 < p) (h2 : p ≤ p0 + 60) (O : zo_ok h w l n k M C) (Rs : zo_res w n k V M pr al re lc od A C) (hno : no = 0 ∨ (pr = 0 ∧ ∀ g, g < 2 ^ n → zp_cs A C V M w k n g = none)) :
    wL_law_628 post L xs J x1 (nI w) x4 (nI p) (nI n) (nI k) od x10 no kc ks (nI h) (nI w) (nI l) V (nI n) M (nI k) pr al re lc cn A C := zc_628 O Rs hno (HJ p n k V M pr al re lc cn od A C h1 h2 O Rs)
theorem zl_emb (HJ : zl_J h w l p0 x10 J) (h1 : p0 < p) (h2 : p ≤ p0 + 60) (O : zo_ok h w l n k M C) (Rs : zo_res w n k V M pr al re lc od A C) :
    wpX_embed (fun r u => match u with | (f1, f2, f3, f4, f5, f6, f7, f8, f9, f10, f11, f12, a1, a2) => (((r = 0 → (wL_law_260 post L xs J x1 (nI w) x4 (nI p) (nI n) (nI k) 0 x10 r kc ks f1 f2 f3 f4 f5 f6 f7 f8 f9 f10 f11 f12 a1 a2)) ∧ (¬ r = 0 → (wL_law_260 post L xs J x1 (nI w) x4 (nI p) (nI n) (nI k) od x10 r kc ks f1 f2 f3 f4 f5 f6 f7 f8 f9 f10 f11 f12 a1 a2))))) (nI h, nI w, nI l, V, nI n, M, nI k, pr, al, re, lc, cn, A, C) := by
  have O' := O
  obtain ⟨o1, o2, o3, o4, o5, o6, o7, o8, o9⟩ := O'
  refine zx_embed o2 o3 o6 (by omega) rfl rfl (zp_cs_P o8 o6) ?_ ?_ ?_
  · intro _
    exact br_f (by decide) (br_f (by decide) (zl_out HJ h1 h2 O Rs (Or.inl rfl)))
  · intro q1 q2 q3
    exact br_f (by decide) (br_t rfl (zl_out HJ h1 h2 O zo_res0 (Or.inr ⟨rfl, fun g hg => zp_ll_none q3 g hg⟩)))
  · intro q1 q2 c b q3
    obtain ⟨⟨s1, s2⟩, s3⟩ := zp_ll_some q3
    exact br_t rfl (br_f (by decide) (zl_out HJ h1 h2 O (fun _ => ⟨q1, q2, Int32.xor_zero.symm, b, s1, rfl, s2, s3⟩) (Or.inl rfl)))
theorem zl_201 {q : Nat} {mi : Int32} (hL : L ≤ 260) (hp0 : p0 ≤ 600) (HJ : zl_J h w l p0 x10 J) (hq : q ≤ 30) (hmi : ∀ a : Nat, a < 2 ^ 31 → (mi ≤ nI a ↔ q ≤ a)) :
    ∀ (d a p n : Nat) (V pr : Int32) (C : Nat → Int32), a + d = q → p0 < p + d → p + d ≤ p0 + 60 → zo_ok h w l n k M C → zo_res w n k V M pr al re lc od A C →
      wL_law_201 post L xs J x1 (nI w) x4 (nI k) od x10 mi kc ks (d + 1) (nI p) (nI n) (nI a) (nI h) (nI w) (nI l) V (nI n) M (nI k) pr al re lc cn A C
  | 0, a, p, n, V, pr, C, ha, h1, h2, O, Rs => br_t ((hmi a (by omega)).mpr (by omega)) (zl_emb HJ h1 h2 O Rs)
  | d + 1, a, p, n, V, pr, C, ha, h1, h2, O, Rs => by
    refine br_f (fun z => absurd ((hmi a (by omega)).mp z) (by omega)) (nm_r (nI_1 p) (zl_cell hL p (by omega) (fun v => zl_price (fun r => zo_addC O ?_ ?_))))
    · intro V' C' O'
      exact br_t rfl (nm_r (nI_1 n) (nm_r (nI_1 a) (zl_201 hL hp0 HJ hq hmi d (a + 1) (p + 1) (n + 1) V' 0 C' (by omega) (by omega) (by omega) O' zo_res0)))
    · intro r hr
      exact br_f hr (nm_r (nI_1 a) (zl_201 hL hp0 HJ hq hmi d (a + 1) (p + 1) n V pr C (by omega) (by omega) (by omega) O Rs))
theorem zl_mi (hn : n ≤ 10) (hw : w ≤ 3) (hk : k ≤ 10) : ∃ q, q ≤ 30 ∧ (n < w * k → 1 ≤ q) ∧ ∀ a : Nat, a < 2 ^ 31 → (nI w * nI k - nI n ≤ nI a ↔ q ≤ a) := by
  have hm : w * k ≤ 3 * 10 := Nat.mul_le_mul hw hk
  rw [pk_mul]
  rcases Nat.lt_or_ge (w * k) n with z | z
  · refine ⟨0, by omega, fun y => absurd y (by omega), fun a ha => ⟨fun _ => Nat.zero_le _, fun _ => ?_⟩⟩
    exact Int32.le_of_lt (Int32.lt_of_lt_of_le (pk_sneg (by omega) z) (nI_pos' ha))
  · rw [pk_sub z]
    exact ⟨w * k - n, by omega, fun y => by omega, fun a ha => nI_leI (by omega) ha⟩
theorem zl_fres {m : Int32} (Rs : zo_res w n k V M pr al re lc od A C) : zo_res w n k V M pr al (re ^^^ m) lc (od ^^^ m) A C := by
  intro z
  obtain ⟨r1, r2, r3, r4⟩ := Rs z
  exact ⟨r1, r2, by rw [r3, Int32.xor_assoc], r4⟩
theorem zl_332 (HJ : zl_J h w l p0 x10 J) (h1 : p0 < p) (h2 : p ≤ p0 + 60) (O : zo_ok h w l n k M C) :
    ∀ (d i : Nat) (od re : Int32), i + d = n → zo_res w n k V M pr al re lc od A C → wL_law_332 post L xs J x1 (nI w) x4 (nI p) (nI n) (nI k) x10 0 kc ks (d + 1) od (nI i) (nI h) (nI w) (nI l) V (nI n) M (nI k) pr al re lc cn A C
  | 0, i, od, re, hi, Rs => by
    have hn : n ≤ 10 := O.2.2.2.2.2.1
    exact pk_le n i (fun _ => zl_out HJ h1 h2 O Rs (Or.inl rfl)) (fun z => absurd z (by omega))
  | d + 1, i, od, re, hi, Rs => by
    have hn : n ≤ 10 := O.2.2.2.2.2.1
    refine pk_le n i (fun z => absurd z (by omega)) (fun _ => br_c (fun _ => zo_flip ?_ ?_) (fun _ => nm_r (nI_1 i) (zl_332 HJ h1 h2 O d (i + 1) od re (by omega) Rs)))
    · intro _
      exact br_t rfl (nm_e (nm_r (nI_1 i) (zl_332 HJ h1 h2 O d (i + 1) _ _ (by omega) (zl_fres Rs))))
    · intro r hr
      exact br_f hr (nm_r (nI_1 i) (zl_332 HJ h1 h2 O d (i + 1) od re (by omega) Rs))
theorem zl_555 {q : Nat} (hL : L ≤ 260) (hp0 : p0 ≤ 600) (HJ : zl_J h w l p0 x10 J) (hq : q ≤ 10) :
    ∀ (d a p k : Nat) (M pr : Int32), a + d = q → p0 < p → p + d ≤ p0 + 60 → zo_ok h w l n k M C → zo_res w n k V M pr al re lc od A C →
      wL_law_555 post L xs J x1 (nI w) x4 (nI n) od x10 0 (nI q) kc ks (d + 1) (nI p) (nI k) (nI a) (nI h) (nI w) (nI l) V (nI n) M (nI k) pr al re lc cn A C
  | 0, a, p, k, M, pr, ha, h1, h2, O, Rs => pk_le q a (fun _ => zl_out HJ h1 (by omega) O Rs (Or.inl rfl)) (fun z => absurd z (by omega))
  | d + 1, a, p, k, M, pr, ha, h1, h2, O, Rs => by
    refine pk_le q a (fun z => absurd z (by omega)) (fun _ => nm_r (nI_1 p) (zl_cell hL p (by omega) (fun v => zo_addM O ?_ ?_)))
    · intro M' O'
      exact br_t rfl (nm_r (nI_1 k) (nm_r (nI_1 a) (zl_555 hL hp0 HJ hq d (a + 1) (p + 1) (k + 1) M' 0 (by omega) (by omega) (by omega) O' zo_res0)))
    · intro r hr
      exact br_f hr (nm_r (nI_1 a) (zl_555 hL hp0 HJ hq d (a + 1) (p + 1) k M pr (by omega) (by omega) (by omega) O Rs))
theorem zl_178 {z0 : Int32} (hL : L ≤ 260) (hp0 : p0 ≤ 600) (HJ : zl_J h w l p0 x10 J) (O : zo_ok h w l n k M C) (Rs : zo_res w n k V M pr al re lc od A C)
    (hz : (p = p0 + 1 ∧ 1 ≤ n) ∨ (p = p0 ∧ (z0 = 10 ∨ (z0 = 0 ∧ n < w * k)))) :
    wL_law_178 post L xs J (nI h) (nI w) (nI l) (nI p) (nI n) (nI k) od x10 z0 kc ks (nI h) (nI w) (nI l) V (nI n) M (nI k) pr al re lc cn A C := by
  have O' := O
  obtain ⟨o1, o2, o3, o4, o5, o6, o7, o8, o9⟩ := O'
  by_cases y4 : 4 ≤ z0
  · by_cases y6 : 6 ≤ z0
    · by_cases e10 : z0 = 10
      · subst e10
        have hp : p0 ≤ p ∧ p ≤ p0 + 1 := by rcases hz with t | t <;> omega
        refine br_t y4 (br_t y6 (br_f (by decide) (br_f (by decide) (br_f (by decide) (br_f (by decide) (br_t rfl ?_))))))
        refine nm_r (nI_1 p) (zl_cell hL p (by omega) (fun v => zl_rem l o4 (by omega) ?_))
        intro j hj
        refine nm_r (pk_sub (Nat.le_of_lt hj)) ⟨l - j + 1, ?_⟩
        exact zl_555 (n := 0) hL hp0 HJ (by omega) (l - j) 0 (p + 1) 0 0 0 (by omega) (by omega) (by omega) ⟨o1, o2, o3, o4, o5, by omega, Nat.zero_le _, o8, fun r _ => b_0 r⟩ zo_res0
      · have n10 : p = p0 + 1 ∧ 1 ≤ n := by
          rcases hz with t | ⟨_, t | t⟩
          · exact t
          · exact absurd t e10
          · rw [t.1] at y4
            exact absurd y4 (by decide)
        obtain ⟨hp, hn1⟩ := n10
        by_cases e6 : z0 = 6
        · exact br_t y4 (br_t y6 (br_t e6 ⟨n + 1, zl_332 HJ (by omega) (by omega) O n 0 od re (by omega) Rs⟩))
        · by_cases e7 : z0 = 7
          · refine br_t y4 (br_t y6 (br_f e6 (br_t e7 (nm_r (nI_1 p) (zl_cell hL p (by omega) (fun v => zl_rem n hn1 (by omega) ?_))))))
            intro j _
            refine nm_r (nI_1 (p + 1)) (zl_cell hL (p + 1) (by omega) (fun v => zl_price (fun r => zo_setC O ?_ ?_)))
            · intro C' O'
              exact zl_out HJ (by omega) (by omega) O' zo_res0 (Or.inl rfl)
            · exact zl_out HJ (by omega) (by omega) O Rs (Or.inl rfl)
          · by_cases e8 : z0 = 8
            · refine br_t y4 (br_t y6 (br_f e6 (br_f e7 (br_t e8 (nm_r (nI_1 p) (zl_cell hL p (by omega) (fun v => zl_rem w o2 (by omega) ?_)))))))
              intro j _
              refine nm_r (nI_1 (p + 1)) (zl_cell hL (p + 1) (by omega) (fun v => zl_shape o1 (fun r => zo_load o3 ?_ ?_)))
              · intro A'
                exact zl_out HJ (by omega) (by omega) O zo_res0 (Or.inl rfl)
              · exact zl_out HJ (by omega) (by omega) O Rs (Or.inl rfl)
            · by_cases e9 : z0 = 9
              · refine br_t y4 (br_t y6 (br_f e6 (br_f e7 (br_f e8 (br_t e9 (nm_r (nI_1 p) (zl_cell hL p (by omega) (fun v => br_c (fun _ => ?_) (fun _ => zo_addM O ?_ ?_)))))))))
                · exact zl_out HJ (by omega) (by omega) O Rs (Or.inl rfl)
                · intro M' O'
                  exact br_t rfl (nm_r (nI_1 k) (zl_out HJ (by omega) (by omega) O' zo_res0 (Or.inl rfl)))
                · intro r hr
                  exact br_f hr (zl_out HJ (by omega) (by omega) O Rs (Or.inl rfl))
              · refine br_t y4 (br_t y6 (br_f e6 (br_f e7 (br_f e8 (br_f e9 (br_f e10 (nm_r (nI_1 p) (zl_cell hL p (by omega) (fun v => zl_rem n hn1 (by omega) ?_)))))))))
                intro j _
                exact nm_r (nI_1 (p + 1)) (zl_cell hL (p + 1) (by omega) (fun v => zo_fc O (fun r => zl_out HJ (by omega) (by omega) O Rs (Or.inl rfl))))
    · have n10 : p = p0 + 1 ∧ 1 ≤ n := by
        rcases hz with t | ⟨_, t | t⟩
        · exact t
        · rw [t] at y6
          exact absurd (by decide) y6
        · rw [t.1] at y4
          exact absurd y4 (by decide)
      obtain ⟨hp, hn1⟩ := n10
      refine br_t y4 (br_f y6 (nm_r (nI_1 p) (zl_cell hL p (by omega) (fun v => zl_rem n hn1 (by omega) ?_))))
      intro j _
      refine zo_flip ?_ ?_
      · intro _
        exact br_t rfl (nm_e (zl_out HJ (by omega) (by omega) O (zl_fres Rs) (Or.inl rfl)))
      · intro r hr
        exact br_f hr (zl_out HJ (by omega) (by omega) O Rs (Or.inl rfl))
  · obtain ⟨q, hq, hq1, hmi⟩ := zl_mi (n := n) (w := w) (k := k) o6 o3 (by omega)
    have hp : p0 < p + q ∧ p ≤ p0 + 1 := by
      rcases hz with t | ⟨t1, t | t⟩
      · omega
      · rw [t] at y4
        exact absurd (by decide) y4
      · have := hq1 t.2
        omega
    exact br_f y4 (nm_e ⟨q + 1, zl_201 hL hp0 HJ hq hmi q 0 p n V pr C (by omega) hp.1 (by omega) O Rs⟩)
theorem zl_141 (hL : L ≤ 260) (hp0 : p ≤ 600) (HJ : zl_J h w l p x10 J) (O : zo_ok h w l n k M C) (Rs : zo_res w n k V M pr al re lc od A C) :
    wL_law_141 post L xs J (nI h) (nI w) (nI l) (nI p) (nI n) (nI k) od x10 kc ks (nI h) (nI w) (nI l) V (nI n) M (nI k) pr al re lc cn A C := by
  have O' := O
  obtain ⟨o1, o2, o3, o4, o5, o6, o7, o8, o9⟩ := O'
  have hm : w * k ≤ 3 * 10 := Nat.mul_le_mul o3 (by omega)
  refine pk_eq k 0 (fun z => zl_178 hL hp0 HJ O Rs (Or.inr ⟨rfl, Or.inl rfl⟩)) (fun z => ?_)
  have hm1 : 0 < w * k := Nat.mul_pos o2 (by omega)
  rw [pk_mul]
  refine pk_le (w * k) n (fun y => nm_r (nI_1 p) (zl_cell hL p (by omega) (fun v => zl_rem 12 (by omega) (by omega) ?_))) (fun y => zl_178 hL hp0 HJ O Rs (Or.inr ⟨rfl, Or.inr ⟨rfl, y⟩⟩))
  intro j _
  exact zl_178 hL hp0 HJ O Rs (Or.inl ⟨rfl, by omega⟩)
theorem zl_128 (hL : L ≤ 260) : ∀ (f p st n k : Nat) (V M pr al re lc cn od : Int32) (A C : Nat → Int32), L + 200 - p < f → p + 60 * (2 - st) ≤ L + 200 → st ≤ p → zo_ok h w l n k M C → zo_res w n k V M pr al re lc od A C →
    wL_law_128 (fun r => r = 1) L xs (nI h) (nI w) (nI l) kc ks f (nI p) (nI n) (nI k) od (nI st) (nI h) (nI w) (nI l) V (nI n) M (nI k) pr al re lc cn A C
  | 0, p, st, n, k, V, M, pr, al, re, lc, cn, od, A, C, h1, h2, h3, O, Rs => absurd h1 (by omega)
  | f + 1, p, st, n, k, V, M, pr, al, re, lc, cn, od, A, C, h1, h2, h3, O, Rs => by
    have HJ : (st < 2 ∨ p < L) → zl_J h w l p (nI st) (wL_law_128 (fun r => r = 1) L xs (nI h) (nI w) (nI l) kc ks f) := by
      intro hc p' n' k' V' M' pr' al' re' lc' cn' od' A' C' g1 g2 O' Rs'
      rw [nI_1]
      exact zl_128 hL f p' (st + 1) n' k' V' M' pr' al' re' lc' cn' od' A' C' (by omega) (by omega) (by omega) O' Rs'
    exact pk_lt st 2 (fun z => zl_141 hL (by omega) (HJ (Or.inl z)) O Rs) (fun z => pk_le L p (fun _ => rfl) (fun y => zl_141 hL (by omega) (HJ (Or.inr y)) O Rs))
end
end
section
section
variable {h w l L : Nat} {V M pr al re lc cn : Int32} {A C : Nat → Int32} {xs : Nat → Int32} {kc ks : Nat}
theorem zl_81 (hL : L ≤ 260) (O : zo_ok h w l 0 0 M C) : ∀ (d j : Nat) (pr : Int32) (A : Nat → Int32), j + d = w → zo_res w 0 0 V M pr al re lc 0 A C →
    wL_law_81 (fun r => r = 1) L xs (nI h) (nI w) (nI l) kc ks (d + 1) (nI (2 + j)) (nI j) (nI h) (nI w) (nI l) V (nI 0) M (nI 0) pr al re lc cn A C
  | 0, j, pr, A, hj, Rs => by
    have hw := O.2.2.1
    exact pk_le w j (fun _ => ⟨L + 201, zl_128 hL (L + 201) (2 + j) 0 0 0 V M pr al re lc cn 0 A C (by omega) (by omega) (by omega) O Rs⟩) (fun z => absurd z (by omega))
  | d + 1, j, pr, A, hj, Rs => by
    have hw := O.2.2.1
    refine pk_le w j (fun z => absurd z (by omega)) (fun _ => nm_r (nI_1 (2 + j)) (zl_cell hL (2 + j) (by omega) (fun v => zl_shape O.1 (fun r => zo_load hw ?_ ?_))))
    · intro A'
      exact nm_r (nI_1 j) (zl_81 hL O d (j + 1) 0 A' (by omega) zo_res0)
    · exact nm_r (nI_1 j) (zl_81 hL O d (j + 1) pr A (by omega) Rs)
theorem zl_ini {post : St2 → Prop} (h1 : 1 ≤ h) (h4 : h ≤ 4) (w1 : 1 ≤ w) (w3 : w ≤ 3) (hp : ∀ A', post (nI h, nI w, nI (10 / w), 0, 0, 0, 0, 0, 0, 0, 0, 0, A', (fun _ => 0))) : wpX_init post 2 13 (0, 0, 0, 0, 0, 0, 0, 0, 0, 0, 0, 0) (nI h) (nI w) := by
  have e : (10 : Int32) / nI w = nI (10 / w) := pk_div (a := 10) (by decide) w1 (by omega)
  refine ⟨by omega, by omega, by omega, by omega, br_t (nI_le (a := 1) h1 (by omega)) (br_t (nI_le (b := 4) h4 (by omega)) (br_t (nI_le (a := 1) w1 (by omega)) (br_t (nI_le (b := 3) w3 (by omega)) ⟨nI_ne0 w1 (by omega), nm_r e ?_⟩)))⟩
  exact pk_loop (fun f i s => wX_init_97 post 2 13 2 13 (nI h) (nI w) (nI (10 / w)) 0 0 0 0 0 0 0 0 0 f (nI i) s (fun _ => 0)) (fun _ _ => True) 3 0 (fun _ => 0) (by omega) trivial
    (fun f s _ => pk_le 3 3 (fun _ => hp s) (fun z => absurd z (by omega)))
    (fun f i s hi _ hs => pk_le 3 i (fun z => absurd z (by omega)) (fun _ => ⟨vp_in_nI hi (by omega), nm_e (nm_r (nI_1 i) (hs _ trivial))⟩))
theorem zl_62 (hL : L ≤ 260) (h1 : 1 ≤ h) (h4 : h ≤ 4) (w1 : 1 ≤ w) (w3 : w ≤ 3) (hl : 10 / w = l) (l1 : 1 ≤ l) (l10 : l ≤ 10) : wL_law_62 (fun r => r = 1) L xs (nI h) (nI w) (nI l) 0 0 := by
  refine ⟨by omega, by omega, 2, 13, by omega, by omega, zl_ini h1 h4 w1 w3 ?_⟩
  intro A'
  rw [hl]
  exact ⟨w + 1, zl_81 hL ⟨h4, w1, w3, l1, l10, by omega, Nat.zero_le _, fun j => Or.inr ⟨0, by omega, rfl⟩, fun r _ => b_0 r⟩ w 0 0 A' (by omega) zo_res0⟩
theorem zl_41 (hL : L ≤ 260) (h1 : 1 ≤ h) (h4 : h ≤ 4) (w1 : 1 ≤ w) (w3 : w ≤ 3) : wL_law_41 (fun r => r = 1) L xs (nI h) (nI w) 0 0 := by
  rcases (show w = 1 ∨ w = 2 ∨ w = 3 by omega) with rfl | rfl | rfl
  · exact br_t rfl (zl_62 (w := 1) (l := 10) hL h1 h4 (by omega) (by omega) (by decide) (by omega) (by omega))
  · exact br_f (by decide) (br_t rfl (zl_62 (w := 2) (l := 5) hL h1 h4 (by omega) (by omega) (by decide) (by omega) (by omega)))
  · exact br_f (by decide) (br_f (by decide) (zl_62 (w := 3) (l := 3) hL h1 h4 (by omega) (by omega) (by decide) (by omega) (by omega)))
end
theorem i_vc (xs : Nat → Int32) (L : Nat) (hL : L ≤ 260) : wpL_law (fun r => r = 1) L xs := by
  refine zl_cell hL 0 (by omega) (fun v => zl_rem 4 (by omega) (by omega) ?_)
  intro j hj
  refine nm_r (nI_add 1 j) (zl_cell hL 1 (by omega) (fun v => zl_rem 8 (by omega) (by omega) ?_))
  intro i hi
  exact pk_eq i 0 (fun _ => zl_41 (w := 1) hL (by omega) (by omega) (by omega) (by omega)) (fun _ => pk_le 5 i (fun _ => zl_41 (w := 3) hL (by omega) (by omega) (by omega) (by omega)) (fun _ => zl_41 (w := 2) hL (by omega) (by omega) (by omega) (by omega)))
end
