/-! ===== one bit as the machine answers it ===== -/
def zb : Bool → Int32
  | true => 1
  | false => 0
theorem zb_1 : ∀ j, j < 32 → bt 1 j = decide (j = 0) := by decide +kernel
theorem zb_bt (b : Bool) (j : Nat) (hj : j < 32) : bt (zb b) j = (b && decide (j = 0)) := by
  cases b
  · show bt 0 j = _
    rw [b_0, Bool.false_and]
  · show bt 1 j = _
    rw [zb_1 j hj, Bool.true_and]
theorem zb_bit (v : Int32) (i : Nat) (hi : i < 32) : (v >>> (nI i &&& 31)) &&& 1 = zb (bt v i) := by
  apply b_ext
  intro j hj
  rw [b_and, b_sshr i hi v hj, zb_1 j hj, zb_bt _ j hj]
  by_cases h : j = 0
  · subst h
    rw [if_pos (by omega)]
    rfl
  · rw [decide_eq_false h, Bool.and_false, Bool.and_false]
theorem zb_ne : ¬ zb false = 1 := by decide +kernel
theorem zb_is1 {b : Bool} : zb b = 1 ↔ b = true := by
  cases b
  · exact ⟨fun h => absurd h zb_ne, fun h => nomatch h⟩
  · exact ⟨fun _ => rfl, fun _ => rfl⟩
theorem zb_inj {a b : Bool} (h : zb a = zb b) : a = b := by
  cases a <;> cases b <;> first | rfl | exact absurd h (by decide +kernel)
theorem zb_xor (a b : Bool) : zb a ^^^ zb b = zb (a ^^ b) := by
  cases a <;> cases b <;> decide +kernel
theorem zb_nat (b : Bool) : nI b.toNat = zb b := by cases b <;> rfl
theorem zb_01 (b : Bool) : zb b = 0 ∨ zb b = 1 := by cases b; exact Or.inl rfl; exact Or.inr rfl
theorem zb_mask : ∀ k, k < 11 → ∀ r, r < 32 → bt (((1 : Int32) <<< (nI k &&& 31)) - 1) r = decide (r < k) := by decide +kernel
theorem zb_pow : ∀ n, n < 11 → (1 : Int32) <<< (nI n &&& 31) = nI (2 ^ n) := by decide +kernel
theorem zb_nI (g i : Nat) (hi : i < 32) : bt (nI g) i = g.testBit i := by
  show (BitVec.ofNat 32 g).getLsbD i = _
  rw [BitVec.getLsbD_ofNat, decide_eq_true hi, Bool.true_and]
theorem zb_nIf {g n i : Nat} (h : g < 2 ^ n) (hn : n ≤ i) : bt (nI g) i = false := by
  rcases Nat.lt_or_ge i 32 with z | z
  · rw [zb_nI g i z]
    exact Nat.testBit_lt_two_pow (Nat.lt_of_lt_of_le h (Nat.pow_le_pow_right (by decide) hn))
  · exact b_big z
/-! ===== the matrix, the syndrome ===== -/
def zp_mc (A : Nat → Int32) (w k i : Nat) : Int32 := (A (i % w) <<< (nI (i / w) &&& 31)) &&& (((1 : Int32) <<< (nI k &&& 31)) - 1)
def zp_e (A : Nat → Int32) (w i r : Nat) : Bool := decide (i / w ≤ r) && bt (A (i % w)) (r - i / w)
theorem zp_mc_bt {A : Nat → Int32} {w k i r : Nat} (hk : k ≤ 10) (hi : i < 32) (hr : r < 32) : bt (zp_mc A w k i) r = (zp_e A w i r && decide (r < k)) := by
  unfold zp_mc zp_e
  rw [b_and, b_shl _ (Nat.lt_of_le_of_lt (Nat.div_le_self i w) hi) _ hr, zb_mask k (by omega) r hr]
def zp_sy (A : Nat → Int32) (w k : Nat) (v : Int32) : Nat → Int32
  | 0 => 0
  | j + 1 => if bt v j = true then zp_sy A w k v j ^^^ zp_mc A w k j else zp_sy A w k v j
def zp_pr (A : Nat → Int32) (w : Nat) (v : Int32) (r : Nat) : Nat → Bool
  | 0 => false
  | j + 1 => zp_pr A w v r j ^^ (bt v j && zp_e A w j r)
theorem zp_sy_bt {A : Nat → Int32} {w k : Nat} {v : Int32} (hk : k ≤ 10) : ∀ j, j ≤ 31 → ∀ r, r < 32 → bt (zp_sy A w k v j) r = (zp_pr A w v r j && decide (r < k))
  | 0, _, r, _ => by
    show bt 0 r = _
    rw [b_0]
    rfl
  | j + 1, hj, r, hr => by
    have ih := zp_sy_bt (A := A) (w := w) (v := v) hk j (by omega) r hr
    have e : zp_pr A w v r (j + 1) = (zp_pr A w v r j ^^ (bt v j && zp_e A w j r)) := rfl
    rw [zp_sy, e]
    by_cases h : bt v j = true
    · rw [if_pos h, b_xor, ih, zp_mc_bt hk (by omega) hr, h]
      cases zp_pr A w v r j <;> cases zp_e A w j r <;> cases decide (r < k) <;> rfl
    · rw [if_neg h, ih, Bool.eq_false_iff.mpr h]
      cases zp_pr A w v r j <;> cases zp_e A w j r <;> cases decide (r < k) <;> rfl
def zp_sm (A : Nat → Int32) (w : Nat) (v : Int32) (r : Nat) : Nat → Nat
  | 0 => 0
  | j + 1 => zp_sm A w v r j + (zp_e A w j r).toNat * (bt v j).toNat
theorem zp_sm_le (A : Nat → Int32) (w : Nat) (v : Int32) (r : Nat) : ∀ j, zp_sm A w v r j ≤ j
  | 0 => Nat.le_refl _
  | j + 1 => by
    have ih := zp_sm_le A w v r j
    have e : (zp_e A w j r).toNat * (bt v j).toNat ≤ 1 := by cases zp_e A w j r <;> cases bt v j <;> decide
    show zp_sm A w v r j + (zp_e A w j r).toNat * (bt v j).toNat ≤ j + 1
    omega
theorem zp_sm_pr (A : Nat → Int32) (w : Nat) (v : Int32) (r : Nat) : ∀ j, zp_sm A w v r j % 2 = (zp_pr A w v r j).toNat
  | 0 => rfl
  | j + 1 => by
    have ih := zp_sm_pr A w v r j
    show (zp_sm A w v r j + (zp_e A w j r).toNat * (bt v j).toNat) % 2 = (zp_pr A w v r j ^^ (bt v j && zp_e A w j r)).toNat
    rw [Nat.add_mod, ih]
    cases zp_pr A w v r j <;> cases zp_e A w j r <;> cases bt v j <;> rfl
theorem zp_sm_a {A : Nat → Int32} {w : Nat} {v : Int32} {r j : Nat} (hj : j ≤ 10) : nI (zp_sm A w v r j) &&& 1 = zb (zp_pr A w v r j) := by
  have h := zp_sm_le A w v r j
  have e : nI (zp_sm A w v r j) &&& 1 = nI (zp_sm A w v r j % 2) := pk_andN (n := zp_sm A w v r j) (m := 1) (by omega) 1 (by decide)
  rw [e, ← zb_nat, ← zp_sm_pr]
theorem zp_sy_m {A : Nat → Int32} {w k n : Nat} {v M : Int32} (hk : k ≤ 10) (hn : n ≤ 10) (hM : ∀ r, k ≤ r → bt M r = false) : zp_sy A w k v n = M ↔ ∀ r, r < k → zp_pr A w v r n = bt M r := by
  constructor
  · intro h r hr
    have e := zp_sy_bt (A := A) (w := w) (v := v) hk n (by omega) r (by omega)
    rw [h, decide_eq_true hr, Bool.and_true] at e
    exact e.symm
  · intro h
    apply b_ext
    intro r hr
    rw [zp_sy_bt hk n (by omega) r hr]
    rcases Nat.lt_or_ge r k with z | z
    · rw [h r z, decide_eq_true z, Bool.and_true]
    · rw [hM r z, decide_eq_false (by omega), Bool.and_false]
/-! ===== the cost of a change ===== -/
def zp_cf (C : Nat → Int32) (ch : Int32) : Nat → Nat → Int32 → Option Int32
  | 0, _, c => some c
  | d + 1, i, c => if bt ch i = true then (if C i = -1 then none else zp_cf C ch d (i + 1) (c + C i)) else zp_cf C ch d (i + 1) c
theorem zp_cf_pos {C : Nat → Int32} {ch : Int32} (hC : ∀ j, C j = -1 ∨ ∃ c : Nat, c ≤ 1000 ∧ C j = nI c) : ∀ d i a c', zp_cf C ch d i (nI a) = some c' → ∃ a' : Nat, a' ≤ a + 1000 * d ∧ c' = nI a'
  | 0, i, a, c', h => ⟨a, by omega, (Option.some.inj h).symm⟩
  | d + 1, i, a, c', h => by
    rw [zp_cf] at h
    by_cases hb : bt ch i = true
    · rw [if_pos hb] at h
      by_cases hw : C i = -1
      · rw [if_pos hw] at h
        exact nomatch h
      · rw [if_neg hw] at h
        rcases hC i with z | ⟨c, hc, z⟩
        · exact absurd z hw
        · rw [z, nI_add] at h
          obtain ⟨a', h1, h2⟩ := zp_cf_pos hC d (i + 1) (a + c) c' h
          exact ⟨a', by omega, h2⟩
    · rw [if_neg hb] at h
      obtain ⟨a', h1, h2⟩ := zp_cf_pos hC d (i + 1) a c' h
      exact ⟨a', by omega, h2⟩
def zp_cs (A C : Nat → Int32) (V M : Int32) (w k n g : Nat) : Option Int32 := if zp_sy A w k (V ^^^ nI g) n = M then zp_cf C (nI g) n 0 0 else none
def zp_v : Option Int32 → Int32
  | none => -5
  | some c => c
theorem zp_cs_pos {A C : Nat → Int32} {V M : Int32} {w k n g : Nat} {c : Int32} (hC : ∀ j, C j = -1 ∨ ∃ c : Nat, c ≤ 1000 ∧ C j = nI c) (h : zp_cs A C V M w k n g = some c) : ∃ a : Nat, a ≤ 1000 * n ∧ c = nI a := by
  unfold zp_cs at h
  by_cases hs : zp_sy A w k (V ^^^ nI g) n = M
  · rw [if_pos hs, ← nI_0] at h
    obtain ⟨a, h1, h2⟩ := zp_cf_pos hC n 0 0 c h
    exact ⟨a, by omega, h2⟩
  · rw [if_neg hs] at h
    exact nomatch h
/-! ===== the search ===== -/
def zp_st (o : Option Int32) (g : Nat) (q : Option (Int32 × Nat)) : Option (Int32 × Nat) :=
  match o, q with
  | none, q => q
  | some c, none => some (c, g)
  | some c, some (l, b) => if c < l then some (c, g) else some (l, b)
theorem zp_st_n (g : Nat) (q : Option (Int32 × Nat)) : zp_st none g q = q := rfl
theorem zp_st_0 (c : Int32) (g : Nat) : zp_st (some c) g none = some (c, g) := rfl
theorem zp_st_1 (c : Int32) (g : Nat) (l : Int32) (b : Nat) : zp_st (some c) g (some (l, b)) = if c < l then some (c, g) else some (l, b) := rfl
def zp_ll (f : Nat → Option Int32) : Nat → Option (Int32 × Nat)
  | 0 => none
  | g + 1 => zp_st (f g) g (zp_ll f g)
def zp_cn (f : Nat → Option Int32) (l : Int32) : Nat → Nat
  | 0 => 0
  | g + 1 => zp_cn f l g + (if f g = some l then 1 else 0)
theorem zp_ll_none {f : Nat → Option Int32} : ∀ {g : Nat}, zp_ll f g = none → ∀ j, j < g → f j = none
  | 0, _, j, hj => by omega
  | g + 1, h, j, hj => by
    have e : zp_st (f g) g (zp_ll f g) = none := h
    have hg : f g = none ∧ zp_ll f g = none := by
      revert e
      cases hf : f g with
      | none => exact fun e => ⟨rfl, e⟩
      | some c =>
        cases hl : zp_ll f g with
        | none =>
          intro e
          rw [zp_st_0] at e
          exact nomatch e
        | some p =>
          obtain ⟨l, b⟩ := p
          intro e
          rw [zp_st_1] at e
          by_cases z : c < l
          · rw [if_pos z] at e; exact nomatch e
          · rw [if_neg z] at e; exact nomatch e
    rcases Nat.lt_or_ge j g with z | z
    · exact zp_ll_none hg.2 j z
    · have : j = g := by omega
      subst this
      exact hg.1
theorem zp_ll_some {f : Nat → Option Int32} : ∀ {g : Nat} {l : Int32} {b : Nat}, zp_ll f g = some (l, b) → (b < g ∧ f b = some l) ∧ ∀ j, j < g → ∀ c, f j = some c → ¬ c < l
  | 0, l, b, h => by
    have h' : (none : Option (Int32 × Nat)) = some (l, b) := h
    exact nomatch h'
  | g + 1, l, b, h => by
    have e : zp_st (f g) g (zp_ll f g) = some (l, b) := h
    cases hf : f g with
    | none =>
      rw [hf] at e
      obtain ⟨⟨h1, h2⟩, h3⟩ := zp_ll_some (g := g) (l := l) (b := b) e
      refine ⟨⟨by omega, h2⟩, fun j hj c hc => ?_⟩
      rcases Nat.lt_or_ge j g with z | z
      · exact h3 j z c hc
      · have : j = g := by omega
        subst this
        rw [hf] at hc
        exact nomatch hc
    | some c0 =>
      cases hl : zp_ll f g with
      | none =>
        rw [hf, hl] at e
        have e' : some (c0, g) = some (l, b) := e
        have e1 : c0 = l := congrArg Prod.fst (Option.some.inj e')
        have e2 : g = b := congrArg Prod.snd (Option.some.inj e')
        subst e1 e2
        refine ⟨⟨by omega, hf⟩, fun j hj c hc => ?_⟩
        rcases Nat.lt_or_ge j g with z | z
        · rw [zp_ll_none hl j z] at hc
          exact nomatch hc
        · have : j = g := by omega
          subst this
          rw [hf] at hc
          rw [← Option.some.inj hc]
          exact Int32.lt_irrefl
      | some p =>
        obtain ⟨l0, b0⟩ := p
        rw [hf, hl] at e
        have e' : (if c0 < l0 then some (c0, g) else some (l0, b0)) = some (l, b) := e
        obtain ⟨⟨h1, h2⟩, h3⟩ := zp_ll_some hl
        by_cases z : c0 < l0
        · rw [if_pos z] at e'
          have e1 : c0 = l := congrArg Prod.fst (Option.some.inj e')
          have e2 : g = b := congrArg Prod.snd (Option.some.inj e')
          subst e1 e2
          refine ⟨⟨by omega, hf⟩, fun j hj c hc => ?_⟩
          rcases Nat.lt_or_ge j g with y | y
          · exact fun q => h3 j y c hc (Int32.lt_trans q z)
          · have : j = g := by omega
            subst this
            rw [hf] at hc
            rw [← Option.some.inj hc]
            exact Int32.lt_irrefl
        · rw [if_neg z] at e'
          have e1 : l0 = l := congrArg Prod.fst (Option.some.inj e')
          have e2 : b0 = b := congrArg Prod.snd (Option.some.inj e')
          subst e1 e2
          refine ⟨⟨by omega, h2⟩, fun j hj c hc => ?_⟩
          rcases Nat.lt_or_ge j g with y | y
          · exact h3 j y c hc
          · have : j = g := by omega
            subst this
            rw [hf] at hc
            rw [← Option.some.inj hc]
            exact z
theorem zp_cn_0 {f : Nat → Option Int32} {l : Int32} : ∀ {g : Nat}, (∀ j, j < g → f j ≠ some l) → zp_cn f l g = 0
  | 0, _ => rfl
  | g + 1, h => by
    have h1 := zp_cn_0 (f := f) (l := l) (g := g) (fun j hj => h j (by omega))
    have h2 : (if f g = some l then 1 else 0) = 0 := if_neg (h g (by omega))
    show zp_cn f l g + (if f g = some l then 1 else 0) = 0
    omega
theorem zp_cn_le (f : Nat → Option Int32) (l : Int32) : ∀ g, zp_cn f l g ≤ g
  | 0 => Nat.le_refl _
  | g + 1 => by
    have ih := zp_cn_le f l g
    rw [zp_cn]
    split <;> omega
/-! ===== costs are never negative ===== -/
theorem zp_m5 {a : Nat} (h : a < 2 ^ 31) : ¬ nI a = -5 := fun e => nI_pos h (by rw [e]; decide)
def zp_pos (f : Nat → Option Int32) : Prop := ∀ g c, f g = some c → ∃ a : Nat, a ≤ 10000 ∧ c = nI a
theorem zp_cs_P {A C : Nat → Int32} {V M : Int32} {w k n : Nat} (hC : ∀ j, C j = -1 ∨ ∃ c : Nat, c ≤ 1000 ∧ C j = nI c) (hn : n ≤ 10) : zp_pos (zp_cs A C V M w k n) := by
  intro g c h
  obtain ⟨a, h1, h2⟩ := zp_cs_pos hC h
  exact ⟨a, by omega, h2⟩
theorem zp_pos5 {f : Nat → Option Int32} {g : Nat} {c : Int32} (P : zp_pos f) (h : f g = some c) : ¬ c = -5 := by
  obtain ⟨a, h1, rfl⟩ := P g c h
  exact zp_m5 (by omega)
theorem zp_pos0 {f : Nat → Option Int32} {g : Nat} {c : Int32} (P : zp_pos f) (h : f g = some c) : ¬ c < 0 := by
  obtain ⟨a, h1, rfl⟩ := P g c h
  exact nI_pos (by omega)
theorem zp_n50 : (-5 : Int32) < 0 := by decide
/-- the least cost that a search has met -/
def zp_lv : Option (Int32 × Nat) → Int32
  | none => -5
  | some (l, _) => l
def zp_fi (f : Nat → Option Int32) (p : Nat → Bool) (g : Nat) : Option Int32 := if p g = true then f g else none
theorem zp_fi_P {f : Nat → Option Int32} {p : Nat → Bool} (P : zp_pos f) : zp_pos (zp_fi f p) := by
  intro g c h
  unfold zp_fi at h
  by_cases z : p g = true
  · rw [if_pos z] at h
    exact P g c h
  · rw [if_neg z] at h
    exact nomatch h
theorem zp_ll_n {f : Nat → Option Int32} {g : Nat} (h : f g = none) : zp_ll f (g + 1) = zp_ll f g := by
  show zp_st (f g) g (zp_ll f g) = _
  rw [h, zp_st_n]
theorem zp_ll_0 {f : Nat → Option Int32} {g : Nat} {c : Int32} (h : f g = some c) (h2 : zp_ll f g = none) : zp_ll f (g + 1) = some (c, g) := by
  show zp_st (f g) g (zp_ll f g) = _
  rw [h, h2, zp_st_0]
theorem zp_ll_t {f : Nat → Option Int32} {g : Nat} {c l : Int32} {b : Nat} (h : f g = some c) (h2 : zp_ll f g = some (l, b)) (z : c < l) : zp_ll f (g + 1) = some (c, g) := by
  show zp_st (f g) g (zp_ll f g) = _
  rw [h, h2, zp_st_1, if_pos z]
theorem zp_ll_f {f : Nat → Option Int32} {g : Nat} {c l : Int32} {b : Nat} (h : f g = some c) (h2 : zp_ll f g = some (l, b)) (z : ¬ c < l) : zp_ll f (g + 1) = some (l, b) := by
  show zp_st (f g) g (zp_ll f g) = _
  rw [h, h2, zp_st_1, if_neg z]
theorem zp_cn_t {f : Nat → Option Int32} {g : Nat} {c : Int32} (h : f g = some c) : zp_cn f c (g + 1) = zp_cn f c g + 1 := by
  show zp_cn f c g + (if f g = some c then 1 else 0) = _
  rw [if_pos h]
theorem zp_cn_f {f : Nat → Option Int32} {g : Nat} {l : Int32} (h : f g ≠ some l) : zp_cn f l (g + 1) = zp_cn f l g := by
  show zp_cn f l g + (if f g = some l then 1 else 0) = _
  rw [if_neg h, Nat.add_zero]
