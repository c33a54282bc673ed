section
variable {h w l L : Nat} {V M pr al re lc cn : Int32} {A C : Nat → Int32} {xs : Nat → Int32} {kc ks : Nat}
theorem zl_81 (hL : L ≤ 260) (O : zo_ok h w l 0 0 M C) : ∀ (d j : Nat) (pr : Int32) (A : Nat → Int32), j + d = w → zo_res w 0 0 V M pr al re lc 0 A C →
    wL_law_81 (fun r => r = 1) L xs (nI h) (nI w) (nI l) kc ks (d + 1) (nI (2 + j)) (nI j) (nI h) (nI w) (nI l) V (nI 0) M (nI 0) pr al re lc cn A C
  | 0, j, pr, A, hj, Rs => by
    have hw := O.2.2.1
    exact pk_le w j (fun _ => ⟨L + 201, zl_128 hL (L + 201) (2 + j) 0 0 0 V M pr al re lc cn 0 A C (by omega) (by omega) (by omega) O Rs⟩) (fun z => absurd z (by omega))
  | d + 1, j, pr, A, hj, Rs => by
    have hw := O.2.2.1
    refine pk_le w j (fun z => absurd z (by omega)) (fun _ => nm_r (nI_1 (2 + j)) (zl_cell hL (2 + j) (by omega) (fun v => zl_shape O.1 (fun r => zo_load hw ?_ ?_))))
    · intro A'
      exact nm_r (nI_1 j) (zl_81 hL O d (j + 1) 0 A' (by omega) zo_res0)
    · exact nm_r (nI_1 j) (zl_81 hL O d (j + 1) pr A (by omega) Rs)
theorem zl_ini {post : St2 → Prop} (h1 : 1 ≤ h) (h4 : h ≤ 4) (w1 : 1 ≤ w) (w3 : w ≤ 3) (hp : ∀ A', post (nI h, nI w, nI (10 / w), 0, 0, 0, 0, 0, 0, 0, 0, 0, A', (fun _ => 0))) : wpX_init post 2 13 (0, 0, 0, 0, 0, 0, 0, 0, 0, 0, 0, 0) (nI h) (nI w) := by
  have e : (10 : Int32) / nI w = nI (10 / w) := pk_div (a := 10) (by decide) w1 (by omega)
  refine ⟨by omega, by omega, by omega, by omega, br_t (nI_le (a := 1) h1 (by omega)) (br_t (nI_le (b := 4) h4 (by omega)) (br_t (nI_le (a := 1) w1 (by omega)) (br_t (nI_le (b := 3) w3 (by omega)) ⟨nI_ne0 w1 (by omega), nm_r e ?_⟩)))⟩
  exact pk_loop (fun f i s => wX_init_97 post 2 13 2 13 (nI h) (nI w) (nI (10 / w)) 0 0 0 0 0 0 0 0 0 f (nI i) s (fun _ => 0)) (fun _ _ => True) 3 0 (fun _ => 0) (by omega) trivial
    (fun f s _ => pk_le 3 3 (fun _ => hp s) (fun z => absurd z (by omega)))
    (fun f i s hi _ hs => pk_le 3 i (fun z => absurd z (by omega)) (fun _ => ⟨vp_in_nI hi (by omega), nm_e (nm_r (nI_1 i) (hs _ trivial))⟩))
theorem zl_62 (hL : L ≤ 260) (h1 : 1 ≤ h) (h4 : h ≤ 4) (w1 : 1 ≤ w) (w3 : w ≤ 3) (hl : 10 / w = l) (l1 : 1 ≤ l) (l10 : l ≤ 10) : wL_law_62 (fun r => r = 1) L xs (nI h) (nI w) (nI l) 0 0 := by
  refine ⟨by omega, by omega, 2, 13, by omega, by omega, zl_ini h1 h4 w1 w3 ?_⟩
  intro A'
  rw [hl]
  exact ⟨w + 1, zl_81 hL ⟨h4, w1, w3, l1, l10, by omega, Nat.zero_le _, fun j => Or.inr ⟨0, by omega, rfl⟩, fun r _ => b_0 r⟩ w 0 0 A' (by omega) zo_res0⟩
theorem zl_41 (hL : L ≤ 260) (h1 : 1 ≤ h) (h4 : h ≤ 4) (w1 : 1 ≤ w) (w3 : w ≤ 3) : wL_law_41 (fun r => r = 1) L xs (nI h) (nI w) 0 0 := by
  rcases (show w = 1 ∨ w = 2 ∨ w = 3 by omega) with rfl | rfl | rfl
  · exact br_t rfl (zl_62 (w := 1) (l := 10) hL h1 h4 (by omega) (by omega) (by decide) (by omega) (by omega))
  · exact br_f (by decide) (br_t rfl (zl_62 (w := 2) (l := 5) hL h1 h4 (by omega) (by omega) (by decide) (by omega) (by omega)))
  · exact br_f (by decide) (br_f (by decide) (zl_62 (w := 3) (l := 3) hL h1 h4 (by omega) (by omega) (by decide) (by omega) (by omega)))
end
theorem i_vc (xs : Nat → Int32) (L : Nat) (hL : L ≤ 260) : wpL_law (fun r => r = 1) L xs := by
  refine zl_cell hL 0 (by omega) (fun v => zl_rem 4 (by omega) (by omega) ?_)
  intro j hj
  refine nm_r (nI_add 1 j) (zl_cell hL 1 (by omega) (fun v => zl_rem 8 (by omega) (by omega) ?_))
  intro i hi
  exact pk_eq i 0 (fun _ => zl_41 (w := 1) hL (by omega) (by omega) (by omega) (by omega)) (fun _ => pk_le 5 i (fun _ => zl_41 (w := 3) hL (by omega) (by omega) (by omega) (by omega)) (fun _ => zl_41 (w := 2) hL (by omega) (by omega) (by omega) (by omega)))
