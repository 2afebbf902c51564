/-! ===== the start ===== -/
theorem zi_0 : zb_B (fun _ => 0) := fun _ => (by decide : (0 : Nat) < 256)
theorem zi_img : zb_f (zd_f zt_0 (fun _ => 0) 0) = upd (upd (upd (upd (fun _ => 0) 0 80) 1 75) 2 5) 3 6 := by
  funext j
  have e : zd_f zt_0 (fun _ => 0) 0 = zd_e (fun _ => 0) 0 0 0 := by
    unfold zd_f
    rw [zd_l_0, zt_c_0]
  rw [e]
  rcases Nat.lt_or_ge j 9 with h | h
  · exact (by decide +kernel : ∀ j, j < 9 → zb_f (zd_e (fun _ => 0) 0 0 0) j = upd (upd (upd (upd (fun _ => 0) 0 80) 1 75) 2 5) 3 6 j) j h
  · rw [pk_un (by omega), pk_un (by omega), pk_un (by omega), pk_un (by omega)]
    show nI (zd_e (fun _ => 0) 0 0 0 j) = 0
    unfold zd_e
    rw [zb_n_out _ _ _ _ _ (by omega), zb_n_out _ _ _ _ _ (by omega), zb_n_out _ _ _ _ _ (by omega), zb_n_out _ _ _ _ _ (by omega)]
    rfl
theorem zi_x {post : SX → Prop} {c : Int32} (C : Nat) (hc : c = nI C) (h9 : 9 ≤ C) (hC : C ≤ 256) (k : ∀ no, post (nI C, nI 9, nI 0, nI 0, nI 0, zb_f (zd_f zt_0 (fun _ => 0) 0), zb_f (fun _ => 0), (fun _ => 0), zb_f (fun _ => 0), zb_f (fun _ => 0), (fun _ => 0), (fun _ => 0), (fun _ => 0), (fun _ => 0), no)) : wX_init_124 post c 0 0 0 0 (fun _ => 0) (fun _ => 0) (fun _ => 0) (fun _ => 0) (fun _ => 0) (fun _ => 0) (fun _ => 0) (fun _ => 0) (fun _ => 0) (fun _ => 0) := by
  subst hc
  have z0 : zt_c zt_0 256 = 0 := zt_c_0 256
  have H : ∀ no, zt_X zt_0 no → wpX_appendNewDirectory post (nI C, nI 0, nI 0, nI 0, nI 0, zb_f (fun _ => 0), zb_f (fun _ => 0), (fun _ => 0), zb_f (fun _ => 0), zb_f (fun _ => 0), (fun _ => 0), (fun _ => 0), (fun _ => 0), (fun _ => 0), no) := fun no n => by
    refine xl_d n hC zi_0 (fun v x hx => nomatch (show (none : Option (Nat × Nat × Nat)) = some x from hx)) (by omega) ?_
    rw [z0]
    exact k no
  exact xl_s (C := C) (L := 0) (P := 0) (T := 0) (F := 0) (B := fun _ => 0) (g := fun _ => 0) (Z := fun _ => 0) (D := fun _ => 0) (fun no n => H no n)
theorem i_vc0 (k0 : Int32) : wpX_init (fun u => wpY_init (fun v => i_Rel 1 u v) k0) k0 := by
  have R : ∀ (C : Nat) no, 9 ≤ C → C ≤ 256 → i_Rel 1 (nI C, nI 9, nI 0, nI 0, nI 0, zb_f (zd_f zt_0 (fun _ => 0) 0), zb_f (fun _ => 0), (fun _ => 0), zb_f (fun _ => 0), zb_f (fun _ => 0), (fun _ => 0), (fun _ => 0), (fun _ => 0), (fun _ => 0), no) (nI C, nI 9, nI 0, nI 0, nI 0, 0, zb_f (zd_f zt_0 (fun _ => 0) 0), zb_f (fun _ => 0), zb_f (fun _ => 0), zb_f (fun _ => 0), (fun _ => 0), (fun _ => 0), (fun _ => 0), (fun _ => 0), (fun _ => 0), (fun _ => 0), (fun _ => 0), (fun _ => 0)) := fun C no h9 hC =>
    zr_mk ⟨hC, h9, by omega, rfl, by omega, by omega, zd_f_B _ zi_0 0, zi_0, zi_0, fun i hi => by omega⟩
  rw [zi_img] at R
  by_cases h1 : 64 ≤ k0
  · by_cases h2 : k0 ≤ 256
    · obtain ⟨C, hC, rfl⟩ := nI_of (x := k0) (fun z => by
        have := Int32.lt_of_le_of_lt h1 z
        exact absurd this (by decide))
      have g1 : 64 ≤ C := (nI_leI (a := 64) (by decide) hC).mp h1
      have g2 : C ≤ 256 := (nI_leI (b := 256) hC (by decide)).mp h2
      refine br_t h1 (br_t h2 (zi_x C rfl (by omega) g2 (fun no => ?_)))
      rw [zi_img]
      exact br_t h1 (br_t h2 (nm_e (nm_e (nm_e (nm_e (R C no (by omega) g2))))))
    · refine br_t h1 (br_f h2 (zi_x 256 rfl (by omega) (by omega) (fun no => ?_)))
      rw [zi_img]
      exact br_t h1 (br_f h2 (nm_e (nm_e (nm_e (nm_e (R 256 no (by omega) (by omega)))))))
  · refine br_f h1 (zi_x 64 rfl (by omega) (by omega) (fun no => ?_))
    rw [zi_img]
    exact br_f h1 (nm_e (nm_e (nm_e (nm_e (R 64 no (by omega) (by omega))))))
