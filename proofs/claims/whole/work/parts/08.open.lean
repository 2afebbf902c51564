/-! ===== isOpenable ===== -/
theorem zq_L {x y : Int64} {A B : Prop} (a b : Nat) (f : a = b → A) (g : a ≠ b → B) (hx : x = lN a := by rfl) (hy : y = lN b := by rfl) (ha : a < 2 ^ 63 := by omega) (hb : b < 2 ^ 63 := by omega) : (x = y → A) ∧ (¬ x = y → B) := by
  subst hx hy
  rw [pk_lEQ ha hb]
  exact ⟨f, g⟩
def zo_S (B : Nat → Nat) (d r : Nat) : Prop :=
  zb_r4 B r = 33639248 ∧ zb_r2 B (r + 11) + 11 + zb_r2 B (r + 5) ≤ d ∧ zb_r4 B (zb_r2 B (r + 11)) = 67324752 ∧ B (zb_r2 B (r + 11) + 4) = B (r + 4) ∧ zb_r2 B (zb_r2 B (r + 11) + 5) = zb_r2 B (r + 5) ∧ zb_r4 B (zb_r2 B (r + 11) + 7) = zb_r4 B (r + 7)
def zo_U (B : Nat → Nat) (d i : Nat) : Prop := ∀ q, q + 1 = i → B (d + 13 * q + 4) < B (d + 13 * i + 4)
theorem zo_ES {B : Nat → Nat} {d i : Nat} : zo_E B d i ↔ (zo_S B d (d + 13 * i) ∧ zo_U B d i) :=
  ⟨fun ⟨a, b, c, e, f, g, h⟩ => ⟨⟨a, b, c, e, f, g⟩, h⟩, fun ⟨⟨a, b, c, e, f, g⟩, h⟩ => ⟨a, b, c, e, f, g, h⟩⟩
/-- the name before, as both sides carry it -/
def zo_p (B : Nat → Nat) (d : Nat) : Nat → Int32
  | 0 => -1
  | q + 1 => nI (B (d + 13 * q + 4))
theorem zo_pU {B : Nat → Nat} (hB : zb_B B) (d i : Nat) : (nI (B (d + 13 * i + 4)) ≤ zo_p B d i ↔ ¬ zo_U B d i) ∧ (zo_p B d i < nI (B (d + 13 * i + 4)) ↔ zo_U B d i) := by
  have b := hB (d + 13 * i + 4)
  cases i with
  | zero =>
    have u : zo_U B d 0 := fun q h => by omega
    have e : (zo_p B d 0).toInt = -1 := by
      show (-1 : Int32).toInt = -1
      decide
    rw [Int32.le_iff_toInt_le, Int32.lt_iff_toInt_lt, nI_toInt (by omega), e]
    exact ⟨⟨fun h => by omega, fun h => absurd u h⟩, ⟨fun _ => u, fun _ => by omega⟩⟩
  | succ q =>
    have b2 := hB (d + 13 * q + 4)
    have u : zo_U B d (q + 1) ↔ B (d + 13 * q + 4) < B (d + 13 * (q + 1) + 4) := ⟨fun h => h q rfl, fun h q' e => by
      have e2 : q' = q := by omega
      rw [e2]
      exact h⟩
    show (nI _ ≤ nI (B (d + 13 * q + 4)) ↔ _) ∧ (nI (B (d + 13 * q + 4)) < nI _ ↔ _)
    rw [nI_leI (by omega) (by omega), nI_ltI (by omega) (by omega), u]
    exact ⟨by omega, Iff.rfl⟩
section ZXO
variable {C L P T F : Nat} {B g Z D : Nat → Nat} {st fn fs fo no : Nat → Int32} {fc : Nat → Int64}
theorem xo_s {post : Int32 → Prop} {q y : Int32} (r d : Nat) (hq : q = nI r) (hy : y = nI d) (hr : r + 13 ≤ L) (hd : d ≤ L) (hL : L ≤ 256) (hB : zb_B B) (k1 : zo_S B d r → post 1) (k0 : ¬ zo_S B d r → post 0) : wpX_isSoundCentral post (nI C, nI L, nI P, nI T, nI F, zb_f B, zb_f g, st, zb_f Z, zb_f D, fn, fs, fc, fo, no) q y := by
  subst hq hy
  have b1 := zb_r4_lt hB r
  have b2 := zb_r2_lt hB (r + 11)
  have b3 := zb_r2_lt hB (r + 5)
  have b4 := zb_r4_lt hB (zb_r2 B (r + 11))
  have b5 := hB (zb_r2 B (r + 11) + 4)
  have b6 := hB (r + 4)
  have b7 := zb_r2_lt hB (zb_r2 B (r + 11) + 5)
  have b8 := zb_r4_lt hB (zb_r2 B (r + 11) + 7)
  have b9 := zb_r4_lt hB (r + 7)
  unfold wpX_isSoundCentral
  dsimp only
  refine xl_4 r rfl (by omega) hL hB ?_
  refine zq_L (zb_r4 B r) 33639248 (fun h1 => ?_) (fun h1 => k0 (fun z => h1 z.1)) rfl rfl (by omega) (by omega)
  refine xl_2 (r + 11) (nI_add r 11) (by omega) hL hB ?_
  refine xl_2 (r + 5) (nI_add r 5) (by omega) hL hB ?_
  refine pk_le (zb_r2 B (r + 11) + 11 + zb_r2 B (r + 5)) d (fun h2 => ?_) (fun h2 => k0 (fun z => absurd z.2.1 (by omega))) (by rw [zq_a11, nI_add]) rfl (by omega) (by omega)
  refine xl_4 (zb_r2 B (r + 11)) rfl (by omega) hL hB ?_
  refine zq_L (zb_r4 B (zb_r2 B (r + 11))) 67324752 (fun h3 => ?_) (fun h3 => k0 (fun z => h3 z.2.2.1)) rfl rfl (by omega) (by omega)
  refine xl_b (zb_r2 B (r + 11) + 4) (nI_add _ 4) (by omega) hL ?_
  refine xl_b (r + 4) (nI_add _ 4) (by omega) hL ?_
  refine pk_eq (B (zb_r2 B (r + 11) + 4)) (B (r + 4)) (fun h4 => ?_) (fun h4 => k0 (fun z => h4 z.2.2.2.1)) rfl rfl (by omega) (by omega)
  refine xl_2 (zb_r2 B (r + 11) + 5) (nI_add _ 5) (by omega) hL hB ?_
  refine pk_eq (zb_r2 B (zb_r2 B (r + 11) + 5)) (zb_r2 B (r + 5)) (fun h5 => ?_) (fun h5 => k0 (fun z => h5 z.2.2.2.2.1)) rfl rfl (by omega) (by omega)
  refine xl_4 (zb_r2 B (r + 11) + 7) (nI_add _ 7) (by omega) hL hB ?_
  refine xl_4 (r + 7) (nI_add _ 7) (by omega) hL hB ?_
  exact zq_L (zb_r4 B (zb_r2 B (r + 11) + 7)) (zb_r4 B (r + 7)) (fun h6 => k1 ⟨h1, h2, h3, h4, h5, h6⟩) (fun h6 => k0 (fun z => h6 z.2.2.2.2.2)) rfl rfl (by omega) (by omega)
theorem xo_73 {post : Int32 → Prop} {d c : Nat} (hd : d + 13 * c + 9 ≤ L) (hL : L ≤ 256) (hB : zb_B B) (k1 : zo_A B d c → post 1) (k0 : ¬ zo_A B d c → post 0) :
    ∀ r i n, i + r = c → r < n → (∀ j, j < i → zo_E B d j) → wX_isOpenable_73 post (nI c) (nI d) (nI C) (nI L) (nI P) (nI T) (nI F) (zb_f B) (zb_f g) st (zb_f Z) (zb_f D) fn fs fc fo no n (zo_p B d i) (nI i) := by
  intro r
  induction r with
  | zero =>
    intro i n hi hn h
    obtain ⟨n, rfl⟩ : ∃ m, n = m + 1 := ⟨n - 1, by omega⟩
    have e : i = c := by omega
    subst e
    exact br_t (nI_le (Nat.le_refl _) (by omega)) (k1 h)
  | succ r ih =>
    intro i n hi hn h
    obtain ⟨n, rfl⟩ : ∃ m, n = m + 1 := ⟨n - 1, by omega⟩
    refine br_f (nI_ge (by omega) (by omega)) (nm_r (e' := nI (d + 13 * i)) (by rw [zq_m13, nI_add]) ?_)
    refine xl_b (d + 13 * i + 4) (nI_add _ 4) (by omega) hL ?_
    by_cases u : zo_U B d i
    · refine br_f (fun z => ((zo_pU hB d i).1.mp z) u) ?_
      refine xo_s (d + 13 * i) d rfl rfl (by omega) (by omega) hL hB (fun s => ?_) (fun s => ?_)
      · refine br_f (by decide) (nm_r (nI_1 i) (ih (i + 1) n (by omega) (by omega) (fun j hj => ?_)))
        by_cases e : j = i
        · rw [e]
          exact zo_ES.mpr ⟨s, u⟩
        · exact h j (by omega)
      · exact br_t rfl (k0 (fun z => s (zo_ES.mp (z i (by omega))).1))
    · exact br_t ((zo_pU hB d i).1.mpr u) (k0 (fun z => u (zo_ES.mp (z i (by omega))).2))
theorem xo {post : Int32 → Prop} (hL : L ≤ 256) (hB : zb_B B) (k1 : zo_O B L → post 1) (k0 : ¬ zo_O B L → post 0) : wpX_isOpenable post (nI C, nI L, nI P, nI T, nI F, zb_f B, zb_f g, st, zb_f Z, zb_f D, fn, fs, fc, fo, no) := by
  by_cases h9 : 9 ≤ L
  · have b1 := zb_r4_lt hB (L - 9)
    have b2 : zo_c B L < 256 := hB (L - 9 + 4)
    have b3 := zb_r2_lt hB (L - 9 + 5)
    have b4 := zb_r2_lt hB (L - 9 + 7)
    unfold wpX_isOpenable
    dsimp only
    refine nm_r (zq_s9 h9) ?_
    refine xl_4 (L - 9) rfl (by omega) hL hB ?_
    refine zq_L (zb_r4 B (L - 9)) 101010256 (fun h1 => ?_) (fun h1 => k0 (fun z => h1 z.2.1)) rfl rfl (by omega) (by omega)
    refine xl_b (L - 9 + 4) (nI_add _ 4) (by omega) hL ?_
    refine xl_2 (L - 9 + 5) (nI_add _ 5) (by omega) hL hB ?_
    refine xl_2 (L - 9 + 7) (nI_add _ 7) (by omega) hL hB ?_
    refine pk_eq (zb_r2 B (L - 9 + 7)) (13 * zo_c B L) (fun h2 => ?_) (fun h2 => k0 (fun z => h2 z.2.2.1)) rfl (zq_m13 _) (by omega) (by omega)
    refine pk_eq (zo_d B L + zb_r2 B (L - 9 + 7)) (L - 9) (fun h3 => ?_) (fun h3 => k0 (fun z => h3 (by rw [h2]; exact z.2.2.2.1))) (nI_add _ _) rfl (by unfold zo_d; omega) (by omega)
    rw [h2] at h3
    exact ⟨zo_c B L + 1, xo_73 (by omega) hL hB (fun z => k1 ⟨h9, h1, h2, h3, z⟩) (fun z => k0 (fun w => z w.2.2.2.2)) (zo_c B L) 0 (zo_c B L + 1) (by omega) (by omega) (fun j hj => by omega)⟩
  · unfold wpX_isOpenable
    dsimp only
    refine nm_e ?_
    refine xl_4n (pk_sneg (b := 9) (by omega) (by omega)) ?_
    exact br_f (by decide) (k0 (fun z => h9 z.1))
theorem xo_dc {post : Int32 → Prop} (h9 : 9 ≤ L) (hL : L ≤ 256) (k : post (nI (zo_c B L))) : wpX_directoryCount post (nI C, nI L, nI P, nI T, nI F, zb_f B, zb_f g, st, zb_f Z, zb_f D, fn, fs, fc, fo, no) := by
  unfold wpX_directoryCount
  dsimp only
  exact xl_b (L - 9 + 4) (by rw [zq_s9 h9]; exact nI_add _ 4) (by omega) hL k
theorem xo_ca {post : Int32 → Prop} {q : Int32} (i : Nat) (hq : q = nI i) (h9 : 9 ≤ L) (hL : L ≤ 256) (hB : zb_B B) (k : post (nI (zo_d B L + 13 * i))) : wpX_centralAt post (nI C, nI L, nI P, nI T, nI F, zb_f B, zb_f g, st, zb_f Z, zb_f D, fn, fs, fc, fo, no) q := by
  subst hq
  unfold wpX_centralAt
  dsimp only
  refine xl_2 (L - 9 + 5) (by rw [zq_s9 h9]; exact nI_add _ 5) (by omega) hL hB ?_
  refine zq_v (P := post) ?_ k
  rw [zq_m13, nI_add]
  rfl
end ZXO
section ZYO
variable {C L P T F : Nat} {B g Z D : Nat → Nat} {fn fs fo sn ss so : Nat → Int32} {fc sc : Nat → Int64} {sk : Int32}
theorem yo_89 {post : Int32 → Prop} {d c : Nat} (hd : d + 13 * c + 9 ≤ 256) (hB : zb_B B) (k1 : zo_A B d c → post 1) (k0 : ¬ zo_A B d c → post 0) :
    ∀ r i n, i + r = c → r < n → (∀ j, j < i → zo_E B d j) → wY_isOpenable_89 post (nI c) (nI d) (nI C) (nI L) (nI P) (nI T) (nI F) sk (zb_f B) (zb_f g) (zb_f Z) (zb_f D) fn fs fc fo sn ss sc so n (zo_p B d i) (nI i) := by
  intro r
  induction r with
  | zero =>
    intro i n hi hn h
    obtain ⟨n, rfl⟩ : ∃ m, n = m + 1 := ⟨n - 1, by omega⟩
    have e : i = c := by omega
    subst e
    exact br_t (nI_le (Nat.le_refl _) (by omega)) (k1 h)
  | succ r ih =>
    intro i n hi hn h
    obtain ⟨n, rfl⟩ : ∃ m, n = m + 1 := ⟨n - 1, by omega⟩
    refine br_f (nI_ge (by omega) (by omega)) (nm_r (e' := nI (d + 13 * i)) (by rw [zq_m13, nI_add]) ?_)
    have kS : ¬ zo_S B d (d + 13 * i) → post 0 := fun s => k0 (fun z => s (zo_ES.mp (z i (by omega))).1)
    have hr : d + 13 * i + 13 ≤ 256 := by omega
    have hp := zo_pU hB d i
    have hF : zo_S B d (d + 13 * i) → (zo_U B d i → wY_isOpenable_89 post (nI c) (nI d) (nI C) (nI L) (nI P) (nI T) (nI F) sk (zb_f B) (zb_f g) (zb_f Z) (zb_f D) fn fs fc fo sn ss sc so n (nI (B (d + 13 * i + 4))) (nI (i + 1))) ∧ (¬ zo_U B d i → post 0) := fun s => ⟨fun u => ih (i + 1) n (by omega) (by omega) (fun j hj => by
      by_cases e : j = i
      · rw [e]
        exact zo_ES.mpr ⟨s, u⟩
      · exact h j (by omega)), fun u => k0 (fun z => u (zo_ES.mp (z i (by omega))).2)⟩
    generalize d + 13 * i = w at *
    have b1 := zb_r4_lt hB w
    have b2 := zb_r2_lt hB (w + 11)
    have b3 := zb_r2_lt hB (w + 5)
    have b4 := zb_r4_lt hB (zb_r2 B (w + 11))
    have b5 := hB (zb_r2 B (w + 11) + 4)
    have b6 := hB (w + 4)
    have b7 := zb_r2_lt hB (zb_r2 B (w + 11) + 5)
    have b8 := zb_r4_lt hB (zb_r2 B (w + 11) + 7)
    have b9 := zb_r4_lt hB (w + 7)
    refine yl_sC w rfl (by omega) hB (fun h1 => ?_) (fun h1 => br_t rfl (kS (fun z => h1 z.1)))
    refine br_f (by decide) ?_
    refine yl_b (w + 4) (nI_add _ 4) (by omega) ?_
    refine yl_2 (w + 5) (nI_add _ 5) (by omega) hB ?_
    refine yl_4 (w + 7) (nI_add _ 7) (by omega) hB ?_
    refine yl_2 (w + 11) (nI_add _ 11) (by omega) hB ?_
    refine pk_le (zb_r2 B (w + 11) + 11 + zb_r2 B (w + 5)) d (fun h2 => ?_) (fun h2 => kS (fun z => absurd z.2.1 (by omega))) (by rw [zq_a11, nI_add]) rfl (by omega) (by omega)
    refine yl_sL (zb_r2 B (w + 11)) rfl (by omega) hB (fun h3 => ?_) (fun h3 => br_t rfl (kS (fun z => h3 z.2.2.1)))
    refine br_f (by decide) ?_
    refine yl_b (zb_r2 B (w + 11) + 4) (nI_add _ 4) (by omega) ?_
    refine pk_eq (B (zb_r2 B (w + 11) + 4)) (B (w + 4)) (fun h4 => ?_) (fun h4 => kS (fun z => h4 z.2.2.2.1)) rfl rfl (by omega) (by omega)
    refine yl_2 (zb_r2 B (w + 11) + 5) (nI_add _ 5) (by omega) hB ?_
    refine pk_eq (zb_r2 B (zb_r2 B (w + 11) + 5)) (zb_r2 B (w + 5)) (fun h5 => ?_) (fun h5 => kS (fun z => h5 z.2.2.2.2.1)) rfl rfl (by omega) (by omega)
    refine yl_4 (zb_r2 B (w + 11) + 7) (nI_add _ 7) (by omega) hB ?_
    refine zq_L (zb_r4 B (zb_r2 B (w + 11) + 7)) (zb_r4 B (w + 7)) (fun h6 => ?_) (fun h6 => kS (fun z => h6 z.2.2.2.2.2)) rfl rfl (by omega) (by omega)
    have hG := hF ⟨h1, h2, h3, h4, h5, h6⟩
    by_cases u : zo_U B d i
    · exact br_t (hp.2.mpr u) (nm_r (nI_1 i) (hG.1 u))
    · exact br_f (fun z => u (hp.2.mp z)) (hG.2 u)
theorem yo {post : Int32 → Prop} (hL : L ≤ 256) (hB : zb_B B) (k1 : zo_O B L → post 1) (k0 : ¬ zo_O B L → post 0) : wpY_isOpenable post (nI C, nI L, nI P, nI T, nI F, sk, zb_f B, zb_f g, zb_f Z, zb_f D, fn, fs, fc, fo, sn, ss, sc, so) := by
  unfold wpY_isOpenable
  dsimp only
  refine pk_le 9 L (fun h9 => ?_) (fun h9 => k0 (fun z => absurd z.1 (by omega))) rfl rfl (by omega) (by omega)
  have b1 := zb_r4_lt hB (L - 9)
  have b2 : zo_c B L < 256 := hB (L - 9 + 4)
  have b3 := zb_r2_lt hB (L - 9 + 5)
  have b4 := zb_r2_lt hB (L - 9 + 7)
  refine nm_r (zq_s9 h9) ?_
  refine yl_sE (L - 9) rfl (by omega) hB (fun h1 => ?_) (fun h1 => br_t rfl (k0 (fun z => h1 z.2.1)))
  refine br_f (by decide) ?_
  refine yl_b (L - 9 + 4) (nI_add _ 4) (by omega) ?_
  refine yl_2 (L - 9 + 5) (nI_add _ 5) (by omega) hB ?_
  refine yl_2 (L - 9 + 7) (nI_add _ 7) (by omega) hB ?_
  refine pk_eq (zb_r2 B (L - 9 + 7)) (13 * zo_c B L) (fun h2 => ?_) (fun h2 => k0 (fun z => h2 z.2.2.1)) rfl (zq_m13 _) (by omega) (by omega)
  refine pk_eq (zo_d B L + zb_r2 B (L - 9 + 7)) (L - 9) (fun h3 => ?_) (fun h3 => k0 (fun z => h3 (by rw [h2]; exact z.2.2.2.1))) (nI_add _ _) (zq_s9 h9) (by unfold zo_d; omega) (by omega)
  rw [h2] at h3
  exact ⟨zo_c B L + 1, yo_89 (by omega) hB (fun z => k1 ⟨h9, h1, h2, h3, z⟩) (fun z => k0 (fun w => z w.2.2.2.2)) (zo_c B L) 0 (zo_c B L + 1) (by omega) (by omega) (fun j hj => by omega)⟩
end ZYO
