/-! ===== salvage ===== -/
section ZV
variable {C L P T F : Nat} {B g Z D o : Nat → Nat} {st fn fs fo no : Nat → Int32} {fc : Nat → Int64}
theorem zv_D {p : Nat} (hI : zg_I B p (F + 1) o fn fs fc fo) : fo F + 11 + fs F = nI (zg_D B o (F + 1)) := by
  obtain ⟨_, h2, _, h4, _⟩ := hI.2.2 F (by omega)
  rw [h2, h4, zq_a11, nI_add]
  rfl
theorem xv_e {post : Int32 → Prop} {p : Nat} (hI : zg_I B p F o fn fs fc fo) (hF : F ≤ 23) (k : post (nI (zg_D B o F))) : wpX_endOfLastFound post (nI C, nI L, nI P, nI T, nI F, zb_f B, zb_f g, st, zb_f Z, zb_f D, fn, fs, fc, fo, no) := by
  cases F with
  | zero => exact br_t rfl k
  | succ F =>
    have w : vp_in (nI F) 23 := vp_in_nI (by omega) (by omega)
    have c : (nI F).toNatClampNeg = F := nI_clamp (by omega)
    refine br_f (nI_ne0 (by omega) (by omega)) (nm_r (nI_pred F) ⟨w, w, ?_⟩)
    refine zq_v (P := post) ?_ k
    rw [c]
    exact zv_D hI
theorem xv_15 {post : Int32 → SX → Prop} {p : Nat} (hI : zg_I B p F o fn fs fc fo) (hp : p ≤ 256) (hF : F ≤ 23) (hC : C ≤ 256) (hB : zb_B B)
    (k3 : C < zg_D B o F + 13 * zt_c (zg_T B o F) 256 + 9 → ∀ no', post (-3) (nI C, nI L, nI P, nI T, nI F, zb_f B, zb_f g, st, zb_f Z, zb_f D, fn, fs, fc, fo, no'))
    (k4 : zg_D B o F + 13 * zt_c (zg_T B o F) 256 + 9 ≤ C → ∀ no', post (nI F) (nI C, nI (zg_D B o F + 13 * zt_c (zg_T B o F) 256 + 9), nI P, nI T, nI F, zb_f (zd_f (zg_T B o F) B (zg_D B o F)), zb_f g, st, zb_f Z, zb_f D, fn, fs, fc, fo, no')) :
    ∀ r i n no', i + r = F → r < n → zt_X (zg_T B o i) no' → wX_salvage_15 post (nI (zg_D B o F)) (nI C) (nI L) (nI P) (nI T) (nI F) n (nI i) (zb_f B) (zb_f g) st (zb_f Z) (zb_f D) fn fs fc fo (no') := by
  have hD := hI.2.1
  intro r
  induction r with
  | zero =>
    intro i n no' hi hn h
    obtain ⟨n, rfl⟩ : ∃ m, n = m + 1 := ⟨n - 1, by omega⟩
    have e : i = F := by omega
    rw [e] at h ⊢
    have hc := zk_cnt (zg_T B o F)
    refine br_t (nI_le (Nat.le_refl _) (by omega)) ?_
    refine xc_e (zg_D B o F) rfl h ?_
    refine pk_le (zg_D B o F + 13 * zt_c (zg_T B o F) 256 + 9) C (fun f => ?_) (fun f => k3 f no') rfl rfl (by omega) (by omega)
    exact xl_d h hC hB (zg_Q hI) f (k4 f no')
  | succ r ih =>
    intro i n no' hi hn h
    obtain ⟨n, rfl⟩ : ∃ m, n = m + 1 := ⟨n - 1, by omega⟩
    obtain ⟨h1, h2, h3, h4, h5⟩ := hI.2.2 i (by omega)
    have b := hB (o i + 4)
    have w : vp_in (nI i) 23 := vp_in_nI (by omega) (by omega)
    refine br_f (nI_ge (by omega) (by omega)) ⟨w, w, ?_⟩
    rw [nI_clamp (n := i) (by omega), h1, h4]
    refine ⟨vp_in_nI b (by omega), nm_r (e' := upd no' (B (o i + 4)) (nI (o i))) (by rw [nI_clamp (by omega)]) (nm_r (nI_1 i) (ih (i + 1) n _ (by omega) (by omega) ?_))⟩
    exact zt_X_s h _ _ _ _ (by omega)
end ZV
section ZW
variable {C L P T F : Nat} {B g Z D o : Nat → Nat} {fn fs fo : Nat → Int32} {fc : Nat → Int64}
theorem yv_343 {post : Int32 → SY → Prop} {J : Int32 → Int32 → Int32 → Int32 → Int32 → Int32 → Int32 → (Nat → Int32) → (Nat → Int32) → (Nat → Int32) → (Nat → Int32) → (Nat → Int32) → (Nat → Int32) → (Nat → Int64) → (Nat → Int32) → (Nat → Int32) → (Nat → Int32) → (Nat → Int64) → (Nat → Int32) → Prop} {x3 : Int32} {i m p : Nat} {sn ss so : Nat → Int32} {sc : Nat → Int64} (hB : zb_B B) (hI : zg_I B p F o fn fs fc fo) (hF : F ≤ 23) (hi : i < F) (hm : m < 64)
    (kY : (∃ q, i + 1 ≤ q ∧ q < F ∧ zg_n B o q = zg_n B o i) → J (nI (i + 1)) (nI C) (nI L) (nI P) (nI T) (nI F) (nI m) (zb_f B) (zb_f g) (zb_f Z) (zb_f D) fn fs fc fo sn ss sc so)
    (kN : ¬ (∃ q, i + 1 ≤ q ∧ q < F ∧ zg_n B o q = zg_n B o i) → J (nI (i + 1)) (nI C) (nI L) (nI P) (nI T) (nI F) (nI (m + 1)) (zb_f B) (zb_f g) (zb_f Z) (zb_f D) fn fs fc fo (upd sn m (nI (B (o i + 4)))) (upd ss m (nI (zb_r2 B (o i + 5)))) (vp_updL sc m (lN (zb_r4 B (o i + 7)))) (upd so m (nI (o i)))) :
    ∀ r j n x5, i + 1 ≤ j → j + r = F → r < n → ((x5 = 0 ∧ ¬ ∃ q, i + 1 ≤ q ∧ q < j ∧ zg_n B o q = zg_n B o i) ∨ (x5 = 1 ∧ ∃ q, i + 1 ≤ q ∧ q < j ∧ zg_n B o q = zg_n B o i)) → wY_salvage_343 post J x3 (nI i) (nI C) (nI L) (nI P) (nI T) (nI F) (nI m) (zb_f B) (zb_f g) (zb_f Z) (zb_f D) fn fs fc fo sn ss sc so n x5 (nI j) := by
  obtain ⟨h1, h2, h3, h4, h5⟩ := hI.2.2 i hi
  have c : (nI i).toNatClampNeg = i := nI_clamp (by omega)
  have w : vp_in (nI i) 32 := vp_in_nI (by omega) (by omega)
  have b2 := hB (o i + 4)
  intro r
  induction r with
  | zero =>
    intro j n x5 hij hj hn h
    obtain ⟨n, rfl⟩ : ∃ m, n = m + 1 := ⟨n - 1, by omega⟩
    have e : j = F := by omega
    subst e
    refine br_t (nI_le (Nat.le_refl _) (by omega)) ?_
    rcases h with ⟨a1, a2⟩ | ⟨a1, a2⟩
    · refine br_t a1 ⟨w, w, w, w, ?_⟩
      rw [c, h1, h2, h3, h4]
      exact yl_t m hm (nm_r (nI_1 i) (kN a2))
    · exact br_f (by rw [a1]; decide) (nm_r (nI_1 i) (kY a2))
  | succ r ih =>
    intro j n x5 hij hj hn h
    obtain ⟨n, rfl⟩ : ∃ m, n = m + 1 := ⟨n - 1, by omega⟩
    have b := hB (o j + 4)
    have d1 := (hI.2.2 j (by omega)).1
    refine br_f (nI_ge (by omega) (by omega)) ⟨vp_in_nI (by omega) (by omega), w, ?_⟩
    rw [nI_clamp (n := j) (by omega), c, h1, d1]
    refine pk_eq (B (o j + 4)) (B (o i + 4)) (fun e => nm_r (nI_1 j) (ih (j + 1) n 1 (by omega) (by omega) (by omega) (Or.inr ⟨rfl, j, by omega, by omega, e⟩))) (fun e => nm_r (nI_1 j) (ih (j + 1) n x5 (by omega) (by omega) (by omega) ?_)) rfl rfl (by omega) (by omega)
    rcases h with ⟨a1, a2⟩ | ⟨a1, q, a2, a3, a4⟩
    · refine Or.inl ⟨a1, fun ⟨q, a, b, d⟩ => ?_⟩
      by_cases z : q = j
      · exact e (by rw [z] at d; exact d)
      · exact a2 ⟨q, a, by omega, d⟩
    · exact Or.inr ⟨a1, q, a2, by omega, a4⟩
theorem yv_325 {post : Int32 → SY → Prop} {p : Nat} (hI : zg_I B p F o fn fs fc fo) (hp : p ≤ 256) (hF : F ≤ 23) (hC : C ≤ 256) (hB : zb_B B)
    (k3 : C < zg_D B o F + 13 * zt_c (zg_T B o F) 256 + 9 → ∀ sk sn ss sc so, post (-3) (nI C, nI L, nI P, nI T, nI F, sk, zb_f B, zb_f g, zb_f Z, zb_f D, fn, fs, fc, fo, sn, ss, sc, so))
    (k4 : zg_D B o F + 13 * zt_c (zg_T B o F) 256 + 9 ≤ C → ∀ sk sn ss sc so, post (nI F) (nI C, nI (zg_D B o F + 13 * zt_c (zg_T B o F) 256 + 9), nI P, nI T, nI F, sk, zb_f (zd_f (zg_T B o F) B (zg_D B o F)), zb_f g, zb_f Z, zb_f D, fn, fs, fc, fo, sn, ss, sc, so)) :
    ∀ r i n m sn ss sc so a, i + r = F → r < n → zt_R (zt_l (zg_n B o) (zg_e B o) zt_0 F i) m sn ss sc so a → m ≤ i → wY_salvage_325 post (nI (zg_D B o F)) n (nI i) (nI C) (nI L) (nI P) (nI T) (nI F) (nI m) (zb_f B) (zb_f g) (zb_f Z) (zb_f D) fn fs fc fo sn ss sc so := by
  have hD := hI.2.1
  intro r
  induction r with
  | zero =>
    intro i n m sn ss sc so a hi hn h hm
    obtain ⟨n, rfl⟩ : ∃ m, n = m + 1 := ⟨n - 1, by omega⟩
    have e : i = F := by omega
    rw [e] at h hm ⊢
    rw [zt_l_P] at h
    have hR : zt_R (zg_T B o F) m sn ss sc so a := h
    have em := hR.1
    refine br_t (nI_le (Nat.le_refl _) (by omega)) ?_
    refine pk_le (zg_D B o F + 13 * m + 9) C (fun f => ?_) (fun f => k3 (by omega) _ sn ss sc so) (by rw [zq_m13, nI_add]; exact nI_add _ 9) rfl (by omega) (by omega)
    exact yd (zg_D B o F) rfl hR (fun v z k o' hv => zd_Qb (x := (z, k, o')) hB (zg_Q hI v _ hv) (by omega)) (by omega) (by omega) (k4 (by omega) _ sn ss sc so)
  | succ r ih =>
    intro i n m sn ss sc so a hi hn h hm
    obtain ⟨n, rfl⟩ : ∃ m, n = m + 1 := ⟨n - 1, by omega⟩
    have hf := zt_l_fr (zg_n B o) (zg_e B o) zt_0 F i (by omega)
    refine br_f (nI_ge (by omega) (by omega)) (nm_r (nI_1 i) ?_)
    refine ⟨F + 1, yv_343 hB hI hF (by omega) (by omega) (fun y => ?_) (fun y => ?_) (F - (i + 1)) (i + 1) (F + 1) 0 (by omega) (by omega) (by omega) (Or.inl ⟨rfl, fun ⟨q, a, b, _⟩ => by omega⟩)⟩
    · refine ih (i + 1) n m sn ss sc so a (by omega) (by omega) ?_ (by omega)
      rw [zt_l_sy (zg_n B o) (zg_e B o) zt_0 F i y]
      exact h
    · refine ih (i + 1) n (m + 1) _ _ _ _ (zb_w a m (B (o i + 4))) (by omega) (by omega) ?_ (by omega)
      rw [zt_l_sn (zg_n B o) (zg_e B o) zt_0 F i y]
      exact zt_R_s h _ _ _ _ (hB _) hf
theorem yv_279 {post : Int32 → SY → Prop} {p : Nat} {sk : Int32} {sn ss so : Nat → Int32} {sc : Nat → Int64} (hI : zg_I B p F o fn fs fc fo) (hp : p ≤ 256) (hF : F ≤ 23) (hC : C ≤ 256) (hB : zb_B B)
    (k3 : C < zg_D B o F + 13 * zt_c (zg_T B o F) 256 + 9 → ∀ sk sn ss sc so, post (-3) (nI C, nI L, nI P, nI T, nI F, sk, zb_f B, zb_f g, zb_f Z, zb_f D, fn, fs, fc, fo, sn, ss, sc, so))
    (k4 : zg_D B o F + 13 * zt_c (zg_T B o F) 256 + 9 ≤ C → ∀ sk sn ss sc so, post (nI F) (nI C, nI (zg_D B o F + 13 * zt_c (zg_T B o F) 256 + 9), nI P, nI T, nI F, sk, zb_f (zd_f (zg_T B o F) B (zg_D B o F)), zb_f g, zb_f Z, zb_f D, fn, fs, fc, fo, sn, ss, sc, so)) : wY_salvage_279 post (nI C) (nI L) (nI P) (nI T) (nI F) sk (zb_f B) (zb_f g) (zb_f Z) (zb_f D) fn fs fc fo sn ss sc so := by
  have W := yv_325 (L := L) (P := P) (T := T) (g := g) (Z := Z) (D := D) hI hp hF hC hB k3 k4 F 0 (F + 1) 0 sn ss sc so (fun _ => 0) (by omega) (by omega) (by rw [zt_l_0]; exact zt_R_0 _ _ _ _ _) (Nat.le_refl _)
  cases F with
  | zero => exact br_t rfl ⟨1, W⟩
  | succ F =>
    have e1 : nI (F + 1) - 1 = nI F := nI_pred F
    have w : vp_in (nI (F + 1) - 1) 32 := by
      rw [e1]
      exact vp_in_nI (by omega) (by omega)
    have c : (nI (F + 1) - 1).toNatClampNeg = F := by
      rw [e1]
      exact nI_clamp (by omega)
    exact br_f (nI_ne0 (by omega) (by omega)) ⟨w, w, nm_r (e' := nI (zg_D B o (F + 1))) (by rw [c]; exact zv_D hI) ⟨_, W⟩⟩
end ZW
theorem i_vc_salvage {k : Nat} {u : SX} {v : SY} (I : i_Rel k u v) (hk : k + 3 ≤ 1537) : wpX_salvage (fun r u' => wpY_salvage (fun r' v' => r' = r ∧ i_Rel (k + 3) u' v') v) u := by
  obtain ⟨C, L, P, T, F, B, g, Z, D, st, fn, fs, fo, no, sn, ss, so, fc, sc, sk, rfl, rfl, hC, hLC, hP, hT, hT2, hF, hB, hg, hD, hst⟩ := I
  have hL : L ≤ 256 := by omega
  obtain ⟨F', o', fn', fs', fo', fc', hI, h1, h2⟩ := zs_main (C := C) (P := P) (T := T) (g := g) (Z := Z) (D := D) (st := st) (no := no) (sn := sn) (ss := ss) (so := so) (sc := sc) (sk := sk) hL hB (L + 1) 0 0 0 0 0 (fun _ => 0) fn fs fc fo (by omega) (by omega) (by omega) (zg_I_0 _ _ _ _ _ _) (Or.inr ⟨by omega, rfl⟩)
  have hF' : F' ≤ 23 := by
    have := hI.1
    have := hI.2.1
    omega
  have hDL := hI.2.1
  unfold wpX_salvage
  dsimp only
  refine ⟨L + 2, h1 _ (L + 2) (by omega) ?_⟩
  refine xv_e hI hF' ?_
  refine xl_s (fun no1 n1 => ?_)
  refine ⟨F' + 1, xv_15 hI hL hF' hC hB (fun f no' => ?_) (fun f no' => ?_) F' 0 (F' + 1) no1 (by omega) (by omega) n1⟩
  · refine ⟨L + 2, h2 _ (L + 2) (by omega) ?_⟩
    exact yv_279 hI hL hF' hC hB (fun _ sk sn ss sc so => ⟨rfl, zr_mk ⟨hC, hLC, hP, hT, hT2, hF', hB, hg, hD, hst⟩⟩) (fun z => absurd z (by omega))
  · refine ⟨L + 2, h2 _ (L + 2) (by omega) ?_⟩
    exact yv_279 hI hL hF' hC hB (fun z => absurd z (by omega)) (fun _ sk sn ss sc so => ⟨rfl, zr_mk ⟨hC, f, hP, hT, hT2, hF', zd_f_B _ hB _, hg, hD, hst⟩⟩)
