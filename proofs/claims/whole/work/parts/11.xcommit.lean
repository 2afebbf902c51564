/-! ===== commit, the component ===== -/
theorem zd_Qb {B : Nat → Nat} {D v : Nat} {x : Nat × Nat × Nat} (hB : zb_B B) (h : zd_Q B D v x) (hD : D ≤ 256) : x.1 < 65536 ∧ x.2.1 < 4294967296 ∧ x.2.2 < 65536 := by
  obtain ⟨a, b, c, d⟩ := h
  have e1 := zb_r2_lt hB (x.2.2 + 5)
  have e2 := zb_r4_lt hB (x.2.2 + 7)
  omega
theorem zk_cnt (A : Nat → Option (Nat × Nat × Nat)) : zt_c A 256 ≤ 1000 := by
  have h : ∀ v, zt_c A v ≤ v := by
    intro v
    induction v with
    | zero => exact Nat.le_refl _
    | succ v ih =>
      show zt_c A v + zt_1 (A v) ≤ v + 1
      have t : zt_1 (A v) ≤ 1 := by
        cases A v with
        | none => exact Nat.zero_le _
        | some x => exact Nat.le_refl _
      omega
  have := h 256
  omega
section ZXC
variable {C L P T F : Nat} {B g Z D : Nat → Nat} {st fn fs fo no : Nat → Int32} {fc : Nat → Int64}
theorem xc_l7 {post : SX → Prop} (hO : zo_O B L) (hL : L ≤ 256) (hB : zb_B B) (k : ∀ no', zt_X (zc_C B (zo_d B L) (zo_c B L)) no' → post (nI C, nI L, nI P, nI T, nI F, zb_f B, zb_f g, st, zb_f Z, zb_f D, fn, fs, fc, fo, no')) :
    ∀ r i n no', i + r = zo_c B L → r < n → zt_X (zc_C B (zo_d B L) i) no' → wX_listCurrent_7 post (nI (zo_c B L)) (nI C) (nI L) (nI P) (nI T) (nI F) n (nI i) (zb_f B) (zb_f g) st (zb_f Z) (zb_f D) fn fs fc fo (no') := by
  have hd := zo_dl hO
  have h9 := hO.1
  intro r
  induction r with
  | zero =>
    intro i n no' hi hn h
    obtain ⟨n, rfl⟩ : ∃ m, n = m + 1 := ⟨n - 1, by omega⟩
    have e : i = zo_c B L := by omega
    rw [e] at h ⊢
    exact br_t (nI_le (Nat.le_refl _) (by omega)) (k no' h)
  | succ r ih =>
    intro i n no' hi hn h
    obtain ⟨n, rfl⟩ : ∃ m, n = m + 1 := ⟨n - 1, by omega⟩
    have b1 := hB (zo_d B L + 13 * i + 4)
    have b2 := zb_r2_lt hB (zo_d B L + 13 * i + 11)
    refine br_f (nI_ge (by omega) (by omega)) ?_
    refine xo_ca i rfl h9 hL hB ?_
    refine xl_b (zo_d B L + 13 * i + 4) (nI_add _ 4) (by omega) hL ?_
    refine xl_2 (zo_d B L + 13 * i + 11) (nI_add _ 11) (by omega) hL hB ?_
    refine ⟨vp_in_nI b1 (by omega), nm_r (e' := upd no' (B (zo_d B L + 13 * i + 4)) (nI (zb_r2 B (zo_d B L + 13 * i + 11)))) (by rw [nI_clamp (by omega)]) (nm_r (nI_1 i) (ih (i + 1) n _ (by omega) (by omega) ?_))⟩
    exact zt_X_s h _ _ _ _ b2
theorem xc_l {post : SX → Prop} (hO : zo_O B L) (hL : L ≤ 256) (hB : zb_B B) (hA : zt_X zt_0 no) (k : ∀ no', zt_X (zc_C B (zo_d B L) (zo_c B L)) no' → post (nI C, nI L, nI P, nI T, nI F, zb_f B, zb_f g, st, zb_f Z, zb_f D, fn, fs, fc, fo, no')) : wpX_listCurrent post (nI C, nI L, nI P, nI T, nI F, zb_f B, zb_f g, st, zb_f Z, zb_f D, fn, fs, fc, fo, no) := by
  unfold wpX_listCurrent
  dsimp only
  exact xo_dc hO.1 hL ⟨zo_c B L + 1, xc_l7 hO hL hB k (zo_c B L) 0 (zo_c B L + 1) no (by omega) (by omega) hA⟩
theorem xc_p7 {post : Int32 → SX → Prop} {A : Nat → Option (Nat × Nat × Nat)} (hL : L ≤ 256) (hP : P ≤ 8) (hs : zs_m Z P ≤ 128) (hg : zb_B g) (k : ∀ no', zt_X (zt_f g (zc_p Z D L) A P) no' → post (nI (zl_o Z L P)) (nI C, nI L, nI P, nI T, nI F, zb_f B, zb_f g, st, zb_f Z, zb_f D, fn, fs, fc, fo, no')) :
    ∀ r i n no', i + r = P → r < n → zt_X (zt_f g (zc_p Z D L) A i) no' → wX_listPending_7 post (nI C) (nI L) (nI P) (nI T) (nI F) n (nI (zl_o Z L i)) (nI i) (zb_f B) (zb_f g) st (zb_f Z) (zb_f D) fn fs fc fo (no') := by
  intro r
  induction r with
  | zero =>
    intro i n no' hi hn h
    obtain ⟨n, rfl⟩ : ∃ m, n = m + 1 := ⟨n - 1, by omega⟩
    have e : i = P := by omega
    rw [e] at h ⊢
    exact br_t (nI_le (Nat.le_refl _) (by omega)) (k no' h)
  | succ r ih =>
    intro i n no' hi hn h
    obtain ⟨n, rfl⟩ : ∃ m, n = m + 1 := ⟨n - 1, by omega⟩
    have b1 := hg i
    have c : (nI i).toNatClampNeg = i := nI_clamp (by omega)
    have c2 : (zb_f g i).toNatClampNeg = g i := nI_clamp (by omega)
    have hz := zs_lt Z (j := i) (k := P) (by omega)
    have ho : zl_o Z L i = L + 11 * i + zs_m Z i := rfl
    have w : vp_in (nI i) 8 := vp_in_nI (by omega) (by omega)
    refine br_f (nI_ge (by omega) (by omega)) ⟨w, ?_⟩
    rw [c]
    refine ⟨vp_in_nI b1 (by omega), nm_r (e' := upd no' (g i) (nI (zl_o Z L i))) (by rw [c2]) ⟨w, nm_r (e' := nI (zl_o Z L (i + 1))) ?_ (nm_r (nI_1 i) (ih (i + 1) n _ (by omega) (by omega) ?_))⟩⟩
    · rw [zl_o_s, zq_a11]
      exact nI_add _ _
    · exact zt_X_s h _ _ _ _ (by omega)
theorem xc_p {post : Int32 → SX → Prop} {A : Nat → Option (Nat × Nat × Nat)} (hL : L ≤ 256) (hP : P ≤ 8) (hs : zs_m Z P ≤ 128) (hg : zb_B g) (hA : zt_X A no) (k : ∀ no', zt_X (zt_f g (zc_p Z D L) A P) no' → post (nI (zl_o Z L P)) (nI C, nI L, nI P, nI T, nI F, zb_f B, zb_f g, st, zb_f Z, zb_f D, fn, fs, fc, fo, no')) : wpX_listPending post (nI C, nI L, nI P, nI T, nI F, zb_f B, zb_f g, st, zb_f Z, zb_f D, fn, fs, fc, fo, no) :=
  ⟨P + 1, xc_p7 hL hP hs hg k P 0 (P + 1) no (by omega) (by omega) hA⟩
theorem xc_e {post : Int32 → Prop} {q : Int32} {A : Nat → Option (Nat × Nat × Nat)} (d : Nat) (hq : q = nI d) (hA : zt_X A no) (k : post (nI (d + 13 * zt_c A 256 + 9))) : wpX_endOfNewDirectory post (nI C, nI L, nI P, nI T, nI F, zb_f B, zb_f g, st, zb_f Z, zb_f D, fn, fs, fc, fo, no) q := by
  subst hq
  unfold wpX_endOfNewDirectory
  dsimp only
  refine xl_n hA ?_
  refine zq_v (P := post) ?_ k
  rw [zq_m13, nI_add]
  exact nI_add _ 9
theorem xc_61 {post : SX → Prop} (i : Nat) (hi : i < 8) (hC : C ≤ 256) (hst : st i = nI (zs_m Z i)) (hs : zs_m Z i + Z i ≤ 128) (hD : zb_B D) (hL : L + Z i ≤ C) (K : post (nI C, nI (L + Z i), nI P, nI T, nI F, zb_f (zl_d B L D (zs_m Z i) (Z i)), zb_f g, st, zb_f Z, zb_f D, fn, fs, fc, fo, no)) :
    ∀ r j n, j + r = Z i → r < n → wX_appendLocal_61 post (nI i) n (nI j) (nI C) (nI (L + j)) (nI P) (nI T) (nI F) (zb_f (zl_d B L D (zs_m Z i) j)) (zb_f g) st (zb_f Z) (zb_f D) fn fs fc fo no := by
  have c : (nI i).toNatClampNeg = i := nI_clamp (by omega)
  have w : vp_in (nI i) 8 := vp_in_nI (by omega) (by omega)
  intro r
  induction r with
  | zero =>
    intro j n hj hn
    obtain ⟨n, rfl⟩ : ∃ m, n = m + 1 := ⟨n - 1, by omega⟩
    have e : j = Z i := by omega
    subst e
    refine ⟨w, ?_⟩
    rw [c]
    exact br_t (nI_le (Nat.le_refl _) (by omega)) K
  | succ r ih =>
    intro j n hj hn
    obtain ⟨n, rfl⟩ : ∃ m, n = m + 1 := ⟨n - 1, by omega⟩
    have b1 := hD (zs_m Z i + j)
    have e1 : st i + nI j = nI (zs_m Z i + j) := by rw [hst, nI_add]
    refine ⟨w, ?_⟩
    rw [c]
    refine br_f (nI_ge (by omega) (by omega)) ⟨w, ?_⟩
    rw [e1, nI_clamp (by omega)]
    refine ⟨vp_in_nI (by omega) (by omega), ?_⟩
    exact xl_a (D (zs_m Z i + j)) 1 (nI_l (by omega)) rfl (by omega) (by omega) hC (by omega) (nm_r (nI_1 j) (ih (j + 1) n (by omega) (by omega)))
theorem xc_a {post : SX → Prop} {q : Int32} (i : Nat) (hq : q = nI i) (hi : i < 8) (hC : C ≤ 256) (hst : st i = nI (zs_m Z i)) (hs : zs_m Z i + Z i ≤ 128) (hg : zb_B g) (hD : zb_B D) (hL : L + 11 + Z i ≤ C) (K : post (nI C, nI (L + 11 + Z i), nI P, nI T, nI F, zb_f (zl_1 B L (g i) (Z i) (zk_F D (zs_m Z i) (Z i)) D (zs_m Z i)), zb_f g, st, zb_f Z, zb_f D, fn, fs, fc, fo, no)) : wpX_appendLocal post (nI C, nI L, nI P, nI T, nI F, zb_f B, zb_f g, st, zb_f Z, zb_f D, fn, fs, fc, fo, no) q := by
  subst hq
  have c : (nI i).toNatClampNeg = i := nI_clamp (by omega)
  have w : vp_in (nI i) 8 := vp_in_nI (by omega) (by omega)
  have b1 := hg i
  have b2 := zk_F_lt hD (zs_m Z i) (Z i)
  unfold wpX_appendLocal
  dsimp only
  refine ⟨w, w, ?_⟩
  refine xk_p (zs_m Z i) (Z i) (by rw [c]; exact hst) (by rw [c]; rfl) hD hs ?_
  refine xl_a 67324752 4 rfl rfl (by omega) (by omega) hC (by omega) ?_
  refine ⟨w, ?_⟩
  refine xl_a (g i) 1 (by rw [c]; exact nI_l (by omega)) rfl (by omega) (by omega) hC (by omega) ?_
  refine ⟨w, ?_⟩
  refine xl_a (Z i) 2 (by rw [c]; exact nI_l (by omega)) rfl (by omega) (by omega) hC (by omega) ?_
  refine xl_a (zk_F D (zs_m Z i) (Z i)) 4 rfl rfl (by omega) (by omega) hC (by omega) ?_
  exact ⟨Z i + 1, xc_61 (L := L + 11) (B := zl_h B L (g i) (Z i) (zk_F D (zs_m Z i) (Z i))) i hi hC hst hs hD hL K (Z i) 0 (Z i + 1) (by omega) (by omega)⟩
theorem xc_49 {post : Int32 → SX → Prop} {A : Nat → Option (Nat × Nat × Nat)} (hC : C ≤ 256) (hP : P ≤ 8) (hs : zs_m Z P ≤ 128) (hB : zb_B B) (hg : zb_B g) (hD : zb_B D) (hst : ∀ k, k < P → st k = nI (zs_m Z k)) (hA : zt_X A no) (hQ : ∀ v x, A v = some x → zd_Q (zl_a B L g Z D P) (zl_o Z L P) v x) (hF : zl_o Z L P + 13 * zt_c A 256 + 9 ≤ C)
    (K : post (nI (zl_o Z L P + 13 * zt_c A 256 + 9)) (nI C, nI (zl_o Z L P + 13 * zt_c A 256 + 9), 0, 0, nI F, zb_f (zd_f A (zl_a B L g Z D P) (zl_o Z L P)), zb_f g, st, zb_f Z, zb_f D, fn, fs, fc, fo, no)) :
    ∀ r i n, i + r = P → r < n → wX_commit_49 post n (nI i) (nI C) (nI (zl_o Z L i)) (nI P) (nI T) (nI F) (zb_f (zl_a B L g Z D i)) (zb_f g) st (zb_f Z) (zb_f D) fn fs fc fo no := by
  intro r
  induction r with
  | zero =>
    intro i n hi hn
    obtain ⟨n, rfl⟩ : ∃ m, n = m + 1 := ⟨n - 1, by omega⟩
    have e : i = P := by omega
    rw [e]
    refine br_t (nI_le (Nat.le_refl _) (by omega)) ?_
    exact xl_d hA hC (zl_a_B hB L g Z D P) hQ hF K
  | succ r ih =>
    intro i n hi hn
    obtain ⟨n, rfl⟩ : ∃ m, n = m + 1 := ⟨n - 1, by omega⟩
    have hz := zs_lt Z (j := i) (k := P) (by omega)
    have ho := zl_o_s Z L i
    have hl := zl_o_le Z L (j := i + 1) (k := P) (by omega)
    have W := ih (i + 1) n (by omega) (by omega)
    rw [ho] at W
    refine br_f (nI_ge (by omega) (by omega)) ?_
    exact xc_a i rfl (by omega) hC (hst i (by omega)) (by omega) hg hD (by omega) (nm_r (nI_1 i) W)
theorem xc {post : Int32 → SX → Prop} (h : zr_I C L P T F B g Z D st) (k1 : P = 0 → post (-1) (nI C, nI L, nI P, nI T, nI F, zb_f B, zb_f g, st, zb_f Z, zb_f D, fn, fs, fc, fo, no)) (k2 : P ≠ 0 → ¬ zo_O B L → post (-2) (nI C, nI L, nI P, nI T, nI F, zb_f B, zb_f g, st, zb_f Z, zb_f D, fn, fs, fc, fo, no))
    (k3 : P ≠ 0 → zo_O B L → C < zl_o Z L P + 13 * zt_c (zc_T B (zo_d B L) (zo_c B L) g Z D L P) 256 + 9 → ∀ no', post (-3) (nI C, nI L, nI P, nI T, nI F, zb_f B, zb_f g, st, zb_f Z, zb_f D, fn, fs, fc, fo, no'))
    (k4 : P ≠ 0 → zo_O B L → zl_o Z L P + 13 * zt_c (zc_T B (zo_d B L) (zo_c B L) g Z D L P) 256 + 9 ≤ C → ∀ no', post (nI (zl_o Z L P + 13 * zt_c (zc_T B (zo_d B L) (zo_c B L) g Z D L P) 256 + 9)) (nI C, nI (zl_o Z L P + 13 * zt_c (zc_T B (zo_d B L) (zo_c B L) g Z D L P) 256 + 9), 0, 0, nI F, zb_f (zd_f (zc_T B (zo_d B L) (zo_c B L) g Z D L P) (zl_a B L g Z D P) (zl_o Z L P)), zb_f g, st, zb_f Z, zb_f D, fn, fs, fc, fo, no')) : wpX_commit post (nI C, nI L, nI P, nI T, nI F, zb_f B, zb_f g, st, zb_f Z, zb_f D, fn, fs, fc, fo, no) := by
  obtain ⟨hC, hLC, hP, hT, hT2, hF, hB, hg, hD, hst⟩ := h
  have hL : L ≤ 256 := by omega
  unfold wpX_commit
  dsimp only
  refine pk_eq P 0 k1 (fun h0 => ?_) rfl rfl (by omega) (by omega)
  refine xo hL hB (fun o => br_f (by decide) ?_) (fun o => br_t rfl (k2 h0 o))
  have hz : zs_m Z P ≤ 128 := by omega
  refine xl_s (fun no1 n1 => ?_)
  refine xc_l o hL hB n1 (fun no2 n2 => ?_)
  refine xc_p hL hP hz hg n2 (fun no3 n3 => ?_)
  refine xc_e (zl_o Z L P) rfl n3 ?_
  have ho : zl_o Z L P = L + 11 * P + zs_m Z P := rfl
  have hc : zt_c (zt_f g (zc_p Z D L) (zc_C B (zo_d B L) (zo_c B L)) P) 256 ≤ 1000 := zk_cnt _
  refine pk_le (zl_o Z L P + 13 * zt_c (zt_f g (zc_p Z D L) (zc_C B (zo_d B L) (zo_c B L)) P) 256 + 9) C (fun hf => ?_) (fun hf => k3 h0 o hf no3) rfl rfl (by omega) (by omega)
  exact ⟨P + 1, xc_49 hC hP hz hB hg hD hst n3 (zc_QT o hg hD hz) hf (k4 h0 o hf no3) P 0 (P + 1) (by omega) (by omega)⟩
end ZXC
