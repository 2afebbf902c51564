/-! ===== commit, the reference ===== -/
section ZYC
variable {C L P T F : Nat} {B g Z D : Nat → Nat} {fn fs fo : Nat → Int32} {fc : Nat → Int64}
theorem yc_82 {post : Int32 → SY → Prop} {J : Int32 → Int32 → Int32 → Int32 → Int32 → Int32 → Int32 → (Nat → Int32) → (Nat → Int32) → (Nat → Int32) → (Nat → Int32) → (Nat → Int32) → (Nat → Int32) → (Nat → Int64) → (Nat → Int32) → (Nat → Int32) → (Nat → Int32) → (Nat → Int64) → (Nat → Int32) → Prop} {x2 x3 : Int32} {i nm r0 m : Nat} {sn ss so : Nat → Int32} {sc : Nat → Int64} (hn : nm < 256) (hg : zb_B g) (hB : zb_B B) (hP : P ≤ 8) (hr : r0 + 13 ≤ 256) (hm : m < 64)
    (kY : (∃ k, k < P ∧ g k = nm) → J (nI (i + 1)) (nI C) (nI L) (nI P) (nI T) (nI F) (nI m) (zb_f B) (zb_f g) (zb_f Z) (zb_f D) fn fs fc fo sn ss sc so)
    (kN : ¬ (∃ k, k < P ∧ g k = nm) → J (nI (i + 1)) (nI C) (nI L) (nI P) (nI T) (nI F) (nI (m + 1)) (zb_f B) (zb_f g) (zb_f Z) (zb_f D) fn fs fc fo (upd sn m (nI nm)) (upd ss m (nI (zb_r2 B (r0 + 5)))) (vp_updL sc m (lN (zb_r4 B (r0 + 7)))) (upd so m (nI (zb_r2 B (r0 + 11))))) :
    ∀ r j n x7, j + r = P → r < n → ((x7 = 0 ∧ ¬ ∃ k, k < j ∧ g k = nm) ∨ (x7 = 1 ∧ ∃ k, k < j ∧ g k = nm)) → wY_commit_82 post J x2 x3 (nI i) (nI r0) (nI nm) (nI C) (nI L) (nI P) (nI T) (nI F) (nI m) (zb_f B) (zb_f g) (zb_f Z) (zb_f D) fn fs fc fo sn ss sc so n x7 (nI j) := by
  intro r
  induction r with
  | zero =>
    intro j n x7 hj hn h
    obtain ⟨n, rfl⟩ : ∃ m, n = m + 1 := ⟨n - 1, by omega⟩
    have e : j = P := by omega
    subst e
    refine br_t (nI_le (Nat.le_refl _) (by omega)) ?_
    rcases h with ⟨h1, h2⟩ | ⟨h1, h2⟩
    · refine br_t h1 ?_
      refine yl_2 (r0 + 5) (nI_add _ 5) (by omega) hB ?_
      refine yl_4 (r0 + 7) (nI_add _ 7) (by omega) hB ?_
      refine yl_2 (r0 + 11) (nI_add _ 11) (by omega) hB ?_
      exact yl_t m hm (nm_r (nI_1 i) (kN h2))
    · exact br_f (by rw [h1]; decide) (nm_r (nI_1 i) (kY h2))
  | succ r ih =>
    intro j n x7 hj hn h
    obtain ⟨n, rfl⟩ : ∃ m, n = m + 1 := ⟨n - 1, by omega⟩
    have b := hg j
    refine br_f (nI_ge (by omega) (by omega)) ⟨vp_in_nI (by omega) (by omega), ?_⟩
    rw [nI_clamp (by omega)]
    refine pk_eq (g j) nm (fun e => nm_r (nI_1 j) (ih (j + 1) n 1 (by omega) (by omega) (Or.inr ⟨rfl, j, by omega, e⟩))) (fun e => nm_r (nI_1 j) (ih (j + 1) n x7 (by omega) (by omega) ?_)) rfl rfl (by omega) (by omega)
    rcases h with ⟨h1, h2⟩ | ⟨h1, q, h2, h3⟩
    · refine Or.inl ⟨h1, fun ⟨q, a, b⟩ => ?_⟩
      by_cases z : q = j
      · exact e (by rw [← z]; exact b)
      · exact h2 ⟨q, by omega, b⟩
    · exact Or.inr ⟨h1, q, by omega, h3⟩
theorem yc_51 {post : Int32 → SY → Prop} (hO : zo_O B L) (hL : L ≤ 256) (hg : zb_B g) (hB : zb_B B) (hP : P ≤ 8)
    (K : ∀ m sn ss sc so a, zt_R (zt_k g P (zc_C B (zo_d B L) (zo_c B L))) m sn ss sc so a → m ≤ zo_c B L → ∃ n, wY_commit_179 post n (nI L) 0 0 (nI C) (nI L) (nI P) (nI T) (nI F) (nI m) (zb_f B) (zb_f g) (zb_f Z) (zb_f D) fn fs fc fo sn ss sc so) :
    ∀ r i n m sn ss sc so a, i + r = zo_c B L → r < n → zt_R (zt_k g P (zc_C B (zo_d B L) i)) m sn ss sc so a → m ≤ i → wY_commit_51 post (nI (zo_c B L)) (nI (zo_d B L)) n (nI i) (nI C) (nI L) (nI P) (nI T) (nI F) (nI m) (zb_f B) (zb_f g) (zb_f Z) (zb_f D) fn fs fc fo sn ss sc so := by
  have hd := zo_dl hO
  intro r
  induction r with
  | zero =>
    intro i n m sn ss sc so a hi hn h hm
    obtain ⟨n, rfl⟩ : ∃ m, n = m + 1 := ⟨n - 1, by omega⟩
    have e : i = zo_c B L := by omega
    rw [e] at h hm ⊢
    exact br_t (nI_le (Nat.le_refl _) (by omega)) (K m sn ss sc so a h hm)
  | succ r ih =>
    intro i n m sn ss sc so a hi hn h hm
    obtain ⟨n, rfl⟩ : ∃ m, n = m + 1 := ⟨n - 1, by omega⟩
    refine br_f (nI_ge (by omega) (by omega)) (nm_r (e' := nI (zo_d B L + 13 * i)) (by rw [zq_m13, nI_add]) ?_)
    refine yl_b (zo_d B L + 13 * i + 4) (nI_add _ 4) (by omega) ?_
    refine ⟨P + 1, yc_82 (hB _) hg hB hP (by omega) (by omega) (fun y => ?_) (fun y => ?_) P 0 (P + 1) 0 (by omega) (by omega) (Or.inl ⟨rfl, fun ⟨q, a, _⟩ => by omega⟩)⟩
    · refine ih (i + 1) n m sn ss sc so a (by omega) (by omega) ?_ (by omega)
      rw [zc_C_s, zt_k_sy g P _ (zc_n B (zo_d B L) i) _ y]
      exact h
    · refine ih (i + 1) n (m + 1) _ _ _ _ (zb_w a m (zc_n B (zo_d B L) i)) (by omega) (by omega) ?_ (by omega)
      rw [zc_C_s, zt_k_sn g P _ (zc_n B (zo_d B L) i) _ y]
      exact zt_R_s h _ _ _ _ (hB _) ((zt_k_n y).trans (zc_fr hO.2.2.2.2 (by omega)))
theorem yc_197 {post : Int32 → SY → Prop} {J : Int32 → Int32 → Int32 → Int32 → Int32 → Int32 → Int32 → Int32 → Int32 → (Nat → Int32) → (Nat → Int32) → (Nat → Int32) → (Nat → Int32) → (Nat → Int32) → (Nat → Int32) → (Nat → Int64) → (Nat → Int32) → (Nat → Int32) → (Nat → Int32) → (Nat → Int64) → (Nat → Int32) → Prop} {i p s m : Nat} {sn ss so : Nat → Int32} {sc : Nat → Int64} (hg : zb_B g) (hD : zb_B D) (hP : P ≤ 8) (hi : i < P) (hs : s + Z i ≤ 128) (hm : m < 64)
    (kY : (∃ q, i + 1 ≤ q ∧ q < P ∧ g q = g i) → J (nI (p + 11 + Z i)) (nI (s + Z i)) (nI (i + 1)) (nI C) (nI L) (nI P) (nI T) (nI F) (nI m) (zb_f B) (zb_f g) (zb_f Z) (zb_f D) fn fs fc fo sn ss sc so)
    (kN : ¬ (∃ q, i + 1 ≤ q ∧ q < P ∧ g q = g i) → J (nI (p + 11 + Z i)) (nI (s + Z i)) (nI (i + 1)) (nI C) (nI L) (nI P) (nI T) (nI F) (nI (m + 1)) (zb_f B) (zb_f g) (zb_f Z) (zb_f D) fn fs fc fo (upd sn m (nI (g i))) (upd ss m (nI (Z i))) (vp_updL sc m (lN (zk_F D s (Z i)))) (upd so m (nI p))) :
    ∀ r j n x7, i + 1 ≤ j → j + r = P → r < n → ((x7 = 0 ∧ ¬ ∃ q, i + 1 ≤ q ∧ q < j ∧ g q = g i) ∨ (x7 = 1 ∧ ∃ q, i + 1 ≤ q ∧ q < j ∧ g q = g i)) → wY_commit_197 post J (nI p) (nI s) (nI i) (nI C) (nI L) (nI P) (nI T) (nI F) (nI m) (zb_f B) (zb_f g) (zb_f Z) (zb_f D) fn fs fc fo sn ss sc so n x7 (nI j) := by
  have c : (nI i).toNatClampNeg = i := nI_clamp (by omega)
  have w : vp_in (nI i) 8 := vp_in_nI (by omega) (by omega)
  have e1 : nI p + (11 + zb_f Z (nI i).toNatClampNeg) = nI (p + 11 + Z i) := by
    rw [c]
    show nI p + (11 + nI (Z i)) = _
    rw [zq_ab11, nI_add]
    exact congrArg nI (by omega)
  have e2 : nI s + zb_f Z (nI i).toNatClampNeg = nI (s + Z i) := by
    rw [c]
    exact nI_add _ _
  intro r
  induction r with
  | zero =>
    intro j n x7 hij hj hn h
    obtain ⟨n, rfl⟩ : ∃ m, n = m + 1 := ⟨n - 1, by omega⟩
    have e : j = P := by omega
    subst e
    refine br_t (nI_le (Nat.le_refl _) (by omega)) ?_
    rcases h with ⟨h1, h2⟩ | ⟨h1, h2⟩
    · refine br_t h1 ⟨w, ?_⟩
      refine yk_p s (Z i) rfl (by rw [c]; rfl) hD hs ⟨w, w, ?_⟩
      refine yl_t m hm ⟨w, nm_r e1 ⟨w, nm_r e2 (nm_r (nI_1 i) ?_)⟩⟩
      have := kN h2
      rw [c]
      exact this
    · exact br_f (by rw [h1]; decide) ⟨w, nm_r e1 ⟨w, nm_r e2 (nm_r (nI_1 i) (kY h2))⟩⟩
  | succ r ih =>
    intro j n x7 hij hj hn h
    obtain ⟨n, rfl⟩ : ∃ m, n = m + 1 := ⟨n - 1, by omega⟩
    have b := hg j
    have b2 := hg i
    refine br_f (nI_ge (by omega) (by omega)) ⟨vp_in_nI (by omega) (by omega), w, ?_⟩
    rw [nI_clamp (n := j) (by omega), c]
    refine pk_eq (g j) (g i) (fun e => nm_r (nI_1 j) (ih (j + 1) n 1 (by omega) (by omega) (by omega) (Or.inr ⟨rfl, j, by omega, by omega, e⟩))) (fun e => nm_r (nI_1 j) (ih (j + 1) n x7 (by omega) (by omega) (by omega) ?_)) rfl rfl (by omega) (by omega)
    rcases h with ⟨h1, h2⟩ | ⟨h1, q, h2, h3, h4⟩
    · refine Or.inl ⟨h1, fun ⟨q, a, b, d⟩ => ?_⟩
      by_cases z : q = j
      · exact e (by rw [← z]; exact d)
      · exact h2 ⟨q, a, by omega, d⟩
    · exact Or.inr ⟨h1, q, h2, by omega, h4⟩
theorem yc_179 {post : Int32 → SY → Prop} {E : Nat → Option (Nat × Nat × Nat)} {c0 : Nat} (hc : c0 ≤ 19) (hL : L ≤ 256) (hg : zb_B g) (hD : zb_B D) (hP : P ≤ 8) (hs : zs_m Z P ≤ 128) (hC : C ≤ 256) (hE : ∀ k, k < P → E (g k) = none)
    (K0 : C < zl_o Z L P + 13 * zt_c (zt_f g (zc_p Z D L) E P) 256 + 9 → ∀ sk sn ss sc so, post (-3) (nI C, nI L, nI P, nI T, nI F, sk, zb_f B, zb_f g, zb_f Z, zb_f D, fn, fs, fc, fo, sn, ss, sc, so))
    (K1 : zl_o Z L P + 13 * zt_c (zt_f g (zc_p Z D L) E P) 256 + 9 ≤ C → ∀ m sn ss sc so a, zt_R (zt_f g (zc_p Z D L) E P) m sn ss sc so a → m < 64 → ∃ n, wY_commit_342 post n (nI L) 0 0 (nI C) (nI L) (nI P) (nI T) (nI F) (nI m) (zb_f B) (zb_f g) (zb_f Z) (zb_f D) fn fs fc fo sn ss sc so) :
    ∀ r i n m sn ss sc so a, i + r = P → r < n → zt_R (zt_l g (zc_p Z D L) E P i) m sn ss sc so a → m ≤ c0 + i → wY_commit_179 post n (nI (zl_o Z L i)) (nI (zs_m Z i)) (nI i) (nI C) (nI L) (nI P) (nI T) (nI F) (nI m) (zb_f B) (zb_f g) (zb_f Z) (zb_f D) fn fs fc fo sn ss sc so := by
  intro r
  induction r with
  | zero =>
    intro i n m sn ss sc so a hi hn h hm
    obtain ⟨n, rfl⟩ : ∃ m, n = m + 1 := ⟨n - 1, by omega⟩
    have e : i = P := by omega
    rw [e] at h hm ⊢
    rw [zt_l_P] at h
    have em := h.1
    have ho : zl_o Z L P = L + 11 * P + zs_m Z P := rfl
    refine br_t (nI_le (Nat.le_refl _) (by omega)) ?_
    refine pk_le (zl_o Z L P + 13 * m + 9) C (fun hf => ?_) (fun hf => ?_) (by rw [zq_m13, nI_add]; exact nI_add _ 9) rfl (by omega) (by omega)
    · exact K1 (by omega) m sn ss sc so a h (by omega)
    · exact K0 (by omega) _ sn ss sc so
  | succ r ih =>
    intro i n m sn ss sc so a hi hn h hm
    obtain ⟨n, rfl⟩ : ∃ m, n = m + 1 := ⟨n - 1, by omega⟩
    have hz := zs_lt Z (j := i) (k := P) (by omega)
    have ho := zl_o_s Z L i
    have hf := zt_l_fr g (zc_p Z D L) E P i (by omega)
    refine br_f (nI_ge (by omega) (by omega)) (nm_r (nI_1 i) ?_)
    refine ⟨P + 1, yc_197 hg hD hP (by omega) (by omega) (by omega) (fun y => ?_) (fun y => ?_) (P - (i + 1)) (i + 1) (P + 1) 0 (by omega) (by omega) (by omega) (Or.inl ⟨rfl, fun ⟨q, a, b, _⟩ => by omega⟩)⟩
    · rw [← ho]
      refine ih (i + 1) n m sn ss sc so a (by omega) (by omega) ?_ (by omega)
      rw [zt_l_sy g _ E P i y]
      exact h
    · rw [← ho]
      refine ih (i + 1) n (m + 1) _ _ _ _ (zb_w a m (g i)) (by omega) (by omega) ?_ (by omega)
      rw [zt_l_sn g _ E P i y]
      exact zt_R_s h _ _ _ _ (hg i) (hf.trans (hE i (by omega)))
theorem yc_446 {post : Int32 → SY → Prop} {J : Int32 → Int32 → Int32 → Int32 → Int32 → Int32 → Int32 → Int32 → Int32 → (Nat → Int32) → (Nat → Int32) → (Nat → Int32) → (Nat → Int32) → (Nat → Int32) → (Nat → Int32) → (Nat → Int64) → (Nat → Int32) → (Nat → Int32) → (Nat → Int32) → (Nat → Int64) → (Nat → Int32) → Prop} {i p s : Nat} {sk : Int32} {sn ss so : Nat → Int32} {sc : Nat → Int64} (hi : i < 8) (hp : p + 11 + Z i ≤ 256) (hs : s + Z i ≤ 128) (hD : zb_B D)
    (K : J (nI (p + 11 + Z i)) (nI (s + Z i)) (nI (i + 1)) (nI C) (nI L) (nI P) (nI T) (nI F) sk (zb_f (zl_d B (p + 11) D s (Z i))) (zb_f g) (zb_f Z) (zb_f D) fn fs fc fo sn ss sc so) :
    ∀ r j n, j + r = Z i → r < n → wY_commit_446 post J (nI p) (nI s) (nI i) n (nI j) (nI C) (nI L) (nI P) (nI T) (nI F) sk (zb_f (zl_d B (p + 11) D s j)) (zb_f g) (zb_f Z) (zb_f D) fn fs fc fo sn ss sc so := by
  have c : (nI i).toNatClampNeg = i := nI_clamp (by omega)
  have w : vp_in (nI i) 8 := vp_in_nI (by omega) (by omega)
  have e1 : nI p + (11 + zb_f Z (nI i).toNatClampNeg) = nI (p + 11 + Z i) := by
    rw [c]
    show nI p + (11 + nI (Z i)) = _
    rw [zq_ab11, nI_add]
    exact congrArg nI (by omega)
  have e2 : nI s + zb_f Z (nI i).toNatClampNeg = nI (s + Z i) := by
    rw [c]
    exact nI_add _ _
  intro r
  induction r with
  | zero =>
    intro j n hj hn
    obtain ⟨n, rfl⟩ : ∃ m, n = m + 1 := ⟨n - 1, by omega⟩
    have e : j = Z i := by omega
    subst e
    refine ⟨w, br_t (by rw [c]; exact nI_le (Nat.le_refl _) (by omega)) ?_⟩
    exact ⟨w, nm_r e1 ⟨w, nm_r e2 (nm_r (nI_1 i) K)⟩⟩
  | succ r ih =>
    intro j n hj hn
    obtain ⟨n, rfl⟩ : ∃ m, n = m + 1 := ⟨n - 1, by omega⟩
    have b := hD (s + j)
    refine ⟨w, br_f (by rw [c]; exact nI_ge (by omega) (by omega)) (br_f (nI_ge (b := 128) (by omega) (by decide)) (nm_r (nI_add s j) (br_f (nI_ge (b := 128) (by omega) (by decide)) ⟨vp_in_nI (by omega) (by omega), ?_⟩)))⟩
    exact yl_w1 (p + 11 + j) (D (s + j)) (by rw [zq_a11, nI_add]) (by rw [nI_clamp (by omega)]; rfl) (by omega) (by omega) (nm_r (nI_1 j) (ih (j + 1) n (by omega) (by omega)))
theorem yc_342 {post : Int32 → SY → Prop} {A : Nat → Option (Nat × Nat × Nat)} {m : Nat} {sn ss so : Nat → Int32} {sc : Nat → Int64} {a : Nat → Nat} (hP : P ≤ 8) (hs : zs_m Z P ≤ 128) (hg : zb_B g) (hD : zb_B D) (hR : zt_R A m sn ss sc so a) (hb : ∀ v z k o, A v = some (z, k, o) → z < 65536 ∧ k < 4294967296 ∧ o < 65536) (hm : m < 64) (hF : zl_o Z L P + 13 * zt_c A 256 + 9 ≤ 256)
    (K : post (nI (zl_o Z L P + 13 * zt_c A 256 + 9)) (nI C, nI (zl_o Z L P + 13 * zt_c A 256 + 9), 0, 0, nI F, nI m, zb_f (zd_f A (zl_a B L g Z D P) (zl_o Z L P)), zb_f g, zb_f Z, zb_f D, fn, fs, fc, fo, sn, ss, sc, so)) :
    ∀ r i n, i + r = P → r < n → wY_commit_342 post n (nI (zl_o Z L i)) (nI (zs_m Z i)) (nI i) (nI C) (nI L) (nI P) (nI T) (nI F) (nI m) (zb_f (zl_a B L g Z D i)) (zb_f g) (zb_f Z) (zb_f D) fn fs fc fo sn ss sc so := by
  intro r
  induction r with
  | zero =>
    intro i n hi hn
    obtain ⟨n, rfl⟩ : ∃ m, n = m + 1 := ⟨n - 1, by omega⟩
    have e : i = P := by omega
    rw [e]
    refine br_t (nI_le (Nat.le_refl _) (by omega)) ?_
    exact yd (zl_o Z L P) rfl hR hb hm hF K
  | succ r ih =>
    intro i n hi hn
    obtain ⟨n, rfl⟩ : ∃ m, n = m + 1 := ⟨n - 1, by omega⟩
    have hz := zs_lt Z (j := i) (k := P) (by omega)
    have ho := zl_o_s Z L i
    have hl := zl_o_le Z L (j := i + 1) (k := P) (by omega)
    have W := ih (i + 1) n (by omega) (by omega)
    rw [ho] at W
    have c : (nI i).toNatClampNeg = i := nI_clamp (by omega)
    have w : vp_in (nI i) 8 := vp_in_nI (by omega) (by omega)
    have b1 := hg i
    have b2 := zk_F_lt hD (zs_m Z i) (Z i)
    have W2 : wY_commit_342 post n (nI (zl_o Z L i + 11 + Z i)) (nI (zs_m Z i + Z i)) (nI (i + 1)) (nI C) (nI L) (nI P) (nI T) (nI F) (nI m) (zb_f (zl_d (zl_h (zl_a B L g Z D i) (zl_o Z L i) (g i) (Z i) (zk_F D (zs_m Z i) (Z i))) (zl_o Z L i + 11) D (zs_m Z i) (Z i))) (zb_f g) (zb_f Z) (zb_f D) fn fs fc fo sn ss sc so := W
    refine br_f (nI_ge (by omega) (by omega)) ⟨w, ?_⟩
    refine yk_p (zs_m Z i) (Z i) rfl (by rw [c]; rfl) hD (by omega) ?_
    generalize zl_o Z L i = p at *
    generalize zl_a B L g Z D i = B2 at *
    refine yl_w p 80 rfl (by decide +kernel) (by omega) ?_
    refine yl_w (p + 1) 75 (nI_1 p) (by decide +kernel) (by omega) ?_
    refine yl_w (p + 2) 3 (nI_add p 2) (by decide +kernel) (by omega) ?_
    refine yl_w (p + 3) 4 (nI_add p 3) (by decide +kernel) (by omega) ?_
    rw [yn_s B2 p 3 4 67324752 (by decide) (by decide) (by decide)]
    refine ⟨w, ?_⟩
    refine yl_w1 (p + 4) (g i) (nI_add p 4) (by rw [c]; rfl) (by omega) (by omega) ?_
    refine ⟨w, ?_⟩
    refine yl_w2 (p + 5) (Z i) (nI_add p 5) (by rw [c]; rfl) (by omega) (by omega) ?_
    refine yl_w4 (p + 7) (zk_F D (zs_m Z i) (Z i)) (nI_add p 7) rfl b2 (by omega) ?_
    exact ⟨Z i + 1, yc_446 (B := zl_h B2 p (g i) (Z i) (zk_F D (zs_m Z i) (Z i))) (by omega) (by omega) (by omega) hD W2 (Z i) 0 (Z i + 1) (by omega) (by omega)⟩
theorem yc {post : Int32 → SY → Prop} {st : Nat → Int32} {sk : Int32} {sn ss so : Nat → Int32} {sc : Nat → Int64} (h : zr_I C L P T F B g Z D st) (k1 : P = 0 → post (-1) (nI C, nI L, nI P, nI T, nI F, sk, zb_f B, zb_f g, zb_f Z, zb_f D, fn, fs, fc, fo, sn, ss, sc, so)) (k2 : P ≠ 0 → ¬ zo_O B L → post (-2) (nI C, nI L, nI P, nI T, nI F, sk, zb_f B, zb_f g, zb_f Z, zb_f D, fn, fs, fc, fo, sn, ss, sc, so))
    (k3 : P ≠ 0 → zo_O B L → C < zl_o Z L P + 13 * zt_c (zc_T B (zo_d B L) (zo_c B L) g Z D L P) 256 + 9 → ∀ sk sn ss sc so, post (-3) (nI C, nI L, nI P, nI T, nI F, sk, zb_f B, zb_f g, zb_f Z, zb_f D, fn, fs, fc, fo, sn, ss, sc, so))
    (k4 : P ≠ 0 → zo_O B L → zl_o Z L P + 13 * zt_c (zc_T B (zo_d B L) (zo_c B L) g Z D L P) 256 + 9 ≤ C → ∀ sk sn ss sc so, post (nI (zl_o Z L P + 13 * zt_c (zc_T B (zo_d B L) (zo_c B L) g Z D L P) 256 + 9)) (nI C, nI (zl_o Z L P + 13 * zt_c (zc_T B (zo_d B L) (zo_c B L) g Z D L P) 256 + 9), 0, 0, nI F, sk, zb_f (zd_f (zc_T B (zo_d B L) (zo_c B L) g Z D L P) (zl_a B L g Z D P) (zl_o Z L P)), zb_f g, zb_f Z, zb_f D, fn, fs, fc, fo, sn, ss, sc, so)) : wpY_commit post (nI C, nI L, nI P, nI T, nI F, sk, zb_f B, zb_f g, zb_f Z, zb_f D, fn, fs, fc, fo, sn, ss, sc, so) := by
  obtain ⟨hC, hLC, hP, hT, hT2, hF, hB, hg, hD, hst⟩ := h
  have hL : L ≤ 256 := by omega
  unfold wpY_commit
  dsimp only
  refine pk_eq P 0 k1 (fun h0 => ?_) rfl rfl (by omega) (by omega)
  refine yo hL hB (fun o => br_f (by decide) ?_) (fun o => br_t rfl (k2 h0 o))
  have hz : zs_m Z P ≤ 128 := by omega
  have h9 := o.1
  have hc := zc_c19 o hL
  refine nm_r (zq_s9 h9) ?_
  refine yl_b (L - 9 + 4) (nI_add _ 4) (by omega) ?_
  refine yl_2 (L - 9 + 5) (nI_add _ 5) (by omega) hB ?_
  have eF := zt_fk g (zc_p Z D L) (zc_C B (zo_d B L) (zo_c B L)) P
  have A2 : zt_k g P (zc_C B (zo_d B L) 0) = zt_0 := zt_k_0 g P
  refine ⟨zo_c B L + 1, yc_51 o hL hg hB hP (fun m sn ss sc so a hR hm => ?_) (zo_c B L) 0 (zo_c B L + 1) 0 sn ss sc so (fun _ => 0) (by omega) (by omega) (by rw [A2]; exact zt_R_0 _ _ _ _ _) (Nat.le_refl _)⟩
  have R0 : zt_R (zt_l g (zc_p Z D L) (zt_k g P (zc_C B (zo_d B L) (zo_c B L))) P 0) m sn ss sc so a := by rw [zt_l_0]; exact hR
  refine ⟨P + 1, yc_179 (E := zt_k g P (zc_C B (zo_d B L) (zo_c B L))) hc hL hg hD hP hz hC (fun k hk => zt_k_y ⟨k, hk, rfl⟩) (fun hf => ?_) (fun hf => ?_) P 0 (P + 1) m sn ss sc so a (by omega) (by omega) R0 (by omega)⟩
  · rw [eF] at hf
    exact k3 h0 o hf
  · rw [eF] at hf ⊢
    intro m sn ss sc so a hR hm
    exact ⟨P + 1, yc_342 (A := zc_T B (zo_d B L) (zo_c B L) g Z D L P) hP hz hg hD hR (fun v z k o' hv => zd_Qb (x := (z, k, o')) (zl_a_B hB L g Z D P) (zc_QT o hg hD hz v _ hv) (by omega)) hm (Nat.le_trans hf hC) (k4 h0 o hf _ sn ss sc so) P 0 (P + 1) (by omega) (by omega)⟩
end ZYC
theorem i_vc_commit {k : Nat} {u : SX} {v : SY} (I : i_Rel k u v) (hk : k + 3 ≤ 1537) : wpX_commit (fun r u' => wpY_commit (fun r' v' => r' = r ∧ i_Rel (k + 3) u' v') v) u := by
  have J : i_Rel (k + 3) u v := I
  obtain ⟨C, L, P, T, F, B, g, Z, D, st, fn, fs, fo, no, sn, ss, so, fc, sc, sk, rfl, rfl, h⟩ := I
  have hC := h.1
  have hF := h.2.2.2.2.2.1
  have hB := h.2.2.2.2.2.2.1
  have hg := h.2.2.2.2.2.2.2.1
  have hD := h.2.2.2.2.2.2.2.2.1
  refine xc h (fun h0 => ?_) (fun h0 o => ?_) (fun h0 o f no' => ?_) (fun h0 o f no' => ?_)
  · exact yc h (fun _ => ⟨rfl, J⟩) (fun z => absurd h0 z) (fun z => absurd h0 z) (fun z => absurd h0 z)
  · exact yc h (fun z => absurd z h0) (fun _ _ => ⟨rfl, J⟩) (fun _ z => absurd z o) (fun _ z => absurd z o)
  · exact yc h (fun z => absurd z h0) (fun _ z => absurd o z) (fun _ _ _ sk sn ss sc so => ⟨rfl, zr_mk h⟩) (fun _ _ z => absurd z (by omega))
  · exact yc h (fun z => absurd z h0) (fun _ z => absurd o z) (fun _ _ z => absurd z (by omega)) (fun _ _ _ sk sn ss sc so => ⟨rfl, zr_mk (P := 0) (T := 0) ⟨hC, f, by omega, rfl, by omega, hF, zd_f_B _ (zl_a_B hB L g Z D P) _, hg, hD, fun i hi => by omega⟩⟩)
