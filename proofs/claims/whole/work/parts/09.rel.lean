/-! ===== the relation ===== -/
def zr_I (C L P T F : Nat) (B g Z D : Nat → Nat) (st : Nat → Int32) : Prop :=
  C ≤ 256 ∧ L ≤ C ∧ P ≤ 8 ∧ T = zs_m Z P ∧ T ≤ 128 ∧ F ≤ 23 ∧ zb_B B ∧ zb_B g ∧ zb_B D ∧ ∀ k, k < P → st k = nI (zs_m Z k)
def i_Rel (k : Nat) (u : SX) (v : SY) : Prop := ∃ (C L P T F : Nat) (B g Z D : Nat → Nat) (st fn fs fo no sn ss so : Nat → Int32) (fc sc : Nat → Int64) (sk : Int32), u = (nI C, nI L, nI P, nI T, nI F, zb_f B, zb_f g, st, zb_f Z, zb_f D, fn, fs, fc, fo, no) ∧ v = (nI C, nI L, nI P, nI T, nI F, sk, zb_f B, zb_f g, zb_f Z, zb_f D, fn, fs, fc, fo, sn, ss, sc, so) ∧ zr_I C L P T F B g Z D st
theorem i_up {k : Nat} {u : SX} {v : SY} (h : i_Rel k u v) : i_Rel (k + 3) u v := h
section ZR
variable {C L P T F : Nat} {B g Z D : Nat → Nat} {st fn fs fo no sn ss so : Nat → Int32} {fc sc : Nat → Int64} {sk : Int32}
theorem zr_mk {k : Nat} (h : zr_I C L P T F B g Z D st) : i_Rel k (nI C, nI L, nI P, nI T, nI F, zb_f B, zb_f g, st, zb_f Z, zb_f D, fn, fs, fc, fo, no) (nI C, nI L, nI P, nI T, nI F, sk, zb_f B, zb_f g, zb_f Z, zb_f D, fn, fs, fc, fo, sn, ss, sc, so) :=
  ⟨C, L, P, T, F, B, g, Z, D, st, fn, fs, fo, no, sn, ss, so, fc, sc, sk, rfl, rfl, h⟩
theorem zf_0 (hO : zo_O B L) (hL : L ≤ 256) (hB : zb_B B) (x : Int32) : ∀ m i, i + m = zo_c B L → ∃ r : Int32, (r = -1 ∨ ∃ j, j < zo_c B L ∧ r = nI (zo_d B L + 13 * j)) ∧ (∀ (post : Int32 → Prop) n, m < n → post r → wX_centralOf_16 post x (nI (zo_c B L)) (nI C) (nI L) (nI P) (nI T) (nI F) (zb_f B) (zb_f g) st (zb_f Z) (zb_f D) fn fs fc fo no n (nI i)) ∧ (∀ (post : Int32 → Prop) n, m < n → post r → wY_findDir_28 post x (nI (zo_c B L)) (nI (zo_d B L)) (nI C) (nI L) (nI P) (nI T) (nI F) sk (zb_f B) (zb_f g) (zb_f Z) (zb_f D) fn fs fc fo sn ss sc so n (nI i)) := by
  have hd := zo_dl hO
  intro m
  induction m with
  | zero =>
    intro i hi
    refine ⟨-1, Or.inl rfl, fun post n hn hp => ?_, fun post n hn hp => ?_⟩
    · obtain ⟨n, rfl⟩ : ∃ m, n = m + 1 := ⟨n - 1, by omega⟩
      exact br_t (nI_le (by omega) (by omega)) hp
    · obtain ⟨n, rfl⟩ : ∃ m, n = m + 1 := ⟨n - 1, by omega⟩
      exact br_t (nI_le (by omega) (by omega)) hp
  | succ m ih =>
    intro i hi
    by_cases e : nI (B (zo_d B L + 13 * i + 4)) = x
    · refine ⟨nI (zo_d B L + 13 * i), Or.inr ⟨i, by omega, rfl⟩, fun post n hn hp => ?_, fun post n hn hp => ?_⟩
      · obtain ⟨n, rfl⟩ : ∃ m, n = m + 1 := ⟨n - 1, by omega⟩
        refine br_f (nI_ge (by omega) (by omega)) ?_
        refine xo_ca i rfl (by omega) hL hB ?_
        exact xl_b (zo_d B L + 13 * i + 4) (nI_add _ 4) (by omega) hL (br_t e hp)
      · obtain ⟨n, rfl⟩ : ∃ m, n = m + 1 := ⟨n - 1, by omega⟩
        refine br_f (nI_ge (by omega) (by omega)) (nm_r (e' := nI (zo_d B L + 13 * i)) (by rw [zq_m13, nI_add]) ?_)
        exact yl_b (zo_d B L + 13 * i + 4) (nI_add _ 4) (by omega) (br_t e hp)
    · obtain ⟨r, h1, h2, h3⟩ := ih (i + 1) (by omega)
      refine ⟨r, h1, fun post n hn hp => ?_, fun post n hn hp => ?_⟩
      · obtain ⟨n, rfl⟩ : ∃ m, n = m + 1 := ⟨n - 1, by omega⟩
        refine br_f (nI_ge (by omega) (by omega)) ?_
        refine xo_ca i rfl (by omega) hL hB ?_
        exact xl_b (zo_d B L + 13 * i + 4) (nI_add _ 4) (by omega) hL (br_f e (nm_r (nI_1 i) (h2 post n (by omega) hp)))
      · obtain ⟨n, rfl⟩ : ∃ m, n = m + 1 := ⟨n - 1, by omega⟩
        refine br_f (nI_ge (by omega) (by omega)) (nm_r (e' := nI (zo_d B L + 13 * i)) (by rw [zq_m13, nI_add]) ?_)
        exact yl_b (zo_d B L + 13 * i + 4) (nI_add _ 4) (by omega) (br_f e (nm_r (nI_1 i) (h3 post n (by omega) hp)))
/-- both look-ups of a name -/
theorem zf (hO : zo_O B L) (hL : L ≤ 256) (hB : zb_B B) (x : Int32) : ∃ r : Int32, (r = -1 ∨ ∃ j, j < zo_c B L ∧ r = nI (zo_d B L + 13 * j)) ∧ (∀ (post : Int32 → Prop), post r → wpX_centralOf post (nI C, nI L, nI P, nI T, nI F, zb_f B, zb_f g, st, zb_f Z, zb_f D, fn, fs, fc, fo, no) x) ∧ (∀ (post : Int32 → Prop), post r → wpY_findDir post (nI C, nI L, nI P, nI T, nI F, sk, zb_f B, zb_f g, zb_f Z, zb_f D, fn, fs, fc, fo, sn, ss, sc, so) x) := by
  obtain ⟨r, h1, h2, h3⟩ := zf_0 (C := C) (P := P) (T := T) (F := F) (g := g) (Z := Z) (D := D) (st := st) (fn := fn) (fs := fs) (fo := fo) (no := no) (sn := sn) (ss := ss) (so := so) (fc := fc) (sc := sc) (sk := sk) hO hL hB x (zo_c B L) 0 (by omega)
  have h9 := hO.1
  refine ⟨r, h1, fun post hp => ?_, fun post hp => ?_⟩
  · unfold wpX_centralOf
    dsimp only
    refine xo hL hB (fun _ => br_f (by decide) ?_) (fun z => absurd hO z)
    exact xo_dc h9 hL ⟨zo_c B L + 1, h2 post (zo_c B L + 1) (by omega) hp⟩
  · unfold wpY_findDir
    dsimp only
    refine nm_r (zq_s9 h9) ?_
    refine yl_b (L - 9 + 4) (nI_add _ 4) (by omega) ?_
    exact yl_2 (L - 9 + 5) (nI_add _ 5) (by omega) hB ⟨zo_c B L + 1, h3 post (zo_c B L + 1) (by omega) hp⟩
end ZR
theorem zh_ch {post : Int64 → Prop} {x p1 p2 p4 : Int32} {p3 : Int64} (k0 : x = 0 → post p1.toInt64) (k1 : x = 1 → post p2.toInt64) (k2 : x = 2 → post p3) (k3 : x = 3 → post p4.toInt64) (k : ¬ x = 0 → ¬ x = 1 → ¬ x = 2 → ¬ x = 3 → post (-1)) : wpX_choose post x p1 p2 p3 p4 := by
  by_cases e0 : x = 0
  · subst e0
    exact br_f (by decide) (br_f (by decide) (br_t rfl (k0 rfl)))
  by_cases e1 : x = 1
  · subst e1
    exact br_f (by decide) (br_f (by decide) (br_f (by decide) (br_t rfl (k1 rfl))))
  by_cases e2 : x = 2
  · subst e2
    exact br_f (by decide) (br_f (by decide) (br_f (by decide) (br_f (by decide) (br_t rfl (k2 rfl)))))
  by_cases e3 : x = 3
  · subst e3
    exact br_f (by decide) (br_f (by decide) (br_f (by decide) (br_f (by decide) (br_f (by decide) (br_t rfl (k3 rfl))))))
  by_cases n : x < 0
  · exact br_t n (k e0 e1 e2 e3)
  · refine br_f n (br_t ?_ (k e0 e1 e2 e3))
    obtain ⟨j, hj, rfl⟩ := nI_of n
    have f0 : j ≠ 0 := fun z => e0 (by rw [z]; rfl)
    have f1 : j ≠ 1 := fun z => e1 (by rw [z]; rfl)
    have f2 : j ≠ 2 := fun z => e2 (by rw [z]; rfl)
    have f3 : j ≠ 3 := fun z => e3 (by rw [z]; rfl)
    exact nI_lt (a := 3) (by omega) hj
/-! ===== the small methods ===== -/
theorem i_vc_add {k : Nat} {u : SX} {v : SY} (I : i_Rel k u v) (hk : k + 3 ≤ 1537) (v1 : Int32) : wpX_add (fun r u' => wpY_add (fun r' v' => r' = r ∧ i_Rel (k + 3) u' v') v v1) u v1 := by
  have J : i_Rel (k + 3) u v := I
  obtain ⟨C, L, P, T, F, B, g, Z, D, st, fn, fs, fo, no, sn, ss, so, fc, sc, sk, rfl, rfl, hC, hLC, hP, hT, hT2, hF, hB, hg, hD, hst⟩ := I
  unfold wpX_add
  dsimp only
  rcases pk_ix v1 (n := 256) (by decide) with h | h | ⟨j, hj, rfl⟩
  · refine xl_y0 (Or.inl h) (br_t rfl ?_)
    exact br_t h ⟨rfl, J⟩
  · refine xl_y0 (Or.inr h) (br_t rfl ?_)
    exact br_f (zn_256 h).2.2 (br_f (zn_256 h).2.1 ⟨rfl, J⟩)
  · refine xl_y1 hj (br_f (by decide) ?_)
    refine pk_lt P 8 (fun h8 => ?_) (fun h8 => ?_) rfl rfl (by omega) (by omega)
    · have c : (nI P).toNatClampNeg = P := nI_clamp (by omega)
      have w : vp_in (nI P) 8 := vp_in_nI h8 (by omega)
      refine ⟨w, nm_r (e' := zb_f (zb_w g P j)) (by rw [c]; exact zb_upd g P j) ⟨w, nm_r (e' := upd st P (nI T)) (by rw [c]) ⟨w, nm_r (e' := zb_f (zb_w Z P 0)) (by rw [c]; exact zb_upd Z P 0) (nm_r (nI_1 P) ?_)⟩⟩⟩
      refine br_f (nI_pos (by omega)) (br_t (nI_le (b := 255) (by omega) (by decide)) (br_t (nI_lt (b := 8) h8 (by decide)) ⟨w, nm_r (e' := zb_f (zb_w g P j)) (by rw [c]; exact zb_upd g P j) ⟨w, nm_r (e' := zb_f (zb_w Z P 0)) (by rw [c]; exact zb_upd Z P 0) (nm_r (nI_1 P) ⟨rfl, zr_mk ⟨hC, hLC, h8, ?_, hT2, hF, hB, zb_wB hg hj, hD, ?_⟩⟩)⟩⟩))
      · show T = zs_m (zb_w Z P 0) P + zb_w Z P 0 P
        rw [zs_w Z P 0 P (Nat.le_refl _), zb_ws]
        exact hT
      · intro i hi
        rw [zs_w Z P 0 i (by omega)]
        by_cases e : i = P
        · rw [e, pk_us, hT]
        · rw [pk_un e]
          exact hst i (by omega)
    · exact br_f (nI_pos (by omega)) (br_t (nI_le (b := 255) (by omega) (by decide)) (br_f (nI_nlt (b := 8) h8 (by omega)) ⟨rfl, J⟩))
theorem i_vc_put {k : Nat} {u : SX} {v : SY} (I : i_Rel k u v) (hk : k + 3 ≤ 1537) (v1 : Int32) : wpX_put (fun r u' => wpY_put (fun r' v' => r' = r ∧ i_Rel (k + 3) u' v') v v1) u v1 := by
  have J : i_Rel (k + 3) u v := I
  obtain ⟨C, L, P, T, F, B, g, Z, D, st, fn, fs, fo, no, sn, ss, so, fc, sc, sk, rfl, rfl, hC, hLC, hP, hT, hT2, hF, hB, hg, hD, hst⟩ := I
  unfold wpX_put
  dsimp only
  refine pk_eq P 0 (fun h0 => ?_) (fun h0 => ?_) rfl rfl (by omega) (by omega)
  · exact br_t (by rw [h0]; rfl) ⟨rfl, J⟩
  have n0 : ¬ nI P = 0 := nI_ne0 (by omega) (by omega)
  rcases pk_ix v1 (n := 256) (by decide) with h | h | ⟨j, hj, rfl⟩
  · refine xl_y0 (Or.inl h) (br_t rfl ?_)
    exact br_f n0 (br_t h ⟨rfl, J⟩)
  · refine xl_y0 (Or.inr h) (br_t rfl ?_)
    exact br_f n0 (br_f (zn_256 h).2.2 (br_f (zn_256 h).2.1 ⟨rfl, J⟩))
  · refine xl_y1 hj (br_f (by decide) ?_)
    refine pk_lt T 128 (fun h8 => ?_) (fun h8 => ?_) rfl rfl (by omega) (by omega)
    · have c : (nI T).toNatClampNeg = T := nI_clamp (by omega)
      have w : vp_in (nI T) 128 := vp_in_nI h8 (by omega)
      have e1 : nI P - 1 = nI (P - 1) := zq_s1 (by omega)
      have c2 : (nI (P - 1)).toNatClampNeg = P - 1 := nI_clamp (by omega)
      have w2 : vp_in (nI (P - 1)) 8 := vp_in_nI (by omega) (by omega)
      have uD : upd (zb_f D) (nI T).toNatClampNeg (nI j) = zb_f (zb_w D T j) := by rw [c]; exact zb_upd D T j
      have uZ : upd (zb_f Z) (nI P - 1).toNatClampNeg (zb_f Z (nI P - 1).toNatClampNeg + 1) = zb_f (zb_w Z (P - 1) (Z (P - 1) + 1)) := by
        rw [e1, c2]
        show upd (zb_f Z) (P - 1) (nI (Z (P - 1)) + 1) = _
        rw [nI_1]
        exact zb_upd Z (P - 1) _
      have w3 : vp_in (nI P - 1) 8 := by rw [e1]; exact w2
      refine ⟨w, nm_r uD (nm_r (nI_1 T) ⟨w3, w3, nm_r uZ ?_⟩)⟩
      refine br_f n0 (br_f (nI_pos (by omega)) (br_t (nI_le (b := 255) (by omega) (by decide)) (br_t (nI_lt (b := 128) h8 (by decide)) ⟨w, nm_r uD (nm_r (nI_1 T) ⟨w3, w3, nm_r uZ ⟨rfl, zr_mk ⟨hC, hLC, hP, ?_, by omega, hF, hB, hg, zb_wB hD hj, ?_⟩⟩⟩)⟩)))
      · obtain ⟨q, rfl⟩ : ∃ q, P = q + 1 := ⟨P - 1, by omega⟩
        show T + 1 = zs_m (zb_w Z q (Z q + 1)) q + zb_w Z q (Z q + 1) q
        rw [zs_w Z q _ q (Nat.le_refl _), zb_ws, hT]
        rfl
      · intro i hi
        rw [zs_w Z (P - 1) _ i (by omega)]
        exact hst i hi
    · exact br_f n0 (br_f (nI_pos (by omega)) (br_t (nI_le (b := 255) (by omega) (by decide)) (br_f (nI_nlt (b := 128) h8 (by omega)) ⟨rfl, J⟩)))
theorem i_vc_discard {k : Nat} {u : SX} {v : SY} (I : i_Rel k u v) (hk : k + 3 ≤ 1537) : wpX_discard (fun u' => wpY_discard (fun v' => i_Rel (k + 3) u' v') v) u := by
  obtain ⟨C, L, P, T, F, B, g, Z, D, st, fn, fs, fo, no, sn, ss, so, fc, sc, sk, rfl, rfl, hC, hLC, hP, hT, hT2, hF, hB, hg, hD, hst⟩ := I
  exact zr_mk (k := k + 3) (P := 0) (T := 0) ⟨hC, hLC, by omega, rfl, by omega, hF, hB, hg, hD, fun i hi => by omega⟩
theorem i_vc_truncate {k : Nat} {u : SX} {v : SY} (I : i_Rel k u v) (hk : k + 3 ≤ 1537) (v1 : Int32) : wpX_truncate (fun r u' => wpY_truncate (fun r' v' => r' = r ∧ i_Rel (k + 3) u' v') v v1) u v1 := by
  have J : i_Rel (k + 3) u v := I
  obtain ⟨C, L, P, T, F, B, g, Z, D, st, fn, fs, fo, no, sn, ss, so, fc, sc, sk, rfl, rfl, hC, hLC, hP, hT, hT2, hF, hB, hg, hD, hst⟩ := I
  by_cases h0 : v1 < 0
  · exact br_t h0 (br_t h0 ⟨rfl, J⟩)
  · obtain ⟨j, hj, rfl⟩ := nI_of h0
    refine br_f h0 (pk_le j L (fun h => ?_) (fun h => ?_) rfl rfl hj (by omega))
    · exact br_f h0 (br_t (nI_le h (by omega)) ⟨rfl, zr_mk ⟨hC, by omega, hP, hT, hT2, hF, hB, hg, hD, hst⟩⟩)
    · exact br_f h0 (br_f (nI_ge h hj) ⟨rfl, J⟩)
theorem i_vc_poke {k : Nat} {u : SX} {v : SY} (I : i_Rel k u v) (hk : k + 3 ≤ 1537) (v1 : Int32) (v2 : Int32) : wpX_poke (fun r u' => wpY_poke (fun r' v' => r' = r ∧ i_Rel (k + 3) u' v') v v1 v2) u v1 v2 := by
  have J : i_Rel (k + 3) u v := I
  obtain ⟨C, L, P, T, F, B, g, Z, D, st, fn, fs, fo, no, sn, ss, so, fc, sc, sk, rfl, rfl, hC, hLC, hP, hT, hT2, hF, hB, hg, hD, hst⟩ := I
  by_cases h0 : v1 < 0
  · exact br_t h0 (br_t h0 ⟨rfl, J⟩)
  · obtain ⟨p, hp, rfl⟩ := nI_of h0
    refine br_f h0 (pk_le L p (fun h => ?_) (fun h => ?_) rfl rfl (by omega) hp)
    · exact br_f h0 (br_f (nI_nlt h hp) ⟨rfl, J⟩)
    · have n1 : nI p < nI L := nI_lt h (by omega)
      rcases pk_ix v2 (n := 256) (by decide) with h | h | ⟨j, hj, rfl⟩
      · refine xl_y0 (Or.inl h) (br_t rfl ?_)
        exact br_f h0 (br_t n1 (br_t h ⟨rfl, J⟩))
      · refine xl_y0 (Or.inr h) (br_t rfl ?_)
        exact br_f h0 (br_t n1 (br_f (zn_256 h).2.2 (br_f (zn_256 h).2.1 ⟨rfl, J⟩)))
      · have w : vp_in (nI p) 256 := vp_in_nI (by omega) (by omega)
        have uB : upd (zb_f B) (nI p).toNatClampNeg (nI j) = zb_f (zb_w B p j) := by rw [nI_clamp hp]; exact zb_upd B p j
        refine xl_y1 hj (br_f (by decide) ⟨w, nm_r uB ?_⟩)
        exact br_f h0 (br_t n1 (br_f (nI_pos (by omega)) (br_t (nI_le (b := 255) (by omega) (by decide)) ⟨w, nm_r uB ⟨rfl, zr_mk ⟨hC, hLC, hP, hT, hT2, hF, zb_wB hB hj, hg, hD, hst⟩⟩⟩)))
theorem i_vc_length {k : Nat} {u : SX} {v : SY} (I : i_Rel k u v) (hk : k + 3 ≤ 1537) : wpX_length (fun r => wpY_length (fun r' => r' = r ∧ i_Rel (k + 3) u v) v) u := by
  have J : i_Rel (k + 3) u v := I
  obtain ⟨C, L, P, T, F, B, g, Z, D, st, fn, fs, fo, no, sn, ss, so, fc, sc, sk, rfl, rfl, hC, hLC, hP, hT, hT2, hF, hB, hg, hD, hst⟩ := I
  exact ⟨rfl, J⟩
theorem i_vc_byteAt {k : Nat} {u : SX} {v : SY} (I : i_Rel k u v) (hk : k + 3 ≤ 1537) (v1 : Int32) : wpX_byteAt (fun r => wpY_byteAt (fun r' => r' = r ∧ i_Rel (k + 3) u v) v v1) u v1 := by
  have J : i_Rel (k + 3) u v := I
  obtain ⟨C, L, P, T, F, B, g, Z, D, st, fn, fs, fo, no, sn, ss, so, fc, sc, sk, rfl, rfl, hC, hLC, hP, hT, hT2, hF, hB, hg, hD, hst⟩ := I
  by_cases h0 : v1 < 0
  · exact br_t h0 (br_t h0 ⟨rfl, J⟩)
  · obtain ⟨p, hp, rfl⟩ := nI_of h0
    by_cases h : p < L
    · refine xl_b p rfl h (by omega) ?_
      refine br_f h0 (br_t (nI_lt h (by omega)) ?_)
      exact yl_b p rfl (by omega) ⟨rfl, J⟩
    · have n1 : ¬ nI p < nI L := nI_nlt (by omega) hp
      exact br_f h0 (br_f n1 (br_f h0 (br_f n1 ⟨rfl, J⟩)))
theorem i_vc_isOpenable {k : Nat} {u : SX} {v : SY} (I : i_Rel k u v) (hk : k + 3 ≤ 1537) : wpX_isOpenable (fun r => wpY_isOpenable (fun r' => r' = r ∧ i_Rel (k + 3) u v) v) u := by
  have J : i_Rel (k + 3) u v := I
  obtain ⟨C, L, P, T, F, B, g, Z, D, st, fn, fs, fo, no, sn, ss, so, fc, sc, sk, rfl, rfl, hC, hLC, hP, hT, hT2, hF, hB, hg, hD, hst⟩ := I
  have hL : L ≤ 256 := by omega
  exact xo hL hB (fun o => yo hL hB (fun _ => ⟨rfl, J⟩) (fun z => absurd o z)) (fun o => yo hL hB (fun z => absurd z o) (fun _ => ⟨rfl, J⟩))
