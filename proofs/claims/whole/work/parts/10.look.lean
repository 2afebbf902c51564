/-! ===== the calls that look things up ===== -/
section ZL
variable {C L P T F : Nat} {B g Z D : Nat → Nat} {st fn fs fo no sn ss so : Nat → Int32} {fc sc : Nat → Int64} {sk : Int32}
/-- what the reference's dirInfo asks behind its tests -/
theorem yh_d {post : Int64 → Prop} {x : Int32} (r : Nat) (hr : r + 13 ≤ 256) (hB : zb_B B) (k0 : x = 0 → post (nI (B (r + 4))).toInt64) (k1 : x = 1 → post (nI (zb_r2 B (r + 5))).toInt64) (k2 : x = 2 → post (lN (zb_r4 B (r + 7)))) (k3 : x = 3 → post (nI (zb_r2 B (r + 11))).toInt64) (k : ¬ x = 0 → ¬ x = 1 → ¬ x = 2 → ¬ x = 3 → post (-1)) :
    (x = 0 → wpY_rd (fun a => post a.toInt64) (nI C, nI L, nI P, nI T, nI F, sk, zb_f B, zb_f g, zb_f Z, zb_f D, fn, fs, fc, fo, sn, ss, sc, so) (nI r + 4)) ∧ (¬ x = 0 → (x = 1 → wpY_u16 (fun a => post a.toInt64) (nI C, nI L, nI P, nI T, nI F, sk, zb_f B, zb_f g, zb_f Z, zb_f D, fn, fs, fc, fo, sn, ss, sc, so) (nI r + 5)) ∧ (¬ x = 1 → (x = 2 → wpY_u32 (fun a => post a) (nI C, nI L, nI P, nI T, nI F, sk, zb_f B, zb_f g, zb_f Z, zb_f D, fn, fs, fc, fo, sn, ss, sc, so) (nI r + 7)) ∧ (¬ x = 2 → (x = 3 → wpY_u16 (fun a => post a.toInt64) (nI C, nI L, nI P, nI T, nI F, sk, zb_f B, zb_f g, zb_f Z, zb_f D, fn, fs, fc, fo, sn, ss, sc, so) (nI r + 11)) ∧ (¬ x = 3 → post (-1))))) :=
  br_c (fun e => yl_b (r + 4) (nI_add _ 4) (by omega) (k0 e)) (fun e0 => br_c (fun e => yl_2 (r + 5) (nI_add _ 5) (by omega) hB (k1 e)) (fun e1 => br_c (fun e => yl_4 (r + 7) (nI_add _ 7) (by omega) hB (k2 e)) (fun e2 => br_c (fun e => yl_2 (r + 11) (nI_add _ 11) (by omega) hB (k3 e)) (fun e3 => k e0 e1 e2 e3))))
theorem yh_p {post : Int64 → Prop} {x : Int32} {q : Nat} (hP : q < 8) (k : (x = 0 → vp_in (nI q) 8 ∧ post ((zb_f g (nI q).toNatClampNeg).toInt64)) ∧ (¬ x = 0 → (x = 1 → vp_in (nI q) 8 ∧ post ((zb_f Z (nI q).toNatClampNeg).toInt64)) ∧ (¬ x = 1 → (x = 2 → vp_in (nI q) 8 ∧ wpY_crcPend (fun r => post r) (nI C, nI L, nI P, nI T, nI F, sk, zb_f B, zb_f g, zb_f Z, zb_f D, fn, fs, fc, fo, sn, ss, sc, so) (nI (zs_m Z q)) (zb_f Z (nI q).toNatClampNeg)) ∧ (¬ x = 2 → post (-1))))) :
    ∀ r i n, i + r = q → r < n → wY_pendingInfo_21 post (nI q) x (nI C) (nI L) (nI P) (nI T) (nI F) sk (zb_f B) (zb_f g) (zb_f Z) (zb_f D) fn fs fc fo sn ss sc so n (nI (zs_m Z i)) (nI i) := by
  intro r
  induction r with
  | zero =>
    intro i n hi hn
    obtain ⟨n, rfl⟩ : ∃ m, n = m + 1 := ⟨n - 1, by omega⟩
    have e : i = q := by omega
    subst e
    exact br_t (nI_le (Nat.le_refl _) (by omega)) k
  | succ r ih =>
    intro i n hi hn
    obtain ⟨n, rfl⟩ : ∃ m, n = m + 1 := ⟨n - 1, by omega⟩
    refine br_f (nI_ge (by omega) (by omega)) ⟨vp_in_nI (by omega) (by omega), nm_r (e' := nI (zs_m Z (i + 1))) ?_ (nm_r (nI_1 i) (ih (i + 1) n (by omega) (by omega)))⟩
    rw [nI_clamp (by omega)]
    exact nI_add _ _
end ZL
theorem i_vc_dirInfo {k : Nat} {u : SX} {v : SY} (I : i_Rel k u v) (hk : k + 3 ≤ 1537) (v1 : Int32) (v2 : Int32) : wpX_dirInfo (fun r => wpY_dirInfo (fun r' => r' = r ∧ i_Rel (k + 3) u v) v v1 v2) u v1 v2 := by
  have J : i_Rel (k + 3) u v := I
  obtain ⟨C, L, P, T, F, B, g, Z, D, st, fn, fs, fo, no, sn, ss, so, fc, sc, sk, rfl, rfl, hC, hLC, hP, hT, hT2, hF, hB, hg, hD, hst⟩ := I
  have hL : L ≤ 256 := by omega
  unfold wpX_dirInfo wpY_dirInfo
  dsimp only
  refine xo hL hB (fun o => br_f (by decide) ?_) (fun o => br_t rfl (yo hL hB (fun z => absurd z o) (fun _ => br_t rfl ⟨rfl, J⟩)))
  have hd := zo_dl o
  have h9 := o.1
  have Y0 : ∀ {post : Int32 → Prop}, post 1 → wpY_isOpenable post (nI C, nI L, nI P, nI T, nI F, sk, zb_f B, zb_f g, zb_f Z, zb_f D, fn, fs, fc, fo, sn, ss, sc, so) := fun h => yo hL hB (fun _ => h) (fun z => absurd o z)
  by_cases h0 : v1 < 0
  · refine br_t h0 (Y0 (br_f (by decide) (nm_r (zq_s9 h9) ?_)))
    exact yl_b (L - 9 + 4) (nI_add _ 4) (by omega) (br_t h0 ⟨rfl, J⟩)
  · refine br_f h0 (xo_dc h9 hL ?_)
    obtain ⟨i, hi, rfl⟩ := nI_of h0
    refine pk_lt i (zo_c B L) (fun h => ?_) (fun h => ?_) rfl rfl hi (by omega)
    · refine xo_ca i rfl h9 hL hB ?_
      refine xl_b (zo_d B L + 13 * i + 4) (nI_add _ 4) (by omega) hL ?_
      refine xl_2 (zo_d B L + 13 * i + 5) (nI_add _ 5) (by omega) hL hB ?_
      refine xl_4 (zo_d B L + 13 * i + 7) (nI_add _ 7) (by omega) hL hB ?_
      refine xl_2 (zo_d B L + 13 * i + 11) (nI_add _ 11) (by omega) hL hB ?_
      have Y1 : ∀ a : Int64, ((v2 = 0 → a = (nI (B (zo_d B L + 13 * i + 4))).toInt64) ∧ (v2 = 1 → a = (nI (zb_r2 B (zo_d B L + 13 * i + 5))).toInt64) ∧ (v2 = 2 → a = lN (zb_r4 B (zo_d B L + 13 * i + 7))) ∧ (v2 = 3 → a = (nI (zb_r2 B (zo_d B L + 13 * i + 11))).toInt64) ∧ (¬ v2 = 0 → ¬ v2 = 1 → ¬ v2 = 2 → ¬ v2 = 3 → a = -1)) → wpY_dirInfo (fun r' => r' = a ∧ i_Rel (k + 3) (nI C, nI L, nI P, nI T, nI F, zb_f B, zb_f g, st, zb_f Z, zb_f D, fn, fs, fc, fo, no) (nI C, nI L, nI P, nI T, nI F, sk, zb_f B, zb_f g, zb_f Z, zb_f D, fn, fs, fc, fo, sn, ss, sc, so)) (nI C, nI L, nI P, nI T, nI F, sk, zb_f B, zb_f g, zb_f Z, zb_f D, fn, fs, fc, fo, sn, ss, sc, so) (nI i) v2 := by
        intro a ⟨a0, a1, a2, a3, a4⟩
        have n1 : nI i < nI (zo_c B L) := nI_lt h (by omega)
        unfold wpY_dirInfo
        dsimp only
        refine Y0 (br_f (by decide) (nm_r (zq_s9 h9) ?_))
        refine yl_b (L - 9 + 4) (nI_add _ 4) (by omega) (br_f h0 (br_t n1 ?_))
        refine yl_2 (L - 9 + 5) (nI_add _ 5) (by omega) hB (nm_r (e' := nI (zo_d B L + 13 * i)) (by rw [zq_m13]; exact nI_add _ _) ?_)
        exact yh_d (post := fun r' => r' = a ∧ i_Rel (k + 3) (nI C, nI L, nI P, nI T, nI F, zb_f B, zb_f g, st, zb_f Z, zb_f D, fn, fs, fc, fo, no) (nI C, nI L, nI P, nI T, nI F, sk, zb_f B, zb_f g, zb_f Z, zb_f D, fn, fs, fc, fo, sn, ss, sc, so)) (x := v2) (zo_d B L + 13 * i) (by omega) hB (fun e => ⟨(a0 e).symm, J⟩) (fun e => ⟨(a1 e).symm, J⟩) (fun e => ⟨(a2 e).symm, J⟩) (fun e => ⟨(a3 e).symm, J⟩) (fun e0 e1 e2 e3 => ⟨(a4 e0 e1 e2 e3).symm, J⟩)
      refine zh_ch (fun e => ?_) (fun e => ?_) (fun e => ?_) (fun e => ?_) (fun e0 e1 e2 e3 => ?_)
      · exact Y1 _ ⟨fun _ => rfl, fun z => absurd (e.symm.trans z) (by decide), fun z => absurd (e.symm.trans z) (by decide), fun z => absurd (e.symm.trans z) (by decide), fun z => absurd e z⟩
      · exact Y1 _ ⟨fun z => absurd (e.symm.trans z) (by decide), fun _ => rfl, fun z => absurd (e.symm.trans z) (by decide), fun z => absurd (e.symm.trans z) (by decide), fun _ z => absurd e z⟩
      · exact Y1 _ ⟨fun z => absurd (e.symm.trans z) (by decide), fun z => absurd (e.symm.trans z) (by decide), fun _ => rfl, fun z => absurd (e.symm.trans z) (by decide), fun _ _ z => absurd e z⟩
      · exact Y1 _ ⟨fun z => absurd (e.symm.trans z) (by decide), fun z => absurd (e.symm.trans z) (by decide), fun z => absurd (e.symm.trans z) (by decide), fun _ => rfl, fun _ _ _ z => absurd e z⟩
      · exact Y1 _ ⟨fun z => absurd z e0, fun z => absurd z e1, fun z => absurd z e2, fun z => absurd z e3, fun _ _ _ _ => rfl⟩
    · refine Y0 (br_f (by decide) (nm_r (zq_s9 h9) ?_))
      exact yl_b (L - 9 + 4) (nI_add _ 4) (by omega) (br_f h0 (br_f (nI_nlt h hi) ⟨rfl, J⟩))
theorem i_vc_sizeOf {k : Nat} {u : SX} {v : SY} (I : i_Rel k u v) (hk : k + 3 ≤ 1537) (v1 : Int32) : wpX_sizeOf (fun r => wpY_sizeOf (fun r' => r' = r ∧ i_Rel (k + 3) u v) v v1) u v1 := by
  have J : i_Rel (k + 3) u v := I
  obtain ⟨C, L, P, T, F, B, g, Z, D, st, fn, fs, fo, no, sn, ss, so, fc, sc, sk, rfl, rfl, hC, hLC, hP, hT, hT2, hF, hB, hg, hD, hst⟩ := I
  have hL : L ≤ 256 := by omega
  unfold wpX_sizeOf wpY_sizeOf
  dsimp only
  by_cases o : zo_O B L
  · have hd := zo_dl o
    obtain ⟨r, h1, h2, h3⟩ := zf (C := C) (P := P) (T := T) (F := F) (g := g) (Z := Z) (D := D) (st := st) (fn := fn) (fs := fs) (fo := fo) (no := no) (sn := sn) (ss := ss) (so := so) (fc := fc) (sc := sc) (sk := sk) o hL hB v1
    have Y0 : ∀ {post : Int32 → Prop}, post 1 → wpY_isOpenable post (nI C, nI L, nI P, nI T, nI F, sk, zb_f B, zb_f g, zb_f Z, zb_f D, fn, fs, fc, fo, sn, ss, sc, so) := fun h => yo hL hB (fun _ => h) (fun z => absurd o z)
    refine h2 _ ?_
    rcases h1 with e | ⟨j, hj, e⟩
    · subst e
      refine br_t rfl (Y0 (br_f (by decide) (h3 _ ?_)))
      exact br_f (by decide) ⟨rfl, J⟩
    · subst e
      refine br_f (zn_m1 _ (by omega)) ?_
      refine xl_2 (zo_d B L + 13 * j + 5) (nI_add _ 5) (by omega) hL hB ?_
      refine Y0 (br_f (by decide) (h3 _ ?_))
      refine br_t (nI_pos' (by omega)) ?_
      exact yl_2 (zo_d B L + 13 * j + 5) (nI_add _ 5) (by omega) hB ⟨rfl, J⟩
  · unfold wpX_centralOf
    dsimp only
    refine xo hL hB (fun z => absurd z o) (fun _ => br_t rfl (br_t rfl ?_))
    exact yo hL hB (fun z => absurd z o) (fun _ => br_t rfl ⟨rfl, J⟩)
theorem i_vc_dataAt {k : Nat} {u : SX} {v : SY} (I : i_Rel k u v) (hk : k + 3 ≤ 1537) (v1 : Int32) (v2 : Int32) : wpX_dataAt (fun r => wpY_dataAt (fun r' => r' = r ∧ i_Rel (k + 3) u v) v v1 v2) u v1 v2 := by
  have J : i_Rel (k + 3) u v := I
  obtain ⟨C, L, P, T, F, B, g, Z, D, st, fn, fs, fo, no, sn, ss, so, fc, sc, sk, rfl, rfl, hC, hLC, hP, hT, hT2, hF, hB, hg, hD, hst⟩ := I
  have hL : L ≤ 256 := by omega
  unfold wpX_dataAt wpY_dataAt
  dsimp only
  by_cases o : zo_O B L
  · have hd := zo_dl o
    obtain ⟨r, h1, h2, h3⟩ := zf (C := C) (P := P) (T := T) (F := F) (g := g) (Z := Z) (D := D) (st := st) (fn := fn) (fs := fs) (fo := fo) (no := no) (sn := sn) (ss := ss) (so := so) (fc := fc) (sc := sc) (sk := sk) o hL hB v1
    have Y0 : ∀ {post : Int32 → Prop}, post 1 → wpY_isOpenable post (nI C, nI L, nI P, nI T, nI F, sk, zb_f B, zb_f g, zb_f Z, zb_f D, fn, fs, fc, fo, sn, ss, sc, so) := fun h => yo hL hB (fun _ => h) (fun z => absurd o z)
    refine h2 _ ?_
    rcases h1 with e | ⟨j, hj, e⟩
    · subst e
      refine br_t rfl (Y0 (br_f (by decide) (h3 _ ?_)))
      exact br_f (by decide) ⟨rfl, J⟩
    · subst e
      have hE := (o.2.2.2.2 j hj).2.1
      have b1 := zb_r2_lt hB (zo_d B L + 13 * j + 5)
      refine br_f (zn_m1 _ (by omega)) ?_
      refine xl_2 (zo_d B L + 13 * j + 5) (nI_add _ 5) (by omega) hL hB ?_
      by_cases h0 : v2 < 0
      · refine br_t h0 (Y0 (br_f (by decide) (h3 _ ?_)))
        refine br_t (nI_pos' (by omega)) ?_
        exact yl_2 (zo_d B L + 13 * j + 5) (nI_add _ 5) (by omega) hB (br_t h0 ⟨rfl, J⟩)
      · obtain ⟨t, ht, rfl⟩ := nI_of h0
        refine br_f h0 (pk_lt t (zb_r2 B (zo_d B L + 13 * j + 5)) (fun h => ?_) (fun h => ?_) rfl rfl ht (by omega))
        · refine xl_2 (zo_d B L + 13 * j + 11) (nI_add _ 11) (by omega) hL hB ?_
          refine xl_b (zb_r2 B (zo_d B L + 13 * j + 11) + 11 + t) (by rw [zq_a11, nI_add]) (by omega) hL ?_
          refine Y0 (br_f (by decide) (h3 _ ?_))
          refine br_t (nI_pos' (by omega)) ?_
          refine yl_2 (zo_d B L + 13 * j + 5) (nI_add _ 5) (by omega) hB (br_f h0 (br_t (nI_lt h (by omega)) ?_))
          refine yl_2 (zo_d B L + 13 * j + 11) (nI_add _ 11) (by omega) hB ?_
          exact yl_b (zb_r2 B (zo_d B L + 13 * j + 11) + 11 + t) (by rw [zq_a11, nI_add]) (by omega) ⟨rfl, J⟩
        · refine Y0 (br_f (by decide) (h3 _ ?_))
          refine br_t (nI_pos' (by omega)) ?_
          exact yl_2 (zo_d B L + 13 * j + 5) (nI_add _ 5) (by omega) hB (br_f h0 (br_f (nI_nlt h ht) ⟨rfl, J⟩))
  · unfold wpX_centralOf
    dsimp only
    refine xo hL hB (fun z => absurd z o) (fun _ => br_t rfl (br_t rfl ?_))
    exact yo hL hB (fun z => absurd z o) (fun _ => br_t rfl ⟨rfl, J⟩)
theorem i_vc_pendingInfo {k : Nat} {u : SX} {v : SY} (I : i_Rel k u v) (hk : k + 3 ≤ 1537) (v1 : Int32) (v2 : Int32) : wpX_pendingInfo (fun r => wpY_pendingInfo (fun r' => r' = r ∧ i_Rel (k + 3) u v) v v1 v2) u v1 v2 := by
  have J : i_Rel (k + 3) u v := I
  obtain ⟨C, L, P, T, F, B, g, Z, D, st, fn, fs, fo, no, sn, ss, so, fc, sc, sk, rfl, rfl, hC, hLC, hP, hT, hT2, hF, hB, hg, hD, hst⟩ := I
  unfold wpX_pendingInfo wpY_pendingInfo
  dsimp only
  by_cases h0 : v1 < 0
  · exact br_t h0 (br_t h0 ⟨rfl, J⟩)
  · obtain ⟨q, hq, rfl⟩ := nI_of h0
    refine br_f h0 (pk_lt q P (fun h => ?_) (fun h => ?_) rfl rfl hq (by omega))
    · have w : vp_in (nI q) 8 := vp_in_nI (by omega) (by omega)
      have c : (nI q).toNatClampNeg = q := nI_clamp hq
      have hs := zs_lt Z h
      have n1 : nI q < nI P := nI_lt h (by omega)
      have cr : ∀ {post : Int64 → Prop}, post (lN (zk_F D (zs_m Z q) (Z q))) → wpY_crcPend post (nI C, nI L, nI P, nI T, nI F, sk, zb_f B, zb_f g, zb_f Z, zb_f D, fn, fs, fc, fo, sn, ss, sc, so) (nI (zs_m Z q)) (zb_f Z (nI q).toNatClampNeg) := fun h => yk_p (zs_m Z q) (Z q) rfl (by rw [c]; rfl) hD (by omega) h
      refine ⟨w, w, xk_p (zs_m Z q) (Z q) (by rw [c]; exact hst q h) (by rw [c]; rfl) hD (by omega) ⟨w, w, ?_⟩⟩
      refine zh_ch (fun e => ?_) (fun e => ?_) (fun e => ?_) (fun e => ?_) (fun e0 e1 e2 e3 => ?_)
      · exact br_f h0 (br_t n1 ⟨q + 1, yh_p (by omega) (br_t e ⟨w, rfl, J⟩) q 0 (q + 1) (by omega) (by omega)⟩)
      · exact br_f h0 (br_t n1 ⟨q + 1, yh_p (by omega) (br_f (fun z => absurd (e.symm.trans z) (by decide)) (br_t e ⟨w, rfl, J⟩)) q 0 (q + 1) (by omega) (by omega)⟩)
      · exact br_f h0 (br_t n1 ⟨q + 1, yh_p (by omega) (br_f (fun z => absurd (e.symm.trans z) (by decide)) (br_f (fun z => absurd (e.symm.trans z) (by decide)) (br_t e ⟨w, cr ⟨rfl, J⟩⟩))) q 0 (q + 1) (by omega) (by omega)⟩)
      · exact br_f h0 (br_t n1 ⟨q + 1, yh_p (by omega) (br_f (fun z => absurd (e.symm.trans z) (by decide)) (br_f (fun z => absurd (e.symm.trans z) (by decide)) (br_f (fun z => absurd (e.symm.trans z) (by decide)) ⟨by decide, J⟩))) q 0 (q + 1) (by omega) (by omega)⟩)
      · exact br_f h0 (br_t n1 ⟨q + 1, yh_p (by omega) (br_f e0 (br_f e1 (br_f e2 ⟨rfl, J⟩))) q 0 (q + 1) (by omega) (by omega)⟩)
    · have n1 : ¬ nI q < nI P := nI_nlt h hq
      exact br_f h0 (br_f n1 ⟨rfl, J⟩)
theorem i_vc_foundInfo {k : Nat} {u : SX} {v : SY} (I : i_Rel k u v) (hk : k + 3 ≤ 1537) (v1 : Int32) (v2 : Int32) : wpX_foundInfo (fun r => wpY_foundInfo (fun r' => r' = r ∧ i_Rel (k + 3) u v) v v1 v2) u v1 v2 := by
  have J : i_Rel (k + 3) u v := I
  obtain ⟨C, L, P, T, F, B, g, Z, D, st, fn, fs, fo, no, sn, ss, so, fc, sc, sk, rfl, rfl, hC, hLC, hP, hT, hT2, hF, hB, hg, hD, hst⟩ := I
  unfold wpX_foundInfo wpY_foundInfo
  dsimp only
  by_cases h0 : v1 < 0
  · exact br_t h0 (br_t h0 ⟨rfl, J⟩)
  · obtain ⟨q, hq, rfl⟩ := nI_of h0
    refine br_f h0 (pk_lt q F (fun h => ?_) (fun h => ?_) rfl rfl hq (by omega))
    · have w : vp_in (nI q) 23 := vp_in_nI (by omega) (by omega)
      have w2 : vp_in (nI q) 32 := vp_in_nI (by omega) (by omega)
      have n1 : nI q < nI F := nI_lt h (by omega)
      refine ⟨w, w, w, w, ?_⟩
      refine zh_ch (fun e => ?_) (fun e => ?_) (fun e => ?_) (fun e => ?_) (fun e0 e1 e2 e3 => ?_)
      · exact br_f h0 (br_t n1 (br_t e ⟨w2, rfl, J⟩))
      · exact br_f h0 (br_t n1 (br_f (fun z => absurd (e.symm.trans z) (by decide)) (br_t e ⟨w2, rfl, J⟩)))
      · exact br_f h0 (br_t n1 (br_f (fun z => absurd (e.symm.trans z) (by decide)) (br_f (fun z => absurd (e.symm.trans z) (by decide)) (br_t e ⟨w2, rfl, J⟩))))
      · exact br_f h0 (br_t n1 (br_f (fun z => absurd (e.symm.trans z) (by decide)) (br_f (fun z => absurd (e.symm.trans z) (by decide)) (br_f (fun z => absurd (e.symm.trans z) (by decide)) (br_t e ⟨w2, rfl, J⟩)))))
      · exact br_f h0 (br_t n1 (br_f e0 (br_f e1 (br_f e2 (br_f e3 ⟨rfl, J⟩)))))
    · have n1 : ¬ nI q < nI F := nI_nlt h hq
      exact br_f h0 (br_f n1 ⟨rfl, J⟩)
