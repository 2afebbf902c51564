/-! ===== the reference's small methods ===== -/
section ZY
variable {C L P T F : Nat} {B g Z D : Nat → Nat} {fn fs fo sn ss so : Nat → Int32} {fc sc : Nat → Int64} {sk : Int32}
theorem yl_b {post : Int32 → Prop} {q : Int32} (p : Nat) (hq : q = nI p) (h : p < 256) (k : post (nI (B p))) : wpY_rd post (nI C, nI L, nI P, nI T, nI F, sk, zb_f B, zb_f g, zb_f Z, zb_f D, fn, fs, fc, fo, sn, ss, sc, so) q := by
  subst hq
  exact br_f (nI_pos (by omega)) (br_t (nI_lt (b := 256) h (by decide)) ⟨vp_in_nI (by omega) (by omega), zq_v (P := post) (by rw [nI_clamp (by omega)]; rfl) k⟩)
theorem yl_2 {post : Int32 → Prop} {q : Int32} (p : Nat) (hq : q = nI p) (h : p + 2 ≤ 256) (hB : zb_B B) (k : post (nI (zb_r2 B p))) : wpY_u16 post (nI C, nI L, nI P, nI T, nI F, sk, zb_f B, zb_f g, zb_f Z, zb_f D, fn, fs, fc, fo, sn, ss, sc, so) q := by
  subst hq
  unfold wpY_u16
  dsimp only
  refine yl_b p rfl (by omega) ?_
  refine yl_b (p + 1) (nI_1 p) (by omega) ?_
  exact zq_v (P := post) (zn_y2 (hB p) (hB (p + 1))) k
theorem yl_4 {post : Int64 → Prop} {q : Int32} (p : Nat) (hq : q = nI p) (h : p + 4 ≤ 256) (hB : zb_B B) (k : post (lN (zb_r4 B p))) : wpY_u32 post (nI C, nI L, nI P, nI T, nI F, sk, zb_f B, zb_f g, zb_f Z, zb_f D, fn, fs, fc, fo, sn, ss, sc, so) q := by
  subst hq
  have b0 := hB p
  have b1 := hB (p + 1)
  have b2 := hB (p + 2)
  have b3 := hB (p + 3)
  unfold wpY_u32
  dsimp only
  refine yl_b p rfl (by omega) ?_
  refine yl_b (p + 1) (nI_1 p) (by omega) ?_
  refine yl_b (p + 2) (nI_add p 2) (by omega) ?_
  refine yl_b (p + 3) (nI_add p 3) (by omega) ?_
  refine zq_v (P := post) ?_ k
  rw [nI_l (by omega), nI_l (by omega), nI_l (by omega), nI_l (by omega)]
  exact zn_y4 b0 b1 b2 b3
theorem yl_s {post : Int32 → Prop} {q qx qy : Int32} (p x y : Nat) (hq : q = nI p) (hx : qx = nI x) (hy : qy = nI y) (lx : x < 256) (ly : y < 256) (h : p + 4 ≤ 256) (hB : zb_B B) (k1 : (B p = 80 ∧ B (p + 1) = 75 ∧ B (p + 2) = x ∧ B (p + 3) = y) → post 1) (k0 : ¬ (B p = 80 ∧ B (p + 1) = 75 ∧ B (p + 2) = x ∧ B (p + 3) = y) → post 0) : wpY_sigAt post (nI C, nI L, nI P, nI T, nI F, sk, zb_f B, zb_f g, zb_f Z, zb_f D, fn, fs, fc, fo, sn, ss, sc, so) q qx qy := by
  subst hq hx hy
  have b0 := hB p
  have b1 := hB (p + 1)
  have b2 := hB (p + 2)
  have b3 := hB (p + 3)
  unfold wpY_sigAt
  dsimp only
  refine yl_b p rfl (by omega) ?_
  refine pk_eq (B p) 80 (fun h0 => ?_) (fun h0 => k0 (fun z => h0 z.1)) rfl rfl (by omega) (by omega)
  refine yl_b (p + 1) (nI_1 p) (by omega) ?_
  refine pk_eq (B (p + 1)) 75 (fun h1 => ?_) (fun h1 => k0 (fun z => h1 z.2.1)) rfl rfl (by omega) (by omega)
  refine yl_b (p + 2) (nI_add p 2) (by omega) ?_
  refine pk_eq (B (p + 2)) x (fun h2 => ?_) (fun h2 => k0 (fun z => h2 z.2.2.1)) rfl rfl (by omega) (by omega)
  refine yl_b (p + 3) (nI_add p 3) (by omega) ?_
  exact pk_eq (B (p + 3)) y (fun h3 => k1 ⟨h0, h1, h2, h3⟩) (fun h3 => k0 (fun z => h3 z.2.2.2)) rfl rfl (by omega) (by omega)
theorem yl_sL {post : Int32 → Prop} {q : Int32} (p : Nat) (hq : q = nI p) (h : p + 4 ≤ 256) (hB : zb_B B) (k1 : zb_r4 B p = 67324752 → post 1) (k0 : ¬ zb_r4 B p = 67324752 → post 0) : wpY_sigAt post (nI C, nI L, nI P, nI T, nI F, sk, zb_f B, zb_f g, zb_f Z, zb_f D, fn, fs, fc, fo, sn, ss, sc, so) q 3 4 :=
  yl_s p 3 4 hq rfl rfl (by omega) (by omega) h hB (fun z => k1 ((zb_sL hB p).mpr z)) (fun z => k0 (fun w => z ((zb_sL hB p).mp w)))
theorem yl_sC {post : Int32 → Prop} {q : Int32} (p : Nat) (hq : q = nI p) (h : p + 4 ≤ 256) (hB : zb_B B) (k1 : zb_r4 B p = 33639248 → post 1) (k0 : ¬ zb_r4 B p = 33639248 → post 0) : wpY_sigAt post (nI C, nI L, nI P, nI T, nI F, sk, zb_f B, zb_f g, zb_f Z, zb_f D, fn, fs, fc, fo, sn, ss, sc, so) q 1 2 :=
  yl_s p 1 2 hq rfl rfl (by omega) (by omega) h hB (fun z => k1 ((zb_sC hB p).mpr z)) (fun z => k0 (fun w => z ((zb_sC hB p).mp w)))
theorem yl_sE {post : Int32 → Prop} {q : Int32} (p : Nat) (hq : q = nI p) (h : p + 4 ≤ 256) (hB : zb_B B) (k1 : zb_r4 B p = 101010256 → post 1) (k0 : ¬ zb_r4 B p = 101010256 → post 0) : wpY_sigAt post (nI C, nI L, nI P, nI T, nI F, sk, zb_f B, zb_f g, zb_f Z, zb_f D, fn, fs, fc, fo, sn, ss, sc, so) q 5 6 :=
  yl_s p 5 6 hq rfl rfl (by omega) (by omega) h hB (fun z => k1 ((zb_sE hB p).mpr z)) (fun z => k0 (fun w => z ((zb_sE hB p).mp w)))
theorem yl_w {post : SY → Prop} {q y : Int32} (p x : Nat) (hq : q = nI p) (hx : y &&& 255 = nI x) (h : p < 256) (k : post (nI C, nI L, nI P, nI T, nI F, sk, zb_f (zb_w B p x), zb_f g, zb_f Z, zb_f D, fn, fs, fc, fo, sn, ss, sc, so)) : wpY_wr post (nI C, nI L, nI P, nI T, nI F, sk, zb_f B, zb_f g, zb_f Z, zb_f D, fn, fs, fc, fo, sn, ss, sc, so) q y := by
  subst hq
  refine br_f (nI_pos (by omega)) (br_f (nI_ge (b := 256) h (by decide)) ⟨vp_in_nI (by omega) (by omega), nm_r (e' := zb_f (zb_w B p x)) ?_ k⟩)
  rw [nI_clamp (by omega), hx]
  exact zb_upd B p x
/-- one byte: as zb_n of width 1 -/
theorem yl_w1 {post : SY → Prop} {q y : Int32} (p n : Nat) (hq : q = nI p) (hy : y = nI n) (hn : n < 2 ^ 32) (h : p < 256) (k : post (nI C, nI L, nI P, nI T, nI F, sk, zb_f (zb_n B p n 1), zb_f g, zb_f Z, zb_f D, fn, fs, fc, fo, sn, ss, sc, so)) : wpY_wr post (nI C, nI L, nI P, nI T, nI F, sk, zb_f B, zb_f g, zb_f Z, zb_f D, fn, fs, fc, fo, sn, ss, sc, so) q y := by
  refine yl_w p (n / 2 ^ (8 * 0) % 256) hq ?_ h k
  rw [hy, zn_255 hn, show 2 ^ (8 * 0) = 1 from rfl, Nat.div_one]
theorem yl_w2 {post : SY → Prop} {q y : Int32} (p n : Nat) (hq : q = nI p) (hy : y = nI n) (hn : n < 65536) (h : p + 2 ≤ 256) (k : post (nI C, nI L, nI P, nI T, nI F, sk, zb_f (zb_n B p n 2), zb_f g, zb_f Z, zb_f D, fn, fs, fc, fo, sn, ss, sc, so)) : wpY_wr16 post (nI C, nI L, nI P, nI T, nI F, sk, zb_f B, zb_f g, zb_f Z, zb_f D, fn, fs, fc, fo, sn, ss, sc, so) q y := by
  subst hq hy
  have e8 : ((nI n).toUInt32 >>> ((8 : Int32).toUInt32 &&& Int32.toUInt32 31)).toInt32 = nI (n / 2 ^ 8) := pk_ushrN (by omega) 8 8 (by decide)
  unfold wpY_wr16
  dsimp only
  refine yl_w p (n / 2 ^ (8 * 0) % 256) rfl ?_ (by omega) ?_
  · rw [zn_255 (by omega), zn_255 (by omega), show 2 ^ (8 * 0) = 1 from rfl, Nat.div_one, Nat.mod_mod]
  refine yl_w (p + 1) (n / 2 ^ (8 * 1) % 256) (nI_1 p) ?_ (by omega) ?_
  · rw [e8, zn_255 (by omega), zn_255 (by omega), Nat.mod_mod]
  exact k
theorem yn_4 {n : Nat} (hn : n < 4294967296) (t : Nat) (ht : t < 4) {y : Int32} (hy : y = nI (8 * t)) : (((lN n).toUInt64 >>> (y.toInt64.toUInt64 &&& Int64.toUInt64 63)).toInt64 &&& 255).toInt32 &&& 255 = nI (n / 2 ^ (8 * t) % 256) := by
  subst hy
  have hd : n / 2 ^ (8 * t) ≤ n := Nat.div_le_self _ _
  have e : lN (n / 2 ^ (8 * t)) &&& 255 = lN (n / 2 ^ (8 * t) % 256) := wb_mask (k := 8) (by omega) (by decide)
  rw [wb_shr (by omega) (by omega), e, lN_i, zn_255 (by omega), Nat.mod_mod]
theorem yl_w4 {post : SY → Prop} {q : Int32} {y : Int64} (p n : Nat) (hq : q = nI p) (hy : y = lN n) (hn : n < 4294967296) (h : p + 4 ≤ 256) (k : post (nI C, nI L, nI P, nI T, nI F, sk, zb_f (zb_n B p n 4), zb_f g, zb_f Z, zb_f D, fn, fs, fc, fo, sn, ss, sc, so)) : wpY_wr32 post (nI C, nI L, nI P, nI T, nI F, sk, zb_f B, zb_f g, zb_f Z, zb_f D, fn, fs, fc, fo, sn, ss, sc, so) q y := by
  subst hq hy
  have e0 : lN n &&& 255 = lN (n % 256) := wb_mask (k := 8) (by omega) (by decide)
  unfold wpY_wr32
  dsimp only
  refine yl_w p (n / 2 ^ (8 * 0) % 256) rfl ?_ (by omega) ?_
  · rw [e0, lN_i, zn_255 (by omega), show 2 ^ (8 * 0) = 1 from rfl, Nat.div_one, Nat.mod_mod]
  refine yl_w (p + 1) (n / 2 ^ (8 * 1) % 256) (nI_1 p) (yn_4 hn 1 (by decide) rfl) (by omega) ?_
  refine yl_w (p + 2) (n / 2 ^ (8 * 2) % 256) (nI_add p 2) (yn_4 hn 2 (by decide) rfl) (by omega) ?_
  refine yl_w (p + 3) (n / 2 ^ (8 * 3) % 256) (nI_add p 3) (yn_4 hn 3 (by decide) rfl) (by omega) ?_
  exact k
theorem yn_s (B : Nat → Nat) (p a b s : Nat) (hs : s = 80 + 75 * 256 + a * 65536 + b * 16777216) (ha : a < 256) (hb : b < 256) : zb_w (zb_w (zb_w (zb_w B p 80) (p + 1) 75) (p + 2) a) (p + 3) b = zb_n B p s 4 := by
  have e0 : s / 2 ^ (8 * 0) % 256 = 80 := by
    rw [show 2 ^ (8 * 0) = 1 from rfl]
    omega
  have e1 : s / 2 ^ (8 * 1) % 256 = 75 := by
    rw [show 2 ^ (8 * 1) = 256 from rfl]
    omega
  have e2 : s / 2 ^ (8 * 2) % 256 = a := by
    rw [show 2 ^ (8 * 2) = 65536 from rfl]
    omega
  have e3 : s / 2 ^ (8 * 3) % 256 = b := by
    rw [show 2 ^ (8 * 3) = 16777216 from rfl]
    omega
  show _ = zb_w (zb_w (zb_w (zb_w B (p + 0) (s / 2 ^ (8 * 0) % 256)) (p + 1) (s / 2 ^ (8 * 1) % 256)) (p + 2) (s / 2 ^ (8 * 2) % 256)) (p + 3) (s / 2 ^ (8 * 3) % 256)
  rw [e0, e1, e2, e3]
  rfl
/-! the checksum -/
theorem yk_6 {post : Int32 → Prop} {c : Nat} (hc : c < 2 ^ 32) (k : post (nI (zk_8 c 8))) : ∀ r t n, t + r = 8 → r < n → wY_crcByte_6 post (nI C) (nI L) (nI P) (nI T) (nI F) sk (zb_f B) (zb_f g) (zb_f Z) (zb_f D) fn fs fc fo sn ss sc so n (nI (zk_8 c t)) (nI t) := by
  intro r
  induction r with
  | zero =>
    intro t n ht hn
    obtain ⟨n, rfl⟩ : ∃ m, n = m + 1 := ⟨n - 1, by omega⟩
    have e : t = 8 := by omega
    subst e
    exact br_t (nI_le (a := 8) (b := 8) (Nat.le_refl _) (by omega)) k
  | succ r ih =>
    intro t n ht hn
    obtain ⟨n, rfl⟩ : ∃ m, n = m + 1 := ⟨n - 1, by omega⟩
    have hl := zk_8_lt hc t
    have W := ih (t + 1) n (by omega) (by omega)
    have s1 : ((nI (zk_8 c t)).toUInt32 >>> ((1 : Int32).toUInt32 &&& Int32.toUInt32 31)).toInt32 = nI (zk_8 c t / 2) := pk_ushrN (by omega) 1 1 (by decide)
    have s2 : nI (zk_8 c t) &&& 1 = nI (zk_8 c t % 2) := pk_andN (by omega) 1 (by decide)
    refine br_f (nI_ge (b := 8) (by omega) (by decide)) ?_
    rw [s1, s2]
    by_cases o : zk_8 c t % 2 = 1
    · refine br_t (by rw [o]; rfl) (nm_r (e' := nI (zk_8 c (t + 1))) ?_ (nm_r (nI_1 t) W))
      have e : zk_8 c (t + 1) = zk_8 c t / 2 ^^^ 3988292384 := if_pos o
      rw [e, show (-306674912 : Int32) = nI 3988292384 from by decide +kernel]
      exact nx_xor _ _
    · refine br_f (fun z => o ((nI_eq (b := 1) (by omega) (by decide)).mp z)) (nm_r (e' := nI (zk_8 c (t + 1))) ?_ (nm_r (nI_1 t) W))
      have e : zk_8 c (t + 1) = zk_8 c t / 2 := if_neg o
      rw [e]
theorem yk_b {post : Int32 → Prop} {x y : Int32} (c b : Nat) (hx : x = nI c) (hy : y = nI b) (hc : c ^^^ b < 2 ^ 32) (k : post (nI (zk_8 (c ^^^ b) 8))) : wpY_crcByte post (nI C, nI L, nI P, nI T, nI F, sk, zb_f B, zb_f g, zb_f Z, zb_f D, fn, fs, fc, fo, sn, ss, sc, so) x y := by
  subst hx hy
  exact nm_r (nx_xor c b) ⟨9, yk_6 hc k 8 0 9 (by omega) (by omega)⟩
theorem yk_e {c : Nat} (hc : c < 2 ^ 32) : (nI c ^^^ (-1)).toInt64 &&& 4294967295 = lN (c ^^^ 4294967295) := by
  rw [show (-1 : Int32) = nI 4294967295 from by decide +kernel, nx_xor]
  exact zn_long (Nat.xor_lt_two_pow hc (by decide))
theorem yk_i5 {post : Int64 → Prop} {s m : Nat} (hB : zb_B B) (hs : s + m ≤ 256) (k : post (lN (zk_F B s m))) : ∀ r i n, i + r = m → r < n → wY_crcImg_5 post (nI s) (nI m) (nI C) (nI L) (nI P) (nI T) (nI F) sk (zb_f B) (zb_f g) (zb_f Z) (zb_f D) fn fs fc fo sn ss sc so n (nI (zk_K B s i)) (nI i) := by
  intro r
  induction r with
  | zero =>
    intro i n hi hn
    obtain ⟨n, rfl⟩ : ∃ m, n = m + 1 := ⟨n - 1, by omega⟩
    have e : i = m := by omega
    subst e
    exact br_t (nI_le (Nat.le_refl _) (by omega)) (zq_v (P := post) (yk_e (zk_K_lt hB s i)) k)
  | succ r ih =>
    intro i n hi hn
    obtain ⟨n, rfl⟩ : ∃ m, n = m + 1 := ⟨n - 1, by omega⟩
    refine br_f (nI_ge (by omega) (by omega)) (br_f (nI_ge (b := 256) (by omega) (by decide)) ?_)
    refine yl_b (s + i) (nI_add s i) (by omega) ?_
    exact yk_b (zk_K B s i) (B (s + i)) rfl rfl (zk_x_lt hB (zk_K_lt hB s i) _) (nm_r (nI_1 i) (ih (i + 1) n (by omega) (by omega)))
theorem yk_i {post : Int64 → Prop} {x y : Int32} (s m : Nat) (hx : x = nI s) (hy : y = nI m) (hB : zb_B B) (hs : s + m ≤ 256) (k : post (lN (zk_F B s m))) : wpY_crcImg post (nI C, nI L, nI P, nI T, nI F, sk, zb_f B, zb_f g, zb_f Z, zb_f D, fn, fs, fc, fo, sn, ss, sc, so) x y := by
  subst hx hy
  exact ⟨m + 1, yk_i5 hB hs k m 0 (m + 1) (by omega) (by omega)⟩
theorem yk_p5 {post : Int64 → Prop} {s m : Nat} (hD : zb_B D) (hs : s + m ≤ 128) (k : post (lN (zk_F D s m))) : ∀ r i n, i + r = m → r < n → wY_crcPend_5 post (nI s) (nI m) (nI C) (nI L) (nI P) (nI T) (nI F) sk (zb_f B) (zb_f g) (zb_f Z) (zb_f D) fn fs fc fo sn ss sc so n (nI (zk_K D s i)) (nI i) := by
  intro r
  induction r with
  | zero =>
    intro i n hi hn
    obtain ⟨n, rfl⟩ : ∃ m, n = m + 1 := ⟨n - 1, by omega⟩
    have e : i = m := by omega
    subst e
    exact br_t (nI_le (Nat.le_refl _) (by omega)) (zq_v (P := post) (yk_e (zk_K_lt hD s i)) k)
  | succ r ih =>
    intro i n hi hn
    obtain ⟨n, rfl⟩ : ∃ m, n = m + 1 := ⟨n - 1, by omega⟩
    refine br_f (nI_ge (by omega) (by omega)) (br_f (nI_ge (b := 128) (by omega) (by decide)) (nm_r (nI_add s i) (br_f (nI_pos (by omega)) (br_f (nI_ge (b := 128) (by omega) (by decide)) ⟨vp_in_nI (by omega) (by omega), ?_⟩))))
    rw [nI_clamp (by omega)]
    exact yk_b (zk_K D s i) (D (s + i)) rfl rfl (zk_x_lt hD (zk_K_lt hD s i) _) (nm_r (nI_1 i) (ih (i + 1) n (by omega) (by omega)))
theorem yk_p {post : Int64 → Prop} {x y : Int32} (s m : Nat) (hx : x = nI s) (hy : y = nI m) (hD : zb_B D) (hs : s + m ≤ 128) (k : post (lN (zk_F D s m))) : wpY_crcPend post (nI C, nI L, nI P, nI T, nI F, sk, zb_f B, zb_f g, zb_f Z, zb_f D, fn, fs, fc, fo, sn, ss, sc, so) x y := by
  subst hx hy
  exact ⟨m + 1, yk_p5 hD hs k m 0 (m + 1) (by omega) (by omega)⟩
/-! the scratch table and the directory -/
theorem yl_t {post : SY → Prop} {x1 x2 x4 : Int32} {x3 : Int64} (m : Nat) (hm : m < 64) (k : post (nI C, nI L, nI P, nI T, nI F, nI (m + 1), zb_f B, zb_f g, zb_f Z, zb_f D, fn, fs, fc, fo, upd sn m x1, upd ss m x2, vp_updL sc m x3, upd so m x4)) : wpY_addScratch post (nI C, nI L, nI P, nI T, nI F, nI m, zb_f B, zb_f g, zb_f Z, zb_f D, fn, fs, fc, fo, sn, ss, sc, so) x1 x2 x3 x4 := by
  have c : (nI m).toNatClampNeg = m := nI_clamp (by omega)
  have w : vp_in (nI m) 64 := vp_in_nI hm (by omega)
  exact br_f (nI_ge (b := 64) hm (by decide)) ⟨w, nm_r (e' := upd sn m x1) (by rw [c]) ⟨w, nm_r (e' := upd ss m x2) (by rw [c]) ⟨w, nm_r (e' := vp_updL sc m x3) (by rw [c]) ⟨w, nm_r (e' := upd so m x4) (by rw [c]) (nm_r (nI_1 m) k)⟩⟩⟩⟩
/-- the inner loop when no entry from j on has the name -/
theorem yd_14n {post : SY → Prop} {J : Int32 → Int32 → Int32 → Int32 → Int32 → Int32 → Int32 → Int32 → (Nat → Int32) → (Nat → Int32) → (Nat → Int32) → (Nat → Int32) → (Nat → Int32) → (Nat → Int32) → (Nat → Int64) → (Nat → Int32) → (Nat → Int32) → (Nat → Int32) → (Nat → Int64) → (Nat → Int32) → Prop} {x1 x2 : Int32} {v m : Nat} {a : Nat → Nat} (hm : m < 64) (hv : v < 256) (ha : ∀ i, i < m → a i < 256 ∧ sn i = nI (a i)) (k : J x2 (nI (v + 1)) (nI C) (nI L) (nI P) (nI T) (nI F) (nI m) (zb_f B) (zb_f g) (zb_f Z) (zb_f D) fn fs fc fo sn ss sc so) :
    ∀ r j n, j + r = m → r < n → (∀ i, j ≤ i → i < m → a i ≠ v) → wY_writeDir_14 post J x1 (nI v) n x2 (nI j) (nI C) (nI L) (nI P) (nI T) (nI F) (nI m) (zb_f B) (zb_f g) (zb_f Z) (zb_f D) fn fs fc fo sn ss sc so := by
  intro r
  induction r with
  | zero =>
    intro j n hj hn h
    obtain ⟨n, rfl⟩ : ∃ m, n = m + 1 := ⟨n - 1, by omega⟩
    exact br_t (nI_le (by omega) (by omega)) (nm_r (nI_1 v) k)
  | succ r ih =>
    intro j n hj hn h
    obtain ⟨n, rfl⟩ : ∃ m, n = m + 1 := ⟨n - 1, by omega⟩
    obtain ⟨a1, a2⟩ := ha j (by omega)
    have h1 := h j (Nat.le_refl _) (by omega)
    refine br_f (nI_ge (by omega) (by omega)) ⟨vp_in_nI (by omega) (by omega), ?_⟩
    rw [nI_clamp (by omega), a2]
    exact br_f (fun z => h1 ((nI_eq (by omega) (by omega)).mp z)) (nm_r (nI_1 j) (ih (j + 1) n (by omega) (by omega) (fun i hi1 hi2 => h i (by omega) hi2)))
theorem yd_14h {post : SY → Prop} {J : Int32 → Int32 → Int32 → Int32 → Int32 → Int32 → Int32 → Int32 → (Nat → Int32) → (Nat → Int32) → (Nat → Int32) → (Nat → Int32) → (Nat → Int32) → (Nat → Int32) → (Nat → Int64) → (Nat → Int32) → (Nat → Int32) → (Nat → Int32) → (Nat → Int64) → (Nat → Int32) → Prop} {x1 : Int32} {p v m z k o j0 : Nat} {a : Nat → Nat} (hm : m < 64) (hv : v < 256) (ha : ∀ i, i < m → a i < 256 ∧ sn i = nI (a i)) (hp : p + 13 ≤ 256) (hz : z < 65536) (hk : k < 4294967296) (ho : o < 65536) (h0 : j0 < m) (hu : ∀ i, i < m → a i = v → i = j0) (e0 : a j0 = v) (e1 : ss j0 = nI z) (e2 : sc j0 = lN k) (e3 : so j0 = nI o)
    (K : J (nI (p + 13)) (nI (v + 1)) (nI C) (nI L) (nI P) (nI T) (nI F) (nI m) (zb_f (zd_c B p v z k o)) (zb_f g) (zb_f Z) (zb_f D) fn fs fc fo sn ss sc so) :
    ∀ r j n, j + r = j0 → r + (m - j0) < n → wY_writeDir_14 post J x1 (nI v) n (nI p) (nI j) (nI C) (nI L) (nI P) (nI T) (nI F) (nI m) (zb_f B) (zb_f g) (zb_f Z) (zb_f D) fn fs fc fo sn ss sc so := by
  intro r
  induction r with
  | zero =>
    intro j n hj hn
    obtain ⟨n, rfl⟩ : ∃ m, n = m + 1 := ⟨n - 1, by omega⟩
    have e : j = j0 := by omega
    subst e
    have c : (nI j).toNatClampNeg = j := nI_clamp (by omega)
    have w : vp_in (nI j) 64 := vp_in_nI (by omega) (by omega)
    refine br_f (nI_ge (by omega) (by omega)) ⟨w, ?_⟩
    refine br_t (by rw [c, (ha j h0).2, e0]) ?_
    refine yl_w p 80 rfl (by decide +kernel) (by omega) ?_
    refine yl_w (p + 1) 75 (nI_1 p) (by decide +kernel) (by omega) ?_
    refine yl_w (p + 2) 1 (nI_add p 2) (by decide +kernel) (by omega) ?_
    refine yl_w (p + 3) 2 (nI_add p 3) (by decide +kernel) (by omega) ?_
    rw [yn_s B p 1 2 33639248 (by decide) (by decide) (by decide)]
    refine yl_w1 (p + 4) v (nI_add p 4) rfl (by omega) (by omega) ?_
    refine ⟨w, ?_⟩
    refine yl_w2 (p + 5) z (nI_add p 5) (by rw [c]; exact e1) hz (by omega) ?_
    refine ⟨w, ?_⟩
    refine yl_w4 (p + 7) k (nI_add p 7) (by rw [c]; exact e2) hk (by omega) ?_
    refine ⟨w, ?_⟩
    refine yl_w2 (p + 11) o (nI_add p 11) (by rw [c]; exact e3) ho (by omega) ?_
    refine nm_r (nI_add p 13) (nm_r (nI_1 j) ?_)
    exact yd_14n hm hv ha K (m - (j + 1)) (j + 1) n (by omega) (by omega) (fun i h1 h2 z => by
      have := hu i h2 z
      omega)
  | succ r ih =>
    intro j n hj hn
    obtain ⟨n, rfl⟩ : ∃ m, n = m + 1 := ⟨n - 1, by omega⟩
    obtain ⟨a1, a2⟩ := ha j (by omega)
    have h1 : a j ≠ v := fun z => by
      have := hu j (by omega) z
      omega
    refine br_f (nI_ge (by omega) (by omega)) ⟨vp_in_nI (by omega) (by omega), ?_⟩
    rw [nI_clamp (by omega), a2]
    exact br_f (fun z => h1 ((nI_eq (by omega) (by omega)).mp z)) (nm_r (nI_1 j) (ih (j + 1) n (by omega) (by omega)))
theorem yd_4 {post : SY → Prop} {A : Nat → Option (Nat × Nat × Nat)} {m d : Nat} {a : Nat → Nat} (hR : zt_R A m sn ss sc so a) (hb : ∀ v z k o, A v = some (z, k, o) → z < 65536 ∧ k < 4294967296 ∧ o < 65536) (hm : m < 64) (hD : d + 13 * zt_c A 256 + 9 ≤ 256) (K : post (nI C, nI (d + 13 * zt_c A 256 + 9), nI P, nI T, nI F, nI m, zb_f (zd_f A B d), zb_f g, zb_f Z, zb_f D, fn, fs, fc, fo, sn, ss, sc, so)) :
    ∀ r v n, v + r = 256 → r < n → wY_writeDir_4 post (nI d) n (nI (d + 13 * zt_c A v)) (nI v) (nI C) (nI L) (nI P) (nI T) (nI F) (nI m) (zb_f (zd_l A B d v)) (zb_f g) (zb_f Z) (zb_f D) fn fs fc fo sn ss sc so := by
  obtain ⟨rfl, h2, h3, h4⟩ := hR
  have ha : ∀ i, i < zt_c A 256 → a i < 256 ∧ sn i = nI (a i) := fun i hi => ⟨(h2 i hi).1, (h2 i hi).2.1⟩
  intro r
  induction r with
  | zero =>
    intro v n hv hn
    obtain ⟨n, rfl⟩ : ∃ m, n = m + 1 := ⟨n - 1, by omega⟩
    have e : v = 256 := by omega
    subst e
    refine br_t (nI_le (a := 256) (b := 256) (Nat.le_refl _) (by omega)) ?_
    have hd : d < 65536 := by omega
    have K2 : post (nI C, nI (d + 13 * zt_c A 256 + 9), nI P, nI T, nI F, nI (zt_c A 256), zb_f (zd_e (zd_l A B d 256) (d + 13 * zt_c A 256) (zt_c A 256) d), zb_f g, zb_f Z, zb_f D, fn, fs, fc, fo, sn, ss, sc, so) := K
    generalize d + 13 * zt_c A 256 = p at *
    generalize zd_l A B d 256 = B2 at *
    refine yl_w p 80 rfl (by decide +kernel) (by omega) ?_
    refine yl_w (p + 1) 75 (nI_1 p) (by decide +kernel) (by omega) ?_
    refine yl_w (p + 2) 5 (nI_add p 2) (by decide +kernel) (by omega) ?_
    refine yl_w (p + 3) 6 (nI_add p 3) (by decide +kernel) (by omega) ?_
    rw [yn_s B2 p 5 6 101010256 (by decide) (by decide) (by decide)]
    refine yl_w1 (p + 4) (zt_c A 256) (nI_add p 4) rfl (by omega) (by omega) ?_
    refine yl_w2 (p + 5) d (nI_add p 5) rfl hd (by omega) ?_
    refine yl_w2 (p + 7) (13 * zt_c A 256) (nI_add p 7) (zq_m13 _) (by omega) (by omega) ?_
    exact nm_r (nI_add p 9) K2
  | succ r ih =>
    intro v n hv hn
    obtain ⟨n, rfl⟩ : ∃ m, n = m + 1 := ⟨n - 1, by omega⟩
    refine br_f (nI_ge (b := 256) (by omega) (by decide)) ?_
    have W := ih (v + 1) n (by omega) (by omega)
    cases h : A v with
    | none =>
      obtain ⟨e1, e2⟩ := zd_l_n A B d v h
      rw [e1, e2] at W
      exact ⟨zt_c A 256 + 1, yd_14n hm (by omega) ha W (zt_c A 256) 0 (zt_c A 256 + 1) (by omega) (by omega) (fun i _ hi z => by
        obtain ⟨_, _, z', k', o', t, _⟩ := h2 i hi
        rw [z, h] at t
        exact nomatch t)⟩
    | some x =>
      obtain ⟨z, k, o⟩ := x
      obtain ⟨e1, e2⟩ := zd_l_s A B d v z k o h
      have e3 : d + 13 * zt_c A (v + 1) = d + 13 * zt_c A v + 13 := by omega
      rw [e1, e3] at W
      have q := zt_c_lt A (v := v) (w := 256) (by omega) h
      obtain ⟨b1, b2, b3⟩ := hb v z k o h
      obtain ⟨j0, hj, ej⟩ := h4 v (by rw [h]; exact fun t => nomatch t)
      obtain ⟨_, _, z', k', o', t, t1, t2, t3⟩ := h2 j0 hj
      rw [ej, h] at t
      have t4 := Option.some.inj t
      have u1 : z = z' := congrArg (fun y => y.1) t4
      have u2 : k = k' := congrArg (fun y => y.2.1) t4
      have u3 : o = o' := congrArg (fun y => y.2.2) t4
      subst u1 u2 u3
      exact ⟨zt_c A 256 + 2, yd_14h hm (by omega) ha (by omega) b1 b2 b3 hj (fun i hi e => h3 i j0 hi hj (e.trans ej.symm)) ej t1 t2 t3 W j0 0 (zt_c A 256 + 2) (by omega) (by omega)⟩
theorem yd {post : SY → Prop} {A : Nat → Option (Nat × Nat × Nat)} {q : Int32} {m : Nat} {a : Nat → Nat} (d : Nat) (hq : q = nI d) (hR : zt_R A m sn ss sc so a) (hb : ∀ v z k o, A v = some (z, k, o) → z < 65536 ∧ k < 4294967296 ∧ o < 65536) (hm : m < 64) (hD : d + 13 * zt_c A 256 + 9 ≤ 256) (K : post (nI C, nI (d + 13 * zt_c A 256 + 9), nI P, nI T, nI F, nI m, zb_f (zd_f A B d), zb_f g, zb_f Z, zb_f D, fn, fs, fc, fo, sn, ss, sc, so)) : wpY_writeDir post (nI C, nI L, nI P, nI T, nI F, nI m, zb_f B, zb_f g, zb_f Z, zb_f D, fn, fs, fc, fo, sn, ss, sc, so) q := by
  subst hq
  have W := yd_4 (L := L) hR hb hm hD K 256 0 257 (by omega) (by omega)
  exact ⟨257, W⟩
end ZY
