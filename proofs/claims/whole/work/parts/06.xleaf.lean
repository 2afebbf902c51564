/-! ===== the component's small methods ===== -/
section ZX
variable {C L P T F : Nat} {B g Z D : Nat → Nat} {st fn fs fo no : Nat → Int32} {fc : Nat → Int64}
theorem xl_b {post : Int32 → Prop} {q : Int32} (p : Nat) (hq : q = nI p) (h : p < L) (hL : L ≤ 256) (k : post (nI (B p))) : wpX_byteAt post (nI C, nI L, nI P, nI T, nI F, zb_f B, zb_f g, st, zb_f Z, zb_f D, fn, fs, fc, fo, no) q := by
  subst hq
  exact br_f (nI_pos (by omega)) (br_t (nI_lt h (by omega)) ⟨vp_in_nI (by omega) (by omega), zq_v (P := post) (by rw [nI_clamp (by omega)]; rfl) k⟩)
theorem xl_2 {post : Int32 → Prop} {q : Int32} (p : Nat) (hq : q = nI p) (h : p + 2 ≤ L) (hL : L ≤ 256) (hB : zb_B B) (k : post (nI (zb_r2 B p))) : wpX_u16 post (nI C, nI L, nI P, nI T, nI F, zb_f B, zb_f g, st, zb_f Z, zb_f D, fn, fs, fc, fo, no) q := by
  subst hq
  have e1 : nI p + 1 = nI (p + 1) := nI_1 p
  have e2 : nI p + 2 = nI (p + 2) := nI_add p 2
  refine br_f (nI_pos (by omega)) (br_t (by rw [e2]; exact nI_le h (by omega)) ⟨vp_in_nI (by omega) (by omega), by rw [e1]; exact vp_in_nI (by omega) (by omega), zq_v (P := post) ?_ k⟩)
  rw [e1, nI_clamp (by omega), nI_clamp (by omega)]
  exact zn_x2 (hB (p + 1))
theorem xl_4 {post : Int64 → Prop} {q : Int32} (p : Nat) (hq : q = nI p) (h : p + 4 ≤ L) (hL : L ≤ 256) (hB : zb_B B) (k : post (lN (zb_r4 B p))) : wpX_u32 post (nI C, nI L, nI P, nI T, nI F, zb_f B, zb_f g, st, zb_f Z, zb_f D, fn, fs, fc, fo, no) q := by
  subst hq
  have e1 : nI p + 1 = nI (p + 1) := nI_1 p
  have e2 : nI p + 2 = nI (p + 2) := nI_add p 2
  have e3 : nI p + 3 = nI (p + 3) := nI_add p 3
  have e4 : nI p + 4 = nI (p + 4) := nI_add p 4
  refine br_f (nI_pos (by omega)) (br_t (by rw [e4]; exact nI_le h (by omega)) ⟨vp_in_nI (by omega) (by omega), by rw [e1]; exact vp_in_nI (by omega) (by omega), nm_r (e' := nI (B p + B (p + 1) * 256)) ?_ ⟨by rw [e2]; exact vp_in_nI (by omega) (by omega), by rw [e3]; exact vp_in_nI (by omega) (by omega), nm_r (e' := (nI (B (p + 2) + B (p + 3) * 256)).toInt64) ?_ (zq_v (P := post) ?_ k)⟩⟩)
  · rw [e1, nI_clamp (by omega), nI_clamp (by omega)]
    exact zn_x2 (hB (p + 1))
  · rw [e2, e3, nI_clamp (by omega), nI_clamp (by omega)]
    exact congrArg Int32.toInt64 (zn_x2 (hB (p + 3)))
  · exact zn_x4 (hB p) (hB (p + 1)) (hB (p + 2)) (hB (p + 3))
theorem xl_4n {post : Int64 → Prop} {q : Int32} (h : q < 0) (k : post (-1)) : wpX_u32 post (nI C, nI L, nI P, nI T, nI F, zb_f B, zb_f g, st, zb_f Z, zb_f D, fn, fs, fc, fo, no) q := br_t h k
theorem xl_a0 {post : SX → Prop} {v w : Nat} (hv : v < 4294967296) (hw : w ≤ 4) (hC : C ≤ 256) (hL : L + w ≤ C) (k : post (nI C, nI (L + w), nI P, nI T, nI F, zb_f (zb_n B L v w), zb_f g, st, zb_f Z, zb_f D, fn, fs, fc, fo, no)) :
    ∀ r i n, i + r = w → r < n → wX_append_3 post (lN v) (nI w) (nI C) (nI P) (nI T) (nI F) n (nI i) (nI (L + i)) (zb_f (zb_n B L v i)) (zb_f g) st (zb_f Z) (zb_f D) fn fs fc fo no := by
  intro r
  induction r with
  | zero =>
    intro i n hi hn
    obtain ⟨n, rfl⟩ : ∃ m, n = m + 1 := ⟨n - 1, by omega⟩
    have e : i = w := by omega
    subst e
    exact br_t (nI_le (Nat.le_refl _) (by omega)) k
  | succ r ih =>
    intro i n hi hn
    obtain ⟨n, rfl⟩ : ∃ m, n = m + 1 := ⟨n - 1, by omega⟩
    refine br_f (nI_ge (by omega) (by omega)) (br_f (nI_ge (by omega) (by omega)) ⟨vp_in_nI (by omega) (by omega), nm_r (e' := zb_f (zb_n B L v (i + 1))) ?_ (nm_r (nI_1 (L + i)) (nm_r (nI_1 i) (ih (i + 1) n (by omega) (by omega))))⟩)
    rw [nI_clamp (by omega), zn_byte hv i (by omega)]
    exact zb_upd _ _ _
theorem xl_a {post : SX → Prop} {x : Int64} {y : Int32} (v w : Nat) (hx : x = lN v) (hy : y = nI w) (hv : v < 4294967296) (hw : w ≤ 4) (hC : C ≤ 256) (hL : L + w ≤ C) (k : post (nI C, nI (L + w), nI P, nI T, nI F, zb_f (zb_n B L v w), zb_f g, st, zb_f Z, zb_f D, fn, fs, fc, fo, no)) : wpX_append post (nI C, nI L, nI P, nI T, nI F, zb_f B, zb_f g, st, zb_f Z, zb_f D, fn, fs, fc, fo, no) x y := by
  subst hx hy
  exact ⟨w + 1, xl_a0 hv hw hC hL k w 0 (w + 1) (by omega) (by omega)⟩
theorem xl_c {post : SX → Prop} {q : Int32} (o v z k : Nat) (hq : q = nI o) (ho : o + 11 ≤ L) (hC : C ≤ 256) (hL : L + 13 ≤ C) (hB : zb_B B) (h1 : B (o + 4) = v) (h2 : zb_r2 B (o + 5) = z) (h3 : zb_r4 B (o + 7) = k) (K : post (nI C, nI (L + 13), nI P, nI T, nI F, zb_f (zd_c B L v z k o), zb_f g, st, zb_f Z, zb_f D, fn, fs, fc, fo, no)) : wpX_appendCentral post (nI C, nI L, nI P, nI T, nI F, zb_f B, zb_f g, st, zb_f Z, zb_f D, fn, fs, fc, fo, no) q := by
  subst hq h1 h2 h3
  have b1 := hB (o + 4)
  have b2 := zb_r2_lt hB (o + 5)
  have b4 := zb_r4_lt hB (o + 7)
  unfold wpX_appendCentral
  dsimp only
  refine xl_b (o + 4) (nI_add o 4) (by omega) (by omega) ?_
  refine xl_2 (o + 5) (nI_add o 5) (by omega) (by omega) hB ?_
  refine xl_4 (o + 7) (nI_add o 7) (by omega) (by omega) hB ?_
  refine xl_a 33639248 4 rfl rfl (by omega) (by omega) hC (by omega) ?_
  refine xl_a (B (o + 4)) 1 (nI_l (by omega)) rfl (by omega) (by omega) hC (by omega) ?_
  refine xl_a (zb_r2 B (o + 5)) 2 (nI_l (by omega)) rfl (by omega) (by omega) hC (by omega) ?_
  refine xl_a (zb_r4 B (o + 7)) 4 rfl rfl (by omega) (by omega) hC (by omega) ?_
  refine xl_a o 2 (nI_l (by omega)) rfl (by omega) (by omega) hC (by omega) ?_
  exact K
theorem xl_n0 {post : Int32 → Prop} {A : Nat → Option (Nat × Nat × Nat)} (hA : zt_X A no) (k : post (nI (zt_c A 256))) :
    ∀ r v n, v + r = 256 → r < n → wX_newCount_4 post (nI C) (nI L) (nI P) (nI T) (nI F) (zb_f B) (zb_f g) st (zb_f Z) (zb_f D) fn fs fc fo no n (nI (zt_c A v)) (nI v) := by
  intro r
  induction r with
  | zero =>
    intro v n hv hn
    obtain ⟨n, rfl⟩ : ∃ m, n = m + 1 := ⟨n - 1, by omega⟩
    have e : v = 256 := by omega
    subst e
    exact br_t (nI_le (a := 256) (b := 256) (Nat.le_refl _) (by omega)) k
  | succ r ih =>
    intro v n hv hn
    obtain ⟨n, rfl⟩ : ∃ m, n = m + 1 := ⟨n - 1, by omega⟩
    have c : (nI v).toNatClampNeg = v := nI_clamp (by omega)
    have a := hA v (by omega)
    refine br_f (nI_ge (b := 256) (by omega) (by decide)) ⟨vp_in_nI (by omega) (by omega), ?_⟩
    rw [c]
    have W := ih (v + 1) n (by omega) (by omega)
    cases h : A v with
    | none =>
      have e : zt_c A (v + 1) = zt_c A v := (zd_l_n A B 0 v h).2
      rw [e] at W
      exact br_t (a.1 h) (nm_r (nI_1 v) W)
    | some x =>
      obtain ⟨z, kk, o⟩ := x
      have b := a.2 z kk o h
      have e : zt_c A (v + 1) = zt_c A v + 1 := (zd_l_s A B 0 v z kk o h).2
      rw [e] at W
      exact br_f (by rw [b.1]; exact zn_m1 o (by omega)) (nm_r (nI_1 _) (nm_r (nI_1 v) W))
theorem xl_n {post : Int32 → Prop} {A : Nat → Option (Nat × Nat × Nat)} (hA : zt_X A no) (k : post (nI (zt_c A 256))) : wpX_newCount post (nI C, nI L, nI P, nI T, nI F, zb_f B, zb_f g, st, zb_f Z, zb_f D, fn, fs, fc, fo, no) :=
  ⟨257, xl_n0 hA k 256 0 257 (by omega) (by omega)⟩
theorem xl_s0 {post : SX → Prop} (k : ∀ no', zt_X zt_0 no' → post (nI C, nI L, nI P, nI T, nI F, zb_f B, zb_f g, st, zb_f Z, zb_f D, fn, fs, fc, fo, no')) :
    ∀ r v n no', v + r = 256 → r < n → (∀ j, j < v → no' j = -1) → wX_startNewDirectory_2 post (nI C) (nI L) (nI P) (nI T) (nI F) n (nI v) (zb_f B) (zb_f g) st (zb_f Z) (zb_f D) fn fs fc fo (no') := by
  intro r
  induction r with
  | zero =>
    intro v n no' hv hn h
    obtain ⟨n, rfl⟩ : ∃ m, n = m + 1 := ⟨n - 1, by omega⟩
    have e : v = 256 := by omega
    subst e
    exact br_t (nI_le (a := 256) (b := 256) (Nat.le_refl _) (by omega)) (k no' (fun j hj => ⟨fun _ => h j hj, fun z kk o e => nomatch (show (none : Option (Nat × Nat × Nat)) = some (z, kk, o) from e)⟩))
  | succ r ih =>
    intro v n no' hv hn h
    obtain ⟨n, rfl⟩ : ∃ m, n = m + 1 := ⟨n - 1, by omega⟩
    refine br_f (nI_ge (b := 256) (by omega) (by decide)) ⟨vp_in_nI (by omega) (by omega), nm_r (e' := upd no' v (-1)) (by rw [nI_clamp (by omega)]) (nm_r (nI_1 v) (ih (v + 1) n _ (by omega) (by omega) (fun j hj => ?_)))⟩
    by_cases c : j = v
    · rw [c, pk_us]
    · rw [pk_un c]
      exact h j (by omega)
theorem xl_s {post : SX → Prop} (k : ∀ no', zt_X zt_0 no' → post (nI C, nI L, nI P, nI T, nI F, zb_f B, zb_f g, st, zb_f Z, zb_f D, fn, fs, fc, fo, no')) : wpX_startNewDirectory post (nI C, nI L, nI P, nI T, nI F, zb_f B, zb_f g, st, zb_f Z, zb_f D, fn, fs, fc, fo, no) :=
  ⟨257, xl_s0 k 256 0 257 no (by omega) (by omega) (fun j hj => by omega)⟩
theorem xl_d0 {post : SX → Prop} {A : Nat → Option (Nat × Nat × Nat)} (hA : zt_X A no) (hC : C ≤ 256) (hB : zb_B B) (hQ : ∀ v x, A v = some x → zd_Q B L v x) (hD : L + 13 * zt_c A 256 + 9 ≤ C) (k : post (nI C, nI (L + 13 * zt_c A 256 + 9), nI P, nI T, nI F, zb_f (zd_f A B L), zb_f g, st, zb_f Z, zb_f D, fn, fs, fc, fo, no)) :
    ∀ r v n, v + r = 256 → r < n → wX_appendNewDirectory_12 post (nI L) (nI (zt_c A 256)) n (nI v) (nI C) (nI (L + 13 * zt_c A v)) (nI P) (nI T) (nI F) (zb_f (zd_l A B L v)) (zb_f g) st (zb_f Z) (zb_f D) fn fs fc fo no := by
  intro r
  induction r with
  | zero =>
    intro v n hv hn
    obtain ⟨n, rfl⟩ : ∃ m, n = m + 1 := ⟨n - 1, by omega⟩
    have e : v = 256 := by omega
    subst e
    refine br_t (nI_le (a := 256) (b := 256) (Nat.le_refl _) (by omega)) ?_
    refine xl_a 101010256 4 rfl rfl (by omega) (by omega) hC (by omega) ?_
    refine xl_a (zt_c A 256) 1 (nI_l (by omega)) rfl (by omega) (by omega) hC (by omega) ?_
    refine xl_a L 2 (nI_l (by omega)) rfl (by omega) (by omega) hC (by omega) ?_
    refine xl_a (13 * zt_c A 256) 2 (by rw [zq_m13]; exact nI_l (by omega)) rfl (by omega) (by omega) hC (by omega) ?_
    exact k
  | succ r ih =>
    intro v n hv hn
    obtain ⟨n, rfl⟩ : ∃ m, n = m + 1 := ⟨n - 1, by omega⟩
    have c : (nI v).toNatClampNeg = v := nI_clamp (by omega)
    have a := hA v (by omega)
    refine br_f (nI_ge (b := 256) (by omega) (by decide)) ⟨vp_in_nI (by omega) (by omega), ?_⟩
    rw [c]
    have W := ih (v + 1) n (by omega) (by omega)
    cases h : A v with
    | none =>
      obtain ⟨e1, e2⟩ := zd_l_n A B L v h
      rw [e1, e2] at W
      exact br_t (a.1 h) (nm_r (nI_1 v) W)
    | some x =>
      obtain ⟨z, kk, o⟩ := x
      have b := a.2 z kk o h
      obtain ⟨e1, e2⟩ := zd_l_s A B L v z kk o h
      have e3 : L + 13 * zt_c A (v + 1) = L + 13 * zt_c A v + 13 := by omega
      rw [e1, e3] at W
      have q := zt_c_lt A (v := v) (w := 256) (by omega) h
      obtain ⟨q1, q2, q3, q4⟩ := zd_Q_c (A := zd_l A B L v) (D' := L + 13 * zt_c A v) (hQ v _ h) (by omega) (fun j hj => zd_l_lo A B L v j hj)
      refine br_f (by rw [b.1]; exact zn_m1 o (by omega)) ⟨vp_in_nI (by omega) (by omega), ?_⟩
      exact xl_c o v z kk b.1 q1 hC (by omega) (zd_l_B A hB L v) q2 q3 q4 (nm_r (nI_1 v) W)
theorem xl_d {post : SX → Prop} {A : Nat → Option (Nat × Nat × Nat)} (hA : zt_X A no) (hC : C ≤ 256) (hB : zb_B B) (hQ : ∀ v x, A v = some x → zd_Q B L v x) (hD : L + 13 * zt_c A 256 + 9 ≤ C) (k : post (nI C, nI (L + 13 * zt_c A 256 + 9), nI P, nI T, nI F, zb_f (zd_f A B L), zb_f g, st, zb_f Z, zb_f D, fn, fs, fc, fo, no)) : wpX_appendNewDirectory post (nI C, nI L, nI P, nI T, nI F, zb_f B, zb_f g, st, zb_f Z, zb_f D, fn, fs, fc, fo, no) := by
  have W := xl_d0 hA hC hB hQ hD k 256 0 257 (by omega) (by omega)
  exact xl_n hA ⟨257, W⟩
theorem xl_y1 {post : Int32 → Prop} {j : Nat} (h : j < 256) (k : post 1) : wpX_isByte post (nI j) :=
  br_f (nI_pos (by omega)) (br_f (nI_nlt (a := 255) (by omega) (by decide)) k)
theorem zn_256 {x : Int32} (h : nI 256 ≤ x) : (255 : Int32) < x ∧ ¬ x ≤ 255 ∧ ¬ x < 0 := by
  rw [Int32.le_iff_toInt_le, nI_toInt (by decide)] at h
  have e : (255 : Int32).toInt = 255 := by decide
  have e0 : (0 : Int32).toInt = 0 := by decide
  rw [Int32.lt_iff_toInt_lt, Int32.le_iff_toInt_le, Int32.lt_iff_toInt_lt, e, e0]
  omega
theorem xl_y0 {post : Int32 → Prop} {x : Int32} (h : x < 0 ∨ nI 256 ≤ x) (k : post 0) : wpX_isByte post x := by
  rcases h with h | h
  · exact br_t h k
  · exact br_f (zn_256 h).2.2 (br_t (zn_256 h).1 k)
/-! the checksum, over the two arrays -/
theorem xk_p26 {post : Int64 → Prop} {J : Int64 → Int32 → Prop} {x1 x2 : Int32} {i c : Nat} (hc : c < 2 ^ 32) (k : J (lN (zk_8 c 8)) (nI (i + 1))) :
    ∀ r t n, t + r = 8 → r < n → wX_crcOf__pendingData_26 post J x1 x2 (nI i) (nI C) (nI L) (nI P) (nI T) (nI F) (zb_f B) (zb_f g) st (zb_f Z) (zb_f D) fn fs fc fo no n (lN (zk_8 c t)) (nI t) := by
  intro r
  induction r with
  | zero =>
    intro t n ht hn
    obtain ⟨n, rfl⟩ : ∃ m, n = m + 1 := ⟨n - 1, by omega⟩
    have e : t = 8 := by omega
    subst e
    exact br_t (nI_le (a := 8) (b := 8) (Nat.le_refl _) (by omega)) (nm_r (nI_1 i) k)
  | succ r ih =>
    intro t n ht hn
    obtain ⟨n, rfl⟩ : ∃ m, n = m + 1 := ⟨n - 1, by omega⟩
    have hl := zk_8_lt hc t
    have W := ih (t + 1) n (by omega) (by omega)
    have s1 : ((lN (zk_8 c t)).toUInt64 >>> ((1 : Int32).toInt64.toUInt64 &&& Int64.toUInt64 63)).toInt64 = lN (zk_8 c t / 2) := wb_shr (k := 1) (by omega) (by decide)
    have s2 : lN (zk_8 c t) &&& 1 = lN (zk_8 c t % 2) := wb_a1 (by omega)
    refine br_f (nI_ge (b := 8) (by omega) (by decide)) ?_
    rw [s1, s2]
    by_cases o : zk_8 c t % 2 = 1
    · refine br_t (by rw [o]; rfl) (nm_r (e' := lN (zk_8 c (t + 1))) ?_ (nm_r (nI_1 t) W))
      have e : zk_8 c (t + 1) = zk_8 c t / 2 ^^^ 3988292384 := if_pos o
      rw [e]
      exact lN_xor _ 3988292384
    · refine br_f (fun z => o ((pk_lEQ (b := 1) (by omega) (by decide)).mp z)) (nm_r (e' := lN (zk_8 c (t + 1))) ?_ (nm_r (nI_1 t) W))
      have e : zk_8 c (t + 1) = zk_8 c t / 2 := if_neg o
      rw [e]
theorem xk_p7 {post : Int64 → Prop} {s m : Nat} (hD : zb_B D) (hs : s + m ≤ 128) (k : post (lN (zk_F D s m))) :
    ∀ r i n, i + r = m → r < n → wX_crcOf__pendingData_7 post (nI s) (nI m) (nI C) (nI L) (nI P) (nI T) (nI F) (zb_f B) (zb_f g) st (zb_f Z) (zb_f D) fn fs fc fo no n (lN (zk_K D s i)) (nI i) := by
  intro r
  induction r with
  | zero =>
    intro i n hi hn
    obtain ⟨n, rfl⟩ : ∃ m, n = m + 1 := ⟨n - 1, by omega⟩
    have e : i = m := by omega
    subst e
    exact br_t (nI_le (Nat.le_refl _) (by omega)) (zq_v (P := post) (lN_xor _ 4294967295) k)
  | succ r ih =>
    intro i n hi hn
    obtain ⟨n, rfl⟩ : ∃ m, n = m + 1 := ⟨n - 1, by omega⟩
    have hb := hD (s + i)
    have e : nI s + nI i = nI (s + i) := nI_add s i
    have W := ih (i + 1) n (by omega) (by omega)
    refine br_f (nI_ge (by omega) (by omega)) ⟨by rw [e]; exact vp_in_nI (by omega) (by omega), nm_r (e' := lN (zk_K D s i ^^^ D (s + i))) ?_ ⟨9, xk_p26 (zk_x_lt hD (zk_K_lt hD s i) _) W 8 0 9 (by omega) (by omega)⟩⟩
    rw [e, nI_clamp (by omega)]
    show lN (zk_K D s i) ^^^ (nI (D (s + i))).toInt64 = _
    rw [nI_l (by omega), lN_xor]
theorem xk_p {post : Int64 → Prop} {x y : Int32} (s m : Nat) (hx : x = nI s) (hy : y = nI m) (hD : zb_B D) (hs : s + m ≤ 128) (k : post (lN (zk_F D s m))) : wpX_crcOf__pendingData post (nI C, nI L, nI P, nI T, nI F, zb_f B, zb_f g, st, zb_f Z, zb_f D, fn, fs, fc, fo, no) x y := by
  subst hx hy
  exact ⟨m + 1, xk_p7 hD hs k m 0 (m + 1) (by omega) (by omega)⟩
theorem xk_i26 {post : Int64 → Prop} {J : Int64 → Int32 → Prop} {x1 x2 : Int32} {i c : Nat} (hc : c < 2 ^ 32) (k : J (lN (zk_8 c 8)) (nI (i + 1))) :
    ∀ r t n, t + r = 8 → r < n → wX_crcOf__image_26 post J x1 x2 (nI i) (nI C) (nI L) (nI P) (nI T) (nI F) (zb_f B) (zb_f g) st (zb_f Z) (zb_f D) fn fs fc fo no n (lN (zk_8 c t)) (nI t) := by
  intro r
  induction r with
  | zero =>
    intro t n ht hn
    obtain ⟨n, rfl⟩ : ∃ m, n = m + 1 := ⟨n - 1, by omega⟩
    have e : t = 8 := by omega
    subst e
    exact br_t (nI_le (a := 8) (b := 8) (Nat.le_refl _) (by omega)) (nm_r (nI_1 i) k)
  | succ r ih =>
    intro t n ht hn
    obtain ⟨n, rfl⟩ : ∃ m, n = m + 1 := ⟨n - 1, by omega⟩
    have hl := zk_8_lt hc t
    have W := ih (t + 1) n (by omega) (by omega)
    have s1 : ((lN (zk_8 c t)).toUInt64 >>> ((1 : Int32).toInt64.toUInt64 &&& Int64.toUInt64 63)).toInt64 = lN (zk_8 c t / 2) := wb_shr (k := 1) (by omega) (by decide)
    have s2 : lN (zk_8 c t) &&& 1 = lN (zk_8 c t % 2) := wb_a1 (by omega)
    refine br_f (nI_ge (b := 8) (by omega) (by decide)) ?_
    rw [s1, s2]
    by_cases o : zk_8 c t % 2 = 1
    · refine br_t (by rw [o]; rfl) (nm_r (e' := lN (zk_8 c (t + 1))) ?_ (nm_r (nI_1 t) W))
      have e : zk_8 c (t + 1) = zk_8 c t / 2 ^^^ 3988292384 := if_pos o
      rw [e]
      exact lN_xor _ 3988292384
    · refine br_f (fun z => o ((pk_lEQ (b := 1) (by omega) (by decide)).mp z)) (nm_r (e' := lN (zk_8 c (t + 1))) ?_ (nm_r (nI_1 t) W))
      have e : zk_8 c (t + 1) = zk_8 c t / 2 := if_neg o
      rw [e]
theorem xk_i7 {post : Int64 → Prop} {s m : Nat} (hB : zb_B B) (hs : s + m ≤ 256) (k : post (lN (zk_F B s m))) :
    ∀ r i n, i + r = m → r < n → wX_crcOf__image_7 post (nI s) (nI m) (nI C) (nI L) (nI P) (nI T) (nI F) (zb_f B) (zb_f g) st (zb_f Z) (zb_f D) fn fs fc fo no n (lN (zk_K B s i)) (nI i) := by
  intro r
  induction r with
  | zero =>
    intro i n hi hn
    obtain ⟨n, rfl⟩ : ∃ m, n = m + 1 := ⟨n - 1, by omega⟩
    have e : i = m := by omega
    subst e
    exact br_t (nI_le (Nat.le_refl _) (by omega)) (zq_v (P := post) (lN_xor _ 4294967295) k)
  | succ r ih =>
    intro i n hi hn
    obtain ⟨n, rfl⟩ : ∃ m, n = m + 1 := ⟨n - 1, by omega⟩
    have hb := hB (s + i)
    have e : nI s + nI i = nI (s + i) := nI_add s i
    have W := ih (i + 1) n (by omega) (by omega)
    refine br_f (nI_ge (by omega) (by omega)) ⟨by rw [e]; exact vp_in_nI (by omega) (by omega), nm_r (e' := lN (zk_K B s i ^^^ B (s + i))) ?_ ⟨9, xk_i26 (zk_x_lt hB (zk_K_lt hB s i) _) W 8 0 9 (by omega) (by omega)⟩⟩
    rw [e, nI_clamp (by omega)]
    show lN (zk_K B s i) ^^^ (nI (B (s + i))).toInt64 = _
    rw [nI_l (by omega), lN_xor]
theorem xk_i {post : Int64 → Prop} {x y : Int32} (s m : Nat) (hx : x = nI s) (hy : y = nI m) (hB : zb_B B) (hs : s + m ≤ 256) (k : post (lN (zk_F B s m))) : wpX_crcOf__image post (nI C, nI L, nI P, nI T, nI F, zb_f B, zb_f g, st, zb_f Z, zb_f D, fn, fs, fc, fo, no) x y := by
  subst hx hy
  exact ⟨m + 1, xk_i7 hB hs k m 0 (m + 1) (by omega) (by omega)⟩
end ZX
