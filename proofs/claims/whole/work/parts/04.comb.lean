/-! ===== entries that stand in the image ===== -/
def zd_Q (B : Nat → Nat) (D v : Nat) (x : Nat × Nat × Nat) : Prop := x.2.2 + 11 ≤ D ∧ B (x.2.2 + 4) = v ∧ zb_r2 B (x.2.2 + 5) = x.1 ∧ zb_r4 B (x.2.2 + 7) = x.2.1
def zc_n (B : Nat → Nat) (d i : Nat) : Nat := B (d + 13 * i + 4)
def zc_e (B : Nat → Nat) (d i : Nat) : Nat × Nat × Nat := (zb_r2 B (d + 13 * i + 5), zb_r4 B (d + 13 * i + 7), zb_r2 B (d + 13 * i + 11))
def zc_p (Z D : Nat → Nat) (L k : Nat) : Nat × Nat × Nat := (Z k, zk_F D (zs_m Z k) (Z k), zl_o Z L k)
/-- the table of the current directory, first i entries -/
def zc_C (B : Nat → Nat) (d i : Nat) : Nat → Option (Nat × Nat × Nat) := zt_f (zc_n B d) (zc_e B d) zt_0 i
/-- and with the first k pending entries -/
def zc_T (B : Nat → Nat) (d c : Nat) (g Z D : Nat → Nat) (L k : Nat) : Nat → Option (Nat × Nat × Nat) := zt_f g (zc_p Z D L) (zc_C B d c) k
theorem zd_Q_c {A B : Nat → Nat} {D D' v : Nat} {x : Nat × Nat × Nat} (h : zd_Q B D v x) (hD : D ≤ D') (e : ∀ j, j < D → A j = B j) : zd_Q A D' v x := by
  obtain ⟨a, b, c, d⟩ := h
  refine ⟨by omega, ?_, ?_, ?_⟩
  · rw [e _ (by omega)]; exact b
  · rw [zb_r2_c (B := B) (fun j _ h2 => e j (by omega))]; exact c
  · rw [zb_r4_c (B := B) (fun j _ h2 => e j (by omega))]; exact d
theorem zo_dl {B : Nat → Nat} {L : Nat} (h : zo_O B L) : zo_d B L + 13 * zo_c B L + 9 = L := by
  have a := h.1
  have b := h.2.2.2.1
  omega
theorem zc_QE {B : Nat → Nat} {d i : Nat} (h : zo_E B d i) : zd_Q B d (zc_n B d i) (zc_e B d i) := by
  obtain ⟨_, a, _, b, c, e, _⟩ := h
  exact ⟨by show zb_r2 B (d + 13 * i + 11) + 11 ≤ d; omega, b, c, e⟩
theorem zc_QC {B : Nat → Nat} {d c : Nat} (h : zo_A B d c) : ∀ v x, zc_C B d c v = some x → zd_Q B d v x :=
  zt_f_all _ _ _ (fun v x => zd_Q B d v x) c (fun v x hx => nomatch (show (none : Option (Nat × Nat × Nat)) = some x from hx)) (fun i hi => zc_QE (h i hi))
theorem zc_QT {B g Z D : Nat → Nat} {L P : Nat} (h : zo_O B L) (hg : zb_B g) (hD : zb_B D) (hz : zs_m Z P ≤ 128) : ∀ v x, zc_T B (zo_d B L) (zo_c B L) g Z D L P v = some x → zd_Q (zl_a B L g Z D P) (zl_o Z L P) v x := by
  have hl := zo_dl h
  have ho := zl_o_L Z L P
  refine zt_f_all _ _ _ (fun v x => zd_Q (zl_a B L g Z D P) (zl_o Z L P) v x) P ?_ ?_
  · intro v x hx
    exact zd_Q_c (zc_QC h.2.2.2.2 v x hx) (by omega) (fun j hj => zl_a_L B L g Z D P j (by omega))
  · intro k hk
    have h1 := zs_lt Z hk
    obtain ⟨a, b, c⟩ := zl_a_rd B L g Z D hg hD k P hk (by omega)
    have h2 := zl_o_s Z L k
    have h3 := zl_o_le Z L (j := k + 1) (k := P) hk
    exact ⟨by show zl_o Z L k + 11 ≤ zl_o Z L P; omega, a, b, c⟩
theorem zc_fr {B : Nat → Nat} {d c i : Nat} (h : zo_A B d c) (hi : i < c) : zc_C B d i (zc_n B d i) = none :=
  zt_f_miss _ _ _ _ _ (fun q hq e => by
    have a := zo_asc h i hi q hq
    have e2 : B (d + 13 * q + 4) = B (d + 13 * i + 4) := e
    omega)
theorem zc_C_s (B : Nat → Nat) (d i : Nat) : zc_C B d (i + 1) = zt_s (zc_C B d i) (zc_n B d i) (zc_e B d i) := rfl
theorem zc_T_s (B : Nat → Nat) (d c : Nat) (g Z D : Nat → Nat) (L k : Nat) : zc_T B d c g Z D L (k + 1) = zt_s (zc_T B d c g Z D L k) (g k) (zc_p Z D L k) := rfl
theorem zc_c19 {B : Nat → Nat} {L : Nat} (h : zo_O B L) (hL : L ≤ 256) : zo_c B L ≤ 19 := by
  have a := zo_dl h
  omega
/-! ===== records found by a scan: their places o 0 .. o (F - 1), their names, entries ===== -/
def zg_n (B o : Nat → Nat) (i : Nat) : Nat := B (o i + 4)
def zg_e (B o : Nat → Nat) (i : Nat) : Nat × Nat × Nat := (zb_r2 B (o i + 5), zb_r4 B (o i + 7), o i)
def zg_T (B o : Nat → Nat) (i : Nat) : Nat → Option (Nat × Nat × Nat) := zt_f (zg_n B o) (zg_e B o) zt_0 i
/-- the end of the last record -/
def zg_D (B o : Nat → Nat) : Nat → Nat
  | 0 => 0
  | i + 1 => o i + 11 + zb_r2 B (o i + 5)
def zg_I (B : Nat → Nat) (p F : Nat) (o : Nat → Nat) (fn fs : Nat → Int32) (fc : Nat → Int64) (fo : Nat → Int32) : Prop :=
  11 * F ≤ zg_D B o F ∧ zg_D B o F ≤ p ∧ ∀ i, i < F → fn i = nI (B (o i + 4)) ∧ fs i = nI (zb_r2 B (o i + 5)) ∧ fc i = lN (zb_r4 B (o i + 7)) ∧ fo i = nI (o i) ∧ o i + 11 ≤ zg_D B o F
theorem zg_I_0 (B o : Nat → Nat) (fn fs : Nat → Int32) (fc : Nat → Int64) (fo : Nat → Int32) : zg_I B 0 0 o fn fs fc fo :=
  ⟨Nat.le_refl _, Nat.le_refl _, fun i hi => by omega⟩
theorem zg_I_p {B : Nat → Nat} {p q F : Nat} {o : Nat → Nat} {fn fs : Nat → Int32} {fc : Nat → Int64} {fo : Nat → Int32} (h : zg_I B p F o fn fs fc fo) (hq : p ≤ q) : zg_I B q F o fn fs fc fo :=
  ⟨h.1, Nat.le_trans h.2.1 hq, h.2.2⟩
theorem zg_I_s {B : Nat → Nat} {p F : Nat} {o : Nat → Nat} {fn fs : Nat → Int32} {fc : Nat → Int64} {fo : Nat → Int32} (h : zg_I B p F o fn fs fc fo) :
    zg_I B (p + 11 + zb_r2 B (p + 5)) (F + 1) (zb_w o F p) (upd fn F (nI (B (p + 4)))) (upd fs F (nI (zb_r2 B (p + 5)))) (vp_updL fc F (lN (zb_r4 B (p + 7)))) (upd fo F (nI p)) := by
  obtain ⟨a, b, c⟩ := h
  have e : zg_D B (zb_w o F p) (F + 1) = p + 11 + zb_r2 B (p + 5) := by
    show zb_w o F p F + 11 + zb_r2 B (zb_w o F p F + 5) = _
    rw [zb_ws]
  refine ⟨by omega, by omega, ?_⟩
  intro i hi
  by_cases z : i = F
  · subst z
    rw [zb_ws, pk_us, pk_us, pk_uLs, pk_us]
    exact ⟨rfl, rfl, rfl, rfl, by omega⟩
  · obtain ⟨c1, c2, c3, c4, c5⟩ := c i (by omega)
    rw [zb_wn z, pk_un z, pk_un z, pk_uLn z, pk_un z]
    exact ⟨c1, c2, c3, c4, by omega⟩
theorem zg_Q {B : Nat → Nat} {p F : Nat} {o : Nat → Nat} {fn fs : Nat → Int32} {fc : Nat → Int64} {fo : Nat → Int32} (h : zg_I B p F o fn fs fc fo) : ∀ v x, zg_T B o F v = some x → zd_Q B (zg_D B o F) v x :=
  zt_f_all _ _ _ (fun v x => zd_Q B (zg_D B o F) v x) F (fun v x hx => nomatch (show (none : Option (Nat × Nat × Nat)) = some x from hx)) (fun i hi => ⟨(h.2.2 i hi).2.2.2.2, rfl, rfl, rfl⟩)
