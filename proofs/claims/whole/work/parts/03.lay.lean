/-! ===== the directory as it is written ===== -/
def zd_c (B : Nat → Nat) (p v z k o : Nat) : Nat → Nat := zb_n (zb_n (zb_n (zb_n (zb_n B p 33639248 4) (p + 4) v 1) (p + 5) z 2) (p + 7) k 4) (p + 11) o 2
def zd_e (B : Nat → Nat) (p c d : Nat) : Nat → Nat := zb_n (zb_n (zb_n (zb_n B p 101010256 4) (p + 4) c 1) (p + 5) d 2) (p + 7) (13 * c) 2
def zd_x (B : Nat → Nat) (p v : Nat) : Option (Nat × Nat × Nat) → (Nat → Nat)
  | none => B
  | some e => zd_c B p v e.1 e.2.1 e.2.2
def zd_l (T : Nat → Option (Nat × Nat × Nat)) (B : Nat → Nat) (D : Nat) : Nat → (Nat → Nat)
  | 0 => B
  | v + 1 => zd_x (zd_l T B D v) (D + 13 * zt_c T v) v (T v)
def zd_f (T : Nat → Option (Nat × Nat × Nat)) (B : Nat → Nat) (D : Nat) : Nat → Nat := zd_e (zd_l T B D 256) (D + 13 * zt_c T 256) (zt_c T 256) D
theorem zd_c_lo (B : Nat → Nat) (p v z k o j : Nat) (h : j < p) : zd_c B p v z k o j = B j := by
  unfold zd_c
  rw [zb_n_out _ _ _ _ _ (by omega), zb_n_out _ _ _ _ _ (by omega), zb_n_out _ _ _ _ _ (by omega), zb_n_out _ _ _ _ _ (by omega), zb_n_out _ _ _ _ _ (by omega)]
theorem zd_l_lo (T : Nat → Option (Nat × Nat × Nat)) (B : Nat → Nat) (D v j : Nat) (h : j < D) : zd_l T B D v j = B j := by
  induction v with
  | zero => rfl
  | succ v ih =>
    show zd_x (zd_l T B D v) (D + 13 * zt_c T v) v (T v) j = B j
    cases T v with
    | none => exact ih
    | some e =>
      show zd_c (zd_l T B D v) (D + 13 * zt_c T v) v e.1 e.2.1 e.2.2 j = B j
      rw [zd_c_lo _ _ _ _ _ _ _ (by omega), ih]
theorem zd_c_B {B : Nat → Nat} (h : zb_B B) (p v z k o : Nat) : zb_B (zd_c B p v z k o) :=
  zb_n_B (zb_n_B (zb_n_B (zb_n_B (zb_n_B h _ _ _) _ _ _) _ _ _) _ _ _) _ _ _
theorem zd_e_B {B : Nat → Nat} (h : zb_B B) (p c d : Nat) : zb_B (zd_e B p c d) :=
  zb_n_B (zb_n_B (zb_n_B (zb_n_B h _ _ _) _ _ _) _ _ _) _ _ _
theorem zd_l_B (T : Nat → Option (Nat × Nat × Nat)) {B : Nat → Nat} (h : zb_B B) (D v : Nat) : zb_B (zd_l T B D v) := by
  induction v with
  | zero => exact h
  | succ v ih =>
    show zb_B (zd_x (zd_l T B D v) (D + 13 * zt_c T v) v (T v))
    cases T v with
    | none => exact ih
    | some e => exact zd_c_B ih _ _ _ _ _
theorem zd_f_B (T : Nat → Option (Nat × Nat × Nat)) {B : Nat → Nat} (h : zb_B B) (D : Nat) : zb_B (zd_f T B D) := zd_e_B (zd_l_B T h D 256) _ _ _
theorem zd_l_0 (B : Nat → Nat) (D v : Nat) : zd_l zt_0 B D v = B := by
  induction v with
  | zero => rfl
  | succ v ih => exact ih
theorem zd_l_n (T : Nat → Option (Nat × Nat × Nat)) (B : Nat → Nat) (D v : Nat) (h : T v = none) : zd_l T B D (v + 1) = zd_l T B D v ∧ zt_c T (v + 1) = zt_c T v := by
  refine ⟨?_, ?_⟩
  · show zd_x (zd_l T B D v) (D + 13 * zt_c T v) v (T v) = _
    rw [h]
    rfl
  · show zt_c T v + zt_1 (T v) = _
    rw [h]
    rfl
theorem zd_l_s (T : Nat → Option (Nat × Nat × Nat)) (B : Nat → Nat) (D v z k o : Nat) (h : T v = some (z, k, o)) : zd_l T B D (v + 1) = zd_c (zd_l T B D v) (D + 13 * zt_c T v) v z k o ∧ zt_c T (v + 1) = zt_c T v + 1 := by
  refine ⟨?_, ?_⟩
  · show zd_x (zd_l T B D v) (D + 13 * zt_c T v) v (T v) = _
    rw [h]
    rfl
  · show zt_c T v + zt_1 (T v) = _
    rw [h]
    rfl
/-! ===== entry records as they are written ===== -/
def zl_h (B : Nat → Nat) (p n z k : Nat) : Nat → Nat := zb_n (zb_n (zb_n (zb_n B p 67324752 4) (p + 4) n 1) (p + 5) z 2) (p + 7) k 4
def zl_d (B : Nat → Nat) (p : Nat) (D : Nat → Nat) (s : Nat) : Nat → (Nat → Nat)
  | 0 => B
  | j + 1 => zb_n (zl_d B p D s j) (p + j) (D (s + j)) 1
def zl_1 (B : Nat → Nat) (p n z k : Nat) (D : Nat → Nat) (s : Nat) : Nat → Nat := zl_d (zl_h B p n z k) (p + 11) D s z
def zl_o (Z : Nat → Nat) (L k : Nat) : Nat := L + 11 * k + zs_m Z k
def zl_a (B : Nat → Nat) (L : Nat) (g Z D : Nat → Nat) : Nat → (Nat → Nat)
  | 0 => B
  | k + 1 => zl_1 (zl_a B L g Z D k) (zl_o Z L k) (g k) (Z k) (zk_F D (zs_m Z k) (Z k)) D (zs_m Z k)
theorem zl_o_s (Z : Nat → Nat) (L k : Nat) : zl_o Z L (k + 1) = zl_o Z L k + 11 + Z k := by
  show L + 11 * (k + 1) + (zs_m Z k + Z k) = L + 11 * k + zs_m Z k + 11 + Z k
  omega
theorem zl_o_le (Z : Nat → Nat) (L : Nat) {j k : Nat} (h : j ≤ k) : zl_o Z L j ≤ zl_o Z L k := by
  have a := zs_le Z h
  unfold zl_o
  omega
theorem zl_o_L (Z : Nat → Nat) (L k : Nat) : L ≤ zl_o Z L k := by
  unfold zl_o
  omega
theorem zl_d_lo (B : Nat → Nat) (p : Nat) (D : Nat → Nat) (s z j : Nat) (h : j < p) : zl_d B p D s z j = B j := by
  induction z with
  | zero => rfl
  | succ z ih =>
    show zb_n (zl_d B p D s z) (p + z) (D (s + z)) 1 j = B j
    rw [zb_n_out _ _ _ _ _ (by omega), ih]
theorem zl_h_lo (B : Nat → Nat) (p n z k j : Nat) (h : j < p) : zl_h B p n z k j = B j := by
  unfold zl_h
  rw [zb_n_out _ _ _ _ _ (by omega), zb_n_out _ _ _ _ _ (by omega), zb_n_out _ _ _ _ _ (by omega), zb_n_out _ _ _ _ _ (by omega)]
theorem zl_1_lo (B : Nat → Nat) (p n z k : Nat) (D : Nat → Nat) (s j : Nat) (h : j < p) : zl_1 B p n z k D s j = B j := by
  unfold zl_1
  rw [zl_d_lo _ _ _ _ _ _ (by omega), zl_h_lo _ _ _ _ _ _ h]
theorem zl_h_rd (B : Nat → Nat) (p n z k : Nat) (hn : n < 256) (hz : z < 65536) (hk : k < 4294967296) : zl_h B p n z k (p + 4) = n ∧ zb_r2 (zl_h B p n z k) (p + 5) = z ∧ zb_r4 (zl_h B p n z k) (p + 7) = k := by
  unfold zl_h
  refine ⟨?_, ?_, ?_⟩
  · rw [zb_n_out _ _ _ _ _ (by omega), zb_n_out _ _ _ _ _ (by omega), zb_at0 _ _ _ _ (by decide)]
    omega
  · rw [zb_r2_c (B := zb_n (zb_n (zb_n B p 67324752 4) (p + 4) n 1) (p + 5) z 2) (fun j a b => zb_n_out _ _ _ _ _ (by omega))]
    exact zb_r2_n _ _ _ hz
  · exact zb_r4_n _ _ _ hk
theorem zl_1_rd (B : Nat → Nat) (p n z k : Nat) (D : Nat → Nat) (s : Nat) (hn : n < 256) (hz : z < 65536) (hk : k < 4294967296) : zl_1 B p n z k D s (p + 4) = n ∧ zb_r2 (zl_1 B p n z k D s) (p + 5) = z ∧ zb_r4 (zl_1 B p n z k D s) (p + 7) = k := by
  obtain ⟨a, b, c⟩ := zl_h_rd B p n z k hn hz hk
  have e : ∀ j, j < p + 11 → zl_1 B p n z k D s j = zl_h B p n z k j := fun j hj => zl_d_lo _ _ _ _ _ _ hj
  refine ⟨?_, ?_, ?_⟩
  · rw [e _ (by omega), a]
  · rw [zb_r2_c (B := zl_h B p n z k) (fun j _ h2 => e j (by omega)), b]
  · rw [zb_r4_c (B := zl_h B p n z k) (fun j _ h2 => e j (by omega)), c]
theorem zl_a_lo (B : Nat → Nat) (L : Nat) (g Z D : Nat → Nat) (k : Nat) : ∀ q, k ≤ q → ∀ j, j < zl_o Z L k → zl_a B L g Z D q j = zl_a B L g Z D k j := by
  intro q
  induction q with
  | zero =>
    intro h j _
    have e : k = 0 := by omega
    rw [e]
  | succ q ih =>
    intro h j hj
    by_cases e : k = q + 1
    · rw [e]
    · have a := zl_o_le Z L (j := k) (k := q) (by omega)
      show zl_1 (zl_a B L g Z D q) (zl_o Z L q) (g q) (Z q) (zk_F D (zs_m Z q) (Z q)) D (zs_m Z q) j = _
      rw [zl_1_lo _ _ _ _ _ _ _ _ (by omega)]
      exact ih (by omega) j hj
theorem zl_a_L (B : Nat → Nat) (L : Nat) (g Z D : Nat → Nat) (q j : Nat) (h : j < L) : zl_a B L g Z D q j = B j :=
  zl_a_lo B L g Z D 0 q (by omega) j (by have := zl_o_L Z L 0; omega)
theorem zl_a_rd (B : Nat → Nat) (L : Nat) (g Z D : Nat → Nat) (hg : zb_B g) (hD : zb_B D) (k q : Nat) (hk : k < q) (hz : Z k < 65536) : zl_a B L g Z D q (zl_o Z L k + 4) = g k ∧ zb_r2 (zl_a B L g Z D q) (zl_o Z L k + 5) = Z k ∧ zb_r4 (zl_a B L g Z D q) (zl_o Z L k + 7) = zk_F D (zs_m Z k) (Z k) := by
  have o := zl_o_s Z L k
  have e : ∀ j, j < zl_o Z L k + 11 → zl_a B L g Z D q j = zl_1 (zl_a B L g Z D k) (zl_o Z L k) (g k) (Z k) (zk_F D (zs_m Z k) (Z k)) D (zs_m Z k) j := fun j hj => zl_a_lo B L g Z D (k + 1) q hk j (by omega)
  obtain ⟨a, b, c⟩ := zl_1_rd (zl_a B L g Z D k) (zl_o Z L k) (g k) (Z k) (zk_F D (zs_m Z k) (Z k)) D (zs_m Z k) (hg k) hz (zk_F_lt hD _ _)
  refine ⟨?_, ?_, ?_⟩
  · rw [e _ (by omega), a]
  · rw [zb_r2_c (fun j _ h2 => e j (by omega)), b]
  · rw [zb_r4_c (fun j _ h2 => e j (by omega)), c]
theorem zl_d_B {B : Nat → Nat} (h : zb_B B) (p : Nat) (D : Nat → Nat) (s z : Nat) : zb_B (zl_d B p D s z) := by
  induction z with
  | zero => exact h
  | succ z ih => exact zb_n_B ih _ _ _
theorem zl_h_B {B : Nat → Nat} (h : zb_B B) (p n z k : Nat) : zb_B (zl_h B p n z k) := zb_n_B (zb_n_B (zb_n_B (zb_n_B h _ _ _) _ _ _) _ _ _) _ _ _
theorem zl_a_B {B : Nat → Nat} (h : zb_B B) (L : Nat) (g Z D : Nat → Nat) (k : Nat) : zb_B (zl_a B L g Z D k) := by
  induction k with
  | zero => exact h
  | succ k ih => exact zl_d_B (zl_h_B ih _ _ _ _) _ _ _ _
/-! ===== an openable image ===== -/
def zo_E (B : Nat → Nat) (d i : Nat) : Prop :=
  zb_r4 B (d + 13 * i) = 33639248 ∧ zb_r2 B (d + 13 * i + 11) + 11 + zb_r2 B (d + 13 * i + 5) ≤ d ∧ zb_r4 B (zb_r2 B (d + 13 * i + 11)) = 67324752 ∧ B (zb_r2 B (d + 13 * i + 11) + 4) = B (d + 13 * i + 4) ∧ zb_r2 B (zb_r2 B (d + 13 * i + 11) + 5) = zb_r2 B (d + 13 * i + 5) ∧ zb_r4 B (zb_r2 B (d + 13 * i + 11) + 7) = zb_r4 B (d + 13 * i + 7) ∧ (∀ q, q + 1 = i → B (d + 13 * q + 4) < B (d + 13 * i + 4))
def zo_A (B : Nat → Nat) (d c : Nat) : Prop := ∀ i, i < c → zo_E B d i
/-- the directory's count, start of an image that ends at L -/
def zo_c (B : Nat → Nat) (L : Nat) : Nat := B (L - 9 + 4)
def zo_d (B : Nat → Nat) (L : Nat) : Nat := zb_r2 B (L - 9 + 5)
def zo_O (B : Nat → Nat) (L : Nat) : Prop := 9 ≤ L ∧ zb_r4 B (L - 9) = 101010256 ∧ zb_r2 B (L - 9 + 7) = 13 * zo_c B L ∧ zo_d B L + 13 * zo_c B L = L - 9 ∧ zo_A B (zo_d B L) (zo_c B L)
theorem zo_asc {B : Nat → Nat} {d c : Nat} (h : zo_A B d c) : ∀ i, i < c → ∀ q, q < i → B (d + 13 * q + 4) < B (d + 13 * i + 4) := by
  intro i
  induction i with
  | zero => intro _ q hq; omega
  | succ i ih =>
    intro hi q hq
    have a := (h (i + 1) hi).2.2.2.2.2.2 i rfl
    by_cases e : q = i
    · rw [e]; exact a
    · exact Nat.lt_trans (ih (by omega) q (by omega)) a
