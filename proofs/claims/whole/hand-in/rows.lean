section
theorem pk_us {f : Nat → Int32} {k : Nat} {x : Int32} : upd f k x k = x := if_pos rfl
theorem pk_un {f : Nat → Int32} {k j : Nat} {x : Int32} (h : j ≠ k) : upd f k x j = f j := if_neg h
theorem pk_uLs {f : Nat → Int64} {k : Nat} {x : Int64} : vp_updL f k x k = x := if_pos rfl
theorem pk_uLn {f : Nat → Int64} {k j : Nat} {x : Int64} (h : j ≠ k) : vp_updL f k x j = f j := if_neg h
theorem pk_sub {a b : Nat} (h : b ≤ a) : nI a - nI b = nI (a - b) := by
  obtain ⟨c, rfl⟩ : ∃ c, a = c + b := ⟨a - b, by omega⟩
  rw [← nI_add, Int32.add_sub_cancel, Nat.add_sub_cancel]
theorem pk_m1 (n : Nat) : nI (n + 1) + (-1) = nI n := by
  rw [← nI_1, Int32.add_assoc, show (1 : Int32) + (-1) = 0 from rfl, Int32.add_zero]
theorem pk_mul (a b : Nat) : nI a * nI b = nI (a * b) := (Int32.ofNat_mul a b).symm
theorem pk_sub_toInt {a b : Nat} (ha : a < 2 ^ 30) (hb : b < 2 ^ 30) : (nI a - nI b).toInt = (a : Int) - b := by
  rw [Int32.toInt_sub, nI_toInt (by omega), nI_toInt (by omega)]
  exact Int.bmod_eq_of_le (by omega) (by omega)
theorem pk_sneg {a b : Nat} (hb : b < 2 ^ 30) (h : a < b) : nI a - nI b < 0 := by
  rw [Int32.lt_iff_toInt_lt, pk_sub_toInt (by omega) hb, show (0 : Int32).toInt = 0 from by decide]
  omega
theorem pk_ix (x : Int32) {n : Nat} (hn : n < 2 ^ 31) : x < 0 ∨ nI n ≤ x ∨ ∃ j : Nat, j < n ∧ x = nI j := by
  by_cases h : x < 0
  · exact Or.inl h
  · obtain ⟨j, hj, rfl⟩ := nI_of h
    by_cases h2 : j < n
    · exact Or.inr (Or.inr ⟨j, h2, rfl⟩)
    · exact Or.inr (Or.inl (nI_le (by omega) hj))
theorem pk_le {x y : Int32} {A B : Prop} (a b : Nat) (f : a ≤ b → A) (g : b < a → B) (hx : x = nI a := by rfl) (hy : y = nI b := by rfl) (ha : a < 2 ^ 31 := by omega) (hb : b < 2 ^ 31 := by omega) : (x ≤ y → A) ∧ (¬ x ≤ y → B) := by
  subst hx hy
  rw [nI_leI ha hb]
  exact ⟨f, fun z => g (by omega)⟩
theorem pk_lt {x y : Int32} {A B : Prop} (a b : Nat) (f : a < b → A) (g : b ≤ a → B) (hx : x = nI a := by rfl) (hy : y = nI b := by rfl) (ha : a < 2 ^ 31 := by omega) (hb : b < 2 ^ 31 := by omega) : (x < y → A) ∧ (¬ x < y → B) := by
  subst hx hy
  rw [nI_ltI ha hb]
  exact ⟨f, fun z => g (by omega)⟩
theorem pk_eq {x y : Int32} {A B : Prop} (a b : Nat) (f : a = b → A) (g : a ≠ b → B) (hx : x = nI a := by rfl) (hy : y = nI b := by rfl) (ha : a < 2 ^ 31 := by omega) (hb : b < 2 ^ 31 := by omega) : (x = y → A) ∧ (¬ x = y → B) := by
  subst hx hy
  rw [nI_eq ha hb]
  exact ⟨f, g⟩
theorem pk_in {x : Int32} (n N : Nat) (h : n < N) (hx : x = nI n := by rfl) (hN : N < 2 ^ 31 := by omega) : vp_in x N := by
  subst hx
  exact vp_in_nI h hN
theorem pk_cl {x : Int32} (n : Nat) (hx : x = nI n := by rfl) (h : n < 2 ^ 31 := by omega) : x.toNatClampNeg = n := by
  subst hx
  exact nI_clamp h
theorem pk_tn {n : Nat} (h : n < 2 ^ 32) : (nI n).toBitVec.toNat = n := Nat.mod_eq_of_lt h
theorem pk_and (x : Int32) {m : Int32} (k : Nat) (hm : m.toBitVec.toNat = 2 ^ k - 1) : x &&& m = nI (x.toBitVec.toNat % 2 ^ k) := by
  apply Int32.toBitVec_inj.mp
  apply BitVec.eq_of_toNat_eq
  rw [Int32.toBitVec_and, BitVec.toNat_and, hm, Nat.and_two_pow_sub_one_eq_mod]
  show _ = (BitVec.ofNat 32 _).toNat
  rw [BitVec.toNat_ofNat]
  exact (Nat.mod_eq_of_lt (Nat.lt_of_le_of_lt (Nat.mod_le _ _) x.toBitVec.isLt)).symm
theorem pk_andN {n : Nat} (h : n < 2 ^ 32) {m : Int32} (k : Nat) (hm : m.toBitVec.toNat = 2 ^ k - 1) : nI n &&& m = nI (n % 2 ^ k) := by
  rw [pk_and _ k hm, pk_tn h]
theorem pk_shl (a s : Int32) (k : Nat) (hs : (s.toBitVec.smod 32).toNat = k) : (a <<< s).toBitVec.toNat = a.toBitVec.toNat * 2 ^ k % 2 ^ 32 := by
  show (a.toBitVec <<< (s.toBitVec.smod 32).toNat).toNat = _
  rw [hs, BitVec.toNat_shiftLeft, Nat.shiftLeft_eq]
theorem pk_shlN {n : Nat} (s : Int32) (k : Nat) (hs : (s.toBitVec.smod 32).toNat = k) (h : n * 2 ^ k < 2 ^ 32) : nI n <<< s = nI (n * 2 ^ k) := by
  apply Int32.toBitVec_inj.mp
  apply BitVec.eq_of_toNat_eq
  have hn : n < 2 ^ 32 := Nat.lt_of_le_of_lt (Nat.le_mul_of_pos_right n (Nat.two_pow_pos k)) h
  rw [pk_shl _ _ k hs, pk_tn hn, pk_tn h, Nat.mod_eq_of_lt h]
theorem pk_ushr (x s : Int32) (k : Nat) (hs : ((s.toUInt32 &&& Int32.toUInt32 31).toBitVec % 32).toNat = k) : (x.toUInt32 >>> (s.toUInt32 &&& Int32.toUInt32 31)).toInt32.toBitVec.toNat = x.toBitVec.toNat / 2 ^ k := by
  have e : (x.toUInt32 >>> (s.toUInt32 &&& Int32.toUInt32 31)).toInt32.toBitVec = x.toBitVec >>> k := by
    rw [← hs]
    exact UInt32.toBitVec_shiftRight _ _
  rw [e, BitVec.toNat_ushiftRight, Nat.shiftRight_eq_div_pow]
theorem pk_ushrN {n : Nat} (hn : n < 2 ^ 32) (s : Int32) (k : Nat) (hs : ((s.toUInt32 &&& Int32.toUInt32 31).toBitVec % 32).toNat = k) : ((nI n).toUInt32 >>> (s.toUInt32 &&& Int32.toUInt32 31)).toInt32 = nI (n / 2 ^ k) := by
  apply Int32.toBitVec_inj.mp
  apply BitVec.eq_of_toNat_eq
  rw [pk_ushr _ s k hs, pk_tn hn, pk_tn (Nat.lt_of_le_of_lt (Nat.div_le_self _ _) hn)]
theorem pk_lT {n : Nat} (h : n < 2 ^ 63) : (lN n).toInt = (n : Int) := lg_ofNat_toInt h
theorem pk_lLT {a b : Nat} (ha : a < 2 ^ 63) (hb : b < 2 ^ 63) : lN a < lN b ↔ a < b := by
  rw [Int64.lt_iff_toInt_lt, pk_lT ha, pk_lT hb]; omega
theorem pk_lLE {a b : Nat} (ha : a < 2 ^ 63) (hb : b < 2 ^ 63) : lN a ≤ lN b ↔ a ≤ b := by
  rw [Int64.le_iff_toInt_le, pk_lT ha, pk_lT hb]; omega
theorem pk_lEQ {a b : Nat} (ha : a < 2 ^ 63) (hb : b < 2 ^ 63) : lN a = lN b ↔ a = b := by
  rw [← Int64.toInt_inj, pk_lT ha, pk_lT hb]; omega
theorem nx_xor (a b : Nat) : nI a ^^^ nI b = nI (a ^^^ b) := by
  apply Int32.toBitVec_inj.1
  show BitVec.ofNat 32 a ^^^ BitVec.ofNat 32 b = BitVec.ofNat 32 (a ^^^ b)
  apply BitVec.eq_of_getLsbD_eq
  intro i hi
  simp [hi]
theorem wb_tb (n : Nat) : (lN n).toBitVec = BitVec.ofNat 64 n := rfl
theorem wb_inj {a b : Int64} (h : a.toBitVec = b.toBitVec) : a = b := Int64.toBitVec_inj.mp h
theorem wb_tn {n : Nat} (h : n < 2 ^ 64) : (lN n).toBitVec.toNat = n := by rw [wb_tb, BitVec.toNat_ofNat, Nat.mod_eq_of_lt h]
theorem wb_c : ∀ k, k < 64 → ((nI k).toInt64 &&& 63) = lN k := by decide +kernel
theorem wb_cu : ∀ k, k < 64 → ((nI k).toInt64.toUInt64 &&& Int64.toUInt64 63) = UInt64.ofNat k := by decide +kernel
theorem wb_sm : ∀ k, k < 64 → (BitVec.ofNat 64 k).smod 64 = BitVec.ofNat 64 k := by decide +kernel
theorem wb_lt2 {a b : Nat} (h : a < b) : 2 ^ a < 2 ^ b := Nat.pow_lt_pow_right (by decide) h
theorem wb_shr {n k : Nat} (hn : n < 2 ^ 64) (hk : k < 64) : ((lN n).toUInt64 >>> ((nI k).toInt64.toUInt64 &&& Int64.toUInt64 63)).toInt64 = lN (n / 2 ^ k) := by
  rw [wb_cu k hk]
  apply wb_inj
  apply BitVec.eq_of_toNat_eq
  show ((lN n).toUInt64 >>> UInt64.ofNat k).toNat = (BitVec.ofNat 64 _).toNat
  have h1 : (UInt64.ofNat k).toNat = k := by
    show (BitVec.ofNat 64 k).toNat = k
    rw [BitVec.toNat_ofNat, Nat.mod_eq_of_lt (by omega)]
  have h2 : (lN n).toUInt64.toNat = n := wb_tn hn
  rw [UInt64.toNat_shiftRight, h1, h2, Nat.mod_eq_of_lt hk, Nat.shiftRight_eq_div_pow, BitVec.toNat_ofNat, Nat.mod_eq_of_lt (Nat.lt_of_le_of_lt (Nat.div_le_self _ _) hn)]
theorem wb_shl (n : Nat) {k : Nat} (hk : k < 64) : lN n <<< ((nI k).toInt64 &&& 63) = lN (n * 2 ^ k) := by
  rw [wb_c k hk]
  apply wb_inj
  rw [Int64.toBitVec_shiftLeft, wb_tb, wb_tb, wb_tb, wb_sm k hk]
  apply BitVec.eq_of_toNat_eq
  rw [BitVec.shiftLeft_eq', BitVec.toNat_shiftLeft, BitVec.toNat_ofNat, BitVec.toNat_ofNat, BitVec.toNat_ofNat, Nat.mod_eq_of_lt (show k < 2 ^ 64 by omega), Nat.shiftLeft_eq, Nat.mul_mod, Nat.mod_mod, ← Nat.mul_mod]
theorem wb_and {a b : Nat} (ha : a < 2 ^ 64) (hb : b < 2 ^ 64) : lN a &&& lN b = lN (a &&& b) := by
  apply wb_inj
  rw [Int64.toBitVec_and, wb_tb, wb_tb, wb_tb]
  apply BitVec.eq_of_toNat_eq
  rw [BitVec.toNat_and, BitVec.toNat_ofNat, BitVec.toNat_ofNat, BitVec.toNat_ofNat, Nat.mod_eq_of_lt ha, Nat.mod_eq_of_lt hb, Nat.mod_eq_of_lt (Nat.and_lt_two_pow _ hb)]
theorem wb_mask {n k : Nat} (hn : n < 2 ^ 64) (hk : k < 64) : lN n &&& lN (2 ^ k - 1) = lN (n % 2 ^ k) := by
  rw [wb_and hn (by have := wb_lt2 hk; omega), Nat.and_two_pow_sub_one_eq_mod]
theorem wb_a1 {n : Nat} (hn : n < 2 ^ 64) : lN n &&& 1 = lN (n % 2) := wb_mask (k := 1) hn (by decide)
theorem u_tn {n : Nat} (h : n < 2 ^ 64) : (UInt64.ofNat n).toNat = n := Nat.mod_eq_of_lt h
theorem g_or {k p a b : Nat} (hp : 2 ^ k = p) (ha : a < p) (h : b * p + a < 2 ^ 64) : lN (b * p) ||| lN a = lN (b * p + a) := by
  subst hp
  have h1 : b * 2 ^ k ||| a = b * 2 ^ k + a := by rw [← Nat.shiftLeft_eq, Nat.shiftLeft_add_eq_or_of_lt ha]
  have h3 : UInt64.ofNat (b * 2 ^ k) ||| UInt64.ofNat a = UInt64.ofNat (b * 2 ^ k + a) := UInt64.toNat_inj.mp (by rw [UInt64.toNat_or, u_tn (by omega), u_tn (by omega), u_tn h, h1])
  have h2 := congrArg UInt64.toInt64 h3
  exact h2
theorem g_or' {k p a b : Nat} (hp : 2 ^ k = p) (ha : a < p) (h : a + b * p < 2 ^ 64) : lN a ||| lN (b * p) = lN (a + b * p) := by
  rw [Int64.or_comm, g_or hp ha (by omega), Nat.add_comm]
theorem lN_bv (n : Nat) : (lN n).toBitVec = BitVec.ofNat 64 n := rfl
theorem lN_xor (a b : Nat) : lN a ^^^ lN b = lN (a ^^^ b) := by
  apply Int64.toBitVec_inj.mp; rw [Int64.toBitVec_xor, lN_bv, lN_bv, lN_bv]; apply BitVec.eq_of_getLsbD_eq; intro i hi; simp [BitVec.getLsbD_ofNat, Nat.testBit_xor, hi]
/-! ===== own: bytes and numbers ===== -/
def zb_f (B : Nat → Nat) : Nat → Int32 := fun j => nI (B j)
def zb_w (B : Nat → Nat) (p x : Nat) : Nat → Nat := fun j => if j = p then x else B j
def zb_n (B : Nat → Nat) (p n : Nat) : Nat → (Nat → Nat)
  | 0 => B
  | w + 1 => zb_w (zb_n B p n w) (p + w) (n / 2 ^ (8 * w) % 256)
def zb_r2 (B : Nat → Nat) (p : Nat) : Nat := B p + B (p + 1) * 256
def zb_r4 (B : Nat → Nat) (p : Nat) : Nat := B p + B (p + 1) * 256 + B (p + 2) * 65536 + B (p + 3) * 16777216
def zb_B (B : Nat → Nat) : Prop := ∀ j, B j < 256
theorem zb_ws {B : Nat → Nat} {p x : Nat} : zb_w B p x p = x := if_pos rfl
theorem zb_wn {B : Nat → Nat} {p x j : Nat} (h : j ≠ p) : zb_w B p x j = B j := if_neg h
theorem zb_upd (B : Nat → Nat) (p x : Nat) : upd (zb_f B) p (nI x) = zb_f (zb_w B p x) := by
  funext j
  by_cases h : j = p
  · subst h
    rw [pk_us]
    exact (congrArg nI zb_ws).symm
  · rw [pk_un h]
    exact (congrArg nI (zb_wn h)).symm
theorem zb_wB {B : Nat → Nat} (h : zb_B B) {p x : Nat} (hx : x < 256) : zb_B (zb_w B p x) := by
  intro j
  by_cases e : j = p
  · rw [e, zb_ws]; exact hx
  · rw [zb_wn e]; exact h j
theorem zb_n_out (B : Nat → Nat) (p n j w : Nat) (h : j < p ∨ p + w ≤ j) : zb_n B p n w j = B j := by
  induction w with
  | zero => rfl
  | succ w ih =>
    show zb_w (zb_n B p n w) (p + w) (n / 2 ^ (8 * w) % 256) j = B j
    rw [zb_wn (by omega), ih (by omega)]
theorem zb_n_at (B : Nat → Nat) (p n i w : Nat) (h : i < w) : zb_n B p n w (p + i) = n / 2 ^ (8 * i) % 256 := by
  induction w with
  | zero => omega
  | succ w ih =>
    show zb_w (zb_n B p n w) (p + w) (n / 2 ^ (8 * w) % 256) (p + i) = _
    by_cases e : i = w
    · rw [e]; exact zb_ws
    · rw [zb_wn (by omega), ih (by omega)]
theorem zb_n_B {B : Nat → Nat} (h : zb_B B) (p n w : Nat) : zb_B (zb_n B p n w) := by
  induction w with
  | zero => exact h
  | succ w ih => exact zb_wB ih (Nat.mod_lt _ (by decide))
theorem zb_at0 (B : Nat → Nat) (p n w : Nat) (h : 0 < w) : zb_n B p n w p = n % 256 :=
  (zb_n_at B p n 0 w h).trans (by rw [show 2 ^ (8 * 0) = 1 from rfl, Nat.div_one])
theorem zb_at1 (B : Nat → Nat) (p n w : Nat) (h : 1 < w) : zb_n B p n w (p + 1) = n / 256 % 256 := zb_n_at B p n 1 w h
theorem zb_at2 (B : Nat → Nat) (p n w : Nat) (h : 2 < w) : zb_n B p n w (p + 2) = n / 65536 % 256 := zb_n_at B p n 2 w h
theorem zb_at3 (B : Nat → Nat) (p n w : Nat) (h : 3 < w) : zb_n B p n w (p + 3) = n / 16777216 % 256 := zb_n_at B p n 3 w h
theorem zb_r2_n (B : Nat → Nat) (p n : Nat) (h : n < 65536) : zb_r2 (zb_n B p n 2) p = n := by
  unfold zb_r2
  rw [zb_at0 _ _ _ _ (by decide), zb_at1 _ _ _ _ (by decide)]
  omega
theorem zb_r4_n (B : Nat → Nat) (p n : Nat) (h : n < 4294967296) : zb_r4 (zb_n B p n 4) p = n := by
  unfold zb_r4
  rw [zb_at0 _ _ _ _ (by decide), zb_at1 _ _ _ _ (by decide), zb_at2 _ _ _ _ (by decide), zb_at3 _ _ _ _ (by decide)]
  omega
theorem zb_r2_c {A B : Nat → Nat} {p : Nat} (h : ∀ j, p ≤ j → j < p + 2 → A j = B j) : zb_r2 A p = zb_r2 B p := by
  unfold zb_r2
  rw [h p (by omega) (by omega), h (p + 1) (by omega) (by omega)]
theorem zb_r4_c {A B : Nat → Nat} {p : Nat} (h : ∀ j, p ≤ j → j < p + 4 → A j = B j) : zb_r4 A p = zb_r4 B p := by
  unfold zb_r4
  rw [h p (by omega) (by omega), h (p + 1) (by omega) (by omega), h (p + 2) (by omega) (by omega), h (p + 3) (by omega) (by omega)]
theorem zb_r2_lt {B : Nat → Nat} (h : zb_B B) (p : Nat) : zb_r2 B p < 65536 := by
  have a := h p
  have b := h (p + 1)
  unfold zb_r2
  omega
theorem zb_r4_lt {B : Nat → Nat} (h : zb_B B) (p : Nat) : zb_r4 B p < 4294967296 := by
  have a := h p
  have b := h (p + 1)
  have c := h (p + 2)
  have d := h (p + 3)
  unfold zb_r4
  omega
theorem zb_sig {B : Nat → Nat} (h : zb_B B) (p x y : Nat) (hx : x < 256) (hy : y < 256) : zb_r4 B p = 80 + 75 * 256 + x * 65536 + y * 16777216 ↔ (B p = 80 ∧ B (p + 1) = 75 ∧ B (p + 2) = x ∧ B (p + 3) = y) := by
  have a := h p
  have b := h (p + 1)
  have c := h (p + 2)
  have d := h (p + 3)
  unfold zb_r4
  omega
theorem zb_sL {B : Nat → Nat} (h : zb_B B) (p : Nat) : zb_r4 B p = 67324752 ↔ (B p = 80 ∧ B (p + 1) = 75 ∧ B (p + 2) = 3 ∧ B (p + 3) = 4) := zb_sig h p 3 4 (by decide) (by decide)
theorem zb_sC {B : Nat → Nat} (h : zb_B B) (p : Nat) : zb_r4 B p = 33639248 ↔ (B p = 80 ∧ B (p + 1) = 75 ∧ B (p + 2) = 1 ∧ B (p + 3) = 2) := zb_sig h p 1 2 (by decide) (by decide)
theorem zb_sE {B : Nat → Nat} (h : zb_B B) (p : Nat) : zb_r4 B p = 101010256 ↔ (B p = 80 ∧ B (p + 1) = 75 ∧ B (p + 2) = 5 ∧ B (p + 3) = 6) := zb_sig h p 5 6 (by decide) (by decide)
/-! ===== numbers of the two words ===== -/
theorem zn_or (a b : Nat) : nI a ||| nI b = nI (a ||| b) := by
  apply Int32.toBitVec_inj.1
  show BitVec.ofNat 32 a ||| BitVec.ofNat 32 b = BitVec.ofNat 32 (a ||| b)
  apply BitVec.eq_of_getLsbD_eq
  intro i hi
  simp [hi]
theorem zn_or8 {a b : Nat} (ha : a < 256) : a ||| b * 256 = a + b * 256 := by
  have h1 : b * 2 ^ 8 ||| a = b * 2 ^ 8 + a := by rw [← Nat.shiftLeft_eq, Nat.shiftLeft_add_eq_or_of_lt (show a < 2 ^ 8 from ha)]
  have h2 : b * 256 ||| a = b * 256 + a := h1
  rw [Nat.or_comm, h2, Nat.add_comm]
theorem zn_s8 {b : Nat} (hb : b < 256) : nI b <<< ((8 : Int32) &&& 31) = nI (b * 256) := pk_shlN _ 8 (by decide) (by omega)
/-- the reference's u16 -/
theorem zn_y2 {a b : Nat} (ha : a < 256) (hb : b < 256) : nI a ||| (nI b <<< ((8 : Int32) &&& 31)) = nI (a + b * 256) := by
  rw [zn_s8 hb, zn_or, zn_or8 ha]
/-- the component's u16 -/
theorem zn_x2 {a b : Nat} (hb : b < 256) : nI a + (nI b <<< ((8 : Int32) &&& 31)) = nI (a + b * 256) := by
  rw [zn_s8 hb, nI_add]
theorem zn_l8 (b : Nat) : lN b <<< ((8 : Int32).toInt64 &&& 63) = lN (b * 256) := wb_shl b (k := 8) (by decide)
theorem zn_l16 (b : Nat) : lN b <<< ((16 : Int32).toInt64 &&& 63) = lN (b * 65536) := wb_shl b (k := 16) (by decide)
theorem zn_l24 (b : Nat) : lN b <<< ((24 : Int32).toInt64 &&& 63) = lN (b * 16777216) := wb_shl b (k := 24) (by decide)
/-- the reference's u32 -/
theorem zn_y4 {a b c d : Nat} (ha : a < 256) (hb : b < 256) (hc : c < 256) (hd : d < 256) : lN a ||| (lN b <<< ((8 : Int32).toInt64 &&& 63)) ||| (lN c <<< ((16 : Int32).toInt64 &&& 63)) ||| (lN d <<< ((24 : Int32).toInt64 &&& 63)) = lN (a + b * 256 + c * 65536 + d * 16777216) := by
  rw [zn_l8, zn_l16, zn_l24, g_or' (k := 8) (p := 256) (by decide) ha (by omega), g_or' (k := 16) (p := 65536) (by decide) (by omega) (by omega), g_or' (k := 24) (p := 16777216) (by decide) (by omega) (by omega)]
/-- the component's u32 -/
theorem zn_x4 {a b c d : Nat} (ha : a < 256) (hb : b < 256) (hc : c < 256) (hd : d < 256) : (nI (a + b * 256)).toInt64 + ((nI (c + d * 256)).toInt64 <<< ((16 : Int32).toInt64 &&& 63)) = lN (a + b * 256 + c * 65536 + d * 16777216) := by
  rw [nI_l (by omega), nI_l (by omega), zn_l16, lN_add]
  exact congrArg lN (by omega)
theorem zn_255 {n : Nat} (h : n < 2 ^ 32) : nI n &&& 255 = nI (n % 256) := pk_andN h 8 (by decide)
/-- the component's byte in append -/
theorem zn_byte {n : Nat} (h : n < 4294967296) (k : Nat) (hk : k < 4) : ((lN n).toUInt64 >>> (((8 : Int32) * nI k).toInt64.toUInt64 &&& Int64.toUInt64 63)).toInt64.toInt32 &&& 255 = nI (n / 2 ^ (8 * k) % 256) := by
  have e : (8 : Int32) * nI k = nI (8 * k) := pk_mul 8 k
  rw [e, wb_shr (by omega) (by omega), lN_i]
  exact zn_255 (Nat.lt_of_le_of_lt (Nat.div_le_self _ _) h)
theorem zn_long {m : Nat} (h : m < 2 ^ 32) : (nI m).toInt64 &&& 4294967295 = lN m := by
  apply Int64.toBitVec_inj.mp
  rw [Int64.toBitVec_and, Int32.toBitVec_toInt64]
  apply BitVec.eq_of_getLsbD_eq
  intro i hi
  rw [BitVec.getLsbD_and, BitVec.getLsbD_signExtend]
  have e : (lN m).toBitVec.getLsbD i = m.testBit i := by
    show (BitVec.ofNat 64 m).getLsbD i = _
    rw [BitVec.getLsbD_ofNat, decide_eq_true hi, Bool.true_and]
  have hm : ∀ i, i < 64 → (4294967295 : Int64).toBitVec.getLsbD i = decide (i < 32) := by decide +kernel
  rw [e, hm i hi]
  rcases Nat.lt_or_ge i 32 with z | z
  · have e2 : (nI m).toBitVec.getLsbD i = m.testBit i := by
      show (BitVec.ofNat 32 m).getLsbD i = _
      rw [BitVec.getLsbD_ofNat, decide_eq_true z, Bool.true_and]
    rw [if_pos z, e2]
    simp [z, hi]
  · have t : m.testBit i = false := Nat.testBit_lt_two_pow (Nat.lt_of_lt_of_le h (Nat.pow_le_pow_right (by decide) z))
    rw [t]
    simp [Nat.not_lt.mpr z]
theorem zn_m1 (n : Nat) (h : n < 2 ^ 31) : ¬ nI n = -1 := by
  intro e
  have a := nI_toInt h
  rw [e, show (-1 : Int32).toInt = -1 from by decide] at a
  omega
theorem zn_0le {n : Nat} (h : n < 2 ^ 31) : ¬ nI n < 0 := nI_pos h
/-! ===== the checksum ===== -/
def zk_b (c : Nat) : Nat := if c % 2 = 1 then c / 2 ^^^ 3988292384 else c / 2
def zk_8 (c : Nat) : Nat → Nat
  | 0 => c
  | i + 1 => zk_b (zk_8 c i)
def zk_K (B : Nat → Nat) (s : Nat) : Nat → Nat
  | 0 => 4294967295
  | i + 1 => zk_8 (zk_K B s i ^^^ B (s + i)) 8
def zk_F (B : Nat → Nat) (s n : Nat) : Nat := zk_K B s n ^^^ 4294967295
theorem zk_b_lt {c : Nat} (h : c < 2 ^ 32) : zk_b c < 2 ^ 32 := by
  unfold zk_b
  split
  · exact Nat.xor_lt_two_pow (by omega) (by decide)
  · omega
theorem zk_8_lt {c : Nat} (h : c < 2 ^ 32) (i : Nat) : zk_8 c i < 2 ^ 32 := by
  induction i with
  | zero => exact h
  | succ i ih => exact zk_b_lt ih
theorem zk_x_lt {B : Nat → Nat} (hB : zb_B B) {c : Nat} (h : c < 2 ^ 32) (j : Nat) : c ^^^ B j < 2 ^ 32 :=
  Nat.xor_lt_two_pow h (Nat.lt_trans (hB j) (by decide))
theorem zk_K_lt {B : Nat → Nat} (hB : zb_B B) (s i : Nat) : zk_K B s i < 2 ^ 32 := by
  induction i with
  | zero =>
    show (4294967295 : Nat) < 2 ^ 32
    decide
  | succ i ih => exact zk_8_lt (zk_x_lt hB ih _) 8
theorem zk_F_lt {B : Nat → Nat} (hB : zb_B B) (s n : Nat) : zk_F B s n < 4294967296 :=
  Nat.xor_lt_two_pow (n := 32) (zk_K_lt hB s n) (by decide)
end
section
/-! ===== sums of sizes ===== -/
def zs_m (Z : Nat → Nat) : Nat → Nat
  | 0 => 0
  | k + 1 => zs_m Z k + Z k
theorem zs_le (Z : Nat → Nat) {j k : Nat} (h : j ≤ k) : zs_m Z j ≤ zs_m Z k := by
  induction k with
  | zero =>
    have e : j = 0 := by omega
    rw [e]
    exact Nat.le_refl _
  | succ k ih =>
    by_cases e : j = k + 1
    · rw [e]; exact Nat.le_refl _
    · have a := ih (by omega)
      show zs_m Z j ≤ zs_m Z k + Z k
      omega
theorem zs_lt (Z : Nat → Nat) {j k : Nat} (h : j < k) : zs_m Z j + Z j ≤ zs_m Z k := zs_le Z (j := j + 1) h
theorem zs_w (Z : Nat → Nat) (p x k : Nat) (h : k ≤ p) : zs_m (zb_w Z p x) k = zs_m Z k := by
  induction k with
  | zero => rfl
  | succ k ih =>
    show zs_m (zb_w Z p x) k + zb_w Z p x k = zs_m Z k + Z k
    rw [ih (by omega), zb_wn (by omega)]
/-! ===== tables: a name's entry (size, crc, offset) ===== -/
def zt_s (T : Nat → Option (Nat × Nat × Nat)) (n : Nat) (e : Nat × Nat × Nat) : Nat → Option (Nat × Nat × Nat) := fun v => if v = n then some e else T v
def zt_0 : Nat → Option (Nat × Nat × Nat) := fun _ => none
def zt_f (g : Nat → Nat) (e : Nat → Nat × Nat × Nat) (T : Nat → Option (Nat × Nat × Nat)) : Nat → (Nat → Option (Nat × Nat × Nat))
  | 0 => T
  | k + 1 => zt_s (zt_f g e T k) (g k) (e k)
def zt_1 : Option (Nat × Nat × Nat) → Nat
  | none => 0
  | some _ => 1
def zt_c (T : Nat → Option (Nat × Nat × Nat)) : Nat → Nat
  | 0 => 0
  | v + 1 => zt_c T v + zt_1 (T v)
theorem zt_ss {T : Nat → Option (Nat × Nat × Nat)} {n : Nat} {e : Nat × Nat × Nat} : zt_s T n e n = some e := if_pos rfl
theorem zt_sn {T : Nat → Option (Nat × Nat × Nat)} {n v : Nat} {e : Nat × Nat × Nat} (h : v ≠ n) : zt_s T n e v = T v := if_neg h
theorem zt_c_le (T : Nat → Option (Nat × Nat × Nat)) {v w : Nat} (h : v ≤ w) : zt_c T v ≤ zt_c T w := by
  induction w with
  | zero =>
    have e : v = 0 := by omega
    rw [e]
    exact Nat.le_refl _
  | succ w ih =>
    by_cases e : v = w + 1
    · rw [e]; exact Nat.le_refl _
    · have a := ih (by omega)
      show zt_c T v ≤ zt_c T w + zt_1 (T w)
      omega
theorem zt_c_lt (T : Nat → Option (Nat × Nat × Nat)) {v w : Nat} (h : v < w) {e : Nat × Nat × Nat} (he : T v = some e) : zt_c T v + 1 ≤ zt_c T w := by
  have a := zt_c_le T (v := v + 1) (w := w) h
  have b : zt_c T (v + 1) = zt_c T v + zt_1 (T v) := rfl
  have c : zt_1 (T v) = 1 := by rw [he]; rfl
  omega
theorem zt_c_0 (v : Nat) : zt_c zt_0 v = 0 := by
  induction v with
  | zero => rfl
  | succ v ih =>
    show zt_c zt_0 v + 0 = 0
    rw [ih]
theorem zt_c_s (T : Nat → Option (Nat × Nat × Nat)) (n : Nat) (e : Nat × Nat × Nat) (h : T n = none) (v : Nat) : zt_c (zt_s T n e) v = zt_c T v + (if n < v then 1 else 0) := by
  induction v with
  | zero => rfl
  | succ v ih =>
    show zt_c (zt_s T n e) v + zt_1 (zt_s T n e v) = zt_c T v + zt_1 (T v) + _
    by_cases c : v = n
    · subst c
      rw [ih, zt_ss, h, if_neg (by omega), if_pos (by omega)]
      rfl
    · rw [ih, zt_sn c]
      by_cases d : n < v
      · rw [if_pos d, if_pos (by omega)]; omega
      · rw [if_neg d, if_neg (by omega)]; omega
/-! ===== filling ===== -/
theorem zt_f_miss (g : Nat → Nat) (e : Nat → Nat × Nat × Nat) (T : Nat → Option (Nat × Nat × Nat)) (v K : Nat) (h : ∀ k, k < K → g k ≠ v) : zt_f g e T K v = T v := by
  induction K with
  | zero => rfl
  | succ K ih =>
    show zt_s (zt_f g e T K) (g K) (e K) v = T v
    rw [zt_sn (fun c => h K (by omega) c.symm), ih (fun k hk => h k (by omega))]
theorem zt_f_hit (g : Nat → Nat) (e : Nat → Nat × Nat × Nat) (T T' : Nat → Option (Nat × Nat × Nat)) (v K : Nat) (h : ∃ k, k < K ∧ g k = v) : zt_f g e T K v = zt_f g e T' K v := by
  induction K with
  | zero =>
    obtain ⟨k, hk, _⟩ := h
    omega
  | succ K ih =>
    show zt_s (zt_f g e T K) (g K) (e K) v = zt_s (zt_f g e T' K) (g K) (e K) v
    by_cases c : v = g K
    · rw [c, zt_ss, zt_ss]
    · rw [zt_sn c, zt_sn c]
      obtain ⟨k, hk, e2⟩ := h
      have hk2 : k ≠ K := fun z => c (by rw [← e2, z])
      exact ih ⟨k, by omega, e2⟩
theorem zt_f_all (g : Nat → Nat) (e : Nat → Nat × Nat × Nat) (T : Nat → Option (Nat × Nat × Nat)) (Q : Nat → Nat × Nat × Nat → Prop) (K : Nat) (h0 : ∀ v x, T v = some x → Q v x) (h : ∀ k, k < K → Q (g k) (e k)) : ∀ v x, zt_f g e T K v = some x → Q v x := by
  induction K with
  | zero => exact h0
  | succ K ih =>
    intro v x hx
    have hx2 : zt_s (zt_f g e T K) (g K) (e K) v = some x := hx
    by_cases c : v = g K
    · rw [c, zt_ss] at hx2
      have e3 : e K = x := Option.some.inj hx2
      rw [c, ← e3]
      exact h K (by omega)
    · rw [zt_sn c] at hx2
      exact ih (fun k hk => h k (by omega)) v x hx2
/-- the table without the names g 0 .. g (P - 1) -/
noncomputable def zt_k (g : Nat → Nat) (P : Nat) (T : Nat → Option (Nat × Nat × Nat)) : Nat → Option (Nat × Nat × Nat) := fun v => @ite _ (∃ k, k < P ∧ g k = v) (Classical.propDecidable _) none (T v)
theorem zt_k_y {g : Nat → Nat} {P : Nat} {T : Nat → Option (Nat × Nat × Nat)} {v : Nat} (h : ∃ k, k < P ∧ g k = v) : zt_k g P T v = none := if_pos h
theorem zt_k_n {g : Nat → Nat} {P : Nat} {T : Nat → Option (Nat × Nat × Nat)} {v : Nat} (h : ¬ ∃ k, k < P ∧ g k = v) : zt_k g P T v = T v := if_neg h
theorem zt_k_0 (g : Nat → Nat) (P : Nat) : zt_k g P zt_0 = zt_0 := by
  funext v
  by_cases h : ∃ k, k < P ∧ g k = v
  · rw [zt_k_y h]; rfl
  · rw [zt_k_n h]
theorem zt_k_sy (g : Nat → Nat) (P : Nat) (T : Nat → Option (Nat × Nat × Nat)) (n : Nat) (e : Nat × Nat × Nat) (h : ∃ k, k < P ∧ g k = n) : zt_k g P (zt_s T n e) = zt_k g P T := by
  funext v
  by_cases c : ∃ k, k < P ∧ g k = v
  · rw [zt_k_y c, zt_k_y c]
  · rw [zt_k_n c, zt_k_n c, zt_sn (fun z => c (by rw [z]; exact h))]
theorem zt_k_sn (g : Nat → Nat) (P : Nat) (T : Nat → Option (Nat × Nat × Nat)) (n : Nat) (e : Nat × Nat × Nat) (h : ¬ ∃ k, k < P ∧ g k = n) : zt_k g P (zt_s T n e) = zt_s (zt_k g P T) n e := by
  funext v
  by_cases d : v = n
  · rw [d, zt_k_n h, zt_ss, zt_ss]
  · rw [zt_sn d]
    by_cases c : ∃ k, k < P ∧ g k = v
    · rw [zt_k_y c, zt_k_y c]
    · rw [zt_k_n c, zt_k_n c, zt_sn d]
/-- the reference's filling: of one name's entries the last alone -/
noncomputable def zt_l (g : Nat → Nat) (e : Nat → Nat × Nat × Nat) (T : Nat → Option (Nat × Nat × Nat)) (P k : Nat) : Nat → Option (Nat × Nat × Nat) := fun v => @ite _ (∃ q, k ≤ q ∧ q < P ∧ g q = v) (Classical.propDecidable _) (T v) (zt_f g e T k v)
theorem zt_l_y {g : Nat → Nat} {e : Nat → Nat × Nat × Nat} {T : Nat → Option (Nat × Nat × Nat)} {P k v : Nat} (h : ∃ q, k ≤ q ∧ q < P ∧ g q = v) : zt_l g e T P k v = T v := if_pos h
theorem zt_l_n {g : Nat → Nat} {e : Nat → Nat × Nat × Nat} {T : Nat → Option (Nat × Nat × Nat)} {P k v : Nat} (h : ¬ ∃ q, k ≤ q ∧ q < P ∧ g q = v) : zt_l g e T P k v = zt_f g e T k v := if_neg h
theorem zt_l_0 (g : Nat → Nat) (e : Nat → Nat × Nat × Nat) (T : Nat → Option (Nat × Nat × Nat)) (P : Nat) : zt_l g e T P 0 = T := by
  funext v
  by_cases h : ∃ q, 0 ≤ q ∧ q < P ∧ g q = v
  · rw [zt_l_y h]
  · rw [zt_l_n h]; rfl
theorem zt_l_P (g : Nat → Nat) (e : Nat → Nat × Nat × Nat) (T : Nat → Option (Nat × Nat × Nat)) (P : Nat) : zt_l g e T P P = zt_f g e T P := by
  funext v
  rw [zt_l_n (fun ⟨q, a, b, _⟩ => by omega)]
theorem zt_l_sy (g : Nat → Nat) (e : Nat → Nat × Nat × Nat) (T : Nat → Option (Nat × Nat × Nat)) (P k : Nat) (h : ∃ q, k + 1 ≤ q ∧ q < P ∧ g q = g k) : zt_l g e T P (k + 1) = zt_l g e T P k := by
  funext v
  by_cases c : v = g k
  · obtain ⟨q, a, b, d⟩ := h
    rw [c, zt_l_y ⟨q, a, b, d⟩, zt_l_y ⟨q, by omega, b, d⟩]
  · by_cases d : ∃ q, k + 1 ≤ q ∧ q < P ∧ g q = v
    · obtain ⟨q, a, b, d⟩ := d
      rw [zt_l_y ⟨q, a, b, d⟩, zt_l_y ⟨q, by omega, b, d⟩]
    · have d2 : ¬ ∃ q, k ≤ q ∧ q < P ∧ g q = v := fun ⟨q, a, b, f⟩ => by
        by_cases x : q = k
        · exact c (by rw [← f, x])
        · exact d ⟨q, by omega, b, f⟩
      rw [zt_l_n d, zt_l_n d2]
      exact zt_sn c
theorem zt_l_sn (g : Nat → Nat) (e : Nat → Nat × Nat × Nat) (T : Nat → Option (Nat × Nat × Nat)) (P k : Nat) (h : ¬ ∃ q, k + 1 ≤ q ∧ q < P ∧ g q = g k) : zt_l g e T P (k + 1) = zt_s (zt_l g e T P k) (g k) (e k) := by
  funext v
  by_cases c : v = g k
  · rw [c, zt_l_n h, zt_ss]
    exact zt_ss
  · rw [zt_sn c]
    by_cases d : ∃ q, k + 1 ≤ q ∧ q < P ∧ g q = v
    · obtain ⟨q, a, b, d⟩ := d
      rw [zt_l_y ⟨q, a, b, d⟩, zt_l_y ⟨q, by omega, b, d⟩]
    · have d2 : ¬ ∃ q, k ≤ q ∧ q < P ∧ g q = v := fun ⟨q, a, b, f⟩ => by
        by_cases x : q = k
        · exact c (by rw [← f, x])
        · exact d ⟨q, by omega, b, f⟩
      rw [zt_l_n d, zt_l_n d2]
      exact zt_sn c
theorem zt_l_fr (g : Nat → Nat) (e : Nat → Nat × Nat × Nat) (T : Nat → Option (Nat × Nat × Nat)) (P k : Nat) (hk : k < P) : zt_l g e T P k (g k) = T (g k) := zt_l_y ⟨k, Nat.le_refl _, hk, rfl⟩
/-- both ways of filling agree -/
theorem zt_fk (g : Nat → Nat) (e : Nat → Nat × Nat × Nat) (T : Nat → Option (Nat × Nat × Nat)) (P : Nat) : zt_f g e (zt_k g P T) P = zt_f g e T P := by
  funext v
  by_cases h : ∃ k, k < P ∧ g k = v
  · exact zt_f_hit g e _ _ v P h
  · have h2 : ∀ k, k < P → g k ≠ v := fun k hk z => h ⟨k, hk, z⟩
    rw [zt_f_miss g e _ v P h2, zt_f_miss g e _ v P h2, zt_k_n h]
/-! ===== a table as the component keeps it, and as the reference does ===== -/
def zt_X (T : Nat → Option (Nat × Nat × Nat)) (no : Nat → Int32) : Prop := ∀ v, v < 256 → (T v = none → no v = -1) ∧ (∀ z k o, T v = some (z, k, o) → no v = nI o ∧ o < 65536)
theorem zt_X_s {T : Nat → Option (Nat × Nat × Nat)} {no : Nat → Int32} (h : zt_X T no) (n z k o : Nat) (ho : o < 65536) : zt_X (zt_s T n (z, k, o)) (upd no n (nI o)) := by
  intro v hv
  by_cases c : v = n
  · subst c
    rw [zt_ss, pk_us]
    exact ⟨(fun x => nomatch x), fun z' k' o' x => by
      have y := Option.some.inj x
      have y2 : o = o' := congrArg (fun t => t.2.2) y
      exact ⟨by rw [y2], by omega⟩⟩
  · rw [zt_sn c, pk_un c]
    exact h v hv
def zt_R (T : Nat → Option (Nat × Nat × Nat)) (m : Nat) (sn ss : Nat → Int32) (sc : Nat → Int64) (so : Nat → Int32) (a : Nat → Nat) : Prop :=
  m = zt_c T 256 ∧ (∀ j, j < m → a j < 256 ∧ sn j = nI (a j) ∧ ∃ z k o, T (a j) = some (z, k, o) ∧ ss j = nI z ∧ sc j = lN k ∧ so j = nI o) ∧ (∀ i j, i < m → j < m → a i = a j → i = j) ∧ (∀ v, T v ≠ none → ∃ j, j < m ∧ a j = v)
theorem zt_R_0 (sn ss : Nat → Int32) (sc : Nat → Int64) (so : Nat → Int32) (a : Nat → Nat) : zt_R zt_0 0 sn ss sc so a :=
  ⟨(zt_c_0 256).symm, fun j hj => by omega, fun i j hi => by omega, fun v hv => absurd rfl hv⟩
theorem zt_R_s {T : Nat → Option (Nat × Nat × Nat)} {m : Nat} {sn ss : Nat → Int32} {sc : Nat → Int64} {so : Nat → Int32} {a : Nat → Nat} (h : zt_R T m sn ss sc so a) (n z k o : Nat) (hn : n < 256) (hT : T n = none) :
    zt_R (zt_s T n (z, k, o)) (m + 1) (upd sn m (nI n)) (upd ss m (nI z)) (vp_updL sc m (lN k)) (upd so m (nI o)) (zb_w a m n) := by
  obtain ⟨h1, h2, h3, h4⟩ := h
  have hne : ∀ j, j < m → a j ≠ n := fun j hj c => by
    obtain ⟨_, _, z', k', o', e, _⟩ := h2 j hj
    rw [c, hT] at e
    exact nomatch e
  refine ⟨?_, ?_, ?_, ?_⟩
  · rw [zt_c_s T n (z, k, o) hT 256, if_pos hn, h1]
  · intro j hj
    by_cases c : j = m
    · subst c
      rw [zb_ws, pk_us, pk_us, pk_uLs, pk_us]
      exact ⟨hn, rfl, z, k, o, zt_ss, rfl, rfl, rfl⟩
    · rw [zb_wn c, pk_un c, pk_un c, pk_uLn c, pk_un c, zt_sn (hne j (by omega))]
      exact h2 j (by omega)
  · intro i j hi hj e
    by_cases c : i = m
    · by_cases d : j = m
      · omega
      · rw [c, zb_ws, zb_wn d] at e
        exact absurd e.symm (hne j (by omega))
    · by_cases d : j = m
      · rw [d, zb_ws, zb_wn c] at e
        exact absurd e (hne i (by omega))
      · rw [zb_wn c, zb_wn d] at e
        exact h3 i j (by omega) (by omega) e
  · intro v hv
    by_cases c : v = n
    · exact ⟨m, by omega, by rw [zb_ws, c]⟩
    · rw [zt_sn c] at hv
      obtain ⟨j, hj, e⟩ := h4 v hv
      exact ⟨j, by omega, by rw [zb_wn (by omega)]; exact e⟩
end
section
/-! ===== the directory as it is written ===== -/
def zd_c (B : Nat → Nat) (p v z k o : Nat) : Nat → Nat := zb_n (zb_n (zb_n (zb_n (zb_n B p 33639248 4) (p + 4) v 1) (p + 5) z 2) (p + 7) k 4) (p + 11) o 2
def zd_e (B : Nat → Nat) (p c d : Nat) : Nat → Nat := zb_n (zb_n (zb_n (zb_n B p 101010256 4) (p + 4) c 1) (p + 5) d 2) (p + 7) (13 * c) 2
def zd_x (B : Nat → Nat) (p v : Nat) : Option (Nat × Nat × Nat) → (Nat → Nat)
  | none => B
  | some e => zd_c B p v e.1 e.2.1 e.2.2
def zd_l (T : Nat → Option (Nat × Nat × Nat)) (B : Nat → Nat) (D : Nat) : Nat → (Nat → Nat)
  | 0 => B
  | v + 1 => zd_x (zd_l T B D v) (D + 13 * zt_c T v) v (T v)
def zd_f (T : Nat → Option (Nat × Nat × Nat)) (B : Nat → Nat) (D : Nat) : Nat → Nat := zd_e (zd_l T B D 256) (D + 13 * zt_c T 256) (zt_c T 256) D
theorem zd_c_lo (B : Nat → Nat) (p v z k o j : Nat) (h : j < p) : zd_c B p v z k o j = B j := by
  unfold zd_c
  rw [zb_n_out _ _ _ _ _ (by omega), zb_n_out _ _ _ _ _ (by omega), zb_n_out _ _ _ _ _ (by omega), zb_n_out _ _ _ _ _ (by omega), zb_n_out _ _ _ _ _ (by omega)]
theorem zd_l_lo (T : Nat → Option (Nat × Nat × Nat)) (B : Nat → Nat) (D v j : Nat) (h : j < D) : zd_l T B D v j = B j := by
  induction v with
  | zero => rfl
  | succ v ih =>
    show zd_x (zd_l T B D v) (D + 13 * zt_c T v) v (T v) j = B j
    cases T v with
    | none => exact ih
    | some e =>
      show zd_c (zd_l T B D v) (D + 13 * zt_c T v) v e.1 e.2.1 e.2.2 j = B j
      rw [zd_c_lo _ _ _ _ _ _ _ (by omega), ih]
theorem zd_c_B {B : Nat → Nat} (h : zb_B B) (p v z k o : Nat) : zb_B (zd_c B p v z k o) :=
  zb_n_B (zb_n_B (zb_n_B (zb_n_B (zb_n_B h _ _ _) _ _ _) _ _ _) _ _ _) _ _ _
theorem zd_e_B {B : Nat → Nat} (h : zb_B B) (p c d : Nat) : zb_B (zd_e B p c d) :=
  zb_n_B (zb_n_B (zb_n_B (zb_n_B h _ _ _) _ _ _) _ _ _) _ _ _
theorem zd_l_B (T : Nat → Option (Nat × Nat × Nat)) {B : Nat → Nat} (h : zb_B B) (D v : Nat) : zb_B (zd_l T B D v) := by
  induction v with
  | zero => exact h
  | succ v ih =>
    show zb_B (zd_x (zd_l T B D v) (D + 13 * zt_c T v) v (T v))
    cases T v with
    | none => exact ih
    | some e => exact zd_c_B ih _ _ _ _ _
theorem zd_f_B (T : Nat → Option (Nat × Nat × Nat)) {B : Nat → Nat} (h : zb_B B) (D : Nat) : zb_B (zd_f T B D) := zd_e_B (zd_l_B T h D 256) _ _ _
theorem zd_l_0 (B : Nat → Nat) (D v : Nat) : zd_l zt_0 B D v = B := by
  induction v with
  | zero => rfl
  | succ v ih => exact ih
theorem zd_l_n (T : Nat → Option (Nat × Nat × Nat)) (B : Nat → Nat) (D v : Nat) (h : T v = none) : zd_l T B D (v + 1) = zd_l T B D v ∧ zt_c T (v + 1) = zt_c T v := by
  refine ⟨?_, ?_⟩
  · show zd_x (zd_l T B D v) (D + 13 * zt_c T v) v (T v) = _
    rw [h]
    rfl
  · show zt_c T v + zt_1 (T v) = _
    rw [h]
    rfl
theorem zd_l_s (T : Nat → Option (Nat × Nat × Nat)) (B : Nat → Nat) (D v z k o : Nat) (h : T v = some (z, k, o)) : zd_l T B D (v + 1) = zd_c (zd_l T B D v) (D + 13 * zt_c T v) v z k o ∧ zt_c T (v + 1) = zt_c T v + 1 := by
  refine ⟨?_, ?_⟩
  · show zd_x (zd_l T B D v) (D + 13 * zt_c T v) v (T v) = _
    rw [h]
    rfl
  · show zt_c T v + zt_1 (T v) = _
    rw [h]
    rfl
/-! ===== entry records as they are written ===== -/
def zl_h (B : Nat → Nat) (p n z k : Nat) : Nat → Nat := zb_n (zb_n (zb_n (zb_n B p 67324752 4) (p + 4) n 1) (p + 5) z 2) (p + 7) k 4
def zl_d (B : Nat → Nat) (p : Nat) (D : Nat → Nat) (s : Nat) : Nat → (Nat → Nat)
  | 0 => B
  | j + 1 => zb_n (zl_d B p D s j) (p + j) (D (s + j)) 1
def zl_1 (B : Nat → Nat) (p n z k : Nat) (D : Nat → Nat) (s : Nat) : Nat → Nat := zl_d (zl_h B p n z k) (p + 11) D s z
def zl_o (Z : Nat → Nat) (L k : Nat) : Nat := L + 11 * k + zs_m Z k
def zl_a (B : Nat → Nat) (L : Nat) (g Z D : Nat → Nat) : Nat → (Nat → Nat)
  | 0 => B
  | k + 1 => zl_1 (zl_a B L g Z D k) (zl_o Z L k) (g k) (Z k) (zk_F D (zs_m Z k) (Z k)) D (zs_m Z k)
theorem zl_o_s (Z : Nat → Nat) (L k : Nat) : zl_o Z L (k + 1) = zl_o Z L k + 11 + Z k := by
  show L + 11 * (k + 1) + (zs_m Z k + Z k) = L + 11 * k + zs_m Z k + 11 + Z k
  omega
theorem zl_o_le (Z : Nat → Nat) (L : Nat) {j k : Nat} (h : j ≤ k) : zl_o Z L j ≤ zl_o Z L k := by
  have a := zs_le Z h
  unfold zl_o
  omega
theorem zl_o_L (Z : Nat → Nat) (L k : Nat) : L ≤ zl_o Z L k := by
  unfold zl_o
  omega
theorem zl_d_lo (B : Nat → Nat) (p : Nat) (D : Nat → Nat) (s z j : Nat) (h : j < p) : zl_d B p D s z j = B j := by
  induction z with
  | zero => rfl
  | succ z ih =>
    show zb_n (zl_d B p D s z) (p + z) (D (s + z)) 1 j = B j
    rw [zb_n_out _ _ _ _ _ (by omega), ih]
theorem zl_h_lo (B : Nat → Nat) (p n z k j : Nat) (h : j < p) : zl_h B p n z k j = B j := by
  unfold zl_h
  rw [zb_n_out _ _ _ _ _ (by omega), zb_n_out _ _ _ _ _ (by omega), zb_n_out _ _ _ _ _ (by omega), zb_n_out _ _ _ _ _ (by omega)]
theorem zl_1_lo (B : Nat → Nat) (p n z k : Nat) (D : Nat → Nat) (s j : Nat) (h : j < p) : zl_1 B p n z k D s j = B j := by
  unfold zl_1
  rw [zl_d_lo _ _ _ _ _ _ (by omega), zl_h_lo _ _ _ _ _ _ h]
theorem zl_h_rd (B : Nat → Nat) (p n z k : Nat) (hn : n < 256) (hz : z < 65536) (hk : k < 4294967296) : zl_h B p n z k (p + 4) = n ∧ zb_r2 (zl_h B p n z k) (p + 5) = z ∧ zb_r4 (zl_h B p n z k) (p + 7) = k := by
  unfold zl_h
  refine ⟨?_, ?_, ?_⟩
  · rw [zb_n_out _ _ _ _ _ (by omega), zb_n_out _ _ _ _ _ (by omega), zb_at0 _ _ _ _ (by decide)]
    omega
  · rw [zb_r2_c (B := zb_n (zb_n (zb_n B p 67324752 4) (p + 4) n 1) (p + 5) z 2) (fun j a b => zb_n_out _ _ _ _ _ (by omega))]
    exact zb_r2_n _ _ _ hz
  · exact zb_r4_n _ _ _ hk
theorem zl_1_rd (B : Nat → Nat) (p n z k : Nat) (D : Nat → Nat) (s : Nat) (hn : n < 256) (hz : z < 65536) (hk : k < 4294967296) : zl_1 B p n z k D s (p + 4) = n ∧ zb_r2 (zl_1 B p n z k D s) (p + 5) = z ∧ zb_r4 (zl_1 B p n z k D s) (p + 7) = k := by
  obtain ⟨a, b, c⟩ := zl_h_rd B p n z k hn hz hk
  have e : ∀ j, j < p + 11 → zl_1 B p n z k D s j = zl_h B p n z k j := fun j hj => zl_d_lo _ _ _ _ _ _ hj
  refine ⟨?_, ?_, ?_⟩
  · rw [e _ (by omega), a]
  · rw [zb_r2_c (B := zl_h B p n z k) (fun j _ h2 => e j (by omega)), b]
  · rw [zb_r4_c (B := zl_h B p n z k) (fun j _ h2 => e j (by omega)), c]
theorem zl_a_lo (B : Nat → Nat) (L : Nat) (g Z D : Nat → Nat) (k : Nat) : ∀ q, k ≤ q → ∀ j, j < zl_o Z L k → zl_a B L g Z D q j = zl_a B L g Z D k j := by
  intro q
  induction q with
  | zero =>
    intro h j _
    have e : k = 0 := by omega
    rw [e]
  | succ q ih =>
    intro h j hj
    by_cases e : k = q + 1
    · rw [e]
    · have a := zl_o_le Z L (j := k) (k := q) (by omega)
      show zl_1 (zl_a B L g Z D q) (zl_o Z L q) (g q) (Z q) (zk_F D (zs_m Z q) (Z q)) D (zs_m Z q) j = _
      rw [zl_1_lo _ _ _ _ _ _ _ _ (by omega)]
      exact ih (by omega) j hj
theorem zl_a_L (B : Nat → Nat) (L : Nat) (g Z D : Nat → Nat) (q j : Nat) (h : j < L) : zl_a B L g Z D q j = B j :=
  zl_a_lo B L g Z D 0 q (by omega) j (by have := zl_o_L Z L 0; omega)
theorem zl_a_rd (B : Nat → Nat) (L : Nat) (g Z D : Nat → Nat) (hg : zb_B g) (hD : zb_B D) (k q : Nat) (hk : k < q) (hz : Z k < 65536) : zl_a B L g Z D q (zl_o Z L k + 4) = g k ∧ zb_r2 (zl_a B L g Z D q) (zl_o Z L k + 5) = Z k ∧ zb_r4 (zl_a B L g Z D q) (zl_o Z L k + 7) = zk_F D (zs_m Z k) (Z k) := by
  have o := zl_o_s Z L k
  have e : ∀ j, j < zl_o Z L k + 11 → zl_a B L g Z D q j = zl_1 (zl_a B L g Z D k) (zl_o Z L k) (g k) (Z k) (zk_F D (zs_m Z k) (Z k)) D (zs_m Z k) j := fun j hj => zl_a_lo B L g Z D (k + 1) q hk j (by omega)
  obtain ⟨a, b, c⟩ := zl_1_rd (zl_a B L g Z D k) (zl_o Z L k) (g k) (Z k) (zk_F D (zs_m Z k) (Z k)) D (zs_m Z k) (hg k) hz (zk_F_lt hD _ _)
  refine ⟨?_, ?_, ?_⟩
  · rw [e _ (by omega), a]
  · rw [zb_r2_c (fun j _ h2 => e j (by omega)), b]
  · rw [zb_r4_c (fun j _ h2 => e j (by omega)), c]
theorem zl_d_B {B : Nat → Nat} (h : zb_B B) (p : Nat) (D : Nat → Nat) (s z : Nat) : zb_B (zl_d B p D s z) := by
  induction z with
  | zero => exact h
  | succ z ih => exact zb_n_B ih _ _ _
theorem zl_h_B {B : Nat → Nat} (h : zb_B B) (p n z k : Nat) : zb_B (zl_h B p n z k) := zb_n_B (zb_n_B (zb_n_B (zb_n_B h _ _ _) _ _ _) _ _ _) _ _ _
theorem zl_a_B {B : Nat → Nat} (h : zb_B B) (L : Nat) (g Z D : Nat → Nat) (k : Nat) : zb_B (zl_a B L g Z D k) := by
  induction k with
  | zero => exact h
  | succ k ih => exact zl_d_B (zl_h_B ih _ _ _ _) _ _ _ _
/-! ===== an openable image ===== -/
def zo_E (B : Nat → Nat) (d i : Nat) : Prop :=
  zb_r4 B (d + 13 * i) = 33639248 ∧ zb_r2 B (d + 13 * i + 11) + 11 + zb_r2 B (d + 13 * i + 5) ≤ d ∧ zb_r4 B (zb_r2 B (d + 13 * i + 11)) = 67324752 ∧ B (zb_r2 B (d + 13 * i + 11) + 4) = B (d + 13 * i + 4) ∧ zb_r2 B (zb_r2 B (d + 13 * i + 11) + 5) = zb_r2 B (d + 13 * i + 5) ∧ zb_r4 B (zb_r2 B (d + 13 * i + 11) + 7) = zb_r4 B (d + 13 * i + 7) ∧ (∀ q, q + 1 = i → B (d + 13 * q + 4) < B (d + 13 * i + 4))
def zo_A (B : Nat → Nat) (d c : Nat) : Prop := ∀ i, i < c → zo_E B d i
/-- the directory's count, start of an image that ends at L -/
def zo_c (B : Nat → Nat) (L : Nat) : Nat := B (L - 9 + 4)
def zo_d (B : Nat → Nat) (L : Nat) : Nat := zb_r2 B (L - 9 + 5)
def zo_O (B : Nat → Nat) (L : Nat) : Prop := 9 ≤ L ∧ zb_r4 B (L - 9) = 101010256 ∧ zb_r2 B (L - 9 + 7) = 13 * zo_c B L ∧ zo_d B L + 13 * zo_c B L = L - 9 ∧ zo_A B (zo_d B L) (zo_c B L)
theorem zo_asc {B : Nat → Nat} {d c : Nat} (h : zo_A B d c) : ∀ i, i < c → ∀ q, q < i → B (d + 13 * q + 4) < B (d + 13 * i + 4) := by
  intro i
  induction i with
  | zero => intro _ q hq; omega
  | succ i ih =>
    intro hi q hq
    have a := (h (i + 1) hi).2.2.2.2.2.2 i rfl
    by_cases e : q = i
    · rw [e]; exact a
    · exact Nat.lt_trans (ih (by omega) q (by omega)) a
end
section
/-! ===== entries that stand in the image ===== -/
def zd_Q (B : Nat → Nat) (D v : Nat) (x : Nat × Nat × Nat) : Prop := x.2.2 + 11 ≤ D ∧ B (x.2.2 + 4) = v ∧ zb_r2 B (x.2.2 + 5) = x.1 ∧ zb_r4 B (x.2.2 + 7) = x.2.1
def zc_n (B : Nat → Nat) (d i : Nat) : Nat := B (d + 13 * i + 4)
def zc_e (B : Nat → Nat) (d i : Nat) : Nat × Nat × Nat := (zb_r2 B (d + 13 * i + 5), zb_r4 B (d + 13 * i + 7), zb_r2 B (d + 13 * i + 11))
def zc_p (Z D : Nat → Nat) (L k : Nat) : Nat × Nat × Nat := (Z k, zk_F D (zs_m Z k) (Z k), zl_o Z L k)
/-- the table of the current directory, first i entries -/
def zc_C (B : Nat → Nat) (d i : Nat) : Nat → Option (Nat × Nat × Nat) := zt_f (zc_n B d) (zc_e B d) zt_0 i
/-- and with the first k pending entries -/
def zc_T (B : Nat → Nat) (d c : Nat) (g Z D : Nat → Nat) (L k : Nat) : Nat → Option (Nat × Nat × Nat) := zt_f g (zc_p Z D L) (zc_C B d c) k
theorem zd_Q_c {A B : Nat → Nat} {D D' v : Nat} {x : Nat × Nat × Nat} (h : zd_Q B D v x) (hD : D ≤ D') (e : ∀ j, j < D → A j = B j) : zd_Q A D' v x := by
  obtain ⟨a, b, c, d⟩ := h
  refine ⟨by omega, ?_, ?_, ?_⟩
  · rw [e _ (by omega)]; exact b
  · rw [zb_r2_c (B := B) (fun j _ h2 => e j (by omega))]; exact c
  · rw [zb_r4_c (B := B) (fun j _ h2 => e j (by omega))]; exact d
theorem zo_dl {B : Nat → Nat} {L : Nat} (h : zo_O B L) : zo_d B L + 13 * zo_c B L + 9 = L := by
  have a := h.1
  have b := h.2.2.2.1
  omega
theorem zc_QE {B : Nat → Nat} {d i : Nat} (h : zo_E B d i) : zd_Q B d (zc_n B d i) (zc_e B d i) := by
  obtain ⟨_, a, _, b, c, e, _⟩ := h
  exact ⟨by show zb_r2 B (d + 13 * i + 11) + 11 ≤ d; omega, b, c, e⟩
theorem zc_QC {B : Nat → Nat} {d c : Nat} (h : zo_A B d c) : ∀ v x, zc_C B d c v = some x → zd_Q B d v x :=
  zt_f_all _ _ _ (fun v x => zd_Q B d v x) c (fun v x hx => nomatch (show (none : Option (Nat × Nat × Nat)) = some x from hx)) (fun i hi => zc_QE (h i hi))
theorem zc_QT {B g Z D : Nat → Nat} {L P : Nat} (h : zo_O B L) (hg : zb_B g) (hD : zb_B D) (hz : zs_m Z P ≤ 128) : ∀ v x, zc_T B (zo_d B L) (zo_c B L) g Z D L P v = some x → zd_Q (zl_a B L g Z D P) (zl_o Z L P) v x := by
  have hl := zo_dl h
  have ho := zl_o_L Z L P
  refine zt_f_all _ _ _ (fun v x => zd_Q (zl_a B L g Z D P) (zl_o Z L P) v x) P ?_ ?_
  · intro v x hx
    exact zd_Q_c (zc_QC h.2.2.2.2 v x hx) (by omega) (fun j hj => zl_a_L B L g Z D P j (by omega))
  · intro k hk
    have h1 := zs_lt Z hk
    obtain ⟨a, b, c⟩ := zl_a_rd B L g Z D hg hD k P hk (by omega)
    have h2 := zl_o_s Z L k
    have h3 := zl_o_le Z L (j := k + 1) (k := P) hk
    exact ⟨by show zl_o Z L k + 11 ≤ zl_o Z L P; omega, a, b, c⟩
theorem zc_fr {B : Nat → Nat} {d c i : Nat} (h : zo_A B d c) (hi : i < c) : zc_C B d i (zc_n B d i) = none :=
  zt_f_miss _ _ _ _ _ (fun q hq e => by
    have a := zo_asc h i hi q hq
    have e2 : B (d + 13 * q + 4) = B (d + 13 * i + 4) := e
    omega)
theorem zc_C_s (B : Nat → Nat) (d i : Nat) : zc_C B d (i + 1) = zt_s (zc_C B d i) (zc_n B d i) (zc_e B d i) := rfl
theorem zc_T_s (B : Nat → Nat) (d c : Nat) (g Z D : Nat → Nat) (L k : Nat) : zc_T B d c g Z D L (k + 1) = zt_s (zc_T B d c g Z D L k) (g k) (zc_p Z D L k) := rfl
theorem zc_c19 {B : Nat → Nat} {L : Nat} (h : zo_O B L) (hL : L ≤ 256) : zo_c B L ≤ 19 := by
  have a := zo_dl h
  omega
/-! ===== records found by a scan: their places o 0 .. o (F - 1), their names, entries ===== -/
def zg_n (B o : Nat → Nat) (i : Nat) : Nat := B (o i + 4)
def zg_e (B o : Nat → Nat) (i : Nat) : Nat × Nat × Nat := (zb_r2 B (o i + 5), zb_r4 B (o i + 7), o i)
def zg_T (B o : Nat → Nat) (i : Nat) : Nat → Option (Nat × Nat × Nat) := zt_f (zg_n B o) (zg_e B o) zt_0 i
/-- the end of the last record -/
def zg_D (B o : Nat → Nat) : Nat → Nat
  | 0 => 0
  | i + 1 => o i + 11 + zb_r2 B (o i + 5)
def zg_I (B : Nat → Nat) (p F : Nat) (o : Nat → Nat) (fn fs : Nat → Int32) (fc : Nat → Int64) (fo : Nat → Int32) : Prop :=
  11 * F ≤ zg_D B o F ∧ zg_D B o F ≤ p ∧ ∀ i, i < F → fn i = nI (B (o i + 4)) ∧ fs i = nI (zb_r2 B (o i + 5)) ∧ fc i = lN (zb_r4 B (o i + 7)) ∧ fo i = nI (o i) ∧ o i + 11 ≤ zg_D B o F
theorem zg_I_0 (B o : Nat → Nat) (fn fs : Nat → Int32) (fc : Nat → Int64) (fo : Nat → Int32) : zg_I B 0 0 o fn fs fc fo :=
  ⟨Nat.le_refl _, Nat.le_refl _, fun i hi => by omega⟩
theorem zg_I_p {B : Nat → Nat} {p q F : Nat} {o : Nat → Nat} {fn fs : Nat → Int32} {fc : Nat → Int64} {fo : Nat → Int32} (h : zg_I B p F o fn fs fc fo) (hq : p ≤ q) : zg_I B q F o fn fs fc fo :=
  ⟨h.1, Nat.le_trans h.2.1 hq, h.2.2⟩
theorem zg_I_s {B : Nat → Nat} {p F : Nat} {o : Nat → Nat} {fn fs : Nat → Int32} {fc : Nat → Int64} {fo : Nat → Int32} (h : zg_I B p F o fn fs fc fo) :
    zg_I B (p + 11 + zb_r2 B (p + 5)) (F + 1) (zb_w o F p) (upd fn F (nI (B (p + 4)))) (upd fs F (nI (zb_r2 B (p + 5)))) (vp_updL fc F (lN (zb_r4 B (p + 7)))) (upd fo F (nI p)) := by
  obtain ⟨a, b, c⟩ := h
  have e : zg_D B (zb_w o F p) (F + 1) = p + 11 + zb_r2 B (p + 5) := by
    show zb_w o F p F + 11 + zb_r2 B (zb_w o F p F + 5) = _
    rw [zb_ws]
  refine ⟨by omega, by omega, ?_⟩
  intro i hi
  by_cases z : i = F
  · subst z
    rw [zb_ws, pk_us, pk_us, pk_uLs, pk_us]
    exact ⟨rfl, rfl, rfl, rfl, by omega⟩
  · obtain ⟨c1, c2, c3, c4, c5⟩ := c i (by omega)
    rw [zb_wn z, pk_un z, pk_un z, pk_uLn z, pk_un z]
    exact ⟨c1, c2, c3, c4, by omega⟩
theorem zg_Q {B : Nat → Nat} {p F : Nat} {o : Nat → Nat} {fn fs : Nat → Int32} {fc : Nat → Int64} {fo : Nat → Int32} (h : zg_I B p F o fn fs fc fo) : ∀ v x, zg_T B o F v = some x → zd_Q B (zg_D B o F) v x :=
  zt_f_all _ _ _ (fun v x => zd_Q B (zg_D B o F) v x) F (fun v x hx => nomatch (show (none : Option (Nat × Nat × Nat)) = some x from hx)) (fun i hi => ⟨(h.2.2 i hi).2.2.2.2, rfl, rfl, rfl⟩)
end
section
/-! ===== literals beside nI (written by a program) ===== -/
theorem zq_a1 (a : Nat) : nI a + 1 = nI (a + 1) := nI_add a 1
theorem zq_ab1 (a : Nat) : 1 + nI a = nI (1 + a) := nI_add 1 a
theorem zq_le1 {a : Nat} (h : a < 2 ^ 31) : (nI a ≤ 1) = (a ≤ 1) := propext (nI_leI (b := 1) h (by decide))
theorem zq_ge1 {a : Nat} (h : a < 2 ^ 31) : (1 ≤ nI a) = (1 ≤ a) := propext (nI_leI (a := 1) (by decide) h)
theorem zq_lt1 {a : Nat} (h : a < 2 ^ 31) : (nI a < 1) = (a < 1) := propext (nI_ltI (b := 1) h (by decide))
theorem zq_gt1 {a : Nat} (h : a < 2 ^ 31) : (1 < nI a) = (1 < a) := propext (nI_ltI (a := 1) (by decide) h)
theorem zq_eq1 {a : Nat} (h : a < 2 ^ 31) : (nI a = 1) = (a = 1) := propext (nI_eq (b := 1) h (by decide))
theorem zq_a2 (a : Nat) : nI a + 2 = nI (a + 2) := nI_add a 2
theorem zq_ab2 (a : Nat) : 2 + nI a = nI (2 + a) := nI_add 2 a
theorem zq_le2 {a : Nat} (h : a < 2 ^ 31) : (nI a ≤ 2) = (a ≤ 2) := propext (nI_leI (b := 2) h (by decide))
theorem zq_ge2 {a : Nat} (h : a < 2 ^ 31) : (2 ≤ nI a) = (2 ≤ a) := propext (nI_leI (a := 2) (by decide) h)
theorem zq_lt2 {a : Nat} (h : a < 2 ^ 31) : (nI a < 2) = (a < 2) := propext (nI_ltI (b := 2) h (by decide))
theorem zq_gt2 {a : Nat} (h : a < 2 ^ 31) : (2 < nI a) = (2 < a) := propext (nI_ltI (a := 2) (by decide) h)
theorem zq_eq2 {a : Nat} (h : a < 2 ^ 31) : (nI a = 2) = (a = 2) := propext (nI_eq (b := 2) h (by decide))
theorem zq_a3 (a : Nat) : nI a + 3 = nI (a + 3) := nI_add a 3
theorem zq_ab3 (a : Nat) : 3 + nI a = nI (3 + a) := nI_add 3 a
theorem zq_le3 {a : Nat} (h : a < 2 ^ 31) : (nI a ≤ 3) = (a ≤ 3) := propext (nI_leI (b := 3) h (by decide))
theorem zq_ge3 {a : Nat} (h : a < 2 ^ 31) : (3 ≤ nI a) = (3 ≤ a) := propext (nI_leI (a := 3) (by decide) h)
theorem zq_lt3 {a : Nat} (h : a < 2 ^ 31) : (nI a < 3) = (a < 3) := propext (nI_ltI (b := 3) h (by decide))
theorem zq_gt3 {a : Nat} (h : a < 2 ^ 31) : (3 < nI a) = (3 < a) := propext (nI_ltI (a := 3) (by decide) h)
theorem zq_eq3 {a : Nat} (h : a < 2 ^ 31) : (nI a = 3) = (a = 3) := propext (nI_eq (b := 3) h (by decide))
theorem zq_a4 (a : Nat) : nI a + 4 = nI (a + 4) := nI_add a 4
theorem zq_ab4 (a : Nat) : 4 + nI a = nI (4 + a) := nI_add 4 a
theorem zq_le4 {a : Nat} (h : a < 2 ^ 31) : (nI a ≤ 4) = (a ≤ 4) := propext (nI_leI (b := 4) h (by decide))
theorem zq_ge4 {a : Nat} (h : a < 2 ^ 31) : (4 ≤ nI a) = (4 ≤ a) := propext (nI_leI (a := 4) (by decide) h)
theorem zq_lt4 {a : Nat} (h : a < 2 ^ 31) : (nI a < 4) = (a < 4) := propext (nI_ltI (b := 4) h (by decide))
theorem zq_gt4 {a : Nat} (h : a < 2 ^ 31) : (4 < nI a) = (4 < a) := propext (nI_ltI (a := 4) (by decide) h)
theorem zq_eq4 {a : Nat} (h : a < 2 ^ 31) : (nI a = 4) = (a = 4) := propext (nI_eq (b := 4) h (by decide))
theorem zq_a5 (a : Nat) : nI a + 5 = nI (a + 5) := nI_add a 5
theorem zq_ab5 (a : Nat) : 5 + nI a = nI (5 + a) := nI_add 5 a
theorem zq_le5 {a : Nat} (h : a < 2 ^ 31) : (nI a ≤ 5) = (a ≤ 5) := propext (nI_leI (b := 5) h (by decide))
theorem zq_ge5 {a : Nat} (h : a < 2 ^ 31) : (5 ≤ nI a) = (5 ≤ a) := propext (nI_leI (a := 5) (by decide) h)
theorem zq_lt5 {a : Nat} (h : a < 2 ^ 31) : (nI a < 5) = (a < 5) := propext (nI_ltI (b := 5) h (by decide))
theorem zq_gt5 {a : Nat} (h : a < 2 ^ 31) : (5 < nI a) = (5 < a) := propext (nI_ltI (a := 5) (by decide) h)
theorem zq_eq5 {a : Nat} (h : a < 2 ^ 31) : (nI a = 5) = (a = 5) := propext (nI_eq (b := 5) h (by decide))
theorem zq_a6 (a : Nat) : nI a + 6 = nI (a + 6) := nI_add a 6
theorem zq_ab6 (a : Nat) : 6 + nI a = nI (6 + a) := nI_add 6 a
theorem zq_le6 {a : Nat} (h : a < 2 ^ 31) : (nI a ≤ 6) = (a ≤ 6) := propext (nI_leI (b := 6) h (by decide))
theorem zq_ge6 {a : Nat} (h : a < 2 ^ 31) : (6 ≤ nI a) = (6 ≤ a) := propext (nI_leI (a := 6) (by decide) h)
theorem zq_lt6 {a : Nat} (h : a < 2 ^ 31) : (nI a < 6) = (a < 6) := propext (nI_ltI (b := 6) h (by decide))
theorem zq_gt6 {a : Nat} (h : a < 2 ^ 31) : (6 < nI a) = (6 < a) := propext (nI_ltI (a := 6) (by decide) h)
theorem zq_eq6 {a : Nat} (h : a < 2 ^ 31) : (nI a = 6) = (a = 6) := propext (nI_eq (b := 6) h (by decide))
theorem zq_a7 (a : Nat) : nI a + 7 = nI (a + 7) := nI_add a 7
theorem zq_ab7 (a : Nat) : 7 + nI a = nI (7 + a) := nI_add 7 a
theorem zq_le7 {a : Nat} (h : a < 2 ^ 31) : (nI a ≤ 7) = (a ≤ 7) := propext (nI_leI (b := 7) h (by decide))
theorem zq_ge7 {a : Nat} (h : a < 2 ^ 31) : (7 ≤ nI a) = (7 ≤ a) := propext (nI_leI (a := 7) (by decide) h)
theorem zq_lt7 {a : Nat} (h : a < 2 ^ 31) : (nI a < 7) = (a < 7) := propext (nI_ltI (b := 7) h (by decide))
theorem zq_gt7 {a : Nat} (h : a < 2 ^ 31) : (7 < nI a) = (7 < a) := propext (nI_ltI (a := 7) (by decide) h)
theorem zq_eq7 {a : Nat} (h : a < 2 ^ 31) : (nI a = 7) = (a = 7) := propext (nI_eq (b := 7) h (by decide))
theorem zq_a8 (a : Nat) : nI a + 8 = nI (a + 8) := nI_add a 8
theorem zq_ab8 (a : Nat) : 8 + nI a = nI (8 + a) := nI_add 8 a
theorem zq_le8 {a : Nat} (h : a < 2 ^ 31) : (nI a ≤ 8) = (a ≤ 8) := propext (nI_leI (b := 8) h (by decide))
theorem zq_ge8 {a : Nat} (h : a < 2 ^ 31) : (8 ≤ nI a) = (8 ≤ a) := propext (nI_leI (a := 8) (by decide) h)
theorem zq_lt8 {a : Nat} (h : a < 2 ^ 31) : (nI a < 8) = (a < 8) := propext (nI_ltI (b := 8) h (by decide))
theorem zq_gt8 {a : Nat} (h : a < 2 ^ 31) : (8 < nI a) = (8 < a) := propext (nI_ltI (a := 8) (by decide) h)
theorem zq_eq8 {a : Nat} (h : a < 2 ^ 31) : (nI a = 8) = (a = 8) := propext (nI_eq (b := 8) h (by decide))
theorem zq_a9 (a : Nat) : nI a + 9 = nI (a + 9) := nI_add a 9
theorem zq_ab9 (a : Nat) : 9 + nI a = nI (9 + a) := nI_add 9 a
theorem zq_le9 {a : Nat} (h : a < 2 ^ 31) : (nI a ≤ 9) = (a ≤ 9) := propext (nI_leI (b := 9) h (by decide))
theorem zq_ge9 {a : Nat} (h : a < 2 ^ 31) : (9 ≤ nI a) = (9 ≤ a) := propext (nI_leI (a := 9) (by decide) h)
theorem zq_lt9 {a : Nat} (h : a < 2 ^ 31) : (nI a < 9) = (a < 9) := propext (nI_ltI (b := 9) h (by decide))
theorem zq_gt9 {a : Nat} (h : a < 2 ^ 31) : (9 < nI a) = (9 < a) := propext (nI_ltI (a := 9) (by decide) h)
theorem zq_eq9 {a : Nat} (h : a < 2 ^ 31) : (nI a = 9) = (a = 9) := propext (nI_eq (b := 9) h (by decide))
theorem zq_a11 (a : Nat) : nI a + 11 = nI (a + 11) := nI_add a 11
theorem zq_ab11 (a : Nat) : 11 + nI a = nI (11 + a) := nI_add 11 a
theorem zq_le11 {a : Nat} (h : a < 2 ^ 31) : (nI a ≤ 11) = (a ≤ 11) := propext (nI_leI (b := 11) h (by decide))
theorem zq_ge11 {a : Nat} (h : a < 2 ^ 31) : (11 ≤ nI a) = (11 ≤ a) := propext (nI_leI (a := 11) (by decide) h)
theorem zq_lt11 {a : Nat} (h : a < 2 ^ 31) : (nI a < 11) = (a < 11) := propext (nI_ltI (b := 11) h (by decide))
theorem zq_gt11 {a : Nat} (h : a < 2 ^ 31) : (11 < nI a) = (11 < a) := propext (nI_ltI (a := 11) (by decide) h)
theorem zq_eq11 {a : Nat} (h : a < 2 ^ 31) : (nI a = 11) = (a = 11) := propext (nI_eq (b := 11) h (by decide))
theorem zq_a13 (a : Nat) : nI a + 13 = nI (a + 13) := nI_add a 13
theorem zq_ab13 (a : Nat) : 13 + nI a = nI (13 + a) := nI_add 13 a
theorem zq_le13 {a : Nat} (h : a < 2 ^ 31) : (nI a ≤ 13) = (a ≤ 13) := propext (nI_leI (b := 13) h (by decide))
theorem zq_ge13 {a : Nat} (h : a < 2 ^ 31) : (13 ≤ nI a) = (13 ≤ a) := propext (nI_leI (a := 13) (by decide) h)
theorem zq_lt13 {a : Nat} (h : a < 2 ^ 31) : (nI a < 13) = (a < 13) := propext (nI_ltI (b := 13) h (by decide))
theorem zq_gt13 {a : Nat} (h : a < 2 ^ 31) : (13 < nI a) = (13 < a) := propext (nI_ltI (a := 13) (by decide) h)
theorem zq_eq13 {a : Nat} (h : a < 2 ^ 31) : (nI a = 13) = (a = 13) := propext (nI_eq (b := 13) h (by decide))
theorem zq_a23 (a : Nat) : nI a + 23 = nI (a + 23) := nI_add a 23
theorem zq_ab23 (a : Nat) : 23 + nI a = nI (23 + a) := nI_add 23 a
theorem zq_le23 {a : Nat} (h : a < 2 ^ 31) : (nI a ≤ 23) = (a ≤ 23) := propext (nI_leI (b := 23) h (by decide))
theorem zq_ge23 {a : Nat} (h : a < 2 ^ 31) : (23 ≤ nI a) = (23 ≤ a) := propext (nI_leI (a := 23) (by decide) h)
theorem zq_lt23 {a : Nat} (h : a < 2 ^ 31) : (nI a < 23) = (a < 23) := propext (nI_ltI (b := 23) h (by decide))
theorem zq_gt23 {a : Nat} (h : a < 2 ^ 31) : (23 < nI a) = (23 < a) := propext (nI_ltI (a := 23) (by decide) h)
theorem zq_eq23 {a : Nat} (h : a < 2 ^ 31) : (nI a = 23) = (a = 23) := propext (nI_eq (b := 23) h (by decide))
theorem zq_a32 (a : Nat) : nI a + 32 = nI (a + 32) := nI_add a 32
theorem zq_ab32 (a : Nat) : 32 + nI a = nI (32 + a) := nI_add 32 a
theorem zq_le32 {a : Nat} (h : a < 2 ^ 31) : (nI a ≤ 32) = (a ≤ 32) := propext (nI_leI (b := 32) h (by decide))
theorem zq_ge32 {a : Nat} (h : a < 2 ^ 31) : (32 ≤ nI a) = (32 ≤ a) := propext (nI_leI (a := 32) (by decide) h)
theorem zq_lt32 {a : Nat} (h : a < 2 ^ 31) : (nI a < 32) = (a < 32) := propext (nI_ltI (b := 32) h (by decide))
theorem zq_gt32 {a : Nat} (h : a < 2 ^ 31) : (32 < nI a) = (32 < a) := propext (nI_ltI (a := 32) (by decide) h)
theorem zq_eq32 {a : Nat} (h : a < 2 ^ 31) : (nI a = 32) = (a = 32) := propext (nI_eq (b := 32) h (by decide))
theorem zq_a64 (a : Nat) : nI a + 64 = nI (a + 64) := nI_add a 64
theorem zq_ab64 (a : Nat) : 64 + nI a = nI (64 + a) := nI_add 64 a
theorem zq_le64 {a : Nat} (h : a < 2 ^ 31) : (nI a ≤ 64) = (a ≤ 64) := propext (nI_leI (b := 64) h (by decide))
theorem zq_ge64 {a : Nat} (h : a < 2 ^ 31) : (64 ≤ nI a) = (64 ≤ a) := propext (nI_leI (a := 64) (by decide) h)
theorem zq_lt64 {a : Nat} (h : a < 2 ^ 31) : (nI a < 64) = (a < 64) := propext (nI_ltI (b := 64) h (by decide))
theorem zq_gt64 {a : Nat} (h : a < 2 ^ 31) : (64 < nI a) = (64 < a) := propext (nI_ltI (a := 64) (by decide) h)
theorem zq_eq64 {a : Nat} (h : a < 2 ^ 31) : (nI a = 64) = (a = 64) := propext (nI_eq (b := 64) h (by decide))
theorem zq_a75 (a : Nat) : nI a + 75 = nI (a + 75) := nI_add a 75
theorem zq_ab75 (a : Nat) : 75 + nI a = nI (75 + a) := nI_add 75 a
theorem zq_le75 {a : Nat} (h : a < 2 ^ 31) : (nI a ≤ 75) = (a ≤ 75) := propext (nI_leI (b := 75) h (by decide))
theorem zq_ge75 {a : Nat} (h : a < 2 ^ 31) : (75 ≤ nI a) = (75 ≤ a) := propext (nI_leI (a := 75) (by decide) h)
theorem zq_lt75 {a : Nat} (h : a < 2 ^ 31) : (nI a < 75) = (a < 75) := propext (nI_ltI (b := 75) h (by decide))
theorem zq_gt75 {a : Nat} (h : a < 2 ^ 31) : (75 < nI a) = (75 < a) := propext (nI_ltI (a := 75) (by decide) h)
theorem zq_eq75 {a : Nat} (h : a < 2 ^ 31) : (nI a = 75) = (a = 75) := propext (nI_eq (b := 75) h (by decide))
theorem zq_a80 (a : Nat) : nI a + 80 = nI (a + 80) := nI_add a 80
theorem zq_ab80 (a : Nat) : 80 + nI a = nI (80 + a) := nI_add 80 a
theorem zq_le80 {a : Nat} (h : a < 2 ^ 31) : (nI a ≤ 80) = (a ≤ 80) := propext (nI_leI (b := 80) h (by decide))
theorem zq_ge80 {a : Nat} (h : a < 2 ^ 31) : (80 ≤ nI a) = (80 ≤ a) := propext (nI_leI (a := 80) (by decide) h)
theorem zq_lt80 {a : Nat} (h : a < 2 ^ 31) : (nI a < 80) = (a < 80) := propext (nI_ltI (b := 80) h (by decide))
theorem zq_gt80 {a : Nat} (h : a < 2 ^ 31) : (80 < nI a) = (80 < a) := propext (nI_ltI (a := 80) (by decide) h)
theorem zq_eq80 {a : Nat} (h : a < 2 ^ 31) : (nI a = 80) = (a = 80) := propext (nI_eq (b := 80) h (by decide))
theorem zq_a128 (a : Nat) : nI a + 128 = nI (a + 128) := nI_add a 128
theorem zq_ab128 (a : Nat) : 128 + nI a = nI (128 + a) := nI_add 128 a
theorem zq_le128 {a : Nat} (h : a < 2 ^ 31) : (nI a ≤ 128) = (a ≤ 128) := propext (nI_leI (b := 128) h (by decide))
theorem zq_ge128 {a : Nat} (h : a < 2 ^ 31) : (128 ≤ nI a) = (128 ≤ a) := propext (nI_leI (a := 128) (by decide) h)
theorem zq_lt128 {a : Nat} (h : a < 2 ^ 31) : (nI a < 128) = (a < 128) := propext (nI_ltI (b := 128) h (by decide))
theorem zq_gt128 {a : Nat} (h : a < 2 ^ 31) : (128 < nI a) = (128 < a) := propext (nI_ltI (a := 128) (by decide) h)
theorem zq_eq128 {a : Nat} (h : a < 2 ^ 31) : (nI a = 128) = (a = 128) := propext (nI_eq (b := 128) h (by decide))
theorem zq_a255 (a : Nat) : nI a + 255 = nI (a + 255) := nI_add a 255
theorem zq_ab255 (a : Nat) : 255 + nI a = nI (255 + a) := nI_add 255 a
theorem zq_le255 {a : Nat} (h : a < 2 ^ 31) : (nI a ≤ 255) = (a ≤ 255) := propext (nI_leI (b := 255) h (by decide))
theorem zq_ge255 {a : Nat} (h : a < 2 ^ 31) : (255 ≤ nI a) = (255 ≤ a) := propext (nI_leI (a := 255) (by decide) h)
theorem zq_lt255 {a : Nat} (h : a < 2 ^ 31) : (nI a < 255) = (a < 255) := propext (nI_ltI (b := 255) h (by decide))
theorem zq_gt255 {a : Nat} (h : a < 2 ^ 31) : (255 < nI a) = (255 < a) := propext (nI_ltI (a := 255) (by decide) h)
theorem zq_eq255 {a : Nat} (h : a < 2 ^ 31) : (nI a = 255) = (a = 255) := propext (nI_eq (b := 255) h (by decide))
theorem zq_a256 (a : Nat) : nI a + 256 = nI (a + 256) := nI_add a 256
theorem zq_ab256 (a : Nat) : 256 + nI a = nI (256 + a) := nI_add 256 a
theorem zq_le256 {a : Nat} (h : a < 2 ^ 31) : (nI a ≤ 256) = (a ≤ 256) := propext (nI_leI (b := 256) h (by decide))
theorem zq_ge256 {a : Nat} (h : a < 2 ^ 31) : (256 ≤ nI a) = (256 ≤ a) := propext (nI_leI (a := 256) (by decide) h)
theorem zq_lt256 {a : Nat} (h : a < 2 ^ 31) : (nI a < 256) = (a < 256) := propext (nI_ltI (b := 256) h (by decide))
theorem zq_gt256 {a : Nat} (h : a < 2 ^ 31) : (256 < nI a) = (256 < a) := propext (nI_ltI (a := 256) (by decide) h)
theorem zq_eq256 {a : Nat} (h : a < 2 ^ 31) : (nI a = 256) = (a = 256) := propext (nI_eq (b := 256) h (by decide))
theorem zq_a300 (a : Nat) : nI a + 300 = nI (a + 300) := nI_add a 300
theorem zq_ab300 (a : Nat) : 300 + nI a = nI (300 + a) := nI_add 300 a
theorem zq_le300 {a : Nat} (h : a < 2 ^ 31) : (nI a ≤ 300) = (a ≤ 300) := propext (nI_leI (b := 300) h (by decide))
theorem zq_ge300 {a : Nat} (h : a < 2 ^ 31) : (300 ≤ nI a) = (300 ≤ a) := propext (nI_leI (a := 300) (by decide) h)
theorem zq_lt300 {a : Nat} (h : a < 2 ^ 31) : (nI a < 300) = (a < 300) := propext (nI_ltI (b := 300) h (by decide))
theorem zq_gt300 {a : Nat} (h : a < 2 ^ 31) : (300 < nI a) = (300 < a) := propext (nI_ltI (a := 300) (by decide) h)
theorem zq_eq300 {a : Nat} (h : a < 2 ^ 31) : (nI a = 300) = (a = 300) := propext (nI_eq (b := 300) h (by decide))
theorem zq_m13 (a : Nat) : 13 * nI a = nI (13 * a) := pk_mul 13 a
theorem zq_m8 (a : Nat) : 8 * nI a = nI (8 * a) := pk_mul 8 a
theorem zq_s9 {a : Nat} (h : 9 ≤ a) : nI a - 9 = nI (a - 9) := pk_sub h
theorem zq_s1 {a : Nat} (h : 1 ≤ a) : nI a - 1 = nI (a - 1) := pk_sub h
theorem zq_lt0 {a : Nat} (h : a < 2 ^ 31) : (nI a < 0) = False := eq_false (nI_pos h)
theorem zq_ge0 {a : Nat} (h : a < 2 ^ 31) : (0 ≤ nI a) = True := eq_true (nI_pos' h)
theorem zq_eq0 {a : Nat} (h : a < 2 ^ 31) : (nI a = 0) = (a = 0) := propext (nI_eq (b := 0) h (by decide))
theorem zq_le0 {a : Nat} (h : a < 2 ^ 31) : (nI a ≤ 0) = (a = 0) := propext ((nI_leI (b := 0) h (by decide)).trans ⟨fun z => by omega, fun z => by omega⟩)
theorem zq_m1 {a : Nat} (h : a < 2 ^ 31) : (nI a = -1) = False := eq_false (zn_m1 a h)
theorem zq_lem1 {a : Nat} (h : a < 2 ^ 31) : (nI a ≤ -1) = False := eq_false (fun z => by
  rw [Int32.le_iff_toInt_le, nI_toInt h, show (-1 : Int32).toInt = -1 from by decide] at z
  omega)
theorem zq_le {a b : Nat} (ha : a < 2 ^ 31) (hb : b < 2 ^ 31) : (nI a ≤ nI b) = (a ≤ b) := propext (nI_leI ha hb)
theorem zq_lt {a b : Nat} (ha : a < 2 ^ 31) (hb : b < 2 ^ 31) : (nI a < nI b) = (a < b) := propext (nI_ltI ha hb)
theorem zq_eq {a b : Nat} (ha : a < 2 ^ 31) (hb : b < 2 ^ 31) : (nI a = nI b) = (a = b) := propext (nI_eq ha hb)
theorem zq_in {a N : Nat} (h : a < N) (hN : N < 2 ^ 31) : vp_in (nI a) N = True := eq_true (vp_in_nI h hN)
theorem zq_f (B : Nat → Nat) (j : Nat) : zb_f B j = nI (B j) := rfl
theorem zq_v {α : Sort _} {P : α → Prop} {a b : α} (e : a = b) (h : P b) : P a := e ▸ h
end
section
/-! ===== the component's small methods ===== -/
section ZX
variable {C L P T F : Nat} {B g Z D : Nat → Nat} {st fn fs fo no : Nat → Int32} {fc : Nat → Int64}
theorem xl_b {post : Int32 → Prop} {q : Int32} (p : Nat) (hq : q = nI p) (h : p < L) (hL : L ≤ 256) (k : post (nI (B p))) : wpX_byteAt post (nI C, nI L, nI P, nI T, nI F, zb_f B, zb_f g, st, zb_f Z, zb_f D, fn, fs, fc, fo, no) q := by
  subst hq
  exact br_f (nI_pos (by omega)) (br_t (nI_lt h (by omega)) ⟨vp_in_nI (by omega) (by omega), zq_v (P := post) (by rw [nI_clamp (by omega)]; rfl) k⟩)
theorem xl_2 {post : Int32 → Prop} {q : Int32} (p : Nat) (hq : q = nI p) (h : p + 2 ≤ L) (hL : L ≤ 256) (hB : zb_B B) (k : post (nI (zb_r2 B p))) : wpX_u16 post (nI C, nI L, nI P, nI T, nI F, zb_f B, zb_f g, st, zb_f Z, zb_f D, fn, fs, fc, fo, no) q := by
  subst hq
  have e1 : nI p + 1 = nI (p + 1) := nI_1 p
  have e2 : nI p + 2 = nI (p + 2) := nI_add p 2
  refine br_f (nI_pos (by omega)) (br_t (by rw [e2]; exact nI_le h (by omega)) ⟨vp_in_nI (by omega) (by omega), by rw [e1]; exact vp_in_nI (by omega) (by omega), zq_v (P := post) ?_ k⟩)
  rw [e1, nI_clamp (by omega), nI_clamp (by omega)]
  exact zn_x2 (hB (p + 1))
theorem xl_4 {post : Int64 → Prop} {q : Int32} (p : Nat) (hq : q = nI p) (h : p + 4 ≤ L) (hL : L ≤ 256) (hB : zb_B B) (k : post (lN (zb_r4 B p))) : wpX_u32 post (nI C, nI L, nI P, nI T, nI F, zb_f B, zb_f g, st, zb_f Z, zb_f D, fn, fs, fc, fo, no) q := by
  subst hq
  have e1 : nI p + 1 = nI (p + 1) := nI_1 p
  have e2 : nI p + 2 = nI (p + 2) := nI_add p 2
  have e3 : nI p + 3 = nI (p + 3) := nI_add p 3
  have e4 : nI p + 4 = nI (p + 4) := nI_add p 4
  refine br_f (nI_pos (by omega)) (br_t (by rw [e4]; exact nI_le h (by omega)) ⟨vp_in_nI (by omega) (by omega), by rw [e1]; exact vp_in_nI (by omega) (by omega), nm_r (e' := nI (B p + B (p + 1) * 256)) ?_ ⟨by rw [e2]; exact vp_in_nI (by omega) (by omega), by rw [e3]; exact vp_in_nI (by omega) (by omega), nm_r (e' := (nI (B (p + 2) + B (p + 3) * 256)).toInt64) ?_ (zq_v (P := post) ?_ k)⟩⟩)
  · rw [e1, nI_clamp (by omega), nI_clamp (by omega)]
    exact zn_x2 (hB (p + 1))
  · rw [e2, e3, nI_clamp (by omega), nI_clamp (by omega)]
    exact congrArg Int32.toInt64 (zn_x2 (hB (p + 3)))
  · exact zn_x4 (hB p) (hB (p + 1)) (hB (p + 2)) (hB (p + 3))
theorem xl_4n {post : Int64 → Prop} {q : Int32} (h : q < 0) (k : post (-1)) : wpX_u32 post (nI C, nI L, nI P, nI T, nI F, zb_f B, zb_f g, st, zb_f Z, zb_f D, fn, fs, fc, fo, no) q := br_t h k
theorem xl_a0 {post : SX → Prop} {v w : Nat} (hv : v < 4294967296) (hw : w ≤ 4) (hC : C ≤ 256) (hL : L + w ≤ C) (k : post (nI C, nI (L + w), nI P, nI T, nI F, zb_f (zb_n B L v w), zb_f g, st, zb_f Z, zb_f D, fn, fs, fc, fo, no)) :
    ∀ r i n, i + r = w → r < n → wX_append_3 post (lN v) (nI w) (nI C) (nI P) (nI T) (nI F) n (nI i) (nI (L + i)) (zb_f (zb_n B L v i)) (zb_f g) st (zb_f Z) (zb_f D) fn fs fc fo no := by
  intro r
  induction r with
  | zero =>
    intro i n hi hn
    obtain ⟨n, rfl⟩ : ∃ m, n = m + 1 := ⟨n - 1, by omega⟩
    have e : i = w := by omega
    subst e
    exact br_t (nI_le (Nat.le_refl _) (by omega)) k
  | succ r ih =>
    intro i n hi hn
    obtain ⟨n, rfl⟩ : ∃ m, n = m + 1 := ⟨n - 1, by omega⟩
    refine br_f (nI_ge (by omega) (by omega)) (br_f (nI_ge (by omega) (by omega)) ⟨vp_in_nI (by omega) (by omega), nm_r (e' := zb_f (zb_n B L v (i + 1))) ?_ (nm_r (nI_1 (L + i)) (nm_r (nI_1 i) (ih (i + 1) n (by omega) (by omega))))⟩)
    rw [nI_clamp (by omega), zn_byte hv i (by omega)]
    exact zb_upd _ _ _
theorem xl_a {post : SX → Prop} {x : Int64} {y : Int32} (v w : Nat) (hx : x = lN v) (hy : y = nI w) (hv : v < 4294967296) (hw : w ≤ 4) (hC : C ≤ 256) (hL : L + w ≤ C) (k : post (nI C, nI (L + w), nI P, nI T, nI F, zb_f (zb_n B L v w), zb_f g, st, zb_f Z, zb_f D, fn, fs, fc, fo, no)) : wpX_append post (nI C, nI L, nI P, nI T, nI F, zb_f B, zb_f g, st, zb_f Z, zb_f D, fn, fs, fc, fo, no) x y := by
  subst hx hy
  exact ⟨w + 1, xl_a0 hv hw hC hL k w 0 (w + 1) (by omega) (by omega)⟩
theorem xl_c {post : SX → Prop} {q : Int32} (o v z k : Nat) (hq : q = nI o) (ho : o + 11 ≤ L) (hC : C ≤ 256) (hL : L + 13 ≤ C) (hB : zb_B B) (h1 : B (o + 4) = v) (h2 : zb_r2 B (o + 5) = z) (h3 : zb_r4 B (o + 7) = k) (K : post (nI C, nI (L + 13), nI P, nI T, nI F, zb_f (zd_c B L v z k o), zb_f g, st, zb_f Z, zb_f D, fn, fs, fc, fo, no)) : wpX_appendCentral post (nI C, nI L, nI P, nI T, nI F, zb_f B, zb_f g, st, zb_f Z, zb_f D, fn, fs, fc, fo, no) q := by
  subst hq h1 h2 h3
  have b1 := hB (o + 4)
  have b2 := zb_r2_lt hB (o + 5)
  have b4 := zb_r4_lt hB (o + 7)
  unfold wpX_appendCentral
  dsimp only
  refine xl_b (o + 4) (nI_add o 4) (by omega) (by omega) ?_
  refine xl_2 (o + 5) (nI_add o 5) (by omega) (by omega) hB ?_
  refine xl_4 (o + 7) (nI_add o 7) (by omega) (by omega) hB ?_
  refine xl_a 33639248 4 rfl rfl (by omega) (by omega) hC (by omega) ?_
  refine xl_a (B (o + 4)) 1 (nI_l (by omega)) rfl (by omega) (by omega) hC (by omega) ?_
  refine xl_a (zb_r2 B (o + 5)) 2 (nI_l (by omega)) rfl (by omega) (by omega) hC (by omega) ?_
  refine xl_a (zb_r4 B (o + 7)) 4 rfl rfl (by omega) (by omega) hC (by omega) ?_
  refine xl_a o 2 (nI_l (by omega)) rfl (by omega) (by omega) hC (by omega) ?_
  exact K
theorem xl_n0 {post : Int32 → Prop} {A : Nat → Option (Nat × Nat × Nat)} (hA : zt_X A no) (k : post (nI (zt_c A 256))) :
    ∀ r v n, v + r = 256 → r < n → wX_newCount_4 post (nI C) (nI L) (nI P) (nI T) (nI F) (zb_f B) (zb_f g) st (zb_f Z) (zb_f D) fn fs fc fo no n (nI (zt_c A v)) (nI v) := by
  intro r
  induction r with
  | zero =>
    intro v n hv hn
    obtain ⟨n, rfl⟩ : ∃ m, n = m + 1 := ⟨n - 1, by omega⟩
    have e : v = 256 := by omega
    subst e
    exact br_t (nI_le (a := 256) (b := 256) (Nat.le_refl _) (by omega)) k
  | succ r ih =>
    intro v n hv hn
    obtain ⟨n, rfl⟩ : ∃ m, n = m + 1 := ⟨n - 1, by omega⟩
    have c : (nI v).toNatClampNeg = v := nI_clamp (by omega)
    have a := hA v (by omega)
    refine br_f (nI_ge (b := 256) (by omega) (by decide)) ⟨vp_in_nI (by omega) (by omega), ?_⟩
    rw [c]
    have W := ih (v + 1) n (by omega) (by omega)
    cases h : A v with
    | none =>
      have e : zt_c A (v + 1) = zt_c A v := (zd_l_n A B 0 v h).2
      rw [e] at W
      exact br_t (a.1 h) (nm_r (nI_1 v) W)
    | some x =>
      obtain ⟨z, kk, o⟩ := x
      have b := a.2 z kk o h
      have e : zt_c A (v + 1) = zt_c A v + 1 := (zd_l_s A B 0 v z kk o h).2
      rw [e] at W
      exact br_f (by rw [b.1]; exact zn_m1 o (by omega)) (nm_r (nI_1 _) (nm_r (nI_1 v) W))
theorem xl_n {post : Int32 → Prop} {A : Nat → Option (Nat × Nat × Nat)} (hA : zt_X A no) (k : post (nI (zt_c A 256))) : wpX_newCount post (nI C, nI L, nI P, nI T, nI F, zb_f B, zb_f g, st, zb_f Z, zb_f D, fn, fs, fc, fo, no) :=
  ⟨257, xl_n0 hA k 256 0 257 (by omega) (by omega)⟩
theorem xl_s0 {post : SX → Prop} (k : ∀ no', zt_X zt_0 no' → post (nI C, nI L, nI P, nI T, nI F, zb_f B, zb_f g, st, zb_f Z, zb_f D, fn, fs, fc, fo, no')) :
    ∀ r v n no', v + r = 256 → r < n → (∀ j, j < v → no' j = -1) → wX_startNewDirectory_2 post (nI C) (nI L) (nI P) (nI T) (nI F) n (nI v) (zb_f B) (zb_f g) st (zb_f Z) (zb_f D) fn fs fc fo (no') := by
  intro r
  induction r with
  | zero =>
    intro v n no' hv hn h
    obtain ⟨n, rfl⟩ : ∃ m, n = m + 1 := ⟨n - 1, by omega⟩
    have e : v = 256 := by omega
    subst e
    exact br_t (nI_le (a := 256) (b := 256) (Nat.le_refl _) (by omega)) (k no' (fun j hj => ⟨fun _ => h j hj, fun z kk o e => nomatch (show (none : Option (Nat × Nat × Nat)) = some (z, kk, o) from e)⟩))
  | succ r ih =>
    intro v n no' hv hn h
    obtain ⟨n, rfl⟩ : ∃ m, n = m + 1 := ⟨n - 1, by omega⟩
    refine br_f (nI_ge (b := 256) (by omega) (by decide)) ⟨vp_in_nI (by omega) (by omega), nm_r (e' := upd no' v (-1)) (by rw [nI_clamp (by omega)]) (nm_r (nI_1 v) (ih (v + 1) n _ (by omega) (by omega) (fun j hj => ?_)))⟩
    by_cases c : j = v
    · rw [c, pk_us]
    · rw [pk_un c]
      exact h j (by omega)
theorem xl_s {post : SX → Prop} (k : ∀ no', zt_X zt_0 no' → post (nI C, nI L, nI P, nI T, nI F, zb_f B, zb_f g, st, zb_f Z, zb_f D, fn, fs, fc, fo, no')) : wpX_startNewDirectory post (nI C, nI L, nI P, nI T, nI F, zb_f B, zb_f g, st, zb_f Z, zb_f D, fn, fs, fc, fo, no) :=
  ⟨257, xl_s0 k 256 0 257 no (by omega) (by omega) (fun j hj => by omega)⟩
theorem xl_d0 {post : SX → Prop} {A : Nat → Option (Nat × Nat × Nat)} (hA : zt_X A no) (hC : C ≤ 256) (hB : zb_B B) (hQ : ∀ v x, A v = some x → zd_Q B L v x) (hD : L + 13 * zt_c A 256 + 9 ≤ C) (k : post (nI C, nI (L + 13 * zt_c A 256 + 9), nI P, nI T, nI F, zb_f (zd_f A B L), zb_f g, st, zb_f Z, zb_f D, fn, fs, fc, fo, no)) :
    ∀ r v n, v + r = 256 → r < n → wX_appendNewDirectory_12 post (nI L) (nI (zt_c A 256)) n (nI v) (nI C) (nI (L + 13 * zt_c A v)) (nI P) (nI T) (nI F) (zb_f (zd_l A B L v)) (zb_f g) st (zb_f Z) (zb_f D) fn fs fc fo no := by
  intro r
  induction r with
  | zero =>
    intro v n hv hn
    obtain ⟨n, rfl⟩ : ∃ m, n = m + 1 := ⟨n - 1, by omega⟩
    have e : v = 256 := by omega
    subst e
    refine br_t (nI_le (a := 256) (b := 256) (Nat.le_refl _) (by omega)) ?_
    refine xl_a 101010256 4 rfl rfl (by omega) (by omega) hC (by omega) ?_
    refine xl_a (zt_c A 256) 1 (nI_l (by omega)) rfl (by omega) (by omega) hC (by omega) ?_
    refine xl_a L 2 (nI_l (by omega)) rfl (by omega) (by omega) hC (by omega) ?_
    refine xl_a (13 * zt_c A 256) 2 (by rw [zq_m13]; exact nI_l (by omega)) rfl (by omega) (by omega) hC (by omega) ?_
    exact k
  | succ r ih =>
    intro v n hv hn
    obtain ⟨n, rfl⟩ : ∃ m, n = m + 1 := ⟨n - 1, by omega⟩
    have c : (nI v).toNatClampNeg = v := nI_clamp (by omega)
    have a := hA v (by omega)
    refine br_f (nI_ge (b := 256) (by omega) (by decide)) ⟨vp_in_nI (by omega) (by omega), ?_⟩
    rw [c]
    have W := ih (v + 1) n (by omega) (by omega)
    cases h : A v with
    | none =>
      obtain ⟨e1, e2⟩ := zd_l_n A B L v h
      rw [e1, e2] at W
      exact br_t (a.1 h) (nm_r (nI_1 v) W)
    | some x =>
      obtain ⟨z, kk, o⟩ := x
      have b := a.2 z kk o h
      obtain ⟨e1, e2⟩ := zd_l_s A B L v z kk o h
      have e3 : L + 13 * zt_c A (v + 1) = L + 13 * zt_c A v + 13 := by omega
      rw [e1, e3] at W
      have q := zt_c_lt A (v := v) (w := 256) (by omega) h
      obtain ⟨q1, q2, q3, q4⟩ := zd_Q_c (A := zd_l A B L v) (D' := L + 13 * zt_c A v) (hQ v _ h) (by omega) (fun j hj => zd_l_lo A B L v j hj)
      refine br_f (by rw [b.1]; exact zn_m1 o (by omega)) ⟨vp_in_nI (by omega) (by omega), ?_⟩
      exact xl_c o v z kk b.1 q1 hC (by omega) (zd_l_B A hB L v) q2 q3 q4 (nm_r (nI_1 v) W)
theorem xl_d {post : SX → Prop} {A : Nat → Option (Nat × Nat × Nat)} (hA : zt_X A no) (hC : C ≤ 256) (hB : zb_B B) (hQ : ∀ v x, A v = some x → zd_Q B L v x) (hD : L + 13 * zt_c A 256 + 9 ≤ C) (k : post (nI C, nI (L + 13 * zt_c A 256 + 9), nI P, nI T, nI F, zb_f (zd_f A B L), zb_f g, st, zb_f Z, zb_f D, fn, fs, fc, fo, no)) : wpX_appendNewDirectory post (nI C, nI L, nI P, nI T, nI F, zb_f B, zb_f g, st, zb_f Z, zb_f D, fn, fs, fc, fo, no) := by
  have W := xl_d0 hA hC hB hQ hD k 256 0 257 (by omega) (by omega)
  exact xl_n hA ⟨257, W⟩
theorem xl_y1 {post : Int32 → Prop} {j : Nat} (h : j < 256) (k : post 1) : wpX_isByte post (nI j) :=
  br_f (nI_pos (by omega)) (br_f (nI_nlt (a := 255) (by omega) (by decide)) k)
theorem zn_256 {x : Int32} (h : nI 256 ≤ x) : (255 : Int32) < x ∧ ¬ x ≤ 255 ∧ ¬ x < 0 := by
  rw [Int32.le_iff_toInt_le, nI_toInt (by decide)] at h
  have e : (255 : Int32).toInt = 255 := by decide
  have e0 : (0 : Int32).toInt = 0 := by decide
  rw [Int32.lt_iff_toInt_lt, Int32.le_iff_toInt_le, Int32.lt_iff_toInt_lt, e, e0]
  omega
theorem xl_y0 {post : Int32 → Prop} {x : Int32} (h : x < 0 ∨ nI 256 ≤ x) (k : post 0) : wpX_isByte post x := by
  rcases h with h | h
  · exact br_t h k
  · exact br_f (zn_256 h).2.2 (br_t (zn_256 h).1 k)
/-! the checksum, over the two arrays -/
theorem xk_p26 {post : Int64 → Prop} {J : Int64 → Int32 → Prop} {x1 x2 : Int32} {i c : Nat} (hc : c < 2 ^ 32) (k : J (lN (zk_8 c 8)) (nI (i + 1))) :
    ∀ r t n, t + r = 8 → r < n → wX_crcOf__pendingData_26 post J x1 x2 (nI i) (nI C) (nI L) (nI P) (nI T) (nI F) (zb_f B) (zb_f g) st (zb_f Z) (zb_f D) fn fs fc fo no n (lN (zk_8 c t)) (nI t) := by
  intro r
  induction r with
  | zero =>
    intro t n ht hn
    obtain ⟨n, rfl⟩ : ∃ m, n = m + 1 := ⟨n - 1, by omega⟩
    have e : t = 8 := by omega
    subst e
    exact br_t (nI_le (a := 8) (b := 8) (Nat.le_refl _) (by omega)) (nm_r (nI_1 i) k)
  | succ r ih =>
    intro t n ht hn
    obtain ⟨n, rfl⟩ : ∃ m, n = m + 1 := ⟨n - 1, by omega⟩
    have hl := zk_8_lt hc t
    have W := ih (t + 1) n (by omega) (by omega)
    have s1 : ((lN (zk_8 c t)).toUInt64 >>> ((1 : Int32).toInt64.toUInt64 &&& Int64.toUInt64 63)).toInt64 = lN (zk_8 c t / 2) := wb_shr (k := 1) (by omega) (by decide)
    have s2 : lN (zk_8 c t) &&& 1 = lN (zk_8 c t % 2) := wb_a1 (by omega)
    refine br_f (nI_ge (b := 8) (by omega) (by decide)) ?_
    rw [s1, s2]
    by_cases o : zk_8 c t % 2 = 1
    · refine br_t (by rw [o]; rfl) (nm_r (e' := lN (zk_8 c (t + 1))) ?_ (nm_r (nI_1 t) W))
      have e : zk_8 c (t + 1) = zk_8 c t / 2 ^^^ 3988292384 := if_pos o
      rw [e]
      exact lN_xor _ 3988292384
    · refine br_f (fun z => o ((pk_lEQ (b := 1) (by omega) (by decide)).mp z)) (nm_r (e' := lN (zk_8 c (t + 1))) ?_ (nm_r (nI_1 t) W))
      have e : zk_8 c (t + 1) = zk_8 c t / 2 := if_neg o
      rw [e]
theorem xk_p7 {post : Int64 → Prop} {s m : Nat} (hD : zb_B D) (hs : s + m ≤ 128) (k : post (lN (zk_F D s m))) :
    ∀ r i n, i + r = m → r < n → wX_crcOf__pendingData_7 post (nI s) (nI m) (nI C) (nI L) (nI P) (nI T) (nI F) (zb_f B) (zb_f g) st (zb_f Z) (zb_f D) fn fs fc fo no n (lN (zk_K D s i)) (nI i) := by
  intro r
  induction r with
  | zero =>
    intro i n hi hn
    obtain ⟨n, rfl⟩ : ∃ m, n = m + 1 := ⟨n - 1, by omega⟩
    have e : i = m := by omega
    subst e
    exact br_t (nI_le (Nat.le_refl _) (by omega)) (zq_v (P := post) (lN_xor _ 4294967295) k)
  | succ r ih =>
    intro i n hi hn
    obtain ⟨n, rfl⟩ : ∃ m, n = m + 1 := ⟨n - 1, by omega⟩
    have hb := hD (s + i)
    have e : nI s + nI i = nI (s + i) := nI_add s i
    have W := ih (i + 1) n (by omega) (by omega)
    refine br_f (nI_ge (by omega) (by omega)) ⟨by rw [e]; exact vp_in_nI (by omega) (by omega), nm_r (e' := lN (zk_K D s i ^^^ D (s + i))) ?_ ⟨9, xk_p26 (zk_x_lt hD (zk_K_lt hD s i) _) W 8 0 9 (by omega) (by omega)⟩⟩
    rw [e, nI_clamp (by omega)]
    show lN (zk_K D s i) ^^^ (nI (D (s + i))).toInt64 = _
    rw [nI_l (by omega), lN_xor]
theorem xk_p {post : Int64 → Prop} {x y : Int32} (s m : Nat) (hx : x = nI s) (hy : y = nI m) (hD : zb_B D) (hs : s + m ≤ 128) (k : post (lN (zk_F D s m))) : wpX_crcOf__pendingData post (nI C, nI L, nI P, nI T, nI F, zb_f B, zb_f g, st, zb_f Z, zb_f D, fn, fs, fc, fo, no) x y := by
  subst hx hy
  exact ⟨m + 1, xk_p7 hD hs k m 0 (m + 1) (by omega) (by omega)⟩
theorem xk_i26 {post : Int64 → Prop} {J : Int64 → Int32 → Prop} {x1 x2 : Int32} {i c : Nat} (hc : c < 2 ^ 32) (k : J (lN (zk_8 c 8)) (nI (i + 1))) :
    ∀ r t n, t + r = 8 → r < n → wX_crcOf__image_26 post J x1 x2 (nI i) (nI C) (nI L) (nI P) (nI T) (nI F) (zb_f B) (zb_f g) st (zb_f Z) (zb_f D) fn fs fc fo no n (lN (zk_8 c t)) (nI t) := by
  intro r
  induction r with
  | zero =>
    intro t n ht hn
    obtain ⟨n, rfl⟩ : ∃ m, n = m + 1 := ⟨n - 1, by omega⟩
    have e : t = 8 := by omega
    subst e
    exact br_t (nI_le (a := 8) (b := 8) (Nat.le_refl _) (by omega)) (nm_r (nI_1 i) k)
  | succ r ih =>
    intro t n ht hn
    obtain ⟨n, rfl⟩ : ∃ m, n = m + 1 := ⟨n - 1, by omega⟩
    have hl := zk_8_lt hc t
    have W := ih (t + 1) n (by omega) (by omega)
    have s1 : ((lN (zk_8 c t)).toUInt64 >>> ((1 : Int32).toInt64.toUInt64 &&& Int64.toUInt64 63)).toInt64 = lN (zk_8 c t / 2) := wb_shr (k := 1) (by omega) (by decide)
    have s2 : lN (zk_8 c t) &&& 1 = lN (zk_8 c t % 2) := wb_a1 (by omega)
    refine br_f (nI_ge (b := 8) (by omega) (by decide)) ?_
    rw [s1, s2]
    by_cases o : zk_8 c t % 2 = 1
    · refine br_t (by rw [o]; rfl) (nm_r (e' := lN (zk_8 c (t + 1))) ?_ (nm_r (nI_1 t) W))
      have e : zk_8 c (t + 1) = zk_8 c t / 2 ^^^ 3988292384 := if_pos o
      rw [e]
      exact lN_xor _ 3988292384
    · refine br_f (fun z => o ((pk_lEQ (b := 1) (by omega) (by decide)).mp z)) (nm_r (e' := lN (zk_8 c (t + 1))) ?_ (nm_r (nI_1 t) W))
      have e : zk_8 c (t + 1) = zk_8 c t / 2 := if_neg o
      rw [e]
theorem xk_i7 {post : Int64 → Prop} {s m : Nat} (hB : zb_B B) (hs : s + m ≤ 256) (k : post (lN (zk_F B s m))) :
    ∀ r i n, i + r = m → r < n → wX_crcOf__image_7 post (nI s) (nI m) (nI C) (nI L) (nI P) (nI T) (nI F) (zb_f B) (zb_f g) st (zb_f Z) (zb_f D) fn fs fc fo no n (lN (zk_K B s i)) (nI i) := by
  intro r
  induction r with
  | zero =>
    intro i n hi hn
    obtain ⟨n, rfl⟩ : ∃ m, n = m + 1 := ⟨n - 1, by omega⟩
    have e : i = m := by omega
    subst e
    exact br_t (nI_le (Nat.le_refl _) (by omega)) (zq_v (P := post) (lN_xor _ 4294967295) k)
  | succ r ih =>
    intro i n hi hn
    obtain ⟨n, rfl⟩ : ∃ m, n = m + 1 := ⟨n - 1, by omega⟩
    have hb := hB (s + i)
    have e : nI s + nI i = nI (s + i) := nI_add s i
    have W := ih (i + 1) n (by omega) (by omega)
    refine br_f (nI_ge (by omega) (by omega)) ⟨by rw [e]; exact vp_in_nI (by omega) (by omega), nm_r (e' := lN (zk_K B s i ^^^ B (s + i))) ?_ ⟨9, xk_i26 (zk_x_lt hB (zk_K_lt hB s i) _) W 8 0 9 (by omega) (by omega)⟩⟩
    rw [e, nI_clamp (by omega)]
    show lN (zk_K B s i) ^^^ (nI (B (s + i))).toInt64 = _
    rw [nI_l (by omega), lN_xor]
theorem xk_i {post : Int64 → Prop} {x y : Int32} (s m : Nat) (hx : x = nI s) (hy : y = nI m) (hB : zb_B B) (hs : s + m ≤ 256) (k : post (lN (zk_F B s m))) : wpX_crcOf__image post (nI C, nI L, nI P, nI T, nI F, zb_f B, zb_f g, st, zb_f Z, zb_f D, fn, fs, fc, fo, no) x y := by
  subst hx hy
  exact ⟨m + 1, xk_i7 hB hs k m 0 (m + 1) (by omega) (by omega)⟩
end ZX
end
section
/-! ===== the reference's small methods ===== -/
section ZY
variable {C L P T F : Nat} {B g Z D : Nat → Nat} {fn fs fo sn ss so : Nat → Int32} {fc sc : Nat → Int64} {sk : Int32}
theorem yl_b {post : Int32 → Prop} {q : Int32} (p : Nat) (hq : q = nI p) (h : p < 256) (k : post (nI (B p))) : wpY_rd post (nI C, nI L, nI P, nI T, nI F, sk, zb_f B, zb_f g, zb_f Z, zb_f D, fn, fs, fc, fo, sn, ss, sc, so) q := by
  subst hq
  exact br_f (nI_pos (by omega)) (br_t (nI_lt (b := 256) h (by decide)) ⟨vp_in_nI (by omega) (by omega), zq_v (P := post) (by rw [nI_clamp (by omega)]; rfl) k⟩)
theorem yl_2 {post : Int32 → Prop} {q : Int32} (p : Nat) (hq : q = nI p) (h : p + 2 ≤ 256) (hB : zb_B B) (k : post (nI (zb_r2 B p))) : wpY_u16 post (nI C, nI L, nI P, nI T, nI F, sk, zb_f B, zb_f g, zb_f Z, zb_f D, fn, fs, fc, fo, sn, ss, sc, so) q := by
  subst hq
  unfold wpY_u16
  dsimp only
  refine yl_b p rfl (by omega) ?_
  refine yl_b (p + 1) (nI_1 p) (by omega) ?_
  exact zq_v (P := post) (zn_y2 (hB p) (hB (p + 1))) k
theorem yl_4 {post : Int64 → Prop} {q : Int32} (p : Nat) (hq : q = nI p) (h : p + 4 ≤ 256) (hB : zb_B B) (k : post (lN (zb_r4 B p))) : wpY_u32 post (nI C, nI L, nI P, nI T, nI F, sk, zb_f B, zb_f g, zb_f Z, zb_f D, fn, fs, fc, fo, sn, ss, sc, so) q := by
  subst hq
  have b0 := hB p
  have b1 := hB (p + 1)
  have b2 := hB (p + 2)
  have b3 := hB (p + 3)
  unfold wpY_u32
  dsimp only
  refine yl_b p rfl (by omega) ?_
  refine yl_b (p + 1) (nI_1 p) (by omega) ?_
  refine yl_b (p + 2) (nI_add p 2) (by omega) ?_
  refine yl_b (p + 3) (nI_add p 3) (by omega) ?_
  refine zq_v (P := post) ?_ k
  rw [nI_l (by omega), nI_l (by omega), nI_l (by omega), nI_l (by omega)]
  exact zn_y4 b0 b1 b2 b3
theorem yl_s {post : Int32 → Prop} {q qx qy : Int32} (p x y : Nat) (hq : q = nI p) (hx : qx = nI x) (hy : qy = nI y) (lx : x < 256) (ly : y < 256) (h : p + 4 ≤ 256) (hB : zb_B B) (k1 : (B p = 80 ∧ B (p + 1) = 75 ∧ B (p + 2) = x ∧ B (p + 3) = y) → post 1) (k0 : ¬ (B p = 80 ∧ B (p + 1) = 75 ∧ B (p + 2) = x ∧ B (p + 3) = y) → post 0) : wpY_sigAt post (nI C, nI L, nI P, nI T, nI F, sk, zb_f B, zb_f g, zb_f Z, zb_f D, fn, fs, fc, fo, sn, ss, sc, so) q qx qy := by
  subst hq hx hy
  have b0 := hB p
  have b1 := hB (p + 1)
  have b2 := hB (p + 2)
  have b3 := hB (p + 3)
  unfold wpY_sigAt
  dsimp only
  refine yl_b p rfl (by omega) ?_
  refine pk_eq (B p) 80 (fun h0 => ?_) (fun h0 => k0 (fun z => h0 z.1)) rfl rfl (by omega) (by omega)
  refine yl_b (p + 1) (nI_1 p) (by omega) ?_
  refine pk_eq (B (p + 1)) 75 (fun h1 => ?_) (fun h1 => k0 (fun z => h1 z.2.1)) rfl rfl (by omega) (by omega)
  refine yl_b (p + 2) (nI_add p 2) (by omega) ?_
  refine pk_eq (B (p + 2)) x (fun h2 => ?_) (fun h2 => k0 (fun z => h2 z.2.2.1)) rfl rfl (by omega) (by omega)
  refine yl_b (p + 3) (nI_add p 3) (by omega) ?_
  exact pk_eq (B (p + 3)) y (fun h3 => k1 ⟨h0, h1, h2, h3⟩) (fun h3 => k0 (fun z => h3 z.2.2.2)) rfl rfl (by omega) (by omega)
theorem yl_sL {post : Int32 → Prop} {q : Int32} (p : Nat) (hq : q = nI p) (h : p + 4 ≤ 256) (hB : zb_B B) (k1 : zb_r4 B p = 67324752 → post 1) (k0 : ¬ zb_r4 B p = 67324752 → post 0) : wpY_sigAt post (nI C, nI L, nI P, nI T, nI F, sk, zb_f B, zb_f g, zb_f Z, zb_f D, fn, fs, fc, fo, sn, ss, sc, so) q 3 4 :=
  yl_s p 3 4 hq rfl rfl (by omega) (by omega) h hB (fun z => k1 ((zb_sL hB p).mpr z)) (fun z => k0 (fun w => z ((zb_sL hB p).mp w)))
theorem yl_sC {post : Int32 → Prop} {q : Int32} (p : Nat) (hq : q = nI p) (h : p + 4 ≤ 256) (hB : zb_B B) (k1 : zb_r4 B p = 33639248 → post 1) (k0 : ¬ zb_r4 B p = 33639248 → post 0) : wpY_sigAt post (nI C, nI L, nI P, nI T, nI F, sk, zb_f B, zb_f g, zb_f Z, zb_f D, fn, fs, fc, fo, sn, ss, sc, so) q 1 2 :=
  yl_s p 1 2 hq rfl rfl (by omega) (by omega) h hB (fun z => k1 ((zb_sC hB p).mpr z)) (fun z => k0 (fun w => z ((zb_sC hB p).mp w)))
theorem yl_sE {post : Int32 → Prop} {q : Int32} (p : Nat) (hq : q = nI p) (h : p + 4 ≤ 256) (hB : zb_B B) (k1 : zb_r4 B p = 101010256 → post 1) (k0 : ¬ zb_r4 B p = 101010256 → post 0) : wpY_sigAt post (nI C, nI L, nI P, nI T, nI F, sk, zb_f B, zb_f g, zb_f Z, zb_f D, fn, fs, fc, fo, sn, ss, sc, so) q 5 6 :=
  yl_s p 5 6 hq rfl rfl (by omega) (by omega) h hB (fun z => k1 ((zb_sE hB p).mpr z)) (fun z => k0 (fun w => z ((zb_sE hB p).mp w)))
theorem yl_w {post : SY → Prop} {q y : Int32} (p x : Nat) (hq : q = nI p) (hx : y &&& 255 = nI x) (h : p < 256) (k : post (nI C, nI L, nI P, nI T, nI F, sk, zb_f (zb_w B p x), zb_f g, zb_f Z, zb_f D, fn, fs, fc, fo, sn, ss, sc, so)) : wpY_wr post (nI C, nI L, nI P, nI T, nI F, sk, zb_f B, zb_f g, zb_f Z, zb_f D, fn, fs, fc, fo, sn, ss, sc, so) q y := by
  subst hq
  refine br_f (nI_pos (by omega)) (br_f (nI_ge (b := 256) h (by decide)) ⟨vp_in_nI (by omega) (by omega), nm_r (e' := zb_f (zb_w B p x)) ?_ k⟩)
  rw [nI_clamp (by omega), hx]
  exact zb_upd B p x
/-- one byte: as zb_n of width 1 -/
theorem yl_w1 {post : SY → Prop} {q y : Int32} (p n : Nat) (hq : q = nI p) (hy : y = nI n) (hn : n < 2 ^ 32) (h : p < 256) (k : post (nI C, nI L, nI P, nI T, nI F, sk, zb_f (zb_n B p n 1), zb_f g, zb_f Z, zb_f D, fn, fs, fc, fo, sn, ss, sc, so)) : wpY_wr post (nI C, nI L, nI P, nI T, nI F, sk, zb_f B, zb_f g, zb_f Z, zb_f D, fn, fs, fc, fo, sn, ss, sc, so) q y := by
  refine yl_w p (n / 2 ^ (8 * 0) % 256) hq ?_ h k
  rw [hy, zn_255 hn, show 2 ^ (8 * 0) = 1 from rfl, Nat.div_one]
theorem yl_w2 {post : SY → Prop} {q y : Int32} (p n : Nat) (hq : q = nI p) (hy : y = nI n) (hn : n < 65536) (h : p + 2 ≤ 256) (k : post (nI C, nI L, nI P, nI T, nI F, sk, zb_f (zb_n B p n 2), zb_f g, zb_f Z, zb_f D, fn, fs, fc, fo, sn, ss, sc, so)) : wpY_wr16 post (nI C, nI L, nI P, nI T, nI F, sk, zb_f B, zb_f g, zb_f Z, zb_f D, fn, fs, fc, fo, sn, ss, sc, so) q y := by
  subst hq hy
  have e8 : ((nI n).toUInt32 >>> ((8 : Int32).toUInt32 &&& Int32.toUInt32 31)).toInt32 = nI (n / 2 ^ 8) := pk_ushrN (by omega) 8 8 (by decide)
  unfold wpY_wr16
  dsimp only
  refine yl_w p (n / 2 ^ (8 * 0) % 256) rfl ?_ (by omega) ?_
  · rw [zn_255 (by omega), zn_255 (by omega), show 2 ^ (8 * 0) = 1 from rfl, Nat.div_one, Nat.mod_mod]
  refine yl_w (p + 1) (n / 2 ^ (8 * 1) % 256) (nI_1 p) ?_ (by omega) ?_
  · rw [e8, zn_255 (by omega), zn_255 (by omega), Nat.mod_mod]
  exact k
theorem yn_4 {n : Nat} (hn : n < 4294967296) (t : Nat) (ht : t < 4) {y : Int32} (hy : y = nI (8 * t)) : (((lN n).toUInt64 >>> (y.toInt64.toUInt64 &&& Int64.toUInt64 63)).toInt64 &&& 255).toInt32 &&& 255 = nI (n / 2 ^ (8 * t) % 256) := by
  subst hy
  have hd : n / 2 ^ (8 * t) ≤ n := Nat.div_le_self _ _
  have e : lN (n / 2 ^ (8 * t)) &&& 255 = lN (n / 2 ^ (8 * t) % 256) := wb_mask (k := 8) (by omega) (by decide)
  rw [wb_shr (by omega) (by omega), e, lN_i, zn_255 (by omega), Nat.mod_mod]
theorem yl_w4 {post : SY → Prop} {q : Int32} {y : Int64} (p n : Nat) (hq : q = nI p) (hy : y = lN n) (hn : n < 4294967296) (h : p + 4 ≤ 256) (k : post (nI C, nI L, nI P, nI T, nI F, sk, zb_f (zb_n B p n 4), zb_f g, zb_f Z, zb_f D, fn, fs, fc, fo, sn, ss, sc, so)) : wpY_wr32 post (nI C, nI L, nI P, nI T, nI F, sk, zb_f B, zb_f g, zb_f Z, zb_f D, fn, fs, fc, fo, sn, ss, sc, so) q y := by
  subst hq hy
  have e0 : lN n &&& 255 = lN (n % 256) := wb_mask (k := 8) (by omega) (by decide)
  unfold wpY_wr32
  dsimp only
  refine yl_w p (n / 2 ^ (8 * 0) % 256) rfl ?_ (by omega) ?_
  · rw [e0, lN_i, zn_255 (by omega), show 2 ^ (8 * 0) = 1 from rfl, Nat.div_one, Nat.mod_mod]
  refine yl_w (p + 1) (n / 2 ^ (8 * 1) % 256) (nI_1 p) (yn_4 hn 1 (by decide) rfl) (by omega) ?_
  refine yl_w (p + 2) (n / 2 ^ (8 * 2) % 256) (nI_add p 2) (yn_4 hn 2 (by decide) rfl) (by omega) ?_
  refine yl_w (p + 3) (n / 2 ^ (8 * 3) % 256) (nI_add p 3) (yn_4 hn 3 (by decide) rfl) (by omega) ?_
  exact k
theorem yn_s (B : Nat → Nat) (p a b s : Nat) (hs : s = 80 + 75 * 256 + a * 65536 + b * 16777216) (ha : a < 256) (hb : b < 256) : zb_w (zb_w (zb_w (zb_w B p 80) (p + 1) 75) (p + 2) a) (p + 3) b = zb_n B p s 4 := by
  have e0 : s / 2 ^ (8 * 0) % 256 = 80 := by
    rw [show 2 ^ (8 * 0) = 1 from rfl]
    omega
  have e1 : s / 2 ^ (8 * 1) % 256 = 75 := by
    rw [show 2 ^ (8 * 1) = 256 from rfl]
    omega
  have e2 : s / 2 ^ (8 * 2) % 256 = a := by
    rw [show 2 ^ (8 * 2) = 65536 from rfl]
    omega
  have e3 : s / 2 ^ (8 * 3) % 256 = b := by
    rw [show 2 ^ (8 * 3) = 16777216 from rfl]
    omega
  show _ = zb_w (zb_w (zb_w (zb_w B (p + 0) (s / 2 ^ (8 * 0) % 256)) (p + 1) (s / 2 ^ (8 * 1) % 256)) (p + 2) (s / 2 ^ (8 * 2) % 256)) (p + 3) (s / 2 ^ (8 * 3) % 256)
  rw [e0, e1, e2, e3]
  rfl
/-! the checksum -/
theorem yk_6 {post : Int32 → Prop} {c : Nat} (hc : c < 2 ^ 32) (k : post (nI (zk_8 c 8))) : ∀ r t n, t + r = 8 → r < n → wY_crcByte_6 post (nI C) (nI L) (nI P) (nI T) (nI F) sk (zb_f B) (zb_f g) (zb_f Z) (zb_f D) fn fs fc fo sn ss sc so n (nI (zk_8 c t)) (nI t) := by
  intro r
  induction r with
  | zero =>
    intro t n ht hn
    obtain ⟨n, rfl⟩ : ∃ m, n = m + 1 := ⟨n - 1, by omega⟩
    have e : t = 8 := by omega
    subst e
    exact br_t (nI_le (a := 8) (b := 8) (Nat.le_refl _) (by omega)) k
  | succ r ih =>
    intro t n ht hn
    obtain ⟨n, rfl⟩ : ∃ m, n = m + 1 := ⟨n - 1, by omega⟩
    have hl := zk_8_lt hc t
    have W := ih (t + 1) n (by omega) (by omega)
    have s1 : ((nI (zk_8 c t)).toUInt32 >>> ((1 : Int32).toUInt32 &&& Int32.toUInt32 31)).toInt32 = nI (zk_8 c t / 2) := pk_ushrN (by omega) 1 1 (by decide)
    have s2 : nI (zk_8 c t) &&& 1 = nI (zk_8 c t % 2) := pk_andN (by omega) 1 (by decide)
    refine br_f (nI_ge (b := 8) (by omega) (by decide)) ?_
    rw [s1, s2]
    by_cases o : zk_8 c t % 2 = 1
    · refine br_t (by rw [o]; rfl) (nm_r (e' := nI (zk_8 c (t + 1))) ?_ (nm_r (nI_1 t) W))
      have e : zk_8 c (t + 1) = zk_8 c t / 2 ^^^ 3988292384 := if_pos o
      rw [e, show (-306674912 : Int32) = nI 3988292384 from by decide +kernel]
      exact nx_xor _ _
    · refine br_f (fun z => o ((nI_eq (b := 1) (by omega) (by decide)).mp z)) (nm_r (e' := nI (zk_8 c (t + 1))) ?_ (nm_r (nI_1 t) W))
      have e : zk_8 c (t + 1) = zk_8 c t / 2 := if_neg o
      rw [e]
theorem yk_b {post : Int32 → Prop} {x y : Int32} (c b : Nat) (hx : x = nI c) (hy : y = nI b) (hc : c ^^^ b < 2 ^ 32) (k : post (nI (zk_8 (c ^^^ b) 8))) : wpY_crcByte post (nI C, nI L, nI P, nI T, nI F, sk, zb_f B, zb_f g, zb_f Z, zb_f D, fn, fs, fc, fo, sn, ss, sc, so) x y := by
  subst hx hy
  exact nm_r (nx_xor c b) ⟨9, yk_6 hc k 8 0 9 (by omega) (by omega)⟩
theorem yk_e {c : Nat} (hc : c < 2 ^ 32) : (nI c ^^^ (-1)).toInt64 &&& 4294967295 = lN (c ^^^ 4294967295) := by
  rw [show (-1 : Int32) = nI 4294967295 from by decide +kernel, nx_xor]
  exact zn_long (Nat.xor_lt_two_pow hc (by decide))
theorem yk_i5 {post : Int64 → Prop} {s m : Nat} (hB : zb_B B) (hs : s + m ≤ 256) (k : post (lN (zk_F B s m))) : ∀ r i n, i + r = m → r < n → wY_crcImg_5 post (nI s) (nI m) (nI C) (nI L) (nI P) (nI T) (nI F) sk (zb_f B) (zb_f g) (zb_f Z) (zb_f D) fn fs fc fo sn ss sc so n (nI (zk_K B s i)) (nI i) := by
  intro r
  induction r with
  | zero =>
    intro i n hi hn
    obtain ⟨n, rfl⟩ : ∃ m, n = m + 1 := ⟨n - 1, by omega⟩
    have e : i = m := by omega
    subst e
    exact br_t (nI_le (Nat.le_refl _) (by omega)) (zq_v (P := post) (yk_e (zk_K_lt hB s i)) k)
  | succ r ih =>
    intro i n hi hn
    obtain ⟨n, rfl⟩ : ∃ m, n = m + 1 := ⟨n - 1, by omega⟩
    refine br_f (nI_ge (by omega) (by omega)) (br_f (nI_ge (b := 256) (by omega) (by decide)) ?_)
    refine yl_b (s + i) (nI_add s i) (by omega) ?_
    exact yk_b (zk_K B s i) (B (s + i)) rfl rfl (zk_x_lt hB (zk_K_lt hB s i) _) (nm_r (nI_1 i) (ih (i + 1) n (by omega) (by omega)))
theorem yk_i {post : Int64 → Prop} {x y : Int32} (s m : Nat) (hx : x = nI s) (hy : y = nI m) (hB : zb_B B) (hs : s + m ≤ 256) (k : post (lN (zk_F B s m))) : wpY_crcImg post (nI C, nI L, nI P, nI T, nI F, sk, zb_f B, zb_f g, zb_f Z, zb_f D, fn, fs, fc, fo, sn, ss, sc, so) x y := by
  subst hx hy
  exact ⟨m + 1, yk_i5 hB hs k m 0 (m + 1) (by omega) (by omega)⟩
theorem yk_p5 {post : Int64 → Prop} {s m : Nat} (hD : zb_B D) (hs : s + m ≤ 128) (k : post (lN (zk_F D s m))) : ∀ r i n, i + r = m → r < n → wY_crcPend_5 post (nI s) (nI m) (nI C) (nI L) (nI P) (nI T) (nI F) sk (zb_f B) (zb_f g) (zb_f Z) (zb_f D) fn fs fc fo sn ss sc so n (nI (zk_K D s i)) (nI i) := by
  intro r
  induction r with
  | zero =>
    intro i n hi hn
    obtain ⟨n, rfl⟩ : ∃ m, n = m + 1 := ⟨n - 1, by omega⟩
    have e : i = m := by omega
    subst e
    exact br_t (nI_le (Nat.le_refl _) (by omega)) (zq_v (P := post) (yk_e (zk_K_lt hD s i)) k)
  | succ r ih =>
    intro i n hi hn
    obtain ⟨n, rfl⟩ : ∃ m, n = m + 1 := ⟨n - 1, by omega⟩
    refine br_f (nI_ge (by omega) (by omega)) (br_f (nI_ge (b := 128) (by omega) (by decide)) (nm_r (nI_add s i) (br_f (nI_pos (by omega)) (br_f (nI_ge (b := 128) (by omega) (by decide)) ⟨vp_in_nI (by omega) (by omega), ?_⟩))))
    rw [nI_clamp (by omega)]
    exact yk_b (zk_K D s i) (D (s + i)) rfl rfl (zk_x_lt hD (zk_K_lt hD s i) _) (nm_r (nI_1 i) (ih (i + 1) n (by omega) (by omega)))
theorem yk_p {post : Int64 → Prop} {x y : Int32} (s m : Nat) (hx : x = nI s) (hy : y = nI m) (hD : zb_B D) (hs : s + m ≤ 128) (k : post (lN (zk_F D s m))) : wpY_crcPend post (nI C, nI L, nI P, nI T, nI F, sk, zb_f B, zb_f g, zb_f Z, zb_f D, fn, fs, fc, fo, sn, ss, sc, so) x y := by
  subst hx hy
  exact ⟨m + 1, yk_p5 hD hs k m 0 (m + 1) (by omega) (by omega)⟩
/-! the scratch table and the directory -/
theorem yl_t {post : SY → Prop} {x1 x2 x4 : Int32} {x3 : Int64} (m : Nat) (hm : m < 64) (k : post (nI C, nI L, nI P, nI T, nI F, nI (m + 1), zb_f B, zb_f g, zb_f Z, zb_f D, fn, fs, fc, fo, upd sn m x1, upd ss m x2, vp_updL sc m x3, upd so m x4)) : wpY_addScratch post (nI C, nI L, nI P, nI T, nI F, nI m, zb_f B, zb_f g, zb_f Z, zb_f D, fn, fs, fc, fo, sn, ss, sc, so) x1 x2 x3 x4 := by
  have c : (nI m).toNatClampNeg = m := nI_clamp (by omega)
  have w : vp_in (nI m) 64 := vp_in_nI hm (by omega)
  exact br_f (nI_ge (b := 64) hm (by decide)) ⟨w, nm_r (e' := upd sn m x1) (by rw [c]) ⟨w, nm_r (e' := upd ss m x2) (by rw [c]) ⟨w, nm_r (e' := vp_updL sc m x3) (by rw [c]) ⟨w, nm_r (e' := upd so m x4) (by rw [c]) (nm_r (nI_1 m) k)⟩⟩⟩⟩
/-- the inner loop when no entry from j on has the name -/
theorem yd_14n {post : SY → Prop} {J : Int32 → Int32 → Int32 → Int32 → Int32 → Int32 → Int32 → Int32 → (Nat → Int32) → (Nat → Int32) → (Nat → Int32) → (Nat → Int32) → (Nat → Int32) → (Nat → Int32) → (Nat → Int64) → (Nat → Int32) → (Nat → Int32) → (Nat → Int32) → (Nat → Int64) → (Nat → Int32) → Prop} {x1 x2 : Int32} {v m : Nat} {a : Nat → Nat} (hm : m < 64) (hv : v < 256) (ha : ∀ i, i < m → a i < 256 ∧ sn i = nI (a i)) (k : J x2 (nI (v + 1)) (nI C) (nI L) (nI P) (nI T) (nI F) (nI m) (zb_f B) (zb_f g) (zb_f Z) (zb_f D) fn fs fc fo sn ss sc so) :
    ∀ r j n, j + r = m → r < n → (∀ i, j ≤ i → i < m → a i ≠ v) → wY_writeDir_14 post J x1 (nI v) n x2 (nI j) (nI C) (nI L) (nI P) (nI T) (nI F) (nI m) (zb_f B) (zb_f g) (zb_f Z) (zb_f D) fn fs fc fo sn ss sc so := by
  intro r
  induction r with
  | zero =>
    intro j n hj hn h
    obtain ⟨n, rfl⟩ : ∃ m, n = m + 1 := ⟨n - 1, by omega⟩
    exact br_t (nI_le (by omega) (by omega)) (nm_r (nI_1 v) k)
  | succ r ih =>
    intro j n hj hn h
    obtain ⟨n, rfl⟩ : ∃ m, n = m + 1 := ⟨n - 1, by omega⟩
    obtain ⟨a1, a2⟩ := ha j (by omega)
    have h1 := h j (Nat.le_refl _) (by omega)
    refine br_f (nI_ge (by omega) (by omega)) ⟨vp_in_nI (by omega) (by omega), ?_⟩
    rw [nI_clamp (by omega), a2]
    exact br_f (fun z => h1 ((nI_eq (by omega) (by omega)).mp z)) (nm_r (nI_1 j) (ih (j + 1) n (by omega) (by omega) (fun i hi1 hi2 => h i (by omega) hi2)))
theorem yd_14h {post : SY → Prop} {J : Int32 → Int32 → Int32 → Int32 → Int32 → Int32 → Int32 → Int32 → (Nat → Int32) → (Nat → Int32) → (Nat → Int32) → (Nat → Int32) → (Nat → Int32) → (Nat → Int32) → (Nat → Int64) → (Nat → Int32) → (Nat → Int32) → (Nat → Int32) → (Nat → Int64) → (Nat → Int32) → Prop} {x1 : Int32} {p v m z k o j0 : Nat} {a : Nat → Nat} (hm : m < 64) (hv : v < 256) (ha : ∀ i, i < m → a i < 256 ∧ sn i = nI (a i)) (hp : p + 13 ≤ 256) (hz : z < 65536) (hk : k < 4294967296) (ho : o < 65536) (h0 : j0 < m) (hu : ∀ i, i < m → a i = v → i = j0) (e0 : a j0 = v) (e1 : ss j0 = nI z) (e2 : sc j0 = lN k) (e3 : so j0 = nI o)
    (K : J (nI (p + 13)) (nI (v + 1)) (nI C) (nI L) (nI P) (nI T) (nI F) (nI m) (zb_f (zd_c B p v z k o)) (zb_f g) (zb_f Z) (zb_f D) fn fs fc fo sn ss sc so) :
    ∀ r j n, j + r = j0 → r + (m - j0) < n → wY_writeDir_14 post J x1 (nI v) n (nI p) (nI j) (nI C) (nI L) (nI P) (nI T) (nI F) (nI m) (zb_f B) (zb_f g) (zb_f Z) (zb_f D) fn fs fc fo sn ss sc so := by
  intro r
  induction r with
  | zero =>
    intro j n hj hn
    obtain ⟨n, rfl⟩ : ∃ m, n = m + 1 := ⟨n - 1, by omega⟩
    have e : j = j0 := by omega
    subst e
    have c : (nI j).toNatClampNeg = j := nI_clamp (by omega)
    have w : vp_in (nI j) 64 := vp_in_nI (by omega) (by omega)
    refine br_f (nI_ge (by omega) (by omega)) ⟨w, ?_⟩
    refine br_t (by rw [c, (ha j h0).2, e0]) ?_
    refine yl_w p 80 rfl (by decide +kernel) (by omega) ?_
    refine yl_w (p + 1) 75 (nI_1 p) (by decide +kernel) (by omega) ?_
    refine yl_w (p + 2) 1 (nI_add p 2) (by decide +kernel) (by omega) ?_
    refine yl_w (p + 3) 2 (nI_add p 3) (by decide +kernel) (by omega) ?_
    rw [yn_s B p 1 2 33639248 (by decide) (by decide) (by decide)]
    refine yl_w1 (p + 4) v (nI_add p 4) rfl (by omega) (by omega) ?_
    refine ⟨w, ?_⟩
    refine yl_w2 (p + 5) z (nI_add p 5) (by rw [c]; exact e1) hz (by omega) ?_
    refine ⟨w, ?_⟩
    refine yl_w4 (p + 7) k (nI_add p 7) (by rw [c]; exact e2) hk (by omega) ?_
    refine ⟨w, ?_⟩
    refine yl_w2 (p + 11) o (nI_add p 11) (by rw [c]; exact e3) ho (by omega) ?_
    refine nm_r (nI_add p 13) (nm_r (nI_1 j) ?_)
    exact yd_14n hm hv ha K (m - (j + 1)) (j + 1) n (by omega) (by omega) (fun i h1 h2 z => by
      have := hu i h2 z
      omega)
  | succ r ih =>
    intro j n hj hn
    obtain ⟨n, rfl⟩ : ∃ m, n = m + 1 := ⟨n - 1, by omega⟩
    obtain ⟨a1, a2⟩ := ha j (by omega)
    have h1 : a j ≠ v := fun z => by
      have := hu j (by omega) z
      omega
    refine br_f (nI_ge (by omega) (by omega)) ⟨vp_in_nI (by omega) (by omega), ?_⟩
    rw [nI_clamp (by omega), a2]
    exact br_f (fun z => h1 ((nI_eq (by omega) (by omega)).mp z)) (nm_r (nI_1 j) (ih (j + 1) n (by omega) (by omega)))
theorem yd_4 {post : SY → Prop} {A : Nat → Option (Nat × Nat × Nat)} {m d : Nat} {a : Nat → Nat} (hR : zt_R A m sn ss sc so a) (hb : ∀ v z k o, A v = some (z, k, o) → z < 65536 ∧ k < 4294967296 ∧ o < 65536) (hm : m < 64) (hD : d + 13 * zt_c A 256 + 9 ≤ 256) (K : post (nI C, nI (d + 13 * zt_c A 256 + 9), nI P, nI T, nI F, nI m, zb_f (zd_f A B d), zb_f g, zb_f Z, zb_f D, fn, fs, fc, fo, sn, ss, sc, so)) :
    ∀ r v n, v + r = 256 → r < n → wY_writeDir_4 post (nI d) n (nI (d + 13 * zt_c A v)) (nI v) (nI C) (nI L) (nI P) (nI T) (nI F) (nI m) (zb_f (zd_l A B d v)) (zb_f g) (zb_f Z) (zb_f D) fn fs fc fo sn ss sc so := by
  obtain ⟨rfl, h2, h3, h4⟩ := hR
  have ha : ∀ i, i < zt_c A 256 → a i < 256 ∧ sn i = nI (a i) := fun i hi => ⟨(h2 i hi).1, (h2 i hi).2.1⟩
  intro r
  induction r with
  | zero =>
    intro v n hv hn
    obtain ⟨n, rfl⟩ : ∃ m, n = m + 1 := ⟨n - 1, by omega⟩
    have e : v = 256 := by omega
    subst e
    refine br_t (nI_le (a := 256) (b := 256) (Nat.le_refl _) (by omega)) ?_
    have hd : d < 65536 := by omega
    have K2 : post (nI C, nI (d + 13 * zt_c A 256 + 9), nI P, nI T, nI F, nI (zt_c A 256), zb_f (zd_e (zd_l A B d 256) (d + 13 * zt_c A 256) (zt_c A 256) d), zb_f g, zb_f Z, zb_f D, fn, fs, fc, fo, sn, ss, sc, so) := K
    generalize d + 13 * zt_c A 256 = p at *
    generalize zd_l A B d 256 = B2 at *
    refine yl_w p 80 rfl (by decide +kernel) (by omega) ?_
    refine yl_w (p + 1) 75 (nI_1 p) (by decide +kernel) (by omega) ?_
    refine yl_w (p + 2) 5 (nI_add p 2) (by decide +kernel) (by omega) ?_
    refine yl_w (p + 3) 6 (nI_add p 3) (by decide +kernel) (by omega) ?_
    rw [yn_s B2 p 5 6 101010256 (by decide) (by decide) (by decide)]
    refine yl_w1 (p + 4) (zt_c A 256) (nI_add p 4) rfl (by omega) (by omega) ?_
    refine yl_w2 (p + 5) d (nI_add p 5) rfl hd (by omega) ?_
    refine yl_w2 (p + 7) (13 * zt_c A 256) (nI_add p 7) (zq_m13 _) (by omega) (by omega) ?_
    exact nm_r (nI_add p 9) K2
  | succ r ih =>
    intro v n hv hn
    obtain ⟨n, rfl⟩ : ∃ m, n = m + 1 := ⟨n - 1, by omega⟩
    refine br_f (nI_ge (b := 256) (by omega) (by decide)) ?_
    have W := ih (v + 1) n (by omega) (by omega)
    cases h : A v with
    | none =>
      obtain ⟨e1, e2⟩ := zd_l_n A B d v h
      rw [e1, e2] at W
      exact ⟨zt_c A 256 + 1, yd_14n hm (by omega) ha W (zt_c A 256) 0 (zt_c A 256 + 1) (by omega) (by omega) (fun i _ hi z => by
        obtain ⟨_, _, z', k', o', t, _⟩ := h2 i hi
        rw [z, h] at t
        exact nomatch t)⟩
    | some x =>
      obtain ⟨z, k, o⟩ := x
      obtain ⟨e1, e2⟩ := zd_l_s A B d v z k o h
      have e3 : d + 13 * zt_c A (v + 1) = d + 13 * zt_c A v + 13 := by omega
      rw [e1, e3] at W
      have q := zt_c_lt A (v := v) (w := 256) (by omega) h
      obtain ⟨b1, b2, b3⟩ := hb v z k o h
      obtain ⟨j0, hj, ej⟩ := h4 v (by rw [h]; exact fun t => nomatch t)
      obtain ⟨_, _, z', k', o', t, t1, t2, t3⟩ := h2 j0 hj
      rw [ej, h] at t
      have t4 := Option.some.inj t
      have u1 : z = z' := congrArg (fun y => y.1) t4
      have u2 : k = k' := congrArg (fun y => y.2.1) t4
      have u3 : o = o' := congrArg (fun y => y.2.2) t4
      subst u1 u2 u3
      exact ⟨zt_c A 256 + 2, yd_14h hm (by omega) ha (by omega) b1 b2 b3 hj (fun i hi e => h3 i j0 hi hj (e.trans ej.symm)) ej t1 t2 t3 W j0 0 (zt_c A 256 + 2) (by omega) (by omega)⟩
theorem yd {post : SY → Prop} {A : Nat → Option (Nat × Nat × Nat)} {q : Int32} {m : Nat} {a : Nat → Nat} (d : Nat) (hq : q = nI d) (hR : zt_R A m sn ss sc so a) (hb : ∀ v z k o, A v = some (z, k, o) → z < 65536 ∧ k < 4294967296 ∧ o < 65536) (hm : m < 64) (hD : d + 13 * zt_c A 256 + 9 ≤ 256) (K : post (nI C, nI (d + 13 * zt_c A 256 + 9), nI P, nI T, nI F, nI m, zb_f (zd_f A B d), zb_f g, zb_f Z, zb_f D, fn, fs, fc, fo, sn, ss, sc, so)) : wpY_writeDir post (nI C, nI L, nI P, nI T, nI F, nI m, zb_f B, zb_f g, zb_f Z, zb_f D, fn, fs, fc, fo, sn, ss, sc, so) q := by
  subst hq
  have W := yd_4 (L := L) hR hb hm hD K 256 0 257 (by omega) (by omega)
  exact ⟨257, W⟩
end ZY
end
section
/-! ===== isOpenable ===== -/
theorem zq_L {x y : Int64} {A B : Prop} (a b : Nat) (f : a = b → A) (g : a ≠ b → B) (hx : x = lN a := by rfl) (hy : y = lN b := by rfl) (ha : a < 2 ^ 63 := by omega) (hb : b < 2 ^ 63 := by omega) : (x = y → A) ∧ (¬ x = y → B) := by
  subst hx hy
  rw [pk_lEQ ha hb]
  exact ⟨f, g⟩
def zo_S (B : Nat → Nat) (d r : Nat) : Prop :=
  zb_r4 B r = 33639248 ∧ zb_r2 B (r + 11) + 11 + zb_r2 B (r + 5) ≤ d ∧ zb_r4 B (zb_r2 B (r + 11)) = 67324752 ∧ B (zb_r2 B (r + 11) + 4) = B (r + 4) ∧ zb_r2 B (zb_r2 B (r + 11) + 5) = zb_r2 B (r + 5) ∧ zb_r4 B (zb_r2 B (r + 11) + 7) = zb_r4 B (r + 7)
def zo_U (B : Nat → Nat) (d i : Nat) : Prop := ∀ q, q + 1 = i → B (d + 13 * q + 4) < B (d + 13 * i + 4)
theorem zo_ES {B : Nat → Nat} {d i : Nat} : zo_E B d i ↔ (zo_S B d (d + 13 * i) ∧ zo_U B d i) :=
  ⟨fun ⟨a, b, c, e, f, g, h⟩ => ⟨⟨a, b, c, e, f, g⟩, h⟩, fun ⟨⟨a, b, c, e, f, g⟩, h⟩ => ⟨a, b, c, e, f, g, h⟩⟩
/-- the name before, as both sides carry it -/
def zo_p (B : Nat → Nat) (d : Nat) : Nat → Int32
  | 0 => -1
  | q + 1 => nI (B (d + 13 * q + 4))
theorem zo_pU {B : Nat → Nat} (hB : zb_B B) (d i : Nat) : (nI (B (d + 13 * i + 4)) ≤ zo_p B d i ↔ ¬ zo_U B d i) ∧ (zo_p B d i < nI (B (d + 13 * i + 4)) ↔ zo_U B d i) := by
  have b := hB (d + 13 * i + 4)
  cases i with
  | zero =>
    have u : zo_U B d 0 := fun q h => by omega
    have e : (zo_p B d 0).toInt = -1 := by
      show (-1 : Int32).toInt = -1
      decide
    rw [Int32.le_iff_toInt_le, Int32.lt_iff_toInt_lt, nI_toInt (by omega), e]
    exact ⟨⟨fun h => by omega, fun h => absurd u h⟩, ⟨fun _ => u, fun _ => by omega⟩⟩
  | succ q =>
    have b2 := hB (d + 13 * q + 4)
    have u : zo_U B d (q + 1) ↔ B (d + 13 * q + 4) < B (d + 13 * (q + 1) + 4) := ⟨fun h => h q rfl, fun h q' e => by
      have e2 : q' = q := by omega
      rw [e2]
      exact h⟩
    show (nI _ ≤ nI (B (d + 13 * q + 4)) ↔ _) ∧ (nI (B (d + 13 * q + 4)) < nI _ ↔ _)
    rw [nI_leI (by omega) (by omega), nI_ltI (by omega) (by omega), u]
    exact ⟨by omega, Iff.rfl⟩
section ZXO
variable {C L P T F : Nat} {B g Z D : Nat → Nat} {st fn fs fo no : Nat → Int32} {fc : Nat → Int64}
theorem xo_s {post : Int32 → Prop} {q y : Int32} (r d : Nat) (hq : q = nI r) (hy : y = nI d) (hr : r + 13 ≤ L) (hd : d ≤ L) (hL : L ≤ 256) (hB : zb_B B) (k1 : zo_S B d r → post 1) (k0 : ¬ zo_S B d r → post 0) : wpX_isSoundCentral post (nI C, nI L, nI P, nI T, nI F, zb_f B, zb_f g, st, zb_f Z, zb_f D, fn, fs, fc, fo, no) q y := by
  subst hq hy
  have b1 := zb_r4_lt hB r
  have b2 := zb_r2_lt hB (r + 11)
  have b3 := zb_r2_lt hB (r + 5)
  have b4 := zb_r4_lt hB (zb_r2 B (r + 11))
  have b5 := hB (zb_r2 B (r + 11) + 4)
  have b6 := hB (r + 4)
  have b7 := zb_r2_lt hB (zb_r2 B (r + 11) + 5)
  have b8 := zb_r4_lt hB (zb_r2 B (r + 11) + 7)
  have b9 := zb_r4_lt hB (r + 7)
  unfold wpX_isSoundCentral
  dsimp only
  refine xl_4 r rfl (by omega) hL hB ?_
  refine zq_L (zb_r4 B r) 33639248 (fun h1 => ?_) (fun h1 => k0 (fun z => h1 z.1)) rfl rfl (by omega) (by omega)
  refine xl_2 (r + 11) (nI_add r 11) (by omega) hL hB ?_
  refine xl_2 (r + 5) (nI_add r 5) (by omega) hL hB ?_
  refine pk_le (zb_r2 B (r + 11) + 11 + zb_r2 B (r + 5)) d (fun h2 => ?_) (fun h2 => k0 (fun z => absurd z.2.1 (by omega))) (by rw [zq_a11, nI_add]) rfl (by omega) (by omega)
  refine xl_4 (zb_r2 B (r + 11)) rfl (by omega) hL hB ?_
  refine zq_L (zb_r4 B (zb_r2 B (r + 11))) 67324752 (fun h3 => ?_) (fun h3 => k0 (fun z => h3 z.2.2.1)) rfl rfl (by omega) (by omega)
  refine xl_b (zb_r2 B (r + 11) + 4) (nI_add _ 4) (by omega) hL ?_
  refine xl_b (r + 4) (nI_add _ 4) (by omega) hL ?_
  refine pk_eq (B (zb_r2 B (r + 11) + 4)) (B (r + 4)) (fun h4 => ?_) (fun h4 => k0 (fun z => h4 z.2.2.2.1)) rfl rfl (by omega) (by omega)
  refine xl_2 (zb_r2 B (r + 11) + 5) (nI_add _ 5) (by omega) hL hB ?_
  refine pk_eq (zb_r2 B (zb_r2 B (r + 11) + 5)) (zb_r2 B (r + 5)) (fun h5 => ?_) (fun h5 => k0 (fun z => h5 z.2.2.2.2.1)) rfl rfl (by omega) (by omega)
  refine xl_4 (zb_r2 B (r + 11) + 7) (nI_add _ 7) (by omega) hL hB ?_
  refine xl_4 (r + 7) (nI_add _ 7) (by omega) hL hB ?_
  exact zq_L (zb_r4 B (zb_r2 B (r + 11) + 7)) (zb_r4 B (r + 7)) (fun h6 => k1 ⟨h1, h2, h3, h4, h5, h6⟩) (fun h6 => k0 (fun z => h6 z.2.2.2.2.2)) rfl rfl (by omega) (by omega)
theorem xo_73 {post : Int32 → Prop} {d c : Nat} (hd : d + 13 * c + 9 ≤ L) (hL : L ≤ 256) (hB : zb_B B) (k1 : zo_A B d c → post 1) (k0 : ¬ zo_A B d c → post 0) :
    ∀ r i n, i + r = c → r < n → (∀ j, j < i → zo_E B d j) → wX_isOpenable_73 post (nI c) (nI d) (nI C) (nI L) (nI P) (nI T) (nI F) (zb_f B) (zb_f g) st (zb_f Z) (zb_f D) fn fs fc fo no n (zo_p B d i) (nI i) := by
  intro r
  induction r with
  | zero =>
    intro i n hi hn h
    obtain ⟨n, rfl⟩ : ∃ m, n = m + 1 := ⟨n - 1, by omega⟩
    have e : i = c := by omega
    subst e
    exact br_t (nI_le (Nat.le_refl _) (by omega)) (k1 h)
  | succ r ih =>
    intro i n hi hn h
    obtain ⟨n, rfl⟩ : ∃ m, n = m + 1 := ⟨n - 1, by omega⟩
    refine br_f (nI_ge (by omega) (by omega)) (nm_r (e' := nI (d + 13 * i)) (by rw [zq_m13, nI_add]) ?_)
    refine xl_b (d + 13 * i + 4) (nI_add _ 4) (by omega) hL ?_
    by_cases u : zo_U B d i
    · refine br_f (fun z => ((zo_pU hB d i).1.mp z) u) ?_
      refine xo_s (d + 13 * i) d rfl rfl (by omega) (by omega) hL hB (fun s => ?_) (fun s => ?_)
      · refine br_f (by decide) (nm_r (nI_1 i) (ih (i + 1) n (by omega) (by omega) (fun j hj => ?_)))
        by_cases e : j = i
        · rw [e]
          exact zo_ES.mpr ⟨s, u⟩
        · exact h j (by omega)
      · exact br_t rfl (k0 (fun z => s (zo_ES.mp (z i (by omega))).1))
    · exact br_t ((zo_pU hB d i).1.mpr u) (k0 (fun z => u (zo_ES.mp (z i (by omega))).2))
theorem xo {post : Int32 → Prop} (hL : L ≤ 256) (hB : zb_B B) (k1 : zo_O B L → post 1) (k0 : ¬ zo_O B L → post 0) : wpX_isOpenable post (nI C, nI L, nI P, nI T, nI F, zb_f B, zb_f g, st, zb_f Z, zb_f D, fn, fs, fc, fo, no) := by
  by_cases h9 : 9 ≤ L
  · have b1 := zb_r4_lt hB (L - 9)
    have b2 : zo_c B L < 256 := hB (L - 9 + 4)
    have b3 := zb_r2_lt hB (L - 9 + 5)
    have b4 := zb_r2_lt hB (L - 9 + 7)
    unfold wpX_isOpenable
    dsimp only
    refine nm_r (zq_s9 h9) ?_
    refine xl_4 (L - 9) rfl (by omega) hL hB ?_
    refine zq_L (zb_r4 B (L - 9)) 101010256 (fun h1 => ?_) (fun h1 => k0 (fun z => h1 z.2.1)) rfl rfl (by omega) (by omega)
    refine xl_b (L - 9 + 4) (nI_add _ 4) (by omega) hL ?_
    refine xl_2 (L - 9 + 5) (nI_add _ 5) (by omega) hL hB ?_
    refine xl_2 (L - 9 + 7) (nI_add _ 7) (by omega) hL hB ?_
    refine pk_eq (zb_r2 B (L - 9 + 7)) (13 * zo_c B L) (fun h2 => ?_) (fun h2 => k0 (fun z => h2 z.2.2.1)) rfl (zq_m13 _) (by omega) (by omega)
    refine pk_eq (zo_d B L + zb_r2 B (L - 9 + 7)) (L - 9) (fun h3 => ?_) (fun h3 => k0 (fun z => h3 (by rw [h2]; exact z.2.2.2.1))) (nI_add _ _) rfl (by unfold zo_d; omega) (by omega)
    rw [h2] at h3
    exact ⟨zo_c B L + 1, xo_73 (by omega) hL hB (fun z => k1 ⟨h9, h1, h2, h3, z⟩) (fun z => k0 (fun w => z w.2.2.2.2)) (zo_c B L) 0 (zo_c B L + 1) (by omega) (by omega) (fun j hj => by omega)⟩
  · unfold wpX_isOpenable
    dsimp only
    refine nm_e ?_
    refine xl_4n (pk_sneg (b := 9) (by omega) (by omega)) ?_
    exact br_f (by decide) (k0 (fun z => h9 z.1))
theorem xo_dc {post : Int32 → Prop} (h9 : 9 ≤ L) (hL : L ≤ 256) (k : post (nI (zo_c B L))) : wpX_directoryCount post (nI C, nI L, nI P, nI T, nI F, zb_f B, zb_f g, st, zb_f Z, zb_f D, fn, fs, fc, fo, no) := by
  unfold wpX_directoryCount
  dsimp only
  exact xl_b (L - 9 + 4) (by rw [zq_s9 h9]; exact nI_add _ 4) (by omega) hL k
theorem xo_ca {post : Int32 → Prop} {q : Int32} (i : Nat) (hq : q = nI i) (h9 : 9 ≤ L) (hL : L ≤ 256) (hB : zb_B B) (k : post (nI (zo_d B L + 13 * i))) : wpX_centralAt post (nI C, nI L, nI P, nI T, nI F, zb_f B, zb_f g, st, zb_f Z, zb_f D, fn, fs, fc, fo, no) q := by
  subst hq
  unfold wpX_centralAt
  dsimp only
  refine xl_2 (L - 9 + 5) (by rw [zq_s9 h9]; exact nI_add _ 5) (by omega) hL hB ?_
  refine zq_v (P := post) ?_ k
  rw [zq_m13, nI_add]
  rfl
end ZXO
section ZYO
variable {C L P T F : Nat} {B g Z D : Nat → Nat} {fn fs fo sn ss so : Nat → Int32} {fc sc : Nat → Int64} {sk : Int32}
theorem yo_89 {post : Int32 → Prop} {d c : Nat} (hd : d + 13 * c + 9 ≤ 256) (hB : zb_B B) (k1 : zo_A B d c → post 1) (k0 : ¬ zo_A B d c → post 0) :
    ∀ r i n, i + r = c → r < n → (∀ j, j < i → zo_E B d j) → wY_isOpenable_89 post (nI c) (nI d) (nI C) (nI L) (nI P) (nI T) (nI F) sk (zb_f B) (zb_f g) (zb_f Z) (zb_f D) fn fs fc fo sn ss sc so n (zo_p B d i) (nI i) := by
  intro r
  induction r with
  | zero =>
    intro i n hi hn h
    obtain ⟨n, rfl⟩ : ∃ m, n = m + 1 := ⟨n - 1, by omega⟩
    have e : i = c := by omega
    subst e
    exact br_t (nI_le (Nat.le_refl _) (by omega)) (k1 h)
  | succ r ih =>
    intro i n hi hn h
    obtain ⟨n, rfl⟩ : ∃ m, n = m + 1 := ⟨n - 1, by omega⟩
    refine br_f (nI_ge (by omega) (by omega)) (nm_r (e' := nI (d + 13 * i)) (by rw [zq_m13, nI_add]) ?_)
    have kS : ¬ zo_S B d (d + 13 * i) → post 0 := fun s => k0 (fun z => s (zo_ES.mp (z i (by omega))).1)
    have hr : d + 13 * i + 13 ≤ 256 := by omega
    have hp := zo_pU hB d i
    have hF : zo_S B d (d + 13 * i) → (zo_U B d i → wY_isOpenable_89 post (nI c) (nI d) (nI C) (nI L) (nI P) (nI T) (nI F) sk (zb_f B) (zb_f g) (zb_f Z) (zb_f D) fn fs fc fo sn ss sc so n (nI (B (d + 13 * i + 4))) (nI (i + 1))) ∧ (¬ zo_U B d i → post 0) := fun s => ⟨fun u => ih (i + 1) n (by omega) (by omega) (fun j hj => by
      by_cases e : j = i
      · rw [e]
        exact zo_ES.mpr ⟨s, u⟩
      · exact h j (by omega)), fun u => k0 (fun z => u (zo_ES.mp (z i (by omega))).2)⟩
    generalize d + 13 * i = w at *
    have b1 := zb_r4_lt hB w
    have b2 := zb_r2_lt hB (w + 11)
    have b3 := zb_r2_lt hB (w + 5)
    have b4 := zb_r4_lt hB (zb_r2 B (w + 11))
    have b5 := hB (zb_r2 B (w + 11) + 4)
    have b6 := hB (w + 4)
    have b7 := zb_r2_lt hB (zb_r2 B (w + 11) + 5)
    have b8 := zb_r4_lt hB (zb_r2 B (w + 11) + 7)
    have b9 := zb_r4_lt hB (w + 7)
    refine yl_sC w rfl (by omega) hB (fun h1 => ?_) (fun h1 => br_t rfl (kS (fun z => h1 z.1)))
    refine br_f (by decide) ?_
    refine yl_b (w + 4) (nI_add _ 4) (by omega) ?_
    refine yl_2 (w + 5) (nI_add _ 5) (by omega) hB ?_
    refine yl_4 (w + 7) (nI_add _ 7) (by omega) hB ?_
    refine yl_2 (w + 11) (nI_add _ 11) (by omega) hB ?_
    refine pk_le (zb_r2 B (w + 11) + 11 + zb_r2 B (w + 5)) d (fun h2 => ?_) (fun h2 => kS (fun z => absurd z.2.1 (by omega))) (by rw [zq_a11, nI_add]) rfl (by omega) (by omega)
    refine yl_sL (zb_r2 B (w + 11)) rfl (by omega) hB (fun h3 => ?_) (fun h3 => br_t rfl (kS (fun z => h3 z.2.2.1)))
    refine br_f (by decide) ?_
    refine yl_b (zb_r2 B (w + 11) + 4) (nI_add _ 4) (by omega) ?_
    refine pk_eq (B (zb_r2 B (w + 11) + 4)) (B (w + 4)) (fun h4 => ?_) (fun h4 => kS (fun z => h4 z.2.2.2.1)) rfl rfl (by omega) (by omega)
    refine yl_2 (zb_r2 B (w + 11) + 5) (nI_add _ 5) (by omega) hB ?_
    refine pk_eq (zb_r2 B (zb_r2 B (w + 11) + 5)) (zb_r2 B (w + 5)) (fun h5 => ?_) (fun h5 => kS (fun z => h5 z.2.2.2.2.1)) rfl rfl (by omega) (by omega)
    refine yl_4 (zb_r2 B (w + 11) + 7) (nI_add _ 7) (by omega) hB ?_
    refine zq_L (zb_r4 B (zb_r2 B (w + 11) + 7)) (zb_r4 B (w + 7)) (fun h6 => ?_) (fun h6 => kS (fun z => h6 z.2.2.2.2.2)) rfl rfl (by omega) (by omega)
    have hG := hF ⟨h1, h2, h3, h4, h5, h6⟩
    by_cases u : zo_U B d i
    · exact br_t (hp.2.mpr u) (nm_r (nI_1 i) (hG.1 u))
    · exact br_f (fun z => u (hp.2.mp z)) (hG.2 u)
theorem yo {post : Int32 → Prop} (hL : L ≤ 256) (hB : zb_B B) (k1 : zo_O B L → post 1) (k0 : ¬ zo_O B L → post 0) : wpY_isOpenable post (nI C, nI L, nI P, nI T, nI F, sk, zb_f B, zb_f g, zb_f Z, zb_f D, fn, fs, fc, fo, sn, ss, sc, so) := by
  unfold wpY_isOpenable
  dsimp only
  refine pk_le 9 L (fun h9 => ?_) (fun h9 => k0 (fun z => absurd z.1 (by omega))) rfl rfl (by omega) (by omega)
  have b1 := zb_r4_lt hB (L - 9)
  have b2 : zo_c B L < 256 := hB (L - 9 + 4)
  have b3 := zb_r2_lt hB (L - 9 + 5)
  have b4 := zb_r2_lt hB (L - 9 + 7)
  refine nm_r (zq_s9 h9) ?_
  refine yl_sE (L - 9) rfl (by omega) hB (fun h1 => ?_) (fun h1 => br_t rfl (k0 (fun z => h1 z.2.1)))
  refine br_f (by decide) ?_
  refine yl_b (L - 9 + 4) (nI_add _ 4) (by omega) ?_
  refine yl_2 (L - 9 + 5) (nI_add _ 5) (by omega) hB ?_
  refine yl_2 (L - 9 + 7) (nI_add _ 7) (by omega) hB ?_
  refine pk_eq (zb_r2 B (L - 9 + 7)) (13 * zo_c B L) (fun h2 => ?_) (fun h2 => k0 (fun z => h2 z.2.2.1)) rfl (zq_m13 _) (by omega) (by omega)
  refine pk_eq (zo_d B L + zb_r2 B (L - 9 + 7)) (L - 9) (fun h3 => ?_) (fun h3 => k0 (fun z => h3 (by rw [h2]; exact z.2.2.2.1))) (nI_add _ _) (zq_s9 h9) (by unfold zo_d; omega) (by omega)
  rw [h2] at h3
  exact ⟨zo_c B L + 1, yo_89 (by omega) hB (fun z => k1 ⟨h9, h1, h2, h3, z⟩) (fun z => k0 (fun w => z w.2.2.2.2)) (zo_c B L) 0 (zo_c B L + 1) (by omega) (by omega) (fun j hj => by omega)⟩
end ZYO
end
section
/-! ===== the relation ===== -/
def zr_I (C L P T F : Nat) (B g Z D : Nat → Nat) (st : Nat → Int32) : Prop :=
  C ≤ 256 ∧ L ≤ C ∧ P ≤ 8 ∧ T = zs_m Z P ∧ T ≤ 128 ∧ F ≤ 23 ∧ zb_B B ∧ zb_B g ∧ zb_B D ∧ ∀ k, k < P → st k = nI (zs_m Z k)
def i_Rel (k : Nat) (u : SX) (v : SY) : Prop := ∃ (C L P T F : Nat) (B g Z D : Nat → Nat) (st fn fs fo no sn ss so : Nat → Int32) (fc sc : Nat → Int64) (sk : Int32), u = (nI C, nI L, nI P, nI T, nI F, zb_f B, zb_f g, st, zb_f Z, zb_f D, fn, fs, fc, fo, no) ∧ v = (nI C, nI L, nI P, nI T, nI F, sk, zb_f B, zb_f g, zb_f Z, zb_f D, fn, fs, fc, fo, sn, ss, sc, so) ∧ zr_I C L P T F B g Z D st
theorem i_up {k : Nat} {u : SX} {v : SY} (h : i_Rel k u v) : i_Rel (k + 3) u v := h
section ZR
variable {C L P T F : Nat} {B g Z D : Nat → Nat} {st fn fs fo no sn ss so : Nat → Int32} {fc sc : Nat → Int64} {sk : Int32}
theorem zr_mk {k : Nat} (h : zr_I C L P T F B g Z D st) : i_Rel k (nI C, nI L, nI P, nI T, nI F, zb_f B, zb_f g, st, zb_f Z, zb_f D, fn, fs, fc, fo, no) (nI C, nI L, nI P, nI T, nI F, sk, zb_f B, zb_f g, zb_f Z, zb_f D, fn, fs, fc, fo, sn, ss, sc, so) :=
  ⟨C, L, P, T, F, B, g, Z, D, st, fn, fs, fo, no, sn, ss, so, fc, sc, sk, rfl, rfl, h⟩
theorem zf_0 (hO : zo_O B L) (hL : L ≤ 256) (hB : zb_B B) (x : Int32) : ∀ m i, i + m = zo_c B L → ∃ r : Int32, (r = -1 ∨ ∃ j, j < zo_c B L ∧ r = nI (zo_d B L + 13 * j)) ∧ (∀ (post : Int32 → Prop) n, m < n → post r → wX_centralOf_16 post x (nI (zo_c B L)) (nI C) (nI L) (nI P) (nI T) (nI F) (zb_f B) (zb_f g) st (zb_f Z) (zb_f D) fn fs fc fo no n (nI i)) ∧ (∀ (post : Int32 → Prop) n, m < n → post r → wY_findDir_28 post x (nI (zo_c B L)) (nI (zo_d B L)) (nI C) (nI L) (nI P) (nI T) (nI F) sk (zb_f B) (zb_f g) (zb_f Z) (zb_f D) fn fs fc fo sn ss sc so n (nI i)) := by
  have hd := zo_dl hO
  intro m
  induction m with
  | zero =>
    intro i hi
    refine ⟨-1, Or.inl rfl, fun post n hn hp => ?_, fun post n hn hp => ?_⟩
    · obtain ⟨n, rfl⟩ : ∃ m, n = m + 1 := ⟨n - 1, by omega⟩
      exact br_t (nI_le (by omega) (by omega)) hp
    · obtain ⟨n, rfl⟩ : ∃ m, n = m + 1 := ⟨n - 1, by omega⟩
      exact br_t (nI_le (by omega) (by omega)) hp
  | succ m ih =>
    intro i hi
    by_cases e : nI (B (zo_d B L + 13 * i + 4)) = x
    · refine ⟨nI (zo_d B L + 13 * i), Or.inr ⟨i, by omega, rfl⟩, fun post n hn hp => ?_, fun post n hn hp => ?_⟩
      · obtain ⟨n, rfl⟩ : ∃ m, n = m + 1 := ⟨n - 1, by omega⟩
        refine br_f (nI_ge (by omega) (by omega)) ?_
        refine xo_ca i rfl (by omega) hL hB ?_
        exact xl_b (zo_d B L + 13 * i + 4) (nI_add _ 4) (by omega) hL (br_t e hp)
      · obtain ⟨n, rfl⟩ : ∃ m, n = m + 1 := ⟨n - 1, by omega⟩
        refine br_f (nI_ge (by omega) (by omega)) (nm_r (e' := nI (zo_d B L + 13 * i)) (by rw [zq_m13, nI_add]) ?_)
        exact yl_b (zo_d B L + 13 * i + 4) (nI_add _ 4) (by omega) (br_t e hp)
    · obtain ⟨r, h1, h2, h3⟩ := ih (i + 1) (by omega)
      refine ⟨r, h1, fun post n hn hp => ?_, fun post n hn hp => ?_⟩
      · obtain ⟨n, rfl⟩ : ∃ m, n = m + 1 := ⟨n - 1, by omega⟩
        refine br_f (nI_ge (by omega) (by omega)) ?_
        refine xo_ca i rfl (by omega) hL hB ?_
        exact xl_b (zo_d B L + 13 * i + 4) (nI_add _ 4) (by omega) hL (br_f e (nm_r (nI_1 i) (h2 post n (by omega) hp)))
      · obtain ⟨n, rfl⟩ : ∃ m, n = m + 1 := ⟨n - 1, by omega⟩
        refine br_f (nI_ge (by omega) (by omega)) (nm_r (e' := nI (zo_d B L + 13 * i)) (by rw [zq_m13, nI_add]) ?_)
        exact yl_b (zo_d B L + 13 * i + 4) (nI_add _ 4) (by omega) (br_f e (nm_r (nI_1 i) (h3 post n (by omega) hp)))
/-- both look-ups of a name -/
theorem zf (hO : zo_O B L) (hL : L ≤ 256) (hB : zb_B B) (x : Int32) : ∃ r : Int32, (r = -1 ∨ ∃ j, j < zo_c B L ∧ r = nI (zo_d B L + 13 * j)) ∧ (∀ (post : Int32 → Prop), post r → wpX_centralOf post (nI C, nI L, nI P, nI T, nI F, zb_f B, zb_f g, st, zb_f Z, zb_f D, fn, fs, fc, fo, no) x) ∧ (∀ (post : Int32 → Prop), post r → wpY_findDir post (nI C, nI L, nI P, nI T, nI F, sk, zb_f B, zb_f g, zb_f Z, zb_f D, fn, fs, fc, fo, sn, ss, sc, so) x) := by
  obtain ⟨r, h1, h2, h3⟩ := zf_0 (C := C) (P := P) (T := T) (F := F) (g := g) (Z := Z) (D := D) (st := st) (fn := fn) (fs := fs) (fo := fo) (no := no) (sn := sn) (ss := ss) (so := so) (fc := fc) (sc := sc) (sk := sk) hO hL hB x (zo_c B L) 0 (by omega)
  have h9 := hO.1
  refine ⟨r, h1, fun post hp => ?_, fun post hp => ?_⟩
  · unfold wpX_centralOf
    dsimp only
    refine xo hL hB (fun _ => br_f (by decide) ?_) (fun z => absurd hO z)
    exact xo_dc h9 hL ⟨zo_c B L + 1, h2 post (zo_c B L + 1) (by omega) hp⟩
  · unfold wpY_findDir
    dsimp only
    refine nm_r (zq_s9 h9) ?_
    refine yl_b (L - 9 + 4) (nI_add _ 4) (by omega) ?_
    exact yl_2 (L - 9 + 5) (nI_add _ 5) (by omega) hB ⟨zo_c B L + 1, h3 post (zo_c B L + 1) (by omega) hp⟩
end ZR
theorem zh_ch {post : Int64 → Prop} {x p1 p2 p4 : Int32} {p3 : Int64} (k0 : x = 0 → post p1.toInt64) (k1 : x = 1 → post p2.toInt64) (k2 : x = 2 → post p3) (k3 : x = 3 → post p4.toInt64) (k : ¬ x = 0 → ¬ x = 1 → ¬ x = 2 → ¬ x = 3 → post (-1)) : wpX_choose post x p1 p2 p3 p4 := by
  by_cases e0 : x = 0
  · subst e0
    exact br_f (by decide) (br_f (by decide) (br_t rfl (k0 rfl)))
  by_cases e1 : x = 1
  · subst e1
    exact br_f (by decide) (br_f (by decide) (br_f (by decide) (br_t rfl (k1 rfl))))
  by_cases e2 : x = 2
  · subst e2
    exact br_f (by decide) (br_f (by decide) (br_f (by decide) (br_f (by decide) (br_t rfl (k2 rfl)))))
  by_cases e3 : x = 3
  · subst e3
    exact br_f (by decide) (br_f (by decide) (br_f (by decide) (br_f (by decide) (br_f (by decide) (br_t rfl (k3 rfl))))))
  by_cases n : x < 0
  · exact br_t n (k e0 e1 e2 e3)
  · refine br_f n (br_t ?_ (k e0 e1 e2 e3))
    obtain ⟨j, hj, rfl⟩ := nI_of n
    have f0 : j ≠ 0 := fun z => e0 (by rw [z]; rfl)
    have f1 : j ≠ 1 := fun z => e1 (by rw [z]; rfl)
    have f2 : j ≠ 2 := fun z => e2 (by rw [z]; rfl)
    have f3 : j ≠ 3 := fun z => e3 (by rw [z]; rfl)
    exact nI_lt (a := 3) (by omega) hj
/-! ===== the small methods ===== -/
theorem i_vc_add {k : Nat} {u : SX} {v : SY} (I : i_Rel k u v) (hk : k + 3 ≤ 1537) (v1 : Int32) : wpX_add (fun r u' => wpY_add (fun r' v' => r' = r ∧ i_Rel (k + 3) u' v') v v1) u v1 := by
  have J : i_Rel (k + 3) u v := I
  obtain ⟨C, L, P, T, F, B, g, Z, D, st, fn, fs, fo, no, sn, ss, so, fc, sc, sk, rfl, rfl, hC, hLC, hP, hT, hT2, hF, hB, hg, hD, hst⟩ := I
  unfold wpX_add
  dsimp only
  rcases pk_ix v1 (n := 256) (by decide) with h | h | ⟨j, hj, rfl⟩
  · refine xl_y0 (Or.inl h) (br_t rfl ?_)
    exact br_t h ⟨rfl, J⟩
  · refine xl_y0 (Or.inr h) (br_t rfl ?_)
    exact br_f (zn_256 h).2.2 (br_f (zn_256 h).2.1 ⟨rfl, J⟩)
  · refine xl_y1 hj (br_f (by decide) ?_)
    refine pk_lt P 8 (fun h8 => ?_) (fun h8 => ?_) rfl rfl (by omega) (by omega)
    · have c : (nI P).toNatClampNeg = P := nI_clamp (by omega)
      have w : vp_in (nI P) 8 := vp_in_nI h8 (by omega)
      refine ⟨w, nm_r (e' := zb_f (zb_w g P j)) (by rw [c]; exact zb_upd g P j) ⟨w, nm_r (e' := upd st P (nI T)) (by rw [c]) ⟨w, nm_r (e' := zb_f (zb_w Z P 0)) (by rw [c]; exact zb_upd Z P 0) (nm_r (nI_1 P) ?_)⟩⟩⟩
      refine br_f (nI_pos (by omega)) (br_t (nI_le (b := 255) (by omega) (by decide)) (br_t (nI_lt (b := 8) h8 (by decide)) ⟨w, nm_r (e' := zb_f (zb_w g P j)) (by rw [c]; exact zb_upd g P j) ⟨w, nm_r (e' := zb_f (zb_w Z P 0)) (by rw [c]; exact zb_upd Z P 0) (nm_r (nI_1 P) ⟨rfl, zr_mk ⟨hC, hLC, h8, ?_, hT2, hF, hB, zb_wB hg hj, hD, ?_⟩⟩)⟩⟩))
      · show T = zs_m (zb_w Z P 0) P + zb_w Z P 0 P
        rw [zs_w Z P 0 P (Nat.le_refl _), zb_ws]
        exact hT
      · intro i hi
        rw [zs_w Z P 0 i (by omega)]
        by_cases e : i = P
        · rw [e, pk_us, hT]
        · rw [pk_un e]
          exact hst i (by omega)
    · exact br_f (nI_pos (by omega)) (br_t (nI_le (b := 255) (by omega) (by decide)) (br_f (nI_nlt (b := 8) h8 (by omega)) ⟨rfl, J⟩))
theorem i_vc_put {k : Nat} {u : SX} {v : SY} (I : i_Rel k u v) (hk : k + 3 ≤ 1537) (v1 : Int32) : wpX_put (fun r u' => wpY_put (fun r' v' => r' = r ∧ i_Rel (k + 3) u' v') v v1) u v1 := by
  have J : i_Rel (k + 3) u v := I
  obtain ⟨C, L, P, T, F, B, g, Z, D, st, fn, fs, fo, no, sn, ss, so, fc, sc, sk, rfl, rfl, hC, hLC, hP, hT, hT2, hF, hB, hg, hD, hst⟩ := I
  unfold wpX_put
  dsimp only
  refine pk_eq P 0 (fun h0 => ?_) (fun h0 => ?_) rfl rfl (by omega) (by omega)
  · exact br_t (by rw [h0]; rfl) ⟨rfl, J⟩
  have n0 : ¬ nI P = 0 := nI_ne0 (by omega) (by omega)
  rcases pk_ix v1 (n := 256) (by decide) with h | h | ⟨j, hj, rfl⟩
  · refine xl_y0 (Or.inl h) (br_t rfl ?_)
    exact br_f n0 (br_t h ⟨rfl, J⟩)
  · refine xl_y0 (Or.inr h) (br_t rfl ?_)
    exact br_f n0 (br_f (zn_256 h).2.2 (br_f (zn_256 h).2.1 ⟨rfl, J⟩))
  · refine xl_y1 hj (br_f (by decide) ?_)
    refine pk_lt T 128 (fun h8 => ?_) (fun h8 => ?_) rfl rfl (by omega) (by omega)
    · have c : (nI T).toNatClampNeg = T := nI_clamp (by omega)
      have w : vp_in (nI T) 128 := vp_in_nI h8 (by omega)
      have e1 : nI P - 1 = nI (P - 1) := zq_s1 (by omega)
      have c2 : (nI (P - 1)).toNatClampNeg = P - 1 := nI_clamp (by omega)
      have w2 : vp_in (nI (P - 1)) 8 := vp_in_nI (by omega) (by omega)
      have uD : upd (zb_f D) (nI T).toNatClampNeg (nI j) = zb_f (zb_w D T j) := by rw [c]; exact zb_upd D T j
      have uZ : upd (zb_f Z) (nI P - 1).toNatClampNeg (zb_f Z (nI P - 1).toNatClampNeg + 1) = zb_f (zb_w Z (P - 1) (Z (P - 1) + 1)) := by
        rw [e1, c2]
        show upd (zb_f Z) (P - 1) (nI (Z (P - 1)) + 1) = _
        rw [nI_1]
        exact zb_upd Z (P - 1) _
      have w3 : vp_in (nI P - 1) 8 := by rw [e1]; exact w2
      refine ⟨w, nm_r uD (nm_r (nI_1 T) ⟨w3, w3, nm_r uZ ?_⟩)⟩
      refine br_f n0 (br_f (nI_pos (by omega)) (br_t (nI_le (b := 255) (by omega) (by decide)) (br_t (nI_lt (b := 128) h8 (by decide)) ⟨w, nm_r uD (nm_r (nI_1 T) ⟨w3, w3, nm_r uZ ⟨rfl, zr_mk ⟨hC, hLC, hP, ?_, by omega, hF, hB, hg, zb_wB hD hj, ?_⟩⟩⟩)⟩)))
      · obtain ⟨q, rfl⟩ : ∃ q, P = q + 1 := ⟨P - 1, by omega⟩
        show T + 1 = zs_m (zb_w Z q (Z q + 1)) q + zb_w Z q (Z q + 1) q
        rw [zs_w Z q _ q (Nat.le_refl _), zb_ws, hT]
        rfl
      · intro i hi
        rw [zs_w Z (P - 1) _ i (by omega)]
        exact hst i hi
    · exact br_f n0 (br_f (nI_pos (by omega)) (br_t (nI_le (b := 255) (by omega) (by decide)) (br_f (nI_nlt (b := 128) h8 (by omega)) ⟨rfl, J⟩)))
theorem i_vc_discard {k : Nat} {u : SX} {v : SY} (I : i_Rel k u v) (hk : k + 3 ≤ 1537) : wpX_discard (fun u' => wpY_discard (fun v' => i_Rel (k + 3) u' v') v) u := by
  obtain ⟨C, L, P, T, F, B, g, Z, D, st, fn, fs, fo, no, sn, ss, so, fc, sc, sk, rfl, rfl, hC, hLC, hP, hT, hT2, hF, hB, hg, hD, hst⟩ := I
  exact zr_mk (k := k + 3) (P := 0) (T := 0) ⟨hC, hLC, by omega, rfl, by omega, hF, hB, hg, hD, fun i hi => by omega⟩
theorem i_vc_truncate {k : Nat} {u : SX} {v : SY} (I : i_Rel k u v) (hk : k + 3 ≤ 1537) (v1 : Int32) : wpX_truncate (fun r u' => wpY_truncate (fun r' v' => r' = r ∧ i_Rel (k + 3) u' v') v v1) u v1 := by
  have J : i_Rel (k + 3) u v := I
  obtain ⟨C, L, P, T, F, B, g, Z, D, st, fn, fs, fo, no, sn, ss, so, fc, sc, sk, rfl, rfl, hC, hLC, hP, hT, hT2, hF, hB, hg, hD, hst⟩ := I
  by_cases h0 : v1 < 0
  · exact br_t h0 (br_t h0 ⟨rfl, J⟩)
  · obtain ⟨j, hj, rfl⟩ := nI_of h0
    refine br_f h0 (pk_le j L (fun h => ?_) (fun h => ?_) rfl rfl hj (by omega))
    · exact br_f h0 (br_t (nI_le h (by omega)) ⟨rfl, zr_mk ⟨hC, by omega, hP, hT, hT2, hF, hB, hg, hD, hst⟩⟩)
    · exact br_f h0 (br_f (nI_ge h hj) ⟨rfl, J⟩)
theorem i_vc_poke {k : Nat} {u : SX} {v : SY} (I : i_Rel k u v) (hk : k + 3 ≤ 1537) (v1 : Int32) (v2 : Int32) : wpX_poke (fun r u' => wpY_poke (fun r' v' => r' = r ∧ i_Rel (k + 3) u' v') v v1 v2) u v1 v2 := by
  have J : i_Rel (k + 3) u v := I
  obtain ⟨C, L, P, T, F, B, g, Z, D, st, fn, fs, fo, no, sn, ss, so, fc, sc, sk, rfl, rfl, hC, hLC, hP, hT, hT2, hF, hB, hg, hD, hst⟩ := I
  by_cases h0 : v1 < 0
  · exact br_t h0 (br_t h0 ⟨rfl, J⟩)
  · obtain ⟨p, hp, rfl⟩ := nI_of h0
    refine br_f h0 (pk_le L p (fun h => ?_) (fun h => ?_) rfl rfl (by omega) hp)
    · exact br_f h0 (br_f (nI_nlt h hp) ⟨rfl, J⟩)
    · have n1 : nI p < nI L := nI_lt h (by omega)
      rcases pk_ix v2 (n := 256) (by decide) with h | h | ⟨j, hj, rfl⟩
      · refine xl_y0 (Or.inl h) (br_t rfl ?_)
        exact br_f h0 (br_t n1 (br_t h ⟨rfl, J⟩))
      · refine xl_y0 (Or.inr h) (br_t rfl ?_)
        exact br_f h0 (br_t n1 (br_f (zn_256 h).2.2 (br_f (zn_256 h).2.1 ⟨rfl, J⟩)))
      · have w : vp_in (nI p) 256 := vp_in_nI (by omega) (by omega)
        have uB : upd (zb_f B) (nI p).toNatClampNeg (nI j) = zb_f (zb_w B p j) := by rw [nI_clamp hp]; exact zb_upd B p j
        refine xl_y1 hj (br_f (by decide) ⟨w, nm_r uB ?_⟩)
        exact br_f h0 (br_t n1 (br_f (nI_pos (by omega)) (br_t (nI_le (b := 255) (by omega) (by decide)) ⟨w, nm_r uB ⟨rfl, zr_mk ⟨hC, hLC, hP, hT, hT2, hF, zb_wB hB hj, hg, hD, hst⟩⟩⟩)))
theorem i_vc_length {k : Nat} {u : SX} {v : SY} (I : i_Rel k u v) (hk : k + 3 ≤ 1537) : wpX_length (fun r => wpY_length (fun r' => r' = r ∧ i_Rel (k + 3) u v) v) u := by
  have J : i_Rel (k + 3) u v := I
  obtain ⟨C, L, P, T, F, B, g, Z, D, st, fn, fs, fo, no, sn, ss, so, fc, sc, sk, rfl, rfl, hC, hLC, hP, hT, hT2, hF, hB, hg, hD, hst⟩ := I
  exact ⟨rfl, J⟩
theorem i_vc_byteAt {k : Nat} {u : SX} {v : SY} (I : i_Rel k u v) (hk : k + 3 ≤ 1537) (v1 : Int32) : wpX_byteAt (fun r => wpY_byteAt (fun r' => r' = r ∧ i_Rel (k + 3) u v) v v1) u v1 := by
  have J : i_Rel (k + 3) u v := I
  obtain ⟨C, L, P, T, F, B, g, Z, D, st, fn, fs, fo, no, sn, ss, so, fc, sc, sk, rfl, rfl, hC, hLC, hP, hT, hT2, hF, hB, hg, hD, hst⟩ := I
  by_cases h0 : v1 < 0
  · exact br_t h0 (br_t h0 ⟨rfl, J⟩)
  · obtain ⟨p, hp, rfl⟩ := nI_of h0
    by_cases h : p < L
    · refine xl_b p rfl h (by omega) ?_
      refine br_f h0 (br_t (nI_lt h (by omega)) ?_)
      exact yl_b p rfl (by omega) ⟨rfl, J⟩
    · have n1 : ¬ nI p < nI L := nI_nlt (by omega) hp
      exact br_f h0 (br_f n1 (br_f h0 (br_f n1 ⟨rfl, J⟩)))
theorem i_vc_isOpenable {k : Nat} {u : SX} {v : SY} (I : i_Rel k u v) (hk : k + 3 ≤ 1537) : wpX_isOpenable (fun r => wpY_isOpenable (fun r' => r' = r ∧ i_Rel (k + 3) u v) v) u := by
  have J : i_Rel (k + 3) u v := I
  obtain ⟨C, L, P, T, F, B, g, Z, D, st, fn, fs, fo, no, sn, ss, so, fc, sc, sk, rfl, rfl, hC, hLC, hP, hT, hT2, hF, hB, hg, hD, hst⟩ := I
  have hL : L ≤ 256 := by omega
  exact xo hL hB (fun o => yo hL hB (fun _ => ⟨rfl, J⟩) (fun z => absurd o z)) (fun o => yo hL hB (fun z => absurd z o) (fun _ => ⟨rfl, J⟩))
end
section
/-! ===== the calls that look things up ===== -/
section ZL
variable {C L P T F : Nat} {B g Z D : Nat → Nat} {st fn fs fo no sn ss so : Nat → Int32} {fc sc : Nat → Int64} {sk : Int32}
/-- what the reference's dirInfo asks behind its tests -/
theorem yh_d {post : Int64 → Prop} {x : Int32} (r : Nat) (hr : r + 13 ≤ 256) (hB : zb_B B) (k0 : x = 0 → post (nI (B (r + 4))).toInt64) (k1 : x = 1 → post (nI (zb_r2 B (r + 5))).toInt64) (k2 : x = 2 → post (lN (zb_r4 B (r + 7)))) (k3 : x = 3 → post (nI (zb_r2 B (r + 11))).toInt64) (k : ¬ x = 0 → ¬ x = 1 → ¬ x = 2 → ¬ x = 3 → post (-1)) :
    (x = 0 → wpY_rd (fun a => post a.toInt64) (nI C, nI L, nI P, nI T, nI F, sk, zb_f B, zb_f g, zb_f Z, zb_f D, fn, fs, fc, fo, sn, ss, sc, so) (nI r + 4)) ∧ (¬ x = 0 → (x = 1 → wpY_u16 (fun a => post a.toInt64) (nI C, nI L, nI P, nI T, nI F, sk, zb_f B, zb_f g, zb_f Z, zb_f D, fn, fs, fc, fo, sn, ss, sc, so) (nI r + 5)) ∧ (¬ x = 1 → (x = 2 → wpY_u32 (fun a => post a) (nI C, nI L, nI P, nI T, nI F, sk, zb_f B, zb_f g, zb_f Z, zb_f D, fn, fs, fc, fo, sn, ss, sc, so) (nI r + 7)) ∧ (¬ x = 2 → (x = 3 → wpY_u16 (fun a => post a.toInt64) (nI C, nI L, nI P, nI T, nI F, sk, zb_f B, zb_f g, zb_f Z, zb_f D, fn, fs, fc, fo, sn, ss, sc, so) (nI r + 11)) ∧ (¬ x = 3 → post (-1))))) :=
  br_c (fun e => yl_b (r + 4) (nI_add _ 4) (by omega) (k0 e)) (fun e0 => br_c (fun e => yl_2 (r + 5) (nI_add _ 5) (by omega) hB (k1 e)) (fun e1 => br_c (fun e => yl_4 (r + 7) (nI_add _ 7) (by omega) hB (k2 e)) (fun e2 => br_c (fun e => yl_2 (r + 11) (nI_add _ 11) (by omega) hB (k3 e)) (fun e3 => k e0 e1 e2 e3))))
theorem yh_p {post : Int64 → Prop} {x : Int32} {q : Nat} (hP : q < 8) (k : (x = 0 → vp_in (nI q) 8 ∧ post ((zb_f g (nI q).toNatClampNeg).toInt64)) ∧ (¬ x = 0 → (x = 1 → vp_in (nI q) 8 ∧ post ((zb_f Z (nI q).toNatClampNeg).toInt64)) ∧ (¬ x = 1 → (x = 2 → vp_in (nI q) 8 ∧ wpY_crcPend (fun r => post r) (nI C, nI L, nI P, nI T, nI F, sk, zb_f B, zb_f g, zb_f Z, zb_f D, fn, fs, fc, fo, sn, ss, sc, so) (nI (zs_m Z q)) (zb_f Z (nI q).toNatClampNeg)) ∧ (¬ x = 2 → post (-1))))) :
    ∀ r i n, i + r = q → r < n → wY_pendingInfo_21 post (nI q) x (nI C) (nI L) (nI P) (nI T) (nI F) sk (zb_f B) (zb_f g) (zb_f Z) (zb_f D) fn fs fc fo sn ss sc so n (nI (zs_m Z i)) (nI i) := by
  intro r
  induction r with
  | zero =>
    intro i n hi hn
    obtain ⟨n, rfl⟩ : ∃ m, n = m + 1 := ⟨n - 1, by omega⟩
    have e : i = q := by omega
    subst e
    exact br_t (nI_le (Nat.le_refl _) (by omega)) k
  | succ r ih =>
    intro i n hi hn
    obtain ⟨n, rfl⟩ : ∃ m, n = m + 1 := ⟨n - 1, by omega⟩
    refine br_f (nI_ge (by omega) (by omega)) ⟨vp_in_nI (by omega) (by omega), nm_r (e' := nI (zs_m Z (i + 1))) ?_ (nm_r (nI_1 i) (ih (i + 1) n (by omega) (by omega)))⟩
    rw [nI_clamp (by omega)]
    exact nI_add _ _
end ZL
theorem i_vc_dirInfo {k : Nat} {u : SX} {v : SY} (I : i_Rel k u v) (hk : k + 3 ≤ 1537) (v1 : Int32) (v2 : Int32) : wpX_dirInfo (fun r => wpY_dirInfo (fun r' => r' = r ∧ i_Rel (k + 3) u v) v v1 v2) u v1 v2 := by
  have J : i_Rel (k + 3) u v := I
  obtain ⟨C, L, P, T, F, B, g, Z, D, st, fn, fs, fo, no, sn, ss, so, fc, sc, sk, rfl, rfl, hC, hLC, hP, hT, hT2, hF, hB, hg, hD, hst⟩ := I
  have hL : L ≤ 256 := by omega
  unfold wpX_dirInfo wpY_dirInfo
  dsimp only
  refine xo hL hB (fun o => br_f (by decide) ?_) (fun o => br_t rfl (yo hL hB (fun z => absurd z o) (fun _ => br_t rfl ⟨rfl, J⟩)))
  have hd := zo_dl o
  have h9 := o.1
  have Y0 : ∀ {post : Int32 → Prop}, post 1 → wpY_isOpenable post (nI C, nI L, nI P, nI T, nI F, sk, zb_f B, zb_f g, zb_f Z, zb_f D, fn, fs, fc, fo, sn, ss, sc, so) := fun h => yo hL hB (fun _ => h) (fun z => absurd o z)
  by_cases h0 : v1 < 0
  · refine br_t h0 (Y0 (br_f (by decide) (nm_r (zq_s9 h9) ?_)))
    exact yl_b (L - 9 + 4) (nI_add _ 4) (by omega) (br_t h0 ⟨rfl, J⟩)
  · refine br_f h0 (xo_dc h9 hL ?_)
    obtain ⟨i, hi, rfl⟩ := nI_of h0
    refine pk_lt i (zo_c B L) (fun h => ?_) (fun h => ?_) rfl rfl hi (by omega)
    · refine xo_ca i rfl h9 hL hB ?_
      refine xl_b (zo_d B L + 13 * i + 4) (nI_add _ 4) (by omega) hL ?_
      refine xl_2 (zo_d B L + 13 * i + 5) (nI_add _ 5) (by omega) hL hB ?_
      refine xl_4 (zo_d B L + 13 * i + 7) (nI_add _ 7) (by omega) hL hB ?_
      refine xl_2 (zo_d B L + 13 * i + 11) (nI_add _ 11) (by omega) hL hB ?_
      have Y1 : ∀ a : Int64, ((v2 = 0 → a = (nI (B (zo_d B L + 13 * i + 4))).toInt64) ∧ (v2 = 1 → a = (nI (zb_r2 B (zo_d B L + 13 * i + 5))).toInt64) ∧ (v2 = 2 → a = lN (zb_r4 B (zo_d B L + 13 * i + 7))) ∧ (v2 = 3 → a = (nI (zb_r2 B (zo_d B L + 13 * i + 11))).toInt64) ∧ (¬ v2 = 0 → ¬ v2 = 1 → ¬ v2 = 2 → ¬ v2 = 3 → a = -1)) → wpY_dirInfo (fun r' => r' = a ∧ i_Rel (k + 3) (nI C, nI L, nI P, nI T, nI F, zb_f B, zb_f g, st, zb_f Z, zb_f D, fn, fs, fc, fo, no) (nI C, nI L, nI P, nI T, nI F, sk, zb_f B, zb_f g, zb_f Z, zb_f D, fn, fs, fc, fo, sn, ss, sc, so)) (nI C, nI L, nI P, nI T, nI F, sk, zb_f B, zb_f g, zb_f Z, zb_f D, fn, fs, fc, fo, sn, ss, sc, so) (nI i) v2 := by
        intro a ⟨a0, a1, a2, a3, a4⟩
        have n1 : nI i < nI (zo_c B L) := nI_lt h (by omega)
        unfold wpY_dirInfo
        dsimp only
        refine Y0 (br_f (by decide) (nm_r (zq_s9 h9) ?_))
        refine yl_b (L - 9 + 4) (nI_add _ 4) (by omega) (br_f h0 (br_t n1 ?_))
        refine yl_2 (L - 9 + 5) (nI_add _ 5) (by omega) hB (nm_r (e' := nI (zo_d B L + 13 * i)) (by rw [zq_m13]; exact nI_add _ _) ?_)
        exact yh_d (post := fun r' => r' = a ∧ i_Rel (k + 3) (nI C, nI L, nI P, nI T, nI F, zb_f B, zb_f g, st, zb_f Z, zb_f D, fn, fs, fc, fo, no) (nI C, nI L, nI P, nI T, nI F, sk, zb_f B, zb_f g, zb_f Z, zb_f D, fn, fs, fc, fo, sn, ss, sc, so)) (x := v2) (zo_d B L + 13 * i) (by omega) hB (fun e => ⟨(a0 e).symm, J⟩) (fun e => ⟨(a1 e).symm, J⟩) (fun e => ⟨(a2 e).symm, J⟩) (fun e => ⟨(a3 e).symm, J⟩) (fun e0 e1 e2 e3 => ⟨(a4 e0 e1 e2 e3).symm, J⟩)
      refine zh_ch (fun e => ?_) (fun e => ?_) (fun e => ?_) (fun e => ?_) (fun e0 e1 e2 e3 => ?_)
      · exact Y1 _ ⟨fun _ => rfl, fun z => absurd (e.symm.trans z) (by decide), fun z => absurd (e.symm.trans z) (by decide), fun z => absurd (e.symm.trans z) (by decide), fun z => absurd e z⟩
      · exact Y1 _ ⟨fun z => absurd (e.symm.trans z) (by decide), fun _ => rfl, fun z => absurd (e.symm.trans z) (by decide), fun z => absurd (e.symm.trans z) (by decide), fun _ z => absurd e z⟩
      · exact Y1 _ ⟨fun z => absurd (e.symm.trans z) (by decide), fun z => absurd (e.symm.trans z) (by decide), fun _ => rfl, fun z => absurd (e.symm.trans z) (by decide), fun _ _ z => absurd e z⟩
      · exact Y1 _ ⟨fun z => absurd (e.symm.trans z) (by decide), fun z => absurd (e.symm.trans z) (by decide), fun z => absurd (e.symm.trans z) (by decide), fun _ => rfl, fun _ _ _ z => absurd e z⟩
      · exact Y1 _ ⟨fun z => absurd z e0, fun z => absurd z e1, fun z => absurd z e2, fun z => absurd z e3, fun _ _ _ _ => rfl⟩
    · refine Y0 (br_f (by decide) (nm_r (zq_s9 h9) ?_))
      exact yl_b (L - 9 + 4) (nI_add _ 4) (by omega) (br_f h0 (br_f (nI_nlt h hi) ⟨rfl, J⟩))
theorem i_vc_sizeOf {k : Nat} {u : SX} {v : SY} (I : i_Rel k u v) (hk : k + 3 ≤ 1537) (v1 : Int32) : wpX_sizeOf (fun r => wpY_sizeOf (fun r' => r' = r ∧ i_Rel (k + 3) u v) v v1) u v1 := by
  have J : i_Rel (k + 3) u v := I
  obtain ⟨C, L, P, T, F, B, g, Z, D, st, fn, fs, fo, no, sn, ss, so, fc, sc, sk, rfl, rfl, hC, hLC, hP, hT, hT2, hF, hB, hg, hD, hst⟩ := I
  have hL : L ≤ 256 := by omega
  unfold wpX_sizeOf wpY_sizeOf
  dsimp only
  by_cases o : zo_O B L
  · have hd := zo_dl o
    obtain ⟨r, h1, h2, h3⟩ := zf (C := C) (P := P) (T := T) (F := F) (g := g) (Z := Z) (D := D) (st := st) (fn := fn) (fs := fs) (fo := fo) (no := no) (sn := sn) (ss := ss) (so := so) (fc := fc) (sc := sc) (sk := sk) o hL hB v1
    have Y0 : ∀ {post : Int32 → Prop}, post 1 → wpY_isOpenable post (nI C, nI L, nI P, nI T, nI F, sk, zb_f B, zb_f g, zb_f Z, zb_f D, fn, fs, fc, fo, sn, ss, sc, so) := fun h => yo hL hB (fun _ => h) (fun z => absurd o z)
    refine h2 _ ?_
    rcases h1 with e | ⟨j, hj, e⟩
    · subst e
      refine br_t rfl (Y0 (br_f (by decide) (h3 _ ?_)))
      exact br_f (by decide) ⟨rfl, J⟩
    · subst e
      refine br_f (zn_m1 _ (by omega)) ?_
      refine xl_2 (zo_d B L + 13 * j + 5) (nI_add _ 5) (by omega) hL hB ?_
      refine Y0 (br_f (by decide) (h3 _ ?_))
      refine br_t (nI_pos' (by omega)) ?_
      exact yl_2 (zo_d B L + 13 * j + 5) (nI_add _ 5) (by omega) hB ⟨rfl, J⟩
  · unfold wpX_centralOf
    dsimp only
    refine xo hL hB (fun z => absurd z o) (fun _ => br_t rfl (br_t rfl ?_))
    exact yo hL hB (fun z => absurd z o) (fun _ => br_t rfl ⟨rfl, J⟩)
theorem i_vc_dataAt {k : Nat} {u : SX} {v : SY} (I : i_Rel k u v) (hk : k + 3 ≤ 1537) (v1 : Int32) (v2 : Int32) : wpX_dataAt (fun r => wpY_dataAt (fun r' => r' = r ∧ i_Rel (k + 3) u v) v v1 v2) u v1 v2 := by
  have J : i_Rel (k + 3) u v := I
  obtain ⟨C, L, P, T, F, B, g, Z, D, st, fn, fs, fo, no, sn, ss, so, fc, sc, sk, rfl, rfl, hC, hLC, hP, hT, hT2, hF, hB, hg, hD, hst⟩ := I
  have hL : L ≤ 256 := by omega
  unfold wpX_dataAt wpY_dataAt
  dsimp only
  by_cases o : zo_O B L
  · have hd := zo_dl o
    obtain ⟨r, h1, h2, h3⟩ := zf (C := C) (P := P) (T := T) (F := F) (g := g) (Z := Z) (D := D) (st := st) (fn := fn) (fs := fs) (fo := fo) (no := no) (sn := sn) (ss := ss) (so := so) (fc := fc) (sc := sc) (sk := sk) o hL hB v1
    have Y0 : ∀ {post : Int32 → Prop}, post 1 → wpY_isOpenable post (nI C, nI L, nI P, nI T, nI F, sk, zb_f B, zb_f g, zb_f Z, zb_f D, fn, fs, fc, fo, sn, ss, sc, so) := fun h => yo hL hB (fun _ => h) (fun z => absurd o z)
    refine h2 _ ?_
    rcases h1 with e | ⟨j, hj, e⟩
    · subst e
      refine br_t rfl (Y0 (br_f (by decide) (h3 _ ?_)))
      exact br_f (by decide) ⟨rfl, J⟩
    · subst e
      have hE := (o.2.2.2.2 j hj).2.1
      have b1 := zb_r2_lt hB (zo_d B L + 13 * j + 5)
      refine br_f (zn_m1 _ (by omega)) ?_
      refine xl_2 (zo_d B L + 13 * j + 5) (nI_add _ 5) (by omega) hL hB ?_
      by_cases h0 : v2 < 0
      · refine br_t h0 (Y0 (br_f (by decide) (h3 _ ?_)))
        refine br_t (nI_pos' (by omega)) ?_
        exact yl_2 (zo_d B L + 13 * j + 5) (nI_add _ 5) (by omega) hB (br_t h0 ⟨rfl, J⟩)
      · obtain ⟨t, ht, rfl⟩ := nI_of h0
        refine br_f h0 (pk_lt t (zb_r2 B (zo_d B L + 13 * j + 5)) (fun h => ?_) (fun h => ?_) rfl rfl ht (by omega))
        · refine xl_2 (zo_d B L + 13 * j + 11) (nI_add _ 11) (by omega) hL hB ?_
          refine xl_b (zb_r2 B (zo_d B L + 13 * j + 11) + 11 + t) (by rw [zq_a11, nI_add]) (by omega) hL ?_
          refine Y0 (br_f (by decide) (h3 _ ?_))
          refine br_t (nI_pos' (by omega)) ?_
          refine yl_2 (zo_d B L + 13 * j + 5) (nI_add _ 5) (by omega) hB (br_f h0 (br_t (nI_lt h (by omega)) ?_))
          refine yl_2 (zo_d B L + 13 * j + 11) (nI_add _ 11) (by omega) hB ?_
          exact yl_b (zb_r2 B (zo_d B L + 13 * j + 11) + 11 + t) (by rw [zq_a11, nI_add]) (by omega) ⟨rfl, J⟩
        · refine Y0 (br_f (by decide) (h3 _ ?_))
          refine br_t (nI_pos' (by omega)) ?_
          exact yl_2 (zo_d B L + 13 * j + 5) (nI_add _ 5) (by omega) hB (br_f h0 (br_f (nI_nlt h ht) ⟨rfl, J⟩))
  · unfold wpX_centralOf
    dsimp only
    refine xo hL hB (fun z => absurd z o) (fun _ => br_t rfl (br_t rfl ?_))
    exact yo hL hB (fun z => absurd z o) (fun _ => br_t rfl ⟨rfl, J⟩)
theorem i_vc_pendingInfo {k : Nat} {u : SX} {v : SY} (I : i_Rel k u v) (hk : k + 3 ≤ 1537) (v1 : Int32) (v2 : Int32) : wpX_pendingInfo (fun r => wpY_pendingInfo (fun r' => r' = r ∧ i_Rel (k + 3) u v) v v1 v2) u v1 v2 := by
  have J : i_Rel (k + 3) u v := I
  obtain ⟨C, L, P, T, F, B, g, Z, D, st, fn, fs, fo, no, sn, ss, so, fc, sc, sk, rfl, rfl, hC, hLC, hP, hT, hT2, hF, hB, hg, hD, hst⟩ := I
  unfold wpX_pendingInfo wpY_pendingInfo
  dsimp only
  by_cases h0 : v1 < 0
  · exact br_t h0 (br_t h0 ⟨rfl, J⟩)
  · obtain ⟨q, hq, rfl⟩ := nI_of h0
    refine br_f h0 (pk_lt q P (fun h => ?_) (fun h => ?_) rfl rfl hq (by omega))
    · have w : vp_in (nI q) 8 := vp_in_nI (by omega) (by omega)
      have c : (nI q).toNatClampNeg = q := nI_clamp hq
      have hs := zs_lt Z h
      have n1 : nI q < nI P := nI_lt h (by omega)
      have cr : ∀ {post : Int64 → Prop}, post (lN (zk_F D (zs_m Z q) (Z q))) → wpY_crcPend post (nI C, nI L, nI P, nI T, nI F, sk, zb_f B, zb_f g, zb_f Z, zb_f D, fn, fs, fc, fo, sn, ss, sc, so) (nI (zs_m Z q)) (zb_f Z (nI q).toNatClampNeg) := fun h => yk_p (zs_m Z q) (Z q) rfl (by rw [c]; rfl) hD (by omega) h
      refine ⟨w, w, xk_p (zs_m Z q) (Z q) (by rw [c]; exact hst q h) (by rw [c]; rfl) hD (by omega) ⟨w, w, ?_⟩⟩
      refine zh_ch (fun e => ?_) (fun e => ?_) (fun e => ?_) (fun e => ?_) (fun e0 e1 e2 e3 => ?_)
      · exact br_f h0 (br_t n1 ⟨q + 1, yh_p (by omega) (br_t e ⟨w, rfl, J⟩) q 0 (q + 1) (by omega) (by omega)⟩)
      · exact br_f h0 (br_t n1 ⟨q + 1, yh_p (by omega) (br_f (fun z => absurd (e.symm.trans z) (by decide)) (br_t e ⟨w, rfl, J⟩)) q 0 (q + 1) (by omega) (by omega)⟩)
      · exact br_f h0 (br_t n1 ⟨q + 1, yh_p (by omega) (br_f (fun z => absurd (e.symm.trans z) (by decide)) (br_f (fun z => absurd (e.symm.trans z) (by decide)) (br_t e ⟨w, cr ⟨rfl, J⟩⟩))) q 0 (q + 1) (by omega) (by omega)⟩)
      · exact br_f h0 (br_t n1 ⟨q + 1, yh_p (by omega) (br_f (fun z => absurd (e.symm.trans z) (by decide)) (br_f (fun z => absurd (e.symm.trans z) (by decide)) (br_f (fun z => absurd (e.symm.trans z) (by decide)) ⟨by decide, J⟩))) q 0 (q + 1) (by omega) (by omega)⟩)
      · exact br_f h0 (br_t n1 ⟨q + 1, yh_p (by omega) (br_f e0 (br_f e1 (br_f e2 ⟨rfl, J⟩))) q 0 (q + 1) (by omega) (by omega)⟩)
    · have n1 : ¬ nI q < nI P := nI_nlt h hq
      exact br_f h0 (br_f n1 ⟨rfl, J⟩)
theorem i_vc_foundInfo {k : Nat} {u : SX} {v : SY} (I : i_Rel k u v) (hk : k + 3 ≤ 1537) (v1 : Int32) (v2 : Int32) : wpX_foundInfo (fun r => wpY_foundInfo (fun r' => r' = r ∧ i_Rel (k + 3) u v) v v1 v2) u v1 v2 := by
  have J : i_Rel (k + 3) u v := I
  obtain ⟨C, L, P, T, F, B, g, Z, D, st, fn, fs, fo, no, sn, ss, so, fc, sc, sk, rfl, rfl, hC, hLC, hP, hT, hT2, hF, hB, hg, hD, hst⟩ := I
  unfold wpX_foundInfo wpY_foundInfo
  dsimp only
  by_cases h0 : v1 < 0
  · exact br_t h0 (br_t h0 ⟨rfl, J⟩)
  · obtain ⟨q, hq, rfl⟩ := nI_of h0
    refine br_f h0 (pk_lt q F (fun h => ?_) (fun h => ?_) rfl rfl hq (by omega))
    · have w : vp_in (nI q) 23 := vp_in_nI (by omega) (by omega)
      have w2 : vp_in (nI q) 32 := vp_in_nI (by omega) (by omega)
      have n1 : nI q < nI F := nI_lt h (by omega)
      refine ⟨w, w, w, w, ?_⟩
      refine zh_ch (fun e => ?_) (fun e => ?_) (fun e => ?_) (fun e => ?_) (fun e0 e1 e2 e3 => ?_)
      · exact br_f h0 (br_t n1 (br_t e ⟨w2, rfl, J⟩))
      · exact br_f h0 (br_t n1 (br_f (fun z => absurd (e.symm.trans z) (by decide)) (br_t e ⟨w2, rfl, J⟩)))
      · exact br_f h0 (br_t n1 (br_f (fun z => absurd (e.symm.trans z) (by decide)) (br_f (fun z => absurd (e.symm.trans z) (by decide)) (br_t e ⟨w2, rfl, J⟩))))
      · exact br_f h0 (br_t n1 (br_f (fun z => absurd (e.symm.trans z) (by decide)) (br_f (fun z => absurd (e.symm.trans z) (by decide)) (br_f (fun z => absurd (e.symm.trans z) (by decide)) (br_t e ⟨w2, rfl, J⟩)))))
      · exact br_f h0 (br_t n1 (br_f e0 (br_f e1 (br_f e2 (br_f e3 ⟨rfl, J⟩)))))
    · have n1 : ¬ nI q < nI F := nI_nlt h hq
      exact br_f h0 (br_f n1 ⟨rfl, J⟩)
end
section
/-! ===== commit, the component ===== -/
theorem zd_Qb {B : Nat → Nat} {D v : Nat} {x : Nat × Nat × Nat} (hB : zb_B B) (h : zd_Q B D v x) (hD : D ≤ 256) : x.1 < 65536 ∧ x.2.1 < 4294967296 ∧ x.2.2 < 65536 := by
  obtain ⟨a, b, c, d⟩ := h
  have e1 := zb_r2_lt hB (x.2.2 + 5)
  have e2 := zb_r4_lt hB (x.2.2 + 7)
  omega
theorem zk_cnt (A : Nat → Option (Nat × Nat × Nat)) : zt_c A 256 ≤ 1000 := by
  have h : ∀ v, zt_c A v ≤ v := by
    intro v
    induction v with
    | zero => exact Nat.le_refl _
    | succ v ih =>
      show zt_c A v + zt_1 (A v) ≤ v + 1
      have t : zt_1 (A v) ≤ 1 := by
        cases A v with
        | none => exact Nat.zero_le _
        | some x => exact Nat.le_refl _
      omega
  have := h 256
  omega
section ZXC
variable {C L P T F : Nat} {B g Z D : Nat → Nat} {st fn fs fo no : Nat → Int32} {fc : Nat → Int64}
theorem xc_l7 {post : SX → Prop} (hO : zo_O B L) (hL : L ≤ 256) (hB : zb_B B) (k : ∀ no', zt_X (zc_C B (zo_d B L) (zo_c B L)) no' → post (nI C, nI L, nI P, nI T, nI F, zb_f B, zb_f g, st, zb_f Z, zb_f D, fn, fs, fc, fo, no')) :
    ∀ r i n no', i + r = zo_c B L → r < n → zt_X (zc_C B (zo_d B L) i) no' → wX_listCurrent_7 post (nI (zo_c B L)) (nI C) (nI L) (nI P) (nI T) (nI F) n (nI i) (zb_f B) (zb_f g) st (zb_f Z) (zb_f D) fn fs fc fo (no') := by
  have hd := zo_dl hO
  have h9 := hO.1
  intro r
  induction r with
  | zero =>
    intro i n no' hi hn h
    obtain ⟨n, rfl⟩ : ∃ m, n = m + 1 := ⟨n - 1, by omega⟩
    have e : i = zo_c B L := by omega
    rw [e] at h ⊢
    exact br_t (nI_le (Nat.le_refl _) (by omega)) (k no' h)
  | succ r ih =>
    intro i n no' hi hn h
    obtain ⟨n, rfl⟩ : ∃ m, n = m + 1 := ⟨n - 1, by omega⟩
    have b1 := hB (zo_d B L + 13 * i + 4)
    have b2 := zb_r2_lt hB (zo_d B L + 13 * i + 11)
    refine br_f (nI_ge (by omega) (by omega)) ?_
    refine xo_ca i rfl h9 hL hB ?_
    refine xl_b (zo_d B L + 13 * i + 4) (nI_add _ 4) (by omega) hL ?_
    refine xl_2 (zo_d B L + 13 * i + 11) (nI_add _ 11) (by omega) hL hB ?_
    refine ⟨vp_in_nI b1 (by omega), nm_r (e' := upd no' (B (zo_d B L + 13 * i + 4)) (nI (zb_r2 B (zo_d B L + 13 * i + 11)))) (by rw [nI_clamp (by omega)]) (nm_r (nI_1 i) (ih (i + 1) n _ (by omega) (by omega) ?_))⟩
    exact zt_X_s h _ _ _ _ b2
theorem xc_l {post : SX → Prop} (hO : zo_O B L) (hL : L ≤ 256) (hB : zb_B B) (hA : zt_X zt_0 no) (k : ∀ no', zt_X (zc_C B (zo_d B L) (zo_c B L)) no' → post (nI C, nI L, nI P, nI T, nI F, zb_f B, zb_f g, st, zb_f Z, zb_f D, fn, fs, fc, fo, no')) : wpX_listCurrent post (nI C, nI L, nI P, nI T, nI F, zb_f B, zb_f g, st, zb_f Z, zb_f D, fn, fs, fc, fo, no) := by
  unfold wpX_listCurrent
  dsimp only
  exact xo_dc hO.1 hL ⟨zo_c B L + 1, xc_l7 hO hL hB k (zo_c B L) 0 (zo_c B L + 1) no (by omega) (by omega) hA⟩
theorem xc_p7 {post : Int32 → SX → Prop} {A : Nat → Option (Nat × Nat × Nat)} (hL : L ≤ 256) (hP : P ≤ 8) (hs : zs_m Z P ≤ 128) (hg : zb_B g) (k : ∀ no', zt_X (zt_f g (zc_p Z D L) A P) no' → post (nI (zl_o Z L P)) (nI C, nI L, nI P, nI T, nI F, zb_f B, zb_f g, st, zb_f Z, zb_f D, fn, fs, fc, fo, no')) :
    ∀ r i n no', i + r = P → r < n → zt_X (zt_f g (zc_p Z D L) A i) no' → wX_listPending_7 post (nI C) (nI L) (nI P) (nI T) (nI F) n (nI (zl_o Z L i)) (nI i) (zb_f B) (zb_f g) st (zb_f Z) (zb_f D) fn fs fc fo (no') := by
  intro r
  induction r with
  | zero =>
    intro i n no' hi hn h
    obtain ⟨n, rfl⟩ : ∃ m, n = m + 1 := ⟨n - 1, by omega⟩
    have e : i = P := by omega
    rw [e] at h ⊢
    exact br_t (nI_le (Nat.le_refl _) (by omega)) (k no' h)
  | succ r ih =>
    intro i n no' hi hn h
    obtain ⟨n, rfl⟩ : ∃ m, n = m + 1 := ⟨n - 1, by omega⟩
    have b1 := hg i
    have c : (nI i).toNatClampNeg = i := nI_clamp (by omega)
    have c2 : (zb_f g i).toNatClampNeg = g i := nI_clamp (by omega)
    have hz := zs_lt Z (j := i) (k := P) (by omega)
    have ho : zl_o Z L i = L + 11 * i + zs_m Z i := rfl
    have w : vp_in (nI i) 8 := vp_in_nI (by omega) (by omega)
    refine br_f (nI_ge (by omega) (by omega)) ⟨w, ?_⟩
    rw [c]
    refine ⟨vp_in_nI b1 (by omega), nm_r (e' := upd no' (g i) (nI (zl_o Z L i))) (by rw [c2]) ⟨w, nm_r (e' := nI (zl_o Z L (i + 1))) ?_ (nm_r (nI_1 i) (ih (i + 1) n _ (by omega) (by omega) ?_))⟩⟩
    · rw [zl_o_s, zq_a11]
      exact nI_add _ _
    · exact zt_X_s h _ _ _ _ (by omega)
theorem xc_p {post : Int32 → SX → Prop} {A : Nat → Option (Nat × Nat × Nat)} (hL : L ≤ 256) (hP : P ≤ 8) (hs : zs_m Z P ≤ 128) (hg : zb_B g) (hA : zt_X A no) (k : ∀ no', zt_X (zt_f g (zc_p Z D L) A P) no' → post (nI (zl_o Z L P)) (nI C, nI L, nI P, nI T, nI F, zb_f B, zb_f g, st, zb_f Z, zb_f D, fn, fs, fc, fo, no')) : wpX_listPending post (nI C, nI L, nI P, nI T, nI F, zb_f B, zb_f g, st, zb_f Z, zb_f D, fn, fs, fc, fo, no) :=
  ⟨P + 1, xc_p7 hL hP hs hg k P 0 (P + 1) no (by omega) (by omega) hA⟩
theorem xc_e {post : Int32 → Prop} {q : Int32} {A : Nat → Option (Nat × Nat × Nat)} (d : Nat) (hq : q = nI d) (hA : zt_X A no) (k : post (nI (d + 13 * zt_c A 256 + 9))) : wpX_endOfNewDirectory post (nI C, nI L, nI P, nI T, nI F, zb_f B, zb_f g, st, zb_f Z, zb_f D, fn, fs, fc, fo, no) q := by
  subst hq
  unfold wpX_endOfNewDirectory
  dsimp only
  refine xl_n hA ?_
  refine zq_v (P := post) ?_ k
  rw [zq_m13, nI_add]
  exact nI_add _ 9
theorem xc_61 {post : SX → Prop} (i : Nat) (hi : i < 8) (hC : C ≤ 256) (hst : st i = nI (zs_m Z i)) (hs : zs_m Z i + Z i ≤ 128) (hD : zb_B D) (hL : L + Z i ≤ C) (K : post (nI C, nI (L + Z i), nI P, nI T, nI F, zb_f (zl_d B L D (zs_m Z i) (Z i)), zb_f g, st, zb_f Z, zb_f D, fn, fs, fc, fo, no)) :
    ∀ r j n, j + r = Z i → r < n → wX_appendLocal_61 post (nI i) n (nI j) (nI C) (nI (L + j)) (nI P) (nI T) (nI F) (zb_f (zl_d B L D (zs_m Z i) j)) (zb_f g) st (zb_f Z) (zb_f D) fn fs fc fo no := by
  have c : (nI i).toNatClampNeg = i := nI_clamp (by omega)
  have w : vp_in (nI i) 8 := vp_in_nI (by omega) (by omega)
  intro r
  induction r with
  | zero =>
    intro j n hj hn
    obtain ⟨n, rfl⟩ : ∃ m, n = m + 1 := ⟨n - 1, by omega⟩
    have e : j = Z i := by omega
    subst e
    refine ⟨w, ?_⟩
    rw [c]
    exact br_t (nI_le (Nat.le_refl _) (by omega)) K
  | succ r ih =>
    intro j n hj hn
    obtain ⟨n, rfl⟩ : ∃ m, n = m + 1 := ⟨n - 1, by omega⟩
    have b1 := hD (zs_m Z i + j)
    have e1 : st i + nI j = nI (zs_m Z i + j) := by rw [hst, nI_add]
    refine ⟨w, ?_⟩
    rw [c]
    refine br_f (nI_ge (by omega) (by omega)) ⟨w, ?_⟩
    rw [e1, nI_clamp (by omega)]
    refine ⟨vp_in_nI (by omega) (by omega), ?_⟩
    exact xl_a (D (zs_m Z i + j)) 1 (nI_l (by omega)) rfl (by omega) (by omega) hC (by omega) (nm_r (nI_1 j) (ih (j + 1) n (by omega) (by omega)))
theorem xc_a {post : SX → Prop} {q : Int32} (i : Nat) (hq : q = nI i) (hi : i < 8) (hC : C ≤ 256) (hst : st i = nI (zs_m Z i)) (hs : zs_m Z i + Z i ≤ 128) (hg : zb_B g) (hD : zb_B D) (hL : L + 11 + Z i ≤ C) (K : post (nI C, nI (L + 11 + Z i), nI P, nI T, nI F, zb_f (zl_1 B L (g i) (Z i) (zk_F D (zs_m Z i) (Z i)) D (zs_m Z i)), zb_f g, st, zb_f Z, zb_f D, fn, fs, fc, fo, no)) : wpX_appendLocal post (nI C, nI L, nI P, nI T, nI F, zb_f B, zb_f g, st, zb_f Z, zb_f D, fn, fs, fc, fo, no) q := by
  subst hq
  have c : (nI i).toNatClampNeg = i := nI_clamp (by omega)
  have w : vp_in (nI i) 8 := vp_in_nI (by omega) (by omega)
  have b1 := hg i
  have b2 := zk_F_lt hD (zs_m Z i) (Z i)
  unfold wpX_appendLocal
  dsimp only
  refine ⟨w, w, ?_⟩
  refine xk_p (zs_m Z i) (Z i) (by rw [c]; exact hst) (by rw [c]; rfl) hD hs ?_
  refine xl_a 67324752 4 rfl rfl (by omega) (by omega) hC (by omega) ?_
  refine ⟨w, ?_⟩
  refine xl_a (g i) 1 (by rw [c]; exact nI_l (by omega)) rfl (by omega) (by omega) hC (by omega) ?_
  refine ⟨w, ?_⟩
  refine xl_a (Z i) 2 (by rw [c]; exact nI_l (by omega)) rfl (by omega) (by omega) hC (by omega) ?_
  refine xl_a (zk_F D (zs_m Z i) (Z i)) 4 rfl rfl (by omega) (by omega) hC (by omega) ?_
  exact ⟨Z i + 1, xc_61 (L := L + 11) (B := zl_h B L (g i) (Z i) (zk_F D (zs_m Z i) (Z i))) i hi hC hst hs hD hL K (Z i) 0 (Z i + 1) (by omega) (by omega)⟩
theorem xc_49 {post : Int32 → SX → Prop} {A : Nat → Option (Nat × Nat × Nat)} (hC : C ≤ 256) (hP : P ≤ 8) (hs : zs_m Z P ≤ 128) (hB : zb_B B) (hg : zb_B g) (hD : zb_B D) (hst : ∀ k, k < P → st k = nI (zs_m Z k)) (hA : zt_X A no) (hQ : ∀ v x, A v = some x → zd_Q (zl_a B L g Z D P) (zl_o Z L P) v x) (hF : zl_o Z L P + 13 * zt_c A 256 + 9 ≤ C)
    (K : post (nI (zl_o Z L P + 13 * zt_c A 256 + 9)) (nI C, nI (zl_o Z L P + 13 * zt_c A 256 + 9), 0, 0, nI F, zb_f (zd_f A (zl_a B L g Z D P) (zl_o Z L P)), zb_f g, st, zb_f Z, zb_f D, fn, fs, fc, fo, no)) :
    ∀ r i n, i + r = P → r < n → wX_commit_49 post n (nI i) (nI C) (nI (zl_o Z L i)) (nI P) (nI T) (nI F) (zb_f (zl_a B L g Z D i)) (zb_f g) st (zb_f Z) (zb_f D) fn fs fc fo no := by
  intro r
  induction r with
  | zero =>
    intro i n hi hn
    obtain ⟨n, rfl⟩ : ∃ m, n = m + 1 := ⟨n - 1, by omega⟩
    have e : i = P := by omega
    rw [e]
    refine br_t (nI_le (Nat.le_refl _) (by omega)) ?_
    exact xl_d hA hC (zl_a_B hB L g Z D P) hQ hF K
  | succ r ih =>
    intro i n hi hn
    obtain ⟨n, rfl⟩ : ∃ m, n = m + 1 := ⟨n - 1, by omega⟩
    have hz := zs_lt Z (j := i) (k := P) (by omega)
    have ho := zl_o_s Z L i
    have hl := zl_o_le Z L (j := i + 1) (k := P) (by omega)
    have W := ih (i + 1) n (by omega) (by omega)
    rw [ho] at W
    refine br_f (nI_ge (by omega) (by omega)) ?_
    exact xc_a i rfl (by omega) hC (hst i (by omega)) (by omega) hg hD (by omega) (nm_r (nI_1 i) W)
theorem xc {post : Int32 → SX → Prop} (h : zr_I C L P T F B g Z D st) (k1 : P = 0 → post (-1) (nI C, nI L, nI P, nI T, nI F, zb_f B, zb_f g, st, zb_f Z, zb_f D, fn, fs, fc, fo, no)) (k2 : P ≠ 0 → ¬ zo_O B L → post (-2) (nI C, nI L, nI P, nI T, nI F, zb_f B, zb_f g, st, zb_f Z, zb_f D, fn, fs, fc, fo, no))
    (k3 : P ≠ 0 → zo_O B L → C < zl_o Z L P + 13 * zt_c (zc_T B (zo_d B L) (zo_c B L) g Z D L P) 256 + 9 → ∀ no', post (-3) (nI C, nI L, nI P, nI T, nI F, zb_f B, zb_f g, st, zb_f Z, zb_f D, fn, fs, fc, fo, no'))
    (k4 : P ≠ 0 → zo_O B L → zl_o Z L P + 13 * zt_c (zc_T B (zo_d B L) (zo_c B L) g Z D L P) 256 + 9 ≤ C → ∀ no', post (nI (zl_o Z L P + 13 * zt_c (zc_T B (zo_d B L) (zo_c B L) g Z D L P) 256 + 9)) (nI C, nI (zl_o Z L P + 13 * zt_c (zc_T B (zo_d B L) (zo_c B L) g Z D L P) 256 + 9), 0, 0, nI F, zb_f (zd_f (zc_T B (zo_d B L) (zo_c B L) g Z D L P) (zl_a B L g Z D P) (zl_o Z L P)), zb_f g, st, zb_f Z, zb_f D, fn, fs, fc, fo, no')) : wpX_commit post (nI C, nI L, nI P, nI T, nI F, zb_f B, zb_f g, st, zb_f Z, zb_f D, fn, fs, fc, fo, no) := by
  obtain ⟨hC, hLC, hP, hT, hT2, hF, hB, hg, hD, hst⟩ := h
  have hL : L ≤ 256 := by omega
  unfold wpX_commit
  dsimp only
  refine pk_eq P 0 k1 (fun h0 => ?_) rfl rfl (by omega) (by omega)
  refine xo hL hB (fun o => br_f (by decide) ?_) (fun o => br_t rfl (k2 h0 o))
  have hz : zs_m Z P ≤ 128 := by omega
  refine xl_s (fun no1 n1 => ?_)
  refine xc_l o hL hB n1 (fun no2 n2 => ?_)
  refine xc_p hL hP hz hg n2 (fun no3 n3 => ?_)
  refine xc_e (zl_o Z L P) rfl n3 ?_
  have ho : zl_o Z L P = L + 11 * P + zs_m Z P := rfl
  have hc : zt_c (zt_f g (zc_p Z D L) (zc_C B (zo_d B L) (zo_c B L)) P) 256 ≤ 1000 := zk_cnt _
  refine pk_le (zl_o Z L P + 13 * zt_c (zt_f g (zc_p Z D L) (zc_C B (zo_d B L) (zo_c B L)) P) 256 + 9) C (fun hf => ?_) (fun hf => k3 h0 o hf no3) rfl rfl (by omega) (by omega)
  exact ⟨P + 1, xc_49 hC hP hz hB hg hD hst n3 (zc_QT o hg hD hz) hf (k4 h0 o hf no3) P 0 (P + 1) (by omega) (by omega)⟩
end ZXC
end
section
/-! ===== commit, the reference ===== -/
section ZYC
variable {C L P T F : Nat} {B g Z D : Nat → Nat} {fn fs fo : Nat → Int32} {fc : Nat → Int64}
theorem yc_82 {post : Int32 → SY → Prop} {J : Int32 → Int32 → Int32 → Int32 → Int32 → Int32 → Int32 → (Nat → Int32) → (Nat → Int32) → (Nat → Int32) → (Nat → Int32) → (Nat → Int32) → (Nat → Int32) → (Nat → Int64) → (Nat → Int32) → (Nat → Int32) → (Nat → Int32) → (Nat → Int64) → (Nat → Int32) → Prop} {x2 x3 : Int32} {i nm r0 m : Nat} {sn ss so : Nat → Int32} {sc : Nat → Int64} (hn : nm < 256) (hg : zb_B g) (hB : zb_B B) (hP : P ≤ 8) (hr : r0 + 13 ≤ 256) (hm : m < 64)
    (kY : (∃ k, k < P ∧ g k = nm) → J (nI (i + 1)) (nI C) (nI L) (nI P) (nI T) (nI F) (nI m) (zb_f B) (zb_f g) (zb_f Z) (zb_f D) fn fs fc fo sn ss sc so)
    (kN : ¬ (∃ k, k < P ∧ g k = nm) → J (nI (i + 1)) (nI C) (nI L) (nI P) (nI T) (nI F) (nI (m + 1)) (zb_f B) (zb_f g) (zb_f Z) (zb_f D) fn fs fc fo (upd sn m (nI nm)) (upd ss m (nI (zb_r2 B (r0 + 5)))) (vp_updL sc m (lN (zb_r4 B (r0 + 7)))) (upd so m (nI (zb_r2 B (r0 + 11))))) :
    ∀ r j n x7, j + r = P → r < n → ((x7 = 0 ∧ ¬ ∃ k, k < j ∧ g k = nm) ∨ (x7 = 1 ∧ ∃ k, k < j ∧ g k = nm)) → wY_commit_82 post J x2 x3 (nI i) (nI r0) (nI nm) (nI C) (nI L) (nI P) (nI T) (nI F) (nI m) (zb_f B) (zb_f g) (zb_f Z) (zb_f D) fn fs fc fo sn ss sc so n x7 (nI j) := by
  intro r
  induction r with
  | zero =>
    intro j n x7 hj hn h
    obtain ⟨n, rfl⟩ : ∃ m, n = m + 1 := ⟨n - 1, by omega⟩
    have e : j = P := by omega
    subst e
    refine br_t (nI_le (Nat.le_refl _) (by omega)) ?_
    rcases h with ⟨h1, h2⟩ | ⟨h1, h2⟩
    · refine br_t h1 ?_
      refine yl_2 (r0 + 5) (nI_add _ 5) (by omega) hB ?_
      refine yl_4 (r0 + 7) (nI_add _ 7) (by omega) hB ?_
      refine yl_2 (r0 + 11) (nI_add _ 11) (by omega) hB ?_
      exact yl_t m hm (nm_r (nI_1 i) (kN h2))
    · exact br_f (by rw [h1]; decide) (nm_r (nI_1 i) (kY h2))
  | succ r ih =>
    intro j n x7 hj hn h
    obtain ⟨n, rfl⟩ : ∃ m, n = m + 1 := ⟨n - 1, by omega⟩
    have b := hg j
    refine br_f (nI_ge (by omega) (by omega)) ⟨vp_in_nI (by omega) (by omega), ?_⟩
    rw [nI_clamp (by omega)]
    refine pk_eq (g j) nm (fun e => nm_r (nI_1 j) (ih (j + 1) n 1 (by omega) (by omega) (Or.inr ⟨rfl, j, by omega, e⟩))) (fun e => nm_r (nI_1 j) (ih (j + 1) n x7 (by omega) (by omega) ?_)) rfl rfl (by omega) (by omega)
    rcases h with ⟨h1, h2⟩ | ⟨h1, q, h2, h3⟩
    · refine Or.inl ⟨h1, fun ⟨q, a, b⟩ => ?_⟩
      by_cases z : q = j
      · exact e (by rw [← z]; exact b)
      · exact h2 ⟨q, by omega, b⟩
    · exact Or.inr ⟨h1, q, by omega, h3⟩
theorem yc_51 {post : Int32 → SY → Prop} (hO : zo_O B L) (hL : L ≤ 256) (hg : zb_B g) (hB : zb_B B) (hP : P ≤ 8)
    (K : ∀ m sn ss sc so a, zt_R (zt_k g P (zc_C B (zo_d B L) (zo_c B L))) m sn ss sc so a → m ≤ zo_c B L → ∃ n, wY_commit_179 post n (nI L) 0 0 (nI C) (nI L) (nI P) (nI T) (nI F) (nI m) (zb_f B) (zb_f g) (zb_f Z) (zb_f D) fn fs fc fo sn ss sc so) :
    ∀ r i n m sn ss sc so a, i + r = zo_c B L → r < n → zt_R (zt_k g P (zc_C B (zo_d B L) i)) m sn ss sc so a → m ≤ i → wY_commit_51 post (nI (zo_c B L)) (nI (zo_d B L)) n (nI i) (nI C) (nI L) (nI P) (nI T) (nI F) (nI m) (zb_f B) (zb_f g) (zb_f Z) (zb_f D) fn fs fc fo sn ss sc so := by
  have hd := zo_dl hO
  intro r
  induction r with
  | zero =>
    intro i n m sn ss sc so a hi hn h hm
    obtain ⟨n, rfl⟩ : ∃ m, n = m + 1 := ⟨n - 1, by omega⟩
    have e : i = zo_c B L := by omega
    rw [e] at h hm ⊢
    exact br_t (nI_le (Nat.le_refl _) (by omega)) (K m sn ss sc so a h hm)
  | succ r ih =>
    intro i n m sn ss sc so a hi hn h hm
    obtain ⟨n, rfl⟩ : ∃ m, n = m + 1 := ⟨n - 1, by omega⟩
    refine br_f (nI_ge (by omega) (by omega)) (nm_r (e' := nI (zo_d B L + 13 * i)) (by rw [zq_m13, nI_add]) ?_)
    refine yl_b (zo_d B L + 13 * i + 4) (nI_add _ 4) (by omega) ?_
    refine ⟨P + 1, yc_82 (hB _) hg hB hP (by omega) (by omega) (fun y => ?_) (fun y => ?_) P 0 (P + 1) 0 (by omega) (by omega) (Or.inl ⟨rfl, fun ⟨q, a, _⟩ => by omega⟩)⟩
    · refine ih (i + 1) n m sn ss sc so a (by omega) (by omega) ?_ (by omega)
      rw [zc_C_s, zt_k_sy g P _ (zc_n B (zo_d B L) i) _ y]
      exact h
    · refine ih (i + 1) n (m + 1) _ _ _ _ (zb_w a m (zc_n B (zo_d B L) i)) (by omega) (by omega) ?_ (by omega)
      rw [zc_C_s, zt_k_sn g P _ (zc_n B (zo_d B L) i) _ y]
      exact zt_R_s h _ _ _ _ (hB _) ((zt_k_n y).trans (zc_fr hO.2.2.2.2 (by omega)))
theorem yc_197 {post : Int32 → SY → Prop} {J : Int32 → Int32 → Int32 → Int32 → Int32 → Int32 → Int32 → Int32 → Int32 → (Nat → Int32) → (Nat → Int32) → (Nat → Int32) → (Nat → Int32) → (Nat → Int32) → (Nat → Int32) → (Nat → Int64) → (Nat → Int32) → (Nat → Int32) → (Nat → Int32) → (Nat → Int64) → (Nat → Int32) → Prop} {i p s m : Nat} {sn ss so : Nat → Int32} {sc : Nat → Int64} (hg : zb_B g) (hD : zb_B D) (hP : P ≤ 8) (hi : i < P) (hs : s + Z i ≤ 128) (hm : m < 64)
    (kY : (∃ q, i + 1 ≤ q ∧ q < P ∧ g q = g i) → J (nI (p + 11 + Z i)) (nI (s + Z i)) (nI (i + 1)) (nI C) (nI L) (nI P) (nI T) (nI F) (nI m) (zb_f B) (zb_f g) (zb_f Z) (zb_f D) fn fs fc fo sn ss sc so)
    (kN : ¬ (∃ q, i + 1 ≤ q ∧ q < P ∧ g q = g i) → J (nI (p + 11 + Z i)) (nI (s + Z i)) (nI (i + 1)) (nI C) (nI L) (nI P) (nI T) (nI F) (nI (m + 1)) (zb_f B) (zb_f g) (zb_f Z) (zb_f D) fn fs fc fo (upd sn m (nI (g i))) (upd ss m (nI (Z i))) (vp_updL sc m (lN (zk_F D s (Z i)))) (upd so m (nI p))) :
    ∀ r j n x7, i + 1 ≤ j → j + r = P → r < n → ((x7 = 0 ∧ ¬ ∃ q, i + 1 ≤ q ∧ q < j ∧ g q = g i) ∨ (x7 = 1 ∧ ∃ q, i + 1 ≤ q ∧ q < j ∧ g q = g i)) → wY_commit_197 post J (nI p) (nI s) (nI i) (nI C) (nI L) (nI P) (nI T) (nI F) (nI m) (zb_f B) (zb_f g) (zb_f Z) (zb_f D) fn fs fc fo sn ss sc so n x7 (nI j) := by
  have c : (nI i).toNatClampNeg = i := nI_clamp (by omega)
  have w : vp_in (nI i) 8 := vp_in_nI (by omega) (by omega)
  have e1 : nI p + (11 + zb_f Z (nI i).toNatClampNeg) = nI (p + 11 + Z i) := by
    rw [c]
    show nI p + (11 + nI (Z i)) = _
    rw [zq_ab11, nI_add]
    exact congrArg nI (by omega)
  have e2 : nI s + zb_f Z (nI i).toNatClampNeg = nI (s + Z i) := by
    rw [c]
    exact nI_add _ _
  intro r
  induction r with
  | zero =>
    intro j n x7 hij hj hn h
    obtain ⟨n, rfl⟩ : ∃ m, n = m + 1 := ⟨n - 1, by omega⟩
    have e : j = P := by omega
    subst e
    refine br_t (nI_le (Nat.le_refl _) (by omega)) ?_
    rcases h with ⟨h1, h2⟩ | ⟨h1, h2⟩
    · refine br_t h1 ⟨w, ?_⟩
      refine yk_p s (Z i) rfl (by rw [c]; rfl) hD hs ⟨w, w, ?_⟩
      refine yl_t m hm ⟨w, nm_r e1 ⟨w, nm_r e2 (nm_r (nI_1 i) ?_)⟩⟩
      have := kN h2
      rw [c]
      exact this
    · exact br_f (by rw [h1]; decide) ⟨w, nm_r e1 ⟨w, nm_r e2 (nm_r (nI_1 i) (kY h2))⟩⟩
  | succ r ih =>
    intro j n x7 hij hj hn h
    obtain ⟨n, rfl⟩ : ∃ m, n = m + 1 := ⟨n - 1, by omega⟩
    have b := hg j
    have b2 := hg i
    refine br_f (nI_ge (by omega) (by omega)) ⟨vp_in_nI (by omega) (by omega), w, ?_⟩
    rw [nI_clamp (n := j) (by omega), c]
    refine pk_eq (g j) (g i) (fun e => nm_r (nI_1 j) (ih (j + 1) n 1 (by omega) (by omega) (by omega) (Or.inr ⟨rfl, j, by omega, by omega, e⟩))) (fun e => nm_r (nI_1 j) (ih (j + 1) n x7 (by omega) (by omega) (by omega) ?_)) rfl rfl (by omega) (by omega)
    rcases h with ⟨h1, h2⟩ | ⟨h1, q, h2, h3, h4⟩
    · refine Or.inl ⟨h1, fun ⟨q, a, b, d⟩ => ?_⟩
      by_cases z : q = j
      · exact e (by rw [← z]; exact d)
      · exact h2 ⟨q, a, by omega, d⟩
    · exact Or.inr ⟨h1, q, h2, by omega, h4⟩
theorem yc_179 {post : Int32 → SY → Prop} {E : Nat → Option (Nat × Nat × Nat)} {c0 : Nat} (hc : c0 ≤ 19) (hL : L ≤ 256) (hg : zb_B g) (hD : zb_B D) (hP : P ≤ 8) (hs : zs_m Z P ≤ 128) (hC : C ≤ 256) (hE : ∀ k, k < P → E (g k) = none)
    (K0 : C < zl_o Z L P + 13 * zt_c (zt_f g (zc_p Z D L) E P) 256 + 9 → ∀ sk sn ss sc so, post (-3) (nI C, nI L, nI P, nI T, nI F, sk, zb_f B, zb_f g, zb_f Z, zb_f D, fn, fs, fc, fo, sn, ss, sc, so))
    (K1 : zl_o Z L P + 13 * zt_c (zt_f g (zc_p Z D L) E P) 256 + 9 ≤ C → ∀ m sn ss sc so a, zt_R (zt_f g (zc_p Z D L) E P) m sn ss sc so a → m < 64 → ∃ n, wY_commit_342 post n (nI L) 0 0 (nI C) (nI L) (nI P) (nI T) (nI F) (nI m) (zb_f B) (zb_f g) (zb_f Z) (zb_f D) fn fs fc fo sn ss sc so) :
    ∀ r i n m sn ss sc so a, i + r = P → r < n → zt_R (zt_l g (zc_p Z D L) E P i) m sn ss sc so a → m ≤ c0 + i → wY_commit_179 post n (nI (zl_o Z L i)) (nI (zs_m Z i)) (nI i) (nI C) (nI L) (nI P) (nI T) (nI F) (nI m) (zb_f B) (zb_f g) (zb_f Z) (zb_f D) fn fs fc fo sn ss sc so := by
  intro r
  induction r with
  | zero =>
    intro i n m sn ss sc so a hi hn h hm
    obtain ⟨n, rfl⟩ : ∃ m, n = m + 1 := ⟨n - 1, by omega⟩
    have e : i = P := by omega
    rw [e] at h hm ⊢
    rw [zt_l_P] at h
    have em := h.1
    have ho : zl_o Z L P = L + 11 * P + zs_m Z P := rfl
    refine br_t (nI_le (Nat.le_refl _) (by omega)) ?_
    refine pk_le (zl_o Z L P + 13 * m + 9) C (fun hf => ?_) (fun hf => ?_) (by rw [zq_m13, nI_add]; exact nI_add _ 9) rfl (by omega) (by omega)
    · exact K1 (by omega) m sn ss sc so a h (by omega)
    · exact K0 (by omega) _ sn ss sc so
  | succ r ih =>
    intro i n m sn ss sc so a hi hn h hm
    obtain ⟨n, rfl⟩ : ∃ m, n = m + 1 := ⟨n - 1, by omega⟩
    have hz := zs_lt Z (j := i) (k := P) (by omega)
    have ho := zl_o_s Z L i
    have hf := zt_l_fr g (zc_p Z D L) E P i (by omega)
    refine br_f (nI_ge (by omega) (by omega)) (nm_r (nI_1 i) ?_)
    refine ⟨P + 1, yc_197 hg hD hP (by omega) (by omega) (by omega) (fun y => ?_) (fun y => ?_) (P - (i + 1)) (i + 1) (P + 1) 0 (by omega) (by omega) (by omega) (Or.inl ⟨rfl, fun ⟨q, a, b, _⟩ => by omega⟩)⟩
    · rw [← ho]
      refine ih (i + 1) n m sn ss sc so a (by omega) (by omega) ?_ (by omega)
      rw [zt_l_sy g _ E P i y]
      exact h
    · rw [← ho]
      refine ih (i + 1) n (m + 1) _ _ _ _ (zb_w a m (g i)) (by omega) (by omega) ?_ (by omega)
      rw [zt_l_sn g _ E P i y]
      exact zt_R_s h _ _ _ _ (hg i) (hf.trans (hE i (by omega)))
theorem yc_446 {post : Int32 → SY → Prop} {J : Int32 → Int32 → Int32 → Int32 → Int32 → Int32 → Int32 → Int32 → Int32 → (Nat → Int32) → (Nat → Int32) → (Nat → Int32) → (Nat → Int32) → (Nat → Int32) → (Nat → Int32) → (Nat → Int64) → (Nat → Int32) → (Nat → Int32) → (Nat → Int32) → (Nat → Int64) → (Nat → Int32) → Prop} {i p s : Nat} {sk : Int32} {sn ss so : Nat → Int32} {sc : Nat → Int64} (hi : i < 8) (hp : p + 11 + Z i ≤ 256) (hs : s + Z i ≤ 128) (hD : zb_B D)
    (K : J (nI (p + 11 + Z i)) (nI (s + Z i)) (nI (i + 1)) (nI C) (nI L) (nI P) (nI T) (nI F) sk (zb_f (zl_d B (p + 11) D s (Z i))) (zb_f g) (zb_f Z) (zb_f D) fn fs fc fo sn ss sc so) :
    ∀ r j n, j + r = Z i → r < n → wY_commit_446 post J (nI p) (nI s) (nI i) n (nI j) (nI C) (nI L) (nI P) (nI T) (nI F) sk (zb_f (zl_d B (p + 11) D s j)) (zb_f g) (zb_f Z) (zb_f D) fn fs fc fo sn ss sc so := by
  have c : (nI i).toNatClampNeg = i := nI_clamp (by omega)
  have w : vp_in (nI i) 8 := vp_in_nI (by omega) (by omega)
  have e1 : nI p + (11 + zb_f Z (nI i).toNatClampNeg) = nI (p + 11 + Z i) := by
    rw [c]
    show nI p + (11 + nI (Z i)) = _
    rw [zq_ab11, nI_add]
    exact congrArg nI (by omega)
  have e2 : nI s + zb_f Z (nI i).toNatClampNeg = nI (s + Z i) := by
    rw [c]
    exact nI_add _ _
  intro r
  induction r with
  | zero =>
    intro j n hj hn
    obtain ⟨n, rfl⟩ : ∃ m, n = m + 1 := ⟨n - 1, by omega⟩
    have e : j = Z i := by omega
    subst e
    refine ⟨w, br_t (by rw [c]; exact nI_le (Nat.le_refl _) (by omega)) ?_⟩
    exact ⟨w, nm_r e1 ⟨w, nm_r e2 (nm_r (nI_1 i) K)⟩⟩
  | succ r ih =>
    intro j n hj hn
    obtain ⟨n, rfl⟩ : ∃ m, n = m + 1 := ⟨n - 1, by omega⟩
    have b := hD (s + j)
    refine ⟨w, br_f (by rw [c]; exact nI_ge (by omega) (by omega)) (br_f (nI_ge (b := 128) (by omega) (by decide)) (nm_r (nI_add s j) (br_f (nI_ge (b := 128) (by omega) (by decide)) ⟨vp_in_nI (by omega) (by omega), ?_⟩)))⟩
    exact yl_w1 (p + 11 + j) (D (s + j)) (by rw [zq_a11, nI_add]) (by rw [nI_clamp (by omega)]; rfl) (by omega) (by omega) (nm_r (nI_1 j) (ih (j + 1) n (by omega) (by omega)))
theorem yc_342 {post : Int32 → SY → Prop} {A : Nat → Option (Nat × Nat × Nat)} {m : Nat} {sn ss so : Nat → Int32} {sc : Nat → Int64} {a : Nat → Nat} (hP : P ≤ 8) (hs : zs_m Z P ≤ 128) (hg : zb_B g) (hD : zb_B D) (hR : zt_R A m sn ss sc so a) (hb : ∀ v z k o, A v = some (z, k, o) → z < 65536 ∧ k < 4294967296 ∧ o < 65536) (hm : m < 64) (hF : zl_o Z L P + 13 * zt_c A 256 + 9 ≤ 256)
    (K : post (nI (zl_o Z L P + 13 * zt_c A 256 + 9)) (nI C, nI (zl_o Z L P + 13 * zt_c A 256 + 9), 0, 0, nI F, nI m, zb_f (zd_f A (zl_a B L g Z D P) (zl_o Z L P)), zb_f g, zb_f Z, zb_f D, fn, fs, fc, fo, sn, ss, sc, so)) :
    ∀ r i n, i + r = P → r < n → wY_commit_342 post n (nI (zl_o Z L i)) (nI (zs_m Z i)) (nI i) (nI C) (nI L) (nI P) (nI T) (nI F) (nI m) (zb_f (zl_a B L g Z D i)) (zb_f g) (zb_f Z) (zb_f D) fn fs fc fo sn ss sc so := by
  intro r
  induction r with
  | zero =>
    intro i n hi hn
    obtain ⟨n, rfl⟩ : ∃ m, n = m + 1 := ⟨n - 1, by omega⟩
    have e : i = P := by omega
    rw [e]
    refine br_t (nI_le (Nat.le_refl _) (by omega)) ?_
    exact yd (zl_o Z L P) rfl hR hb hm hF K
  | succ r ih =>
    intro i n hi hn
    obtain ⟨n, rfl⟩ : ∃ m, n = m + 1 := ⟨n - 1, by omega⟩
    have hz := zs_lt Z (j := i) (k := P) (by omega)
    have ho := zl_o_s Z L i
    have hl := zl_o_le Z L (j := i + 1) (k := P) (by omega)
    have W := ih (i + 1) n (by omega) (by omega)
    rw [ho] at W
    have c : (nI i).toNatClampNeg = i := nI_clamp (by omega)
    have w : vp_in (nI i) 8 := vp_in_nI (by omega) (by omega)
    have b1 := hg i
    have b2 := zk_F_lt hD (zs_m Z i) (Z i)
    have W2 : wY_commit_342 post n (nI (zl_o Z L i + 11 + Z i)) (nI (zs_m Z i + Z i)) (nI (i + 1)) (nI C) (nI L) (nI P) (nI T) (nI F) (nI m) (zb_f (zl_d (zl_h (zl_a B L g Z D i) (zl_o Z L i) (g i) (Z i) (zk_F D (zs_m Z i) (Z i))) (zl_o Z L i + 11) D (zs_m Z i) (Z i))) (zb_f g) (zb_f Z) (zb_f D) fn fs fc fo sn ss sc so := W
    refine br_f (nI_ge (by omega) (by omega)) ⟨w, ?_⟩
    refine yk_p (zs_m Z i) (Z i) rfl (by rw [c]; rfl) hD (by omega) ?_
    generalize zl_o Z L i = p at *
    generalize zl_a B L g Z D i = B2 at *
    refine yl_w p 80 rfl (by decide +kernel) (by omega) ?_
    refine yl_w (p + 1) 75 (nI_1 p) (by decide +kernel) (by omega) ?_
    refine yl_w (p + 2) 3 (nI_add p 2) (by decide +kernel) (by omega) ?_
    refine yl_w (p + 3) 4 (nI_add p 3) (by decide +kernel) (by omega) ?_
    rw [yn_s B2 p 3 4 67324752 (by decide) (by decide) (by decide)]
    refine ⟨w, ?_⟩
    refine yl_w1 (p + 4) (g i) (nI_add p 4) (by rw [c]; rfl) (by omega) (by omega) ?_
    refine ⟨w, ?_⟩
    refine yl_w2 (p + 5) (Z i) (nI_add p 5) (by rw [c]; rfl) (by omega) (by omega) ?_
    refine yl_w4 (p + 7) (zk_F D (zs_m Z i) (Z i)) (nI_add p 7) rfl b2 (by omega) ?_
    exact ⟨Z i + 1, yc_446 (B := zl_h B2 p (g i) (Z i) (zk_F D (zs_m Z i) (Z i))) (by omega) (by omega) (by omega) hD W2 (Z i) 0 (Z i + 1) (by omega) (by omega)⟩
theorem yc {post : Int32 → SY → Prop} {st : Nat → Int32} {sk : Int32} {sn ss so : Nat → Int32} {sc : Nat → Int64} (h : zr_I C L P T F B g Z D st) (k1 : P = 0 → post (-1) (nI C, nI L, nI P, nI T, nI F, sk, zb_f B, zb_f g, zb_f Z, zb_f D, fn, fs, fc, fo, sn, ss, sc, so)) (k2 : P ≠ 0 → ¬ zo_O B L → post (-2) (nI C, nI L, nI P, nI T, nI F, sk, zb_f B, zb_f g, zb_f Z, zb_f D, fn, fs, fc, fo, sn, ss, sc, so))
    (k3 : P ≠ 0 → zo_O B L → C < zl_o Z L P + 13 * zt_c (zc_T B (zo_d B L) (zo_c B L) g Z D L P) 256 + 9 → ∀ sk sn ss sc so, post (-3) (nI C, nI L, nI P, nI T, nI F, sk, zb_f B, zb_f g, zb_f Z, zb_f D, fn, fs, fc, fo, sn, ss, sc, so))
    (k4 : P ≠ 0 → zo_O B L → zl_o Z L P + 13 * zt_c (zc_T B (zo_d B L) (zo_c B L) g Z D L P) 256 + 9 ≤ C → ∀ sk sn ss sc so, post (nI (zl_o Z L P + 13 * zt_c (zc_T B (zo_d B L) (zo_c B L) g Z D L P) 256 + 9)) (nI C, nI (zl_o Z L P + 13 * zt_c (zc_T B (zo_d B L) (zo_c B L) g Z D L P) 256 + 9), 0, 0, nI F, sk, zb_f (zd_f (zc_T B (zo_d B L) (zo_c B L) g Z D L P) (zl_a B L g Z D P) (zl_o Z L P)), zb_f g, zb_f Z, zb_f D, fn, fs, fc, fo, sn, ss, sc, so)) : wpY_commit post (nI C, nI L, nI P, nI T, nI F, sk, zb_f B, zb_f g, zb_f Z, zb_f D, fn, fs, fc, fo, sn, ss, sc, so) := by
  obtain ⟨hC, hLC, hP, hT, hT2, hF, hB, hg, hD, hst⟩ := h
  have hL : L ≤ 256 := by omega
  unfold wpY_commit
  dsimp only
  refine pk_eq P 0 k1 (fun h0 => ?_) rfl rfl (by omega) (by omega)
  refine yo hL hB (fun o => br_f (by decide) ?_) (fun o => br_t rfl (k2 h0 o))
  have hz : zs_m Z P ≤ 128 := by omega
  have h9 := o.1
  have hc := zc_c19 o hL
  refine nm_r (zq_s9 h9) ?_
  refine yl_b (L - 9 + 4) (nI_add _ 4) (by omega) ?_
  refine yl_2 (L - 9 + 5) (nI_add _ 5) (by omega) hB ?_
  have eF := zt_fk g (zc_p Z D L) (zc_C B (zo_d B L) (zo_c B L)) P
  have A2 : zt_k g P (zc_C B (zo_d B L) 0) = zt_0 := zt_k_0 g P
  refine ⟨zo_c B L + 1, yc_51 o hL hg hB hP (fun m sn ss sc so a hR hm => ?_) (zo_c B L) 0 (zo_c B L + 1) 0 sn ss sc so (fun _ => 0) (by omega) (by omega) (by rw [A2]; exact zt_R_0 _ _ _ _ _) (Nat.le_refl _)⟩
  have R0 : zt_R (zt_l g (zc_p Z D L) (zt_k g P (zc_C B (zo_d B L) (zo_c B L))) P 0) m sn ss sc so a := by rw [zt_l_0]; exact hR
  refine ⟨P + 1, yc_179 (E := zt_k g P (zc_C B (zo_d B L) (zo_c B L))) hc hL hg hD hP hz hC (fun k hk => zt_k_y ⟨k, hk, rfl⟩) (fun hf => ?_) (fun hf => ?_) P 0 (P + 1) m sn ss sc so a (by omega) (by omega) R0 (by omega)⟩
  · rw [eF] at hf
    exact k3 h0 o hf
  · rw [eF] at hf ⊢
    intro m sn ss sc so a hR hm
    exact ⟨P + 1, yc_342 (A := zc_T B (zo_d B L) (zo_c B L) g Z D L P) hP hz hg hD hR (fun v z k o' hv => zd_Qb (x := (z, k, o')) (zl_a_B hB L g Z D P) (zc_QT o hg hD hz v _ hv) (by omega)) hm (Nat.le_trans hf hC) (k4 h0 o hf _ sn ss sc so) P 0 (P + 1) (by omega) (by omega)⟩
end ZYC
theorem i_vc_commit {k : Nat} {u : SX} {v : SY} (I : i_Rel k u v) (hk : k + 3 ≤ 1537) : wpX_commit (fun r u' => wpY_commit (fun r' v' => r' = r ∧ i_Rel (k + 3) u' v') v) u := by
  have J : i_Rel (k + 3) u v := I
  obtain ⟨C, L, P, T, F, B, g, Z, D, st, fn, fs, fo, no, sn, ss, so, fc, sc, sk, rfl, rfl, h⟩ := I
  have hC := h.1
  have hF := h.2.2.2.2.2.1
  have hB := h.2.2.2.2.2.2.1
  have hg := h.2.2.2.2.2.2.2.1
  have hD := h.2.2.2.2.2.2.2.2.1
  refine xc h (fun h0 => ?_) (fun h0 o => ?_) (fun h0 o f no' => ?_) (fun h0 o f no' => ?_)
  · exact yc h (fun _ => ⟨rfl, J⟩) (fun z => absurd h0 z) (fun z => absurd h0 z) (fun z => absurd h0 z)
  · exact yc h (fun z => absurd z h0) (fun _ _ => ⟨rfl, J⟩) (fun _ z => absurd z o) (fun _ z => absurd z o)
  · exact yc h (fun z => absurd z h0) (fun _ z => absurd o z) (fun _ _ _ sk sn ss sc so => ⟨rfl, zr_mk h⟩) (fun _ _ z => absurd z (by omega))
  · exact yc h (fun z => absurd z h0) (fun _ z => absurd o z) (fun _ _ z => absurd z (by omega)) (fun _ _ _ sk sn ss sc so => ⟨rfl, zr_mk (P := 0) (T := 0) ⟨hC, f, by omega, rfl, by omega, hF, zd_f_B _ (zl_a_B hB L g Z D P) _, hg, hD, fun i hi => by omega⟩⟩)
end
section
/-! ===== the scan, both sides in step ===== -/
section ZS
variable {C L P T F : Nat} {B g Z D : Nat → Nat} {st fn fs fo no sn ss so : Nat → Int32} {fc sc : Nat → Int64} {sk : Int32}
theorem xs_w {post : Int32 → Prop} {q : Int32} (p : Nat) (hq : q = nI p) (h : p + 4 ≤ L) (hL : L ≤ 256) (hB : zb_B B) (kC : zb_r4 B p = 33639248 → post 13) (kE : zb_r4 B p = 101010256 → post 9) (k1 : zb_r4 B p = 67324752 → p + 11 ≤ L → post (nI (11 + zb_r2 B (p + 5)))) (k0 : zb_r4 B p = 67324752 → L < p + 11 → post 11) (kO : zb_r4 B p ≠ 33639248 → zb_r4 B p ≠ 101010256 → zb_r4 B p ≠ 67324752 → post 1) : wpX_widthAt post (nI C, nI L, nI P, nI T, nI F, zb_f B, zb_f g, st, zb_f Z, zb_f D, fn, fs, fc, fo, no) q := by
  subst hq
  have b := zb_r4_lt hB p
  unfold wpX_widthAt
  dsimp only
  refine xl_4 p rfl h hL hB ?_
  refine zq_L (zb_r4 B p) 33639248 kC (fun h1 => ?_) rfl rfl (by omega) (by omega)
  refine zq_L (zb_r4 B p) 101010256 kE (fun h2 => ?_) rfl rfl (by omega) (by omega)
  refine zq_L (zb_r4 B p) 67324752 (fun h3 => ?_) (fun h3 => kO h1 h2 h3) rfl rfl (by omega) (by omega)
  refine pk_le (p + 11) L (fun h4 => ?_) (fun h4 => k0 h3 h4) (nI_add p 11) rfl (by omega) (by omega)
  exact xl_2 (p + 5) (nI_add p 5) (by omega) hL hB (zq_v (P := post) (nI_add 11 _) (k1 h3 h4))
theorem xs_k {post : Int32 → SX → Prop} {q : Int32} (p : Nat) (hq : q = nI p) (h : p + 11 + zb_r2 B (p + 5) ≤ L) (hL : L ≤ 256) (hB : zb_B B) (hF : F < 23)
    (k1 : zk_F B (p + 11) (zb_r2 B (p + 5)) = zb_r4 B (p + 7) → post 1 (nI C, nI L, nI P, nI T, nI (F + 1), zb_f B, zb_f g, st, zb_f Z, zb_f D, upd fn F (nI (B (p + 4))), upd fs F (nI (zb_r2 B (p + 5))), vp_updL fc F (lN (zb_r4 B (p + 7))), upd fo F (nI p), no))
    (k0 : zk_F B (p + 11) (zb_r2 B (p + 5)) ≠ zb_r4 B (p + 7) → post 0 (nI C, nI L, nI P, nI T, nI F, zb_f B, zb_f g, st, zb_f Z, zb_f D, fn, fs, fc, fo, no)) : wpX_keepIfSound post (nI C, nI L, nI P, nI T, nI F, zb_f B, zb_f g, st, zb_f Z, zb_f D, fn, fs, fc, fo, no) q := by
  subst hq
  have b1 := zk_F_lt hB (p + 11) (zb_r2 B (p + 5))
  have b2 := zb_r4_lt hB (p + 7)
  have c : (nI F).toNatClampNeg = F := nI_clamp (by omega)
  have w : vp_in (nI F) 23 := vp_in_nI hF (by omega)
  unfold wpX_keepIfSound
  dsimp only
  refine xl_2 (p + 5) (nI_add p 5) (by omega) hL hB ?_
  refine xl_4 (p + 7) (nI_add p 7) (by omega) hL hB ?_
  refine br_f (nI_ge (b := 23) hF (by decide)) ?_
  refine xk_i (p + 11) (zb_r2 B (p + 5)) (nI_add p 11) rfl hB (by omega) ?_
  refine zq_L (zk_F B (p + 11) (zb_r2 B (p + 5))) (zb_r4 B (p + 7)) (fun e => ?_) k0 rfl rfl (by omega) (by omega)
  refine xl_b (p + 4) (nI_add p 4) (by omega) hL ?_
  exact ⟨w, nm_r (e' := upd fn F (nI (B (p + 4)))) (by rw [c]) ⟨w, nm_r (e' := upd fs F (nI (zb_r2 B (p + 5)))) (by rw [c]) ⟨w, nm_r (e' := vp_updL fc F (lN (zb_r4 B (p + 7)))) (by rw [c]) ⟨w, nm_r (e' := upd fo F (nI p)) (by rw [c]) (nm_r (nI_1 F) (k1 e))⟩⟩⟩⟩
theorem ys_x {post : Int32 → SY → Prop} {x1 x3 : Int32} {n : Nat} (hn : 0 < n) (k : wY_salvage_279 post (nI C) (nI L) (nI P) (nI T) (nI F) sk (zb_f B) (zb_f g) (zb_f Z) (zb_f D) fn fs fc fo sn ss sc so) : wY_salvage_11 post (nI C) (nI L) (nI P) (nI T) sk n x1 0 x3 (nI F) (zb_f B) (zb_f g) (zb_f Z) (zb_f D) fn fs fc fo sn ss sc so := by
  obtain ⟨n, rfl⟩ : ∃ m, n = m + 1 := ⟨n - 1, by omega⟩
  by_cases h : 300 < x3
  · exact br_t h k
  · exact br_f h (br_t rfl k)
/-- what a scan from q (the next record at nx, the reference at p) finds: for both sides the same -/
def zs_G (C L P T : Nat) (B g Z D : Nat → Nat) (st no sn ss so : Nat → Int32) (sc : Nat → Int64) (sk : Int32) (d q nx p gg F : Nat) (fn fs fo : Nat → Int32) (fc : Nat → Int64) : Prop :=
  ∃ (F' : Nat) (o' : Nat → Nat) (fn' fs' fo' : Nat → Int32) (fc' : Nat → Int64), zg_I B L F' o' fn' fs' fc' fo' ∧
    (∀ (post : SX → Prop) n, d < n → post (nI C, nI L, nI P, nI T, nI F', zb_f B, zb_f g, st, zb_f Z, zb_f D, fn', fs', fc', fo', no) → wX_scan_9 post n (nI nx) (nI q) (nI C) (nI L) (nI P) (nI T) (nI F) (zb_f B) (zb_f g) st (zb_f Z) (zb_f D) fn fs fc fo no) ∧
    (∀ (post : Int32 → SY → Prop) n, L + 1 < p + n → wY_salvage_279 post (nI C) (nI L) (nI P) (nI T) (nI F') sk (zb_f B) (zb_f g) (zb_f Z) (zb_f D) (fn') (fs') (fc') (fo') sn ss sc so → wY_salvage_11 post (nI C) (nI L) (nI P) (nI T) sk n (nI p) 1 (nI gg) (nI F) (zb_f B) (zb_f g) (zb_f Z) (zb_f D) fn fs fc fo sn ss sc so)
/-- the end: X leaves its loop at once, Y stops -/
theorem zs_end {d q nx p gg : Nat} {o : Nat → Nat} (hL : L ≤ 256) (hI : zg_I B L F o fn fs fc fo) (hg : gg ≤ 300) (hp : p ≤ L)
    (hX : ∀ (post : SX → Prop) n, post (nI C, nI L, nI P, nI T, nI F, zb_f B, zb_f g, st, zb_f Z, zb_f D, fn, fs, fc, fo, no) → wX_scan_9 post (n + 1) (nI nx) (nI q) (nI C) (nI L) (nI P) (nI T) (nI F) (zb_f B) (zb_f g) st (zb_f Z) (zb_f D) fn fs fc fo no)
    (hY : ∀ (post : Int32 → SY → Prop) n, (∀ x3, wY_salvage_11 post (nI C) (nI L) (nI P) (nI T) sk n (nI p) 0 x3 (nI F) (zb_f B) (zb_f g) (zb_f Z) (zb_f D) fn fs fc fo sn ss sc so) → wY_salvage_11 post (nI C) (nI L) (nI P) (nI T) sk (n + 1) (nI p) 1 (nI gg) (nI F) (zb_f B) (zb_f g) (zb_f Z) (zb_f D) fn fs fc fo sn ss sc so) :
    zs_G C L P T B g Z D st no sn ss so sc sk d q nx p gg F fn fs fo fc := by
  refine ⟨F, o, fn, fs, fo, fc, hI, fun post n hn k => ?_, fun post n hn k => ?_⟩
  · obtain ⟨n, rfl⟩ : ∃ m, n = m + 1 := ⟨n - 1, by omega⟩
    exact hX post n k
  · obtain ⟨n, rfl⟩ : ∃ m, n = m + 1 := ⟨n - 1, by omega⟩
    exact hY post n (fun x3 => ys_x (by omega) k)
/-- a step: X one place on, Y from p to p2, with the same records -/
theorem zs_st {d q nx nx2 p p2 gg gg2 F2 : Nat} {fn2 fs2 fo2 : Nat → Int32} {fc2 : Nat → Int64} (hp : p + 1 ≤ p2) (hpL : p ≤ L)
    (h : zs_G C L P T B g Z D st no sn ss so sc sk d (q + 1) nx2 p2 gg2 F2 fn2 fs2 fo2 fc2)
    (hX : ∀ (post : SX → Prop) n, wX_scan_9 post n (nI nx2) (nI (q + 1)) (nI C) (nI L) (nI P) (nI T) (nI F2) (zb_f B) (zb_f g) st (zb_f Z) (zb_f D) fn2 fs2 fc2 fo2 no → wX_scan_9 post (n + 1) (nI nx) (nI q) (nI C) (nI L) (nI P) (nI T) (nI F) (zb_f B) (zb_f g) st (zb_f Z) (zb_f D) fn fs fc fo no)
    (hY : ∀ (post : Int32 → SY → Prop) n, wY_salvage_11 post (nI C) (nI L) (nI P) (nI T) sk n (nI p2) 1 (nI gg2) (nI F2) (zb_f B) (zb_f g) (zb_f Z) (zb_f D) fn2 fs2 fc2 fo2 sn ss sc so → wY_salvage_11 post (nI C) (nI L) (nI P) (nI T) sk (n + 1) (nI p) 1 (nI gg) (nI F) (zb_f B) (zb_f g) (zb_f Z) (zb_f D) fn fs fc fo sn ss sc so) :
    zs_G C L P T B g Z D st no sn ss so sc sk (d + 1) q nx p gg F fn fs fo fc := by
  obtain ⟨F', o', fn', fs', fo', fc', hI, h1, h2⟩ := h
  refine ⟨F', o', fn', fs', fo', fc', hI, fun post n hn k => ?_, fun post n hn k => ?_⟩
  · obtain ⟨n, rfl⟩ : ∃ m, n = m + 1 := ⟨n - 1, by omega⟩
    exact hX post n (h1 post n (by omega) k)
  · obtain ⟨n, rfl⟩ : ∃ m, n = m + 1 := ⟨n - 1, by omega⟩
    exact hY post n (h2 post n (by omega) k)
theorem zs_main (hL : L ≤ 256) (hB : zb_B B) : ∀ d q nx p gg F o fn fs fc fo, L < q + d → p ≤ L → gg ≤ p → zg_I B p F o fn fs fc fo → ((q < nx ∧ p = nx) ∨ (nx ≤ q ∧ p = q)) → zs_G C L P T B g Z D st no sn ss so sc sk d q nx p gg F fn fs fo fc := by
  intro d
  induction d with
  | zero =>
    intro q nx p gg F o fn fs fc fo h1 h2 h3 hI hr
    omega
  | succ d ih =>
    intro q nx p gg F o fn fs fc fo h1 h2 h3 hI hr
    have hIL := zg_I_p hI h2
    have g3 : ¬ (300 : Int32) < nI gg := nI_nlt (a := 300) (by omega) (by decide)
    have n1 : ¬ (1 : Int32) = 0 := by decide
    by_cases h4 : L < q + 4
    · have a1 : nI L < nI q + 4 := by
        rw [zq_a4]
        exact nI_lt h4 (by omega)
      have a2 : ¬ nI p + 4 ≤ nI L := by
        rw [zq_a4]
        exact nI_ge (by omega) (by omega)
      exact zs_end hL hIL (by omega) h2 (fun post n k => br_t a1 k) (fun post n k => br_f g3 (br_f n1 (br_f a2 (fun x3 _ => k x3))))
    have a1 : ¬ nI L < nI q + 4 := by
      rw [zq_a4]
      exact nI_nlt (by omega) (by omega)
    by_cases hx : nx ≤ q
    · have e : p = q := by omega
      subst e
      have a2 : nI nx ≤ nI p := nI_le hx (by omega)
      have a3 : nI p + 4 ≤ nI L := by
        rw [zq_a4]
        exact nI_le (by omega) (by omega)
      have b4 := zb_r4_lt hB p
      have b2 := zb_r2_lt hB (p + 5)
      have f23 : F < 23 := by
        have := hI.1
        have := hI.2.1
        omega
      by_cases eC : zb_r4 B p = 33639248
      · -- a central record
        have nL : ¬ lN (zb_r4 B p) = 67324752 := by rw [eC]; decide
        by_cases f : p + 13 ≤ L
        · have a5 : nI p + 13 ≤ nI L := by
            rw [zq_a13]
            exact nI_le f (by omega)
          refine zs_st (nx2 := p + 13) (p2 := p + 13) (gg2 := gg + 1) (by omega) h2 (ih (p + 1) (p + 13) (p + 13) (gg + 1) F o fn fs fc fo (by omega) f (by omega) (zg_I_p hI (by omega)) (Or.inl ⟨by omega, rfl⟩)) (fun post n k => ?_) (fun post n k => ?_)
          · exact br_f a1 (br_t a2 (xs_w p rfl (by omega) hL hB (fun _ => br_t a5 (xl_4 p rfl (by omega) hL hB (br_f nL (nm_r (nI_add p 13) (nm_r (nI_1 p) k))))) (fun z => absurd (eC.symm.trans z) (by decide)) (fun z => absurd (eC.symm.trans z) (by decide)) (fun z => absurd (eC.symm.trans z) (by decide)) (fun z => absurd eC z)))
          · exact br_f g3 (br_f n1 (br_t a3 (yl_sL p rfl (by omega) hB (fun z => absurd (eC.symm.trans z) (by decide)) (fun _ => br_t rfl (yl_sC p rfl (by omega) hB (fun _ => br_f (by decide) (br_t a5 (nm_r (nI_add p 13) (nm_r (nI_1 gg) k)))) (fun z => absurd eC z))))))
        · have a5 : ¬ nI p + 13 ≤ nI L := by
            rw [zq_a13]
            exact nI_ge (by omega) (by omega)
          exact zs_end hL hIL (by omega) h2 (fun post n k => br_f a1 (br_t a2 (xs_w p rfl (by omega) hL hB (fun _ => br_f a5 k) (fun z => absurd (eC.symm.trans z) (by decide)) (fun z => absurd (eC.symm.trans z) (by decide)) (fun z => absurd (eC.symm.trans z) (by decide)) (fun z => absurd eC z))))
            (fun post n k => br_f g3 (br_f n1 (br_t a3 (yl_sL p rfl (by omega) hB (fun z => absurd (eC.symm.trans z) (by decide)) (fun _ => br_t rfl (yl_sC p rfl (by omega) hB (fun _ => br_f (by decide) (br_f a5 (fun x3 _ => k x3))) (fun z => absurd eC z)))))))
      by_cases eE : zb_r4 B p = 101010256
      · -- an end record
        have nL : ¬ lN (zb_r4 B p) = 67324752 := by rw [eE]; decide
        by_cases f : p + 9 ≤ L
        · have a5 : nI p + 9 ≤ nI L := by
            rw [zq_a9]
            exact nI_le f (by omega)
          refine zs_st (nx2 := p + 9) (p2 := p + 9) (gg2 := gg + 1) (by omega) h2 (ih (p + 1) (p + 9) (p + 9) (gg + 1) F o fn fs fc fo (by omega) f (by omega) (zg_I_p hI (by omega)) (Or.inl ⟨by omega, rfl⟩)) (fun post n k => ?_) (fun post n k => ?_)
          · exact br_f a1 (br_t a2 (xs_w p rfl (by omega) hL hB (fun z => absurd z eC) (fun _ => br_t a5 (xl_4 p rfl (by omega) hL hB (br_f nL (nm_r (nI_add p 9) (nm_r (nI_1 p) k))))) (fun z => absurd (eE.symm.trans z) (by decide)) (fun z => absurd (eE.symm.trans z) (by decide)) (fun _ z => absurd eE z)))
          · exact br_f g3 (br_f n1 (br_t a3 (yl_sL p rfl (by omega) hB (fun z => absurd (eE.symm.trans z) (by decide)) (fun _ => br_t rfl (yl_sC p rfl (by omega) hB (fun z => absurd z eC) (fun _ => br_t rfl (yl_sE p rfl (by omega) hB (fun _ => br_f (by decide) (br_t a5 (nm_r (nI_add p 9) (nm_r (nI_1 gg) k)))) (fun z => absurd eE z))))))))
        · have a5 : ¬ nI p + 9 ≤ nI L := by
            rw [zq_a9]
            exact nI_ge (by omega) (by omega)
          exact zs_end hL hIL (by omega) h2 (fun post n k => br_f a1 (br_t a2 (xs_w p rfl (by omega) hL hB (fun z => absurd z eC) (fun _ => br_f a5 k) (fun z => absurd (eE.symm.trans z) (by decide)) (fun z => absurd (eE.symm.trans z) (by decide)) (fun _ z => absurd eE z))))
            (fun post n k => br_f g3 (br_f n1 (br_t a3 (yl_sL p rfl (by omega) hB (fun z => absurd (eE.symm.trans z) (by decide)) (fun _ => br_t rfl (yl_sC p rfl (by omega) hB (fun z => absurd z eC) (fun _ => br_t rfl (yl_sE p rfl (by omega) hB (fun _ => br_f (by decide) (br_f a5 (fun x3 _ => k x3))) (fun z => absurd eE z)))))))))
      by_cases eL : zb_r4 B p = 67324752
      · -- a record of an entry
        have yL : lN (zb_r4 B p) = 67324752 := by rw [eL]; rfl
        by_cases f : p + 11 ≤ L
        · have a5 : nI p + 11 ≤ nI L := by
            rw [zq_a11]
            exact nI_le f (by omega)
          by_cases f2 : p + 11 + zb_r2 B (p + 5) ≤ L
          · have a6 : nI p + nI (11 + zb_r2 B (p + 5)) ≤ nI L := by
              rw [nI_add]
              exact nI_le (by omega) (by omega)
            have a7 : nI p + 11 + nI (zb_r2 B (p + 5)) ≤ nI L := by
              rw [zq_a11, nI_add]
              exact nI_le (by omega) (by omega)
            have b5 := zk_F_lt hB (p + 11) (zb_r2 B (p + 5))
            have b6 := zb_r4_lt hB (p + 7)
            have XX : ∀ (post : SX → Prop) n, wpX_keepIfSound (fun r u => match u with | (y1, y2, y3, y4, y5, y6, y7, y8, y9, y10, y11, y12, y13, y14, y15) => ((r = 0 → (∀ x2, x2 = nI p + 1 → (wX_scan_9 post n (nI nx) x2 y1 y2 y3 y4 y5 y6 y7 y8 y9 y10 y11 y12 y13 y14 y15))) ∧ (¬ r = 0 → (∀ x1, x1 = nI p + nI (11 + zb_r2 B (p + 5)) → (∀ x2, x2 = nI p + 1 → (wX_scan_9 post n x1 x2 y1 y2 y3 y4 y5 y6 y7 y8 y9 y10 y11 y12 y13 y14 y15)))))) (nI C, nI L, nI P, nI T, nI F, zb_f B, zb_f g, st, zb_f Z, zb_f D, fn, fs, fc, fo, no) (nI p) → wX_scan_9 post (n + 1) (nI nx) (nI p) (nI C) (nI L) (nI P) (nI T) (nI F) (zb_f B) (zb_f g) st (zb_f Z) (zb_f D) fn fs fc fo no := fun post n k =>
              br_f a1 (br_t a2 (xs_w p rfl (by omega) hL hB (fun z => absurd z eC) (fun z => absurd z eE) (fun _ _ => br_t a6 (xl_4 p rfl (by omega) hL hB (br_t yL k))) (fun _ z => absurd z (by omega)) (fun _ _ z => absurd eL z)))
            by_cases cr : zk_F B (p + 11) (zb_r2 B (p + 5)) = zb_r4 B (p + 7)
            · refine zs_st (nx2 := p + 11 + zb_r2 B (p + 5)) (p2 := p + 11 + zb_r2 B (p + 5)) (gg2 := gg + 1) (F2 := F + 1) (by omega) h2 (ih (p + 1) (p + 11 + zb_r2 B (p + 5)) (p + 11 + zb_r2 B (p + 5)) (gg + 1) (F + 1) _ _ _ _ _ (by omega) f2 (by omega) (zg_I_s hI) (Or.inl ⟨by omega, rfl⟩)) (fun post n k => ?_) (fun post n k => ?_)
              · have e1 : nI p + nI (11 + zb_r2 B (p + 5)) = nI (p + 11 + zb_r2 B (p + 5)) := by
                  rw [nI_add]
                  exact congrArg nI (by omega)
                exact XX post n (xs_k p rfl f2 hL hB f23 (fun _ => br_f (by decide) (nm_r e1 (nm_r (nI_1 p) k))) (fun z => absurd cr z))
              · have e2 : nI p + (11 + nI (zb_r2 B (p + 5))) = nI (p + 11 + zb_r2 B (p + 5)) := by
                  rw [zq_ab11, nI_add]
                  exact congrArg nI (by omega)
                have c : (nI F).toNatClampNeg = F := nI_clamp (by omega)
                have w : vp_in (nI F) 32 := vp_in_nI (by omega) (by omega)
                refine br_f g3 (br_f n1 (br_t a3 (yl_sL p rfl (by omega) hB (fun _ => br_f (by decide) (br_t a5 ?_)) (fun z => absurd eL z))))
                refine yl_2 (p + 5) (nI_add p 5) (by omega) hB (br_t a7 ?_)
                refine yk_i (p + 11) (zb_r2 B (p + 5)) (nI_add p 11) rfl hB (by omega) ?_
                refine yl_4 (p + 7) (nI_add p 7) (by omega) hB (br_t (by rw [cr]) (br_f (nI_ge (b := 32) (by omega) (by decide)) ?_))
                refine yl_b (p + 4) (nI_add p 4) (by omega) ?_
                exact ⟨w, nm_r (e' := upd fn F (nI (B (p + 4)))) (by rw [c]) ⟨w, nm_r (e' := upd fs F (nI (zb_r2 B (p + 5)))) (by rw [c]) ⟨w, nm_r (e' := vp_updL fc F (lN (zb_r4 B (p + 7)))) (by rw [c]) ⟨w, nm_r (e' := upd fo F (nI p)) (by rw [c]) (nm_r (nI_1 F) (nm_r e2 (nm_r (nI_1 gg) k)))⟩⟩⟩⟩
            · refine zs_st (nx2 := nx) (p2 := p + 1) (gg2 := gg + 1) (by omega) h2 (ih (p + 1) nx (p + 1) (gg + 1) F o fn fs fc fo (by omega) (by omega) (by omega) (zg_I_p hI (by omega)) (Or.inr ⟨by omega, rfl⟩)) (fun post n k => ?_) (fun post n k => ?_)
              · exact XX post n (xs_k p rfl f2 hL hB f23 (fun z => absurd z cr) (fun _ => br_t rfl (nm_r (nI_1 p) k)))
              · refine br_f g3 (br_f n1 (br_t a3 (yl_sL p rfl (by omega) hB (fun _ => br_f (by decide) (br_t a5 ?_)) (fun z => absurd eL z))))
                refine yl_2 (p + 5) (nI_add p 5) (by omega) hB (br_t a7 ?_)
                refine yk_i (p + 11) (zb_r2 B (p + 5)) (nI_add p 11) rfl hB (by omega) ?_
                exact yl_4 (p + 7) (nI_add p 7) (by omega) hB (br_f (fun z => cr ((pk_lEQ (by omega) (by omega)).mp z)) (nm_r (nI_1 p) (nm_r (nI_1 gg) k)))
          · have a6 : ¬ nI p + nI (11 + zb_r2 B (p + 5)) ≤ nI L := by
              rw [nI_add]
              exact nI_ge (by omega) (by omega)
            have a7 : ¬ nI p + 11 + nI (zb_r2 B (p + 5)) ≤ nI L := by
              rw [zq_a11, nI_add]
              exact nI_ge (by omega) (by omega)
            exact zs_end hL hIL (by omega) h2 (fun post n k => br_f a1 (br_t a2 (xs_w p rfl (by omega) hL hB (fun z => absurd z eC) (fun z => absurd z eE) (fun _ _ => br_f a6 k) (fun _ z => absurd z (by omega)) (fun _ _ z => absurd eL z))))
              (fun post n k => br_f g3 (br_f n1 (br_t a3 (yl_sL p rfl (by omega) hB (fun _ => br_f (by decide) (br_t a5 (yl_2 (p + 5) (nI_add p 5) (by omega) hB (br_f a7 (fun x3 _ => k x3))))) (fun z => absurd eL z)))))
        · have a5 : ¬ nI p + 11 ≤ nI L := by
            rw [zq_a11]
            exact nI_ge (by omega) (by omega)
          exact zs_end hL hIL (by omega) h2 (fun post n k => br_f a1 (br_t a2 (xs_w p rfl (by omega) hL hB (fun z => absurd z eC) (fun z => absurd z eE) (fun _ z => absurd z (by omega)) (fun _ _ => br_f a5 k) (fun _ _ z => absurd eL z))))
            (fun post n k => br_f g3 (br_f n1 (br_t a3 (yl_sL p rfl (by omega) hB (fun _ => br_f (by decide) (br_f a5 (fun x3 _ => k x3))) (fun z => absurd eL z)))))
      · -- no record
        have a5 : nI p + 1 ≤ nI L := by
          rw [zq_a1]
          exact nI_le (by omega) (by omega)
        have nL : ¬ lN (zb_r4 B p) = 67324752 := fun z => eL ((pk_lEQ (b := 67324752) (by omega) (by decide)).mp z)
        refine zs_st (nx2 := p + 1) (p2 := p + 1) (gg2 := gg + 1) (by omega) h2 (ih (p + 1) (p + 1) (p + 1) (gg + 1) F o fn fs fc fo (by omega) (by omega) (by omega) (zg_I_p hI (by omega)) (Or.inr ⟨by omega, rfl⟩)) (fun post n k => ?_) (fun post n k => ?_)
        · exact br_f a1 (br_t a2 (xs_w p rfl (by omega) hL hB (fun z => absurd z eC) (fun z => absurd z eE) (fun z => absurd z eL) (fun z => absurd z eL) (fun _ _ _ => br_t a5 (xl_4 p rfl (by omega) hL hB (br_f nL (nm_r (nI_1 p) (nm_r (nI_1 p) k)))))))
        · exact br_f g3 (br_f n1 (br_t a3 (yl_sL p rfl (by omega) hB (fun z => absurd z eL) (fun _ => br_t rfl (yl_sC p rfl (by omega) hB (fun z => absurd z eC) (fun _ => br_t rfl (yl_sE p rfl (by omega) hB (fun z => absurd z eE) (fun _ => br_t rfl (nm_r (nI_1 p) (nm_r (nI_1 gg) k))))))))))
    · -- inside a record: X goes on alone
      obtain ⟨F', o', fn', fs', fo', fc', hI', r1, r2⟩ := ih (q + 1) nx p gg F o fn fs fc fo (by omega) h2 h3 hI (by omega)
      refine ⟨F', o', fn', fs', fo', fc', hI', fun post n hn k => ?_, r2⟩
      obtain ⟨n, rfl⟩ : ∃ m, n = m + 1 := ⟨n - 1, by omega⟩
      exact br_f a1 (br_f (nI_ge (by omega) (by omega)) (nm_r (nI_1 q) (r1 post n (by omega) k)))
end ZS
end
section
/-! ===== salvage ===== -/
section ZV
variable {C L P T F : Nat} {B g Z D o : Nat → Nat} {st fn fs fo no : Nat → Int32} {fc : Nat → Int64}
theorem zv_D {p : Nat} (hI : zg_I B p (F + 1) o fn fs fc fo) : fo F + 11 + fs F = nI (zg_D B o (F + 1)) := by
  obtain ⟨_, h2, _, h4, _⟩ := hI.2.2 F (by omega)
  rw [h2, h4, zq_a11, nI_add]
  rfl
theorem xv_e {post : Int32 → Prop} {p : Nat} (hI : zg_I B p F o fn fs fc fo) (hF : F ≤ 23) (k : post (nI (zg_D B o F))) : wpX_endOfLastFound post (nI C, nI L, nI P, nI T, nI F, zb_f B, zb_f g, st, zb_f Z, zb_f D, fn, fs, fc, fo, no) := by
  cases F with
  | zero => exact br_t rfl k
  | succ F =>
    have w : vp_in (nI F) 23 := vp_in_nI (by omega) (by omega)
    have c : (nI F).toNatClampNeg = F := nI_clamp (by omega)
    refine br_f (nI_ne0 (by omega) (by omega)) (nm_r (nI_pred F) ⟨w, w, ?_⟩)
    refine zq_v (P := post) ?_ k
    rw [c]
    exact zv_D hI
theorem xv_15 {post : Int32 → SX → Prop} {p : Nat} (hI : zg_I B p F o fn fs fc fo) (hp : p ≤ 256) (hF : F ≤ 23) (hC : C ≤ 256) (hB : zb_B B)
    (k3 : C < zg_D B o F + 13 * zt_c (zg_T B o F) 256 + 9 → ∀ no', post (-3) (nI C, nI L, nI P, nI T, nI F, zb_f B, zb_f g, st, zb_f Z, zb_f D, fn, fs, fc, fo, no'))
    (k4 : zg_D B o F + 13 * zt_c (zg_T B o F) 256 + 9 ≤ C → ∀ no', post (nI F) (nI C, nI (zg_D B o F + 13 * zt_c (zg_T B o F) 256 + 9), nI P, nI T, nI F, zb_f (zd_f (zg_T B o F) B (zg_D B o F)), zb_f g, st, zb_f Z, zb_f D, fn, fs, fc, fo, no')) :
    ∀ r i n no', i + r = F → r < n → zt_X (zg_T B o i) no' → wX_salvage_15 post (nI (zg_D B o F)) (nI C) (nI L) (nI P) (nI T) (nI F) n (nI i) (zb_f B) (zb_f g) st (zb_f Z) (zb_f D) fn fs fc fo (no') := by
  have hD := hI.2.1
  intro r
  induction r with
  | zero =>
    intro i n no' hi hn h
    obtain ⟨n, rfl⟩ : ∃ m, n = m + 1 := ⟨n - 1, by omega⟩
    have e : i = F := by omega
    rw [e] at h ⊢
    have hc := zk_cnt (zg_T B o F)
    refine br_t (nI_le (Nat.le_refl _) (by omega)) ?_
    refine xc_e (zg_D B o F) rfl h ?_
    refine pk_le (zg_D B o F + 13 * zt_c (zg_T B o F) 256 + 9) C (fun f => ?_) (fun f => k3 f no') rfl rfl (by omega) (by omega)
    exact xl_d h hC hB (zg_Q hI) f (k4 f no')
  | succ r ih =>
    intro i n no' hi hn h
    obtain ⟨n, rfl⟩ : ∃ m, n = m + 1 := ⟨n - 1, by omega⟩
    obtain ⟨h1, h2, h3, h4, h5⟩ := hI.2.2 i (by omega)
    have b := hB (o i + 4)
    have w : vp_in (nI i) 23 := vp_in_nI (by omega) (by omega)
    refine br_f (nI_ge (by omega) (by omega)) ⟨w, w, ?_⟩
    rw [nI_clamp (n := i) (by omega), h1, h4]
    refine ⟨vp_in_nI b (by omega), nm_r (e' := upd no' (B (o i + 4)) (nI (o i))) (by rw [nI_clamp (by omega)]) (nm_r (nI_1 i) (ih (i + 1) n _ (by omega) (by omega) ?_))⟩
    exact zt_X_s h _ _ _ _ (by omega)
end ZV
section ZW
variable {C L P T F : Nat} {B g Z D o : Nat → Nat} {fn fs fo : Nat → Int32} {fc : Nat → Int64}
theorem yv_343 {post : Int32 → SY → Prop} {J : Int32 → Int32 → Int32 → Int32 → Int32 → Int32 → Int32 → (Nat → Int32) → (Nat → Int32) → (Nat → Int32) → (Nat → Int32) → (Nat → Int32) → (Nat → Int32) → (Nat → Int64) → (Nat → Int32) → (Nat → Int32) → (Nat → Int32) → (Nat → Int64) → (Nat → Int32) → Prop} {x3 : Int32} {i m p : Nat} {sn ss so : Nat → Int32} {sc : Nat → Int64} (hB : zb_B B) (hI : zg_I B p F o fn fs fc fo) (hF : F ≤ 23) (hi : i < F) (hm : m < 64)
    (kY : (∃ q, i + 1 ≤ q ∧ q < F ∧ zg_n B o q = zg_n B o i) → J (nI (i + 1)) (nI C) (nI L) (nI P) (nI T) (nI F) (nI m) (zb_f B) (zb_f g) (zb_f Z) (zb_f D) fn fs fc fo sn ss sc so)
    (kN : ¬ (∃ q, i + 1 ≤ q ∧ q < F ∧ zg_n B o q = zg_n B o i) → J (nI (i + 1)) (nI C) (nI L) (nI P) (nI T) (nI F) (nI (m + 1)) (zb_f B) (zb_f g) (zb_f Z) (zb_f D) fn fs fc fo (upd sn m (nI (B (o i + 4)))) (upd ss m (nI (zb_r2 B (o i + 5)))) (vp_updL sc m (lN (zb_r4 B (o i + 7)))) (upd so m (nI (o i)))) :
    ∀ r j n x5, i + 1 ≤ j → j + r = F → r < n → ((x5 = 0 ∧ ¬ ∃ q, i + 1 ≤ q ∧ q < j ∧ zg_n B o q = zg_n B o i) ∨ (x5 = 1 ∧ ∃ q, i + 1 ≤ q ∧ q < j ∧ zg_n B o q = zg_n B o i)) → wY_salvage_343 post J x3 (nI i) (nI C) (nI L) (nI P) (nI T) (nI F) (nI m) (zb_f B) (zb_f g) (zb_f Z) (zb_f D) fn fs fc fo sn ss sc so n x5 (nI j) := by
  obtain ⟨h1, h2, h3, h4, h5⟩ := hI.2.2 i hi
  have c : (nI i).toNatClampNeg = i := nI_clamp (by omega)
  have w : vp_in (nI i) 32 := vp_in_nI (by omega) (by omega)
  have b2 := hB (o i + 4)
  intro r
  induction r with
  | zero =>
    intro j n x5 hij hj hn h
    obtain ⟨n, rfl⟩ : ∃ m, n = m + 1 := ⟨n - 1, by omega⟩
    have e : j = F := by omega
    subst e
    refine br_t (nI_le (Nat.le_refl _) (by omega)) ?_
    rcases h with ⟨a1, a2⟩ | ⟨a1, a2⟩
    · refine br_t a1 ⟨w, w, w, w, ?_⟩
      rw [c, h1, h2, h3, h4]
      exact yl_t m hm (nm_r (nI_1 i) (kN a2))
    · exact br_f (by rw [a1]; decide) (nm_r (nI_1 i) (kY a2))
  | succ r ih =>
    intro j n x5 hij hj hn h
    obtain ⟨n, rfl⟩ : ∃ m, n = m + 1 := ⟨n - 1, by omega⟩
    have b := hB (o j + 4)
    have d1 := (hI.2.2 j (by omega)).1
    refine br_f (nI_ge (by omega) (by omega)) ⟨vp_in_nI (by omega) (by omega), w, ?_⟩
    rw [nI_clamp (n := j) (by omega), c, h1, d1]
    refine pk_eq (B (o j + 4)) (B (o i + 4)) (fun e => nm_r (nI_1 j) (ih (j + 1) n 1 (by omega) (by omega) (by omega) (Or.inr ⟨rfl, j, by omega, by omega, e⟩))) (fun e => nm_r (nI_1 j) (ih (j + 1) n x5 (by omega) (by omega) (by omega) ?_)) rfl rfl (by omega) (by omega)
    rcases h with ⟨a1, a2⟩ | ⟨a1, q, a2, a3, a4⟩
    · refine Or.inl ⟨a1, fun ⟨q, a, b, d⟩ => ?_⟩
      by_cases z : q = j
      · exact e (by rw [z] at d; exact d)
      · exact a2 ⟨q, a, by omega, d⟩
    · exact Or.inr ⟨a1, q, a2, by omega, a4⟩
theorem yv_325 {post : Int32 → SY → Prop} {p : Nat} (hI : zg_I B p F o fn fs fc fo) (hp : p ≤ 256) (hF : F ≤ 23) (hC : C ≤ 256) (hB : zb_B B)
    (k3 : C < zg_D B o F + 13 * zt_c (zg_T B o F) 256 + 9 → ∀ sk sn ss sc so, post (-3) (nI C, nI L, nI P, nI T, nI F, sk, zb_f B, zb_f g, zb_f Z, zb_f D, fn, fs, fc, fo, sn, ss, sc, so))
    (k4 : zg_D B o F + 13 * zt_c (zg_T B o F) 256 + 9 ≤ C → ∀ sk sn ss sc so, post (nI F) (nI C, nI (zg_D B o F + 13 * zt_c (zg_T B o F) 256 + 9), nI P, nI T, nI F, sk, zb_f (zd_f (zg_T B o F) B (zg_D B o F)), zb_f g, zb_f Z, zb_f D, fn, fs, fc, fo, sn, ss, sc, so)) :
    ∀ r i n m sn ss sc so a, i + r = F → r < n → zt_R (zt_l (zg_n B o) (zg_e B o) zt_0 F i) m sn ss sc so a → m ≤ i → wY_salvage_325 post (nI (zg_D B o F)) n (nI i) (nI C) (nI L) (nI P) (nI T) (nI F) (nI m) (zb_f B) (zb_f g) (zb_f Z) (zb_f D) fn fs fc fo sn ss sc so := by
  have hD := hI.2.1
  intro r
  induction r with
  | zero =>
    intro i n m sn ss sc so a hi hn h hm
    obtain ⟨n, rfl⟩ : ∃ m, n = m + 1 := ⟨n - 1, by omega⟩
    have e : i = F := by omega
    rw [e] at h hm ⊢
    rw [zt_l_P] at h
    have hR : zt_R (zg_T B o F) m sn ss sc so a := h
    have em := hR.1
    refine br_t (nI_le (Nat.le_refl _) (by omega)) ?_
    refine pk_le (zg_D B o F + 13 * m + 9) C (fun f => ?_) (fun f => k3 (by omega) _ sn ss sc so) (by rw [zq_m13, nI_add]; exact nI_add _ 9) rfl (by omega) (by omega)
    exact yd (zg_D B o F) rfl hR (fun v z k o' hv => zd_Qb (x := (z, k, o')) hB (zg_Q hI v _ hv) (by omega)) (by omega) (by omega) (k4 (by omega) _ sn ss sc so)
  | succ r ih =>
    intro i n m sn ss sc so a hi hn h hm
    obtain ⟨n, rfl⟩ : ∃ m, n = m + 1 := ⟨n - 1, by omega⟩
    have hf := zt_l_fr (zg_n B o) (zg_e B o) zt_0 F i (by omega)
    refine br_f (nI_ge (by omega) (by omega)) (nm_r (nI_1 i) ?_)
    refine ⟨F + 1, yv_343 hB hI hF (by omega) (by omega) (fun y => ?_) (fun y => ?_) (F - (i + 1)) (i + 1) (F + 1) 0 (by omega) (by omega) (by omega) (Or.inl ⟨rfl, fun ⟨q, a, b, _⟩ => by omega⟩)⟩
    · refine ih (i + 1) n m sn ss sc so a (by omega) (by omega) ?_ (by omega)
      rw [zt_l_sy (zg_n B o) (zg_e B o) zt_0 F i y]
      exact h
    · refine ih (i + 1) n (m + 1) _ _ _ _ (zb_w a m (B (o i + 4))) (by omega) (by omega) ?_ (by omega)
      rw [zt_l_sn (zg_n B o) (zg_e B o) zt_0 F i y]
      exact zt_R_s h _ _ _ _ (hB _) hf
theorem yv_279 {post : Int32 → SY → Prop} {p : Nat} {sk : Int32} {sn ss so : Nat → Int32} {sc : Nat → Int64} (hI : zg_I B p F o fn fs fc fo) (hp : p ≤ 256) (hF : F ≤ 23) (hC : C ≤ 256) (hB : zb_B B)
    (k3 : C < zg_D B o F + 13 * zt_c (zg_T B o F) 256 + 9 → ∀ sk sn ss sc so, post (-3) (nI C, nI L, nI P, nI T, nI F, sk, zb_f B, zb_f g, zb_f Z, zb_f D, fn, fs, fc, fo, sn, ss, sc, so))
    (k4 : zg_D B o F + 13 * zt_c (zg_T B o F) 256 + 9 ≤ C → ∀ sk sn ss sc so, post (nI F) (nI C, nI (zg_D B o F + 13 * zt_c (zg_T B o F) 256 + 9), nI P, nI T, nI F, sk, zb_f (zd_f (zg_T B o F) B (zg_D B o F)), zb_f g, zb_f Z, zb_f D, fn, fs, fc, fo, sn, ss, sc, so)) : wY_salvage_279 post (nI C) (nI L) (nI P) (nI T) (nI F) sk (zb_f B) (zb_f g) (zb_f Z) (zb_f D) fn fs fc fo sn ss sc so := by
  have W := yv_325 (L := L) (P := P) (T := T) (g := g) (Z := Z) (D := D) hI hp hF hC hB k3 k4 F 0 (F + 1) 0 sn ss sc so (fun _ => 0) (by omega) (by omega) (by rw [zt_l_0]; exact zt_R_0 _ _ _ _ _) (Nat.le_refl _)
  cases F with
  | zero => exact br_t rfl ⟨1, W⟩
  | succ F =>
    have e1 : nI (F + 1) - 1 = nI F := nI_pred F
    have w : vp_in (nI (F + 1) - 1) 32 := by
      rw [e1]
      exact vp_in_nI (by omega) (by omega)
    have c : (nI (F + 1) - 1).toNatClampNeg = F := by
      rw [e1]
      exact nI_clamp (by omega)
    exact br_f (nI_ne0 (by omega) (by omega)) ⟨w, w, nm_r (e' := nI (zg_D B o (F + 1))) (by rw [c]; exact zv_D hI) ⟨_, W⟩⟩
end ZW
theorem i_vc_salvage {k : Nat} {u : SX} {v : SY} (I : i_Rel k u v) (hk : k + 3 ≤ 1537) : wpX_salvage (fun r u' => wpY_salvage (fun r' v' => r' = r ∧ i_Rel (k + 3) u' v') v) u := by
  obtain ⟨C, L, P, T, F, B, g, Z, D, st, fn, fs, fo, no, sn, ss, so, fc, sc, sk, rfl, rfl, hC, hLC, hP, hT, hT2, hF, hB, hg, hD, hst⟩ := I
  have hL : L ≤ 256 := by omega
  obtain ⟨F', o', fn', fs', fo', fc', hI, h1, h2⟩ := zs_main (C := C) (P := P) (T := T) (g := g) (Z := Z) (D := D) (st := st) (no := no) (sn := sn) (ss := ss) (so := so) (sc := sc) (sk := sk) hL hB (L + 1) 0 0 0 0 0 (fun _ => 0) fn fs fc fo (by omega) (by omega) (by omega) (zg_I_0 _ _ _ _ _ _) (Or.inr ⟨by omega, rfl⟩)
  have hF' : F' ≤ 23 := by
    have := hI.1
    have := hI.2.1
    omega
  have hDL := hI.2.1
  unfold wpX_salvage
  dsimp only
  refine ⟨L + 2, h1 _ (L + 2) (by omega) ?_⟩
  refine xv_e hI hF' ?_
  refine xl_s (fun no1 n1 => ?_)
  refine ⟨F' + 1, xv_15 hI hL hF' hC hB (fun f no' => ?_) (fun f no' => ?_) F' 0 (F' + 1) no1 (by omega) (by omega) n1⟩
  · refine ⟨L + 2, h2 _ (L + 2) (by omega) ?_⟩
    exact yv_279 hI hL hF' hC hB (fun _ sk sn ss sc so => ⟨rfl, zr_mk ⟨hC, hLC, hP, hT, hT2, hF', hB, hg, hD, hst⟩⟩) (fun z => absurd z (by omega))
  · refine ⟨L + 2, h2 _ (L + 2) (by omega) ?_⟩
    exact yv_279 hI hL hF' hC hB (fun z => absurd z (by omega)) (fun _ sk sn ss sc so => ⟨rfl, zr_mk ⟨hC, f, hP, hT, hT2, hF', zd_f_B _ hB _, hg, hD, hst⟩⟩)
end
section
/-! ===== the start ===== -/
theorem zi_0 : zb_B (fun _ => 0) := fun _ => (by decide : (0 : Nat) < 256)
theorem zi_img : zb_f (zd_f zt_0 (fun _ => 0) 0) = upd (upd (upd (upd (fun _ => 0) 0 80) 1 75) 2 5) 3 6 := by
  funext j
  have e : zd_f zt_0 (fun _ => 0) 0 = zd_e (fun _ => 0) 0 0 0 := by
    unfold zd_f
    rw [zd_l_0, zt_c_0]
  rw [e]
  rcases Nat.lt_or_ge j 9 with h | h
  · exact (by decide +kernel : ∀ j, j < 9 → zb_f (zd_e (fun _ => 0) 0 0 0) j = upd (upd (upd (upd (fun _ => 0) 0 80) 1 75) 2 5) 3 6 j) j h
  · rw [pk_un (by omega), pk_un (by omega), pk_un (by omega), pk_un (by omega)]
    show nI (zd_e (fun _ => 0) 0 0 0 j) = 0
    unfold zd_e
    rw [zb_n_out _ _ _ _ _ (by omega), zb_n_out _ _ _ _ _ (by omega), zb_n_out _ _ _ _ _ (by omega), zb_n_out _ _ _ _ _ (by omega)]
    rfl
theorem zi_x {post : SX → Prop} {c : Int32} (C : Nat) (hc : c = nI C) (h9 : 9 ≤ C) (hC : C ≤ 256) (k : ∀ no, post (nI C, nI 9, nI 0, nI 0, nI 0, zb_f (zd_f zt_0 (fun _ => 0) 0), zb_f (fun _ => 0), (fun _ => 0), zb_f (fun _ => 0), zb_f (fun _ => 0), (fun _ => 0), (fun _ => 0), (fun _ => 0), (fun _ => 0), no)) : wX_init_124 post c 0 0 0 0 (fun _ => 0) (fun _ => 0) (fun _ => 0) (fun _ => 0) (fun _ => 0) (fun _ => 0) (fun _ => 0) (fun _ => 0) (fun _ => 0) (fun _ => 0) := by
  subst hc
  have z0 : zt_c zt_0 256 = 0 := zt_c_0 256
  have H : ∀ no, zt_X zt_0 no → wpX_appendNewDirectory post (nI C, nI 0, nI 0, nI 0, nI 0, zb_f (fun _ => 0), zb_f (fun _ => 0), (fun _ => 0), zb_f (fun _ => 0), zb_f (fun _ => 0), (fun _ => 0), (fun _ => 0), (fun _ => 0), (fun _ => 0), no) := fun no n => by
    refine xl_d n hC zi_0 (fun v x hx => nomatch (show (none : Option (Nat × Nat × Nat)) = some x from hx)) (by omega) ?_
    rw [z0]
    exact k no
  exact xl_s (C := C) (L := 0) (P := 0) (T := 0) (F := 0) (B := fun _ => 0) (g := fun _ => 0) (Z := fun _ => 0) (D := fun _ => 0) (fun no n => H no n)
theorem i_vc0 (k0 : Int32) : wpX_init (fun u => wpY_init (fun v => i_Rel 1 u v) k0) k0 := by
  have R : ∀ (C : Nat) no, 9 ≤ C → C ≤ 256 → i_Rel 1 (nI C, nI 9, nI 0, nI 0, nI 0, zb_f (zd_f zt_0 (fun _ => 0) 0), zb_f (fun _ => 0), (fun _ => 0), zb_f (fun _ => 0), zb_f (fun _ => 0), (fun _ => 0), (fun _ => 0), (fun _ => 0), (fun _ => 0), no) (nI C, nI 9, nI 0, nI 0, nI 0, 0, zb_f (zd_f zt_0 (fun _ => 0) 0), zb_f (fun _ => 0), zb_f (fun _ => 0), zb_f (fun _ => 0), (fun _ => 0), (fun _ => 0), (fun _ => 0), (fun _ => 0), (fun _ => 0), (fun _ => 0), (fun _ => 0), (fun _ => 0)) := fun C no h9 hC =>
    zr_mk ⟨hC, h9, by omega, rfl, by omega, by omega, zd_f_B _ zi_0 0, zi_0, zi_0, fun i hi => by omega⟩
  rw [zi_img] at R
  by_cases h1 : 64 ≤ k0
  · by_cases h2 : k0 ≤ 256
    · obtain ⟨C, hC, rfl⟩ := nI_of (x := k0) (fun z => by
        have := Int32.lt_of_le_of_lt h1 z
        exact absurd this (by decide))
      have g1 : 64 ≤ C := (nI_leI (a := 64) (by decide) hC).mp h1
      have g2 : C ≤ 256 := (nI_leI (b := 256) hC (by decide)).mp h2
      refine br_t h1 (br_t h2 (zi_x C rfl (by omega) g2 (fun no => ?_)))
      rw [zi_img]
      exact br_t h1 (br_t h2 (nm_e (nm_e (nm_e (nm_e (R C no (by omega) g2))))))
    · refine br_t h1 (br_f h2 (zi_x 256 rfl (by omega) (by omega) (fun no => ?_)))
      rw [zi_img]
      exact br_t h1 (br_f h2 (nm_e (nm_e (nm_e (nm_e (R 256 no (by omega) (by omega)))))))
  · refine br_f h1 (zi_x 64 rfl (by omega) (by omega) (fun no => ?_))
    rw [zi_img]
    exact br_f h1 (nm_e (nm_e (nm_e (nm_e (R 64 no (by omega) (by omega))))))
end
