theorem pk_us {f : Nat → Int32} {k : Nat} {x : Int32} : upd f k x k = x := if_pos rfl
theorem pk_un {f : Nat → Int32} {k j : Nat} {x : Int32} (h : j ≠ k) : upd f k x j = f j := if_neg h
theorem pk_uLs {f : Nat → Int64} {k : Nat} {x : Int64} : vp_updL f k x k = x := if_pos rfl
theorem pk_uLn {f : Nat → Int64} {k j : Nat} {x : Int64} (h : j ≠ k) : vp_updL f k x j = f j := if_neg h
theorem pk_sub {a b : Nat} (h : b ≤ a) : nI a - nI b = nI (a - b) := by
  obtain ⟨c, rfl⟩ : ∃ c, a = c + b := ⟨a - b, by omega⟩
  rw [← nI_add, Int32.add_sub_cancel, Nat.add_sub_cancel]
theorem pk_m1 (n : Nat) : nI (n + 1) + (-1) = nI n := by
  rw [← nI_1, Int32.add_assoc, show (1 : Int32) + (-1) = 0 from rfl, Int32.add_zero]
theorem pk_mul (a b : Nat) : nI a * nI b = nI (a * b) := (Int32.ofNat_mul a b).symm
theorem pk_sub_toInt {a b : Nat} (ha : a < 2 ^ 30) (hb : b < 2 ^ 30) : (nI a - nI b).toInt = (a : Int) - b := by
  rw [Int32.toInt_sub, nI_toInt (by omega), nI_toInt (by omega)]
  exact Int.bmod_eq_of_le (by omega) (by omega)
theorem pk_sneg {a b : Nat} (hb : b < 2 ^ 30) (h : a < b) : nI a - nI b < 0 := by
  rw [Int32.lt_iff_toInt_lt, pk_sub_toInt (by omega) hb, show (0 : Int32).toInt = 0 from by decide]
  omega
theorem pk_ix (x : Int32) {n : Nat} (hn : n < 2 ^ 31) : x < 0 ∨ nI n ≤ x ∨ ∃ j : Nat, j < n ∧ x = nI j := by
  by_cases h : x < 0
  · exact Or.inl h
  · obtain ⟨j, hj, rfl⟩ := nI_of h
    by_cases h2 : j < n
    · exact Or.inr (Or.inr ⟨j, h2, rfl⟩)
    · exact Or.inr (Or.inl (nI_le (by omega) hj))
theorem pk_le {x y : Int32} {A B : Prop} (a b : Nat) (f : a ≤ b → A) (g : b < a → B) (hx : x = nI a := by rfl) (hy : y = nI b := by rfl) (ha : a < 2 ^ 31 := by omega) (hb : b < 2 ^ 31 := by omega) : (x ≤ y → A) ∧ (¬ x ≤ y → B) := by
  subst hx hy
  rw [nI_leI ha hb]
  exact ⟨f, fun z => g (by omega)⟩
theorem pk_lt {x y : Int32} {A B : Prop} (a b : Nat) (f : a < b → A) (g : b ≤ a → B) (hx : x = nI a := by rfl) (hy : y = nI b := by rfl) (ha : a < 2 ^ 31 := by omega) (hb : b < 2 ^ 31 := by omega) : (x < y → A) ∧ (¬ x < y → B) := by
  subst hx hy
  rw [nI_ltI ha hb]
  exact ⟨f, fun z => g (by omega)⟩
theorem pk_eq {x y : Int32} {A B : Prop} (a b : Nat) (f : a = b → A) (g : a ≠ b → B) (hx : x = nI a := by rfl) (hy : y = nI b := by rfl) (ha : a < 2 ^ 31 := by omega) (hb : b < 2 ^ 31 := by omega) : (x = y → A) ∧ (¬ x = y → B) := by
  subst hx hy
  rw [nI_eq ha hb]
  exact ⟨f, g⟩
theorem pk_in {x : Int32} (n N : Nat) (h : n < N) (hx : x = nI n := by rfl) (hN : N < 2 ^ 31 := by omega) : vp_in x N := by
  subst hx
  exact vp_in_nI h hN
theorem pk_cl {x : Int32} (n : Nat) (hx : x = nI n := by rfl) (h : n < 2 ^ 31 := by omega) : x.toNatClampNeg = n := by
  subst hx
  exact nI_clamp h
theorem pk_tn {n : Nat} (h : n < 2 ^ 32) : (nI n).toBitVec.toNat = n := Nat.mod_eq_of_lt h
theorem pk_and (x : Int32) {m : Int32} (k : Nat) (hm : m.toBitVec.toNat = 2 ^ k - 1) : x &&& m = nI (x.toBitVec.toNat % 2 ^ k) := by
  apply Int32.toBitVec_inj.mp
  apply BitVec.eq_of_toNat_eq
  rw [Int32.toBitVec_and, BitVec.toNat_and, hm, Nat.and_two_pow_sub_one_eq_mod]
  show _ = (BitVec.ofNat 32 _).toNat
  rw [BitVec.toNat_ofNat]
  exact (Nat.mod_eq_of_lt (Nat.lt_of_le_of_lt (Nat.mod_le _ _) x.toBitVec.isLt)).symm
theorem pk_andN {n : Nat} (h : n < 2 ^ 32) {m : Int32} (k : Nat) (hm : m.toBitVec.toNat = 2 ^ k - 1) : nI n &&& m = nI (n % 2 ^ k) := by
  rw [pk_and _ k hm, pk_tn h]
theorem pk_shl (a s : Int32) (k : Nat) (hs : (s.toBitVec.smod 32).toNat = k) : (a <<< s).toBitVec.toNat = a.toBitVec.toNat * 2 ^ k % 2 ^ 32 := by
  show (a.toBitVec <<< (s.toBitVec.smod 32).toNat).toNat = _
  rw [hs, BitVec.toNat_shiftLeft, Nat.shiftLeft_eq]
theorem pk_shlN {n : Nat} (s : Int32) (k : Nat) (hs : (s.toBitVec.smod 32).toNat = k) (h : n * 2 ^ k < 2 ^ 32) : nI n <<< s = nI (n * 2 ^ k) := by
  apply Int32.toBitVec_inj.mp
  apply BitVec.eq_of_toNat_eq
  have hn : n < 2 ^ 32 := Nat.lt_of_le_of_lt (Nat.le_mul_of_pos_right n (Nat.two_pow_pos k)) h
  rw [pk_shl _ _ k hs, pk_tn hn, pk_tn h, Nat.mod_eq_of_lt h]
theorem pk_ushr (x s : Int32) (k : Nat) (hs : ((s.toUInt32 &&& Int32.toUInt32 31).toBitVec % 32).toNat = k) : (x.toUInt32 >>> (s.toUInt32 &&& Int32.toUInt32 31)).toInt32.toBitVec.toNat = x.toBitVec.toNat / 2 ^ k := by
  have e : (x.toUInt32 >>> (s.toUInt32 &&& Int32.toUInt32 31)).toInt32.toBitVec = x.toBitVec >>> k := by
    rw [← hs]
    exact UInt32.toBitVec_shiftRight _ _
  rw [e, BitVec.toNat_ushiftRight, Nat.shiftRight_eq_div_pow]
theorem pk_ushrN {n : Nat} (hn : n < 2 ^ 32) (s : Int32) (k : Nat) (hs : ((s.toUInt32 &&& Int32.toUInt32 31).toBitVec % 32).toNat = k) : ((nI n).toUInt32 >>> (s.toUInt32 &&& Int32.toUInt32 31)).toInt32 = nI (n / 2 ^ k) := by
  apply Int32.toBitVec_inj.mp
  apply BitVec.eq_of_toNat_eq
  rw [pk_ushr _ s k hs, pk_tn hn, pk_tn (Nat.lt_of_le_of_lt (Nat.div_le_self _ _) hn)]
theorem pk_lT {n : Nat} (h : n < 2 ^ 63) : (lN n).toInt = (n : Int) := lg_ofNat_toInt h
theorem pk_lLT {a b : Nat} (ha : a < 2 ^ 63) (hb : b < 2 ^ 63) : lN a < lN b ↔ a < b := by
  rw [Int64.lt_iff_toInt_lt, pk_lT ha, pk_lT hb]; omega
theorem pk_lLE {a b : Nat} (ha : a < 2 ^ 63) (hb : b < 2 ^ 63) : lN a ≤ lN b ↔ a ≤ b := by
  rw [Int64.le_iff_toInt_le, pk_lT ha, pk_lT hb]; omega
theorem pk_lEQ {a b : Nat} (ha : a < 2 ^ 63) (hb : b < 2 ^ 63) : lN a = lN b ↔ a = b := by
  rw [← Int64.toInt_inj, pk_lT ha, pk_lT hb]; omega
theorem nx_xor (a b : Nat) : nI a ^^^ nI b = nI (a ^^^ b) := by
  apply Int32.toBitVec_inj.1
  show BitVec.ofNat 32 a ^^^ BitVec.ofNat 32 b = BitVec.ofNat 32 (a ^^^ b)
  apply BitVec.eq_of_getLsbD_eq
  intro i hi
  simp [hi]
theorem wb_tb (n : Nat) : (lN n).toBitVec = BitVec.ofNat 64 n := rfl
theorem wb_inj {a b : Int64} (h : a.toBitVec = b.toBitVec) : a = b := Int64.toBitVec_inj.mp h
theorem wb_tn {n : Nat} (h : n < 2 ^ 64) : (lN n).toBitVec.toNat = n := by rw [wb_tb, BitVec.toNat_ofNat, Nat.mod_eq_of_lt h]
theorem wb_c : ∀ k, k < 64 → ((nI k).toInt64 &&& 63) = lN k := by decide +kernel
theorem wb_cu : ∀ k, k < 64 → ((nI k).toInt64.toUInt64 &&& Int64.toUInt64 63) = UInt64.ofNat k := by decide +kernel
theorem wb_sm : ∀ k, k < 64 → (BitVec.ofNat 64 k).smod 64 = BitVec.ofNat 64 k := by decide +kernel
theorem wb_lt2 {a b : Nat} (h : a < b) : 2 ^ a < 2 ^ b := Nat.pow_lt_pow_right (by decide) h
theorem wb_shr {n k : Nat} (hn : n < 2 ^ 64) (hk : k < 64) : ((lN n).toUInt64 >>> ((nI k).toInt64.toUInt64 &&& Int64.toUInt64 63)).toInt64 = lN (n / 2 ^ k) := by
  rw [wb_cu k hk]
  apply wb_inj
  apply BitVec.eq_of_toNat_eq
  show ((lN n).toUInt64 >>> UInt64.ofNat k).toNat = (BitVec.ofNat 64 _).toNat
  have h1 : (UInt64.ofNat k).toNat = k := by
    show (BitVec.ofNat 64 k).toNat = k
    rw [BitVec.toNat_ofNat, Nat.mod_eq_of_lt (by omega)]
  have h2 : (lN n).toUInt64.toNat = n := wb_tn hn
  rw [UInt64.toNat_shiftRight, h1, h2, Nat.mod_eq_of_lt hk, Nat.shiftRight_eq_div_pow, BitVec.toNat_ofNat, Nat.mod_eq_of_lt (Nat.lt_of_le_of_lt (Nat.div_le_self _ _) hn)]
theorem wb_shl (n : Nat) {k : Nat} (hk : k < 64) : lN n <<< ((nI k).toInt64 &&& 63) = lN (n * 2 ^ k) := by
  rw [wb_c k hk]
  apply wb_inj
  rw [Int64.toBitVec_shiftLeft, wb_tb, wb_tb, wb_tb, wb_sm k hk]
  apply BitVec.eq_of_toNat_eq
  rw [BitVec.shiftLeft_eq', BitVec.toNat_shiftLeft, BitVec.toNat_ofNat, BitVec.toNat_ofNat, BitVec.toNat_ofNat, Nat.mod_eq_of_lt (show k < 2 ^ 64 by omega), Nat.shiftLeft_eq, Nat.mul_mod, Nat.mod_mod, ← Nat.mul_mod]
theorem wb_and {a b : Nat} (ha : a < 2 ^ 64) (hb : b < 2 ^ 64) : lN a &&& lN b = lN (a &&& b) := by
  apply wb_inj
  rw [Int64.toBitVec_and, wb_tb, wb_tb, wb_tb]
  apply BitVec.eq_of_toNat_eq
  rw [BitVec.toNat_and, BitVec.toNat_ofNat, BitVec.toNat_ofNat, BitVec.toNat_ofNat, Nat.mod_eq_of_lt ha, Nat.mod_eq_of_lt hb, Nat.mod_eq_of_lt (Nat.and_lt_two_pow _ hb)]
theorem wb_mask {n k : Nat} (hn : n < 2 ^ 64) (hk : k < 64) : lN n &&& lN (2 ^ k - 1) = lN (n % 2 ^ k) := by
  rw [wb_and hn (by have := wb_lt2 hk; omega), Nat.and_two_pow_sub_one_eq_mod]
theorem wb_a1 {n : Nat} (hn : n < 2 ^ 64) : lN n &&& 1 = lN (n % 2) := wb_mask (k := 1) hn (by decide)
theorem u_tn {n : Nat} (h : n < 2 ^ 64) : (UInt64.ofNat n).toNat = n := Nat.mod_eq_of_lt h
theorem g_or {k p a b : Nat} (hp : 2 ^ k = p) (ha : a < p) (h : b * p + a < 2 ^ 64) : lN (b * p) ||| lN a = lN (b * p + a) := by
  subst hp
  have h1 : b * 2 ^ k ||| a = b * 2 ^ k + a := by rw [← Nat.shiftLeft_eq, Nat.shiftLeft_add_eq_or_of_lt ha]
  have h3 : UInt64.ofNat (b * 2 ^ k) ||| UInt64.ofNat a = UInt64.ofNat (b * 2 ^ k + a) := UInt64.toNat_inj.mp (by rw [UInt64.toNat_or, u_tn (by omega), u_tn (by omega), u_tn h, h1])
  have h2 := congrArg UInt64.toInt64 h3
  exact h2
theorem g_or' {k p a b : Nat} (hp : 2 ^ k = p) (ha : a < p) (h : a + b * p < 2 ^ 64) : lN a ||| lN (b * p) = lN (a + b * p) := by
  rw [Int64.or_comm, g_or hp ha (by omega), Nat.add_comm]
theorem lN_bv (n : Nat) : (lN n).toBitVec = BitVec.ofNat 64 n := rfl
theorem lN_xor (a b : Nat) : lN a ^^^ lN b = lN (a ^^^ b) := by
  apply Int64.toBitVec_inj.mp; rw [Int64.toBitVec_xor, lN_bv, lN_bv, lN_bv]; apply BitVec.eq_of_getLsbD_eq; intro i hi; simp [BitVec.getLsbD_ofNat, Nat.testBit_xor, hi]
/-! ===== own: bytes and numbers ===== -/
def zb_f (B : Nat → Nat) : Nat → Int32 := fun j => nI (B j)
def zb_w (B : Nat → Nat) (p x : Nat) : Nat → Nat := fun j => if j = p then x else B j
def zb_n (B : Nat → Nat) (p n : Nat) : Nat → (Nat → Nat)
  | 0 => B
  | w + 1 => zb_w (zb_n B p n w) (p + w) (n / 2 ^ (8 * w) % 256)
def zb_r2 (B : Nat → Nat) (p : Nat) : Nat := B p + B (p + 1) * 256
def zb_r4 (B : Nat → Nat) (p : Nat) : Nat := B p + B (p + 1) * 256 + B (p + 2) * 65536 + B (p + 3) * 16777216
def zb_B (B : Nat → Nat) : Prop := ∀ j, B j < 256
theorem zb_ws {B : Nat → Nat} {p x : Nat} : zb_w B p x p = x := if_pos rfl
theorem zb_wn {B : Nat → Nat} {p x j : Nat} (h : j ≠ p) : zb_w B p x j = B j := if_neg h
theorem zb_upd (B : Nat → Nat) (p x : Nat) : upd (zb_f B) p (nI x) = zb_f (zb_w B p x) := by
  funext j
  by_cases h : j = p
  · subst h
    rw [pk_us]
    exact (congrArg nI zb_ws).symm
  · rw [pk_un h]
    exact (congrArg nI (zb_wn h)).symm
theorem zb_wB {B : Nat → Nat} (h : zb_B B) {p x : Nat} (hx : x < 256) : zb_B (zb_w B p x) := by
  intro j
  by_cases e : j = p
  · rw [e, zb_ws]; exact hx
  · rw [zb_wn e]; exact h j
theorem zb_n_out (B : Nat → Nat) (p n j w : Nat) (h : j < p ∨ p + w ≤ j) : zb_n B p n w j = B j := by
  induction w with
  | zero => rfl
  | succ w ih =>
    show zb_w (zb_n B p n w) (p + w) (n / 2 ^ (8 * w) % 256) j = B j
    rw [zb_wn (by omega), ih (by omega)]
theorem zb_n_at (B : Nat → Nat) (p n i w : Nat) (h : i < w) : zb_n B p n w (p + i) = n / 2 ^ (8 * i) % 256 := by
  induction w with
  | zero => omega
  | succ w ih =>
    show zb_w (zb_n B p n w) (p + w) (n / 2 ^ (8 * w) % 256) (p + i) = _
    by_cases e : i = w
    · rw [e]; exact zb_ws
    · rw [zb_wn (by omega), ih (by omega)]
theorem zb_n_B {B : Nat → Nat} (h : zb_B B) (p n w : Nat) : zb_B (zb_n B p n w) := by
  induction w with
  | zero => exact h
  | succ w ih => exact zb_wB ih (Nat.mod_lt _ (by decide))
theorem zb_at0 (B : Nat → Nat) (p n w : Nat) (h : 0 < w) : zb_n B p n w p = n % 256 :=
  (zb_n_at B p n 0 w h).trans (by rw [show 2 ^ (8 * 0) = 1 from rfl, Nat.div_one])
theorem zb_at1 (B : Nat → Nat) (p n w : Nat) (h : 1 < w) : zb_n B p n w (p + 1) = n / 256 % 256 := zb_n_at B p n 1 w h
theorem zb_at2 (B : Nat → Nat) (p n w : Nat) (h : 2 < w) : zb_n B p n w (p + 2) = n / 65536 % 256 := zb_n_at B p n 2 w h
theorem zb_at3 (B : Nat → Nat) (p n w : Nat) (h : 3 < w) : zb_n B p n w (p + 3) = n / 16777216 % 256 := zb_n_at B p n 3 w h
theorem zb_r2_n (B : Nat → Nat) (p n : Nat) (h : n < 65536) : zb_r2 (zb_n B p n 2) p = n := by
  unfold zb_r2
  rw [zb_at0 _ _ _ _ (by decide), zb_at1 _ _ _ _ (by decide)]
  omega
theorem zb_r4_n (B : Nat → Nat) (p n : Nat) (h : n < 4294967296) : zb_r4 (zb_n B p n 4) p = n := by
  unfold zb_r4
  rw [zb_at0 _ _ _ _ (by decide), zb_at1 _ _ _ _ (by decide), zb_at2 _ _ _ _ (by decide), zb_at3 _ _ _ _ (by decide)]
  omega
theorem zb_r2_c {A B : Nat → Nat} {p : Nat} (h : ∀ j, p ≤ j → j < p + 2 → A j = B j) : zb_r2 A p = zb_r2 B p := by
  unfold zb_r2
  rw [h p (by omega) (by omega), h (p + 1) (by omega) (by omega)]
theorem zb_r4_c {A B : Nat → Nat} {p : Nat} (h : ∀ j, p ≤ j → j < p + 4 → A j = B j) : zb_r4 A p = zb_r4 B p := by
  unfold zb_r4
  rw [h p (by omega) (by omega), h (p + 1) (by omega) (by omega), h (p + 2) (by omega) (by omega), h (p + 3) (by omega) (by omega)]
theorem zb_r2_lt {B : Nat → Nat} (h : zb_B B) (p : Nat) : zb_r2 B p < 65536 := by
  have a := h p
  have b := h (p + 1)
  unfold zb_r2
  omega
theorem zb_r4_lt {B : Nat → Nat} (h : zb_B B) (p : Nat) : zb_r4 B p < 4294967296 := by
  have a := h p
  have b := h (p + 1)
  have c := h (p + 2)
  have d := h (p + 3)
  unfold zb_r4
  omega
theorem zb_sig {B : Nat → Nat} (h : zb_B B) (p x y : Nat) (hx : x < 256) (hy : y < 256) : zb_r4 B p = 80 + 75 * 256 + x * 65536 + y * 16777216 ↔ (B p = 80 ∧ B (p + 1) = 75 ∧ B (p + 2) = x ∧ B (p + 3) = y) := by
  have a := h p
  have b := h (p + 1)
  have c := h (p + 2)
  have d := h (p + 3)
  unfold zb_r4
  omega
theorem zb_sL {B : Nat → Nat} (h : zb_B B) (p : Nat) : zb_r4 B p = 67324752 ↔ (B p = 80 ∧ B (p + 1) = 75 ∧ B (p + 2) = 3 ∧ B (p + 3) = 4) := zb_sig h p 3 4 (by decide) (by decide)
theorem zb_sC {B : Nat → Nat} (h : zb_B B) (p : Nat) : zb_r4 B p = 33639248 ↔ (B p = 80 ∧ B (p + 1) = 75 ∧ B (p + 2) = 1 ∧ B (p + 3) = 2) := zb_sig h p 1 2 (by decide) (by decide)
theorem zb_sE {B : Nat → Nat} (h : zb_B B) (p : Nat) : zb_r4 B p = 101010256 ↔ (B p = 80 ∧ B (p + 1) = 75 ∧ B (p + 2) = 5 ∧ B (p + 3) = 6) := zb_sig h p 5 6 (by decide) (by decide)
/-! ===== numbers of the two words ===== -/
theorem zn_or (a b : Nat) : nI a ||| nI b = nI (a ||| b) := by
  apply Int32.toBitVec_inj.1
  show BitVec.ofNat 32 a ||| BitVec.ofNat 32 b = BitVec.ofNat 32 (a ||| b)
  apply BitVec.eq_of_getLsbD_eq
  intro i hi
  simp [hi]
theorem zn_or8 {a b : Nat} (ha : a < 256) : a ||| b * 256 = a + b * 256 := by
  have h1 : b * 2 ^ 8 ||| a = b * 2 ^ 8 + a := by rw [← Nat.shiftLeft_eq, Nat.shiftLeft_add_eq_or_of_lt (show a < 2 ^ 8 from ha)]
  have h2 : b * 256 ||| a = b * 256 + a := h1
  rw [Nat.or_comm, h2, Nat.add_comm]
theorem zn_s8 {b : Nat} (hb : b < 256) : nI b <<< ((8 : Int32) &&& 31) = nI (b * 256) := pk_shlN _ 8 (by decide) (by omega)
/-- the reference's u16 -/
theorem zn_y2 {a b : Nat} (ha : a < 256) (hb : b < 256) : nI a ||| (nI b <<< ((8 : Int32) &&& 31)) = nI (a + b * 256) := by
  rw [zn_s8 hb, zn_or, zn_or8 ha]
/-- the component's u16 -/
theorem zn_x2 {a b : Nat} (hb : b < 256) : nI a + (nI b <<< ((8 : Int32) &&& 31)) = nI (a + b * 256) := by
  rw [zn_s8 hb, nI_add]
theorem zn_l8 (b : Nat) : lN b <<< ((8 : Int32).toInt64 &&& 63) = lN (b * 256) := wb_shl b (k := 8) (by decide)
theorem zn_l16 (b : Nat) : lN b <<< ((16 : Int32).toInt64 &&& 63) = lN (b * 65536) := wb_shl b (k := 16) (by decide)
theorem zn_l24 (b : Nat) : lN b <<< ((24 : Int32).toInt64 &&& 63) = lN (b * 16777216) := wb_shl b (k := 24) (by decide)
/-- the reference's u32 -/
theorem zn_y4 {a b c d : Nat} (ha : a < 256) (hb : b < 256) (hc : c < 256) (hd : d < 256) : lN a ||| (lN b <<< ((8 : Int32).toInt64 &&& 63)) ||| (lN c <<< ((16 : Int32).toInt64 &&& 63)) ||| (lN d <<< ((24 : Int32).toInt64 &&& 63)) = lN (a + b * 256 + c * 65536 + d * 16777216) := by
  rw [zn_l8, zn_l16, zn_l24, g_or' (k := 8) (p := 256) (by decide) ha (by omega), g_or' (k := 16) (p := 65536) (by decide) (by omega) (by omega), g_or' (k := 24) (p := 16777216) (by decide) (by omega) (by omega)]
/-- the component's u32 -/
theorem zn_x4 {a b c d : Nat} (ha : a < 256) (hb : b < 256) (hc : c < 256) (hd : d < 256) : (nI (a + b * 256)).toInt64 + ((nI (c + d * 256)).toInt64 <<< ((16 : Int32).toInt64 &&& 63)) = lN (a + b * 256 + c * 65536 + d * 16777216) := by
  rw [nI_l (by omega), nI_l (by omega), zn_l16, lN_add]
  exact congrArg lN (by omega)
theorem zn_255 {n : Nat} (h : n < 2 ^ 32) : nI n &&& 255 = nI (n % 256) := pk_andN h 8 (by decide)
/-- the component's byte in append -/
theorem zn_byte {n : Nat} (h : n < 4294967296) (k : Nat) (hk : k < 4) : ((lN n).toUInt64 >>> (((8 : Int32) * nI k).toInt64.toUInt64 &&& Int64.toUInt64 63)).toInt64.toInt32 &&& 255 = nI (n / 2 ^ (8 * k) % 256) := by
  have e : (8 : Int32) * nI k = nI (8 * k) := pk_mul 8 k
  rw [e, wb_shr (by omega) (by omega), lN_i]
  exact zn_255 (Nat.lt_of_le_of_lt (Nat.div_le_self _ _) h)
theorem zn_long {m : Nat} (h : m < 2 ^ 32) : (nI m).toInt64 &&& 4294967295 = lN m := by
  apply Int64.toBitVec_inj.mp
  rw [Int64.toBitVec_and, Int32.toBitVec_toInt64]
  apply BitVec.eq_of_getLsbD_eq
  intro i hi
  rw [BitVec.getLsbD_and, BitVec.getLsbD_signExtend]
  have e : (lN m).toBitVec.getLsbD i = m.testBit i := by
    show (BitVec.ofNat 64 m).getLsbD i = _
    rw [BitVec.getLsbD_ofNat, decide_eq_true hi, Bool.true_and]
  have hm : ∀ i, i < 64 → (4294967295 : Int64).toBitVec.getLsbD i = decide (i < 32) := by decide +kernel
  rw [e, hm i hi]
  rcases Nat.lt_or_ge i 32 with z | z
  · have e2 : (nI m).toBitVec.getLsbD i = m.testBit i := by
      show (BitVec.ofNat 32 m).getLsbD i = _
      rw [BitVec.getLsbD_ofNat, decide_eq_true z, Bool.true_and]
    rw [if_pos z, e2]
    simp [z, hi]
  · have t : m.testBit i = false := Nat.testBit_lt_two_pow (Nat.lt_of_lt_of_le h (Nat.pow_le_pow_right (by decide) z))
    rw [t]
    simp [Nat.not_lt.mpr z]
theorem zn_m1 (n : Nat) (h : n < 2 ^ 31) : ¬ nI n = -1 := by
  intro e
  have a := nI_toInt h
  rw [e, show (-1 : Int32).toInt = -1 from by decide] at a
  omega
theorem zn_0le {n : Nat} (h : n < 2 ^ 31) : ¬ nI n < 0 := nI_pos h
/-! ===== the checksum ===== -/
def zk_b (c : Nat) : Nat := if c % 2 = 1 then c / 2 ^^^ 3988292384 else c / 2
def zk_8 (c : Nat) : Nat → Nat
  | 0 => c
  | i + 1 => zk_b (zk_8 c i)
def zk_K (B : Nat → Nat) (s : Nat) : Nat → Nat
  | 0 => 4294967295
  | i + 1 => zk_8 (zk_K B s i ^^^ B (s + i)) 8
def zk_F (B : Nat → Nat) (s n : Nat) : Nat := zk_K B s n ^^^ 4294967295
theorem zk_b_lt {c : Nat} (h : c < 2 ^ 32) : zk_b c < 2 ^ 32 := by
  unfold zk_b
  split
  · exact Nat.xor_lt_two_pow (by omega) (by decide)
  · omega
theorem zk_8_lt {c : Nat} (h : c < 2 ^ 32) (i : Nat) : zk_8 c i < 2 ^ 32 := by
  induction i with
  | zero => exact h
  | succ i ih => exact zk_b_lt ih
theorem zk_x_lt {B : Nat → Nat} (hB : zb_B B) {c : Nat} (h : c < 2 ^ 32) (j : Nat) : c ^^^ B j < 2 ^ 32 :=
  Nat.xor_lt_two_pow h (Nat.lt_trans (hB j) (by decide))
theorem zk_K_lt {B : Nat → Nat} (hB : zb_B B) (s i : Nat) : zk_K B s i < 2 ^ 32 := by
  induction i with
  | zero =>
    show (4294967295 : Nat) < 2 ^ 32
    decide
  | succ i ih => exact zk_8_lt (zk_x_lt hB ih _) 8
theorem zk_F_lt {B : Nat → Nat} (hB : zb_B B) (s n : Nat) : zk_F B s n < 4294967296 :=
  Nat.xor_lt_two_pow (n := 32) (zk_K_lt hB s n) (by decide)
