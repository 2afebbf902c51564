/-! ===== sums of sizes ===== -/
def zs_m (Z : Nat → Nat) : Nat → Nat
  | 0 => 0
  | k + 1 => zs_m Z k + Z k
theorem zs_le (Z : Nat → Nat) {j k : Nat} (h : j ≤ k) : zs_m Z j ≤ zs_m Z k := by
  induction k with
  | zero =>
    have e : j = 0 := by omega
    rw [e]
    exact Nat.le_refl _
  | succ k ih =>
    by_cases e : j = k + 1
    · rw [e]; exact Nat.le_refl _
    · have a := ih (by omega)
      show zs_m Z j ≤ zs_m Z k + Z k
      omega
theorem zs_lt (Z : Nat → Nat) {j k : Nat} (h : j < k) : zs_m Z j + Z j ≤ zs_m Z k := zs_le Z (j := j + 1) h
theorem zs_w (Z : Nat → Nat) (p x k : Nat) (h : k ≤ p) : zs_m (zb_w Z p x) k = zs_m Z k := by
  induction k with
  | zero => rfl
  | succ k ih =>
    show zs_m (zb_w Z p x) k + zb_w Z p x k = zs_m Z k + Z k
    rw [ih (by omega), zb_wn (by omega)]
/-! ===== tables: a name's entry (size, crc, offset) ===== -/
def zt_s (T : Nat → Option (Nat × Nat × Nat)) (n : Nat) (e : Nat × Nat × Nat) : Nat → Option (Nat × Nat × Nat) := fun v => if v = n then some e else T v
def zt_0 : Nat → Option (Nat × Nat × Nat) := fun _ => none
def zt_f (g : Nat → Nat) (e : Nat → Nat × Nat × Nat) (T : Nat → Option (Nat × Nat × Nat)) : Nat → (Nat → Option (Nat × Nat × Nat))
  | 0 => T
  | k + 1 => zt_s (zt_f g e T k) (g k) (e k)
def zt_1 : Option (Nat × Nat × Nat) → Nat
  | none => 0
  | some _ => 1
def zt_c (T : Nat → Option (Nat × Nat × Nat)) : Nat → Nat
  | 0 => 0
  | v + 1 => zt_c T v + zt_1 (T v)
theorem zt_ss {T : Nat → Option (Nat × Nat × Nat)} {n : Nat} {e : Nat × Nat × Nat} : zt_s T n e n = some e := if_pos rfl
theorem zt_sn {T : Nat → Option (Nat × Nat × Nat)} {n v : Nat} {e : Nat × Nat × Nat} (h : v ≠ n) : zt_s T n e v = T v := if_neg h
theorem zt_c_le (T : Nat → Option (Nat × Nat × Nat)) {v w : Nat} (h : v ≤ w) : zt_c T v ≤ zt_c T w := by
  induction w with
  | zero =>
    have e : v = 0 := by omega
    rw [e]
    exact Nat.le_refl _
  | succ w ih =>
    by_cases e : v = w + 1
    · rw [e]; exact Nat.le_refl _
    · have a := ih (by omega)
      show zt_c T v ≤ zt_c T w + zt_1 (T w)
      omega
theorem zt_c_lt (T : Nat → Option (Nat × Nat × Nat)) {v w : Nat} (h : v < w) {e : Nat × Nat × Nat} (he : T v = some e) : zt_c T v + 1 ≤ zt_c T w := by
  have a := zt_c_le T (v := v + 1) (w := w) h
  have b : zt_c T (v + 1) = zt_c T v + zt_1 (T v) := rfl
  have c : zt_1 (T v) = 1 := by rw [he]; rfl
  omega
theorem zt_c_0 (v : Nat) : zt_c zt_0 v = 0 := by
  induction v with
  | zero => rfl
  | succ v ih =>
    show zt_c zt_0 v + 0 = 0
    rw [ih]
theorem zt_c_s (T : Nat → Option (Nat × Nat × Nat)) (n : Nat) (e : Nat × Nat × Nat) (h : T n = none) (v : Nat) : zt_c (zt_s T n e) v = zt_c T v + (if n < v then 1 else 0) := by
  induction v with
  | zero => rfl
  | succ v ih =>
    show zt_c (zt_s T n e) v + zt_1 (zt_s T n e v) = zt_c T v + zt_1 (T v) + _
    by_cases c : v = n
    · subst c
      rw [ih, zt_ss, h, if_neg (by omega), if_pos (by omega)]
      rfl
    · rw [ih, zt_sn c]
      by_cases d : n < v
      · rw [if_pos d, if_pos (by omega)]; omega
      · rw [if_neg d, if_neg (by omega)]; omega
/-! ===== filling ===== -/
theorem zt_f_miss (g : Nat → Nat) (e : Nat → Nat × Nat × Nat) (T : Nat → Option (Nat × Nat × Nat)) (v K : Nat) (h : ∀ k, k < K → g k ≠ v) : zt_f g e T K v = T v := by
  induction K with
  | zero => rfl
  | succ K ih =>
    show zt_s (zt_f g e T K) (g K) (e K) v = T v
    rw [zt_sn (fun c => h K (by omega) c.symm), ih (fun k hk => h k (by omega))]
theorem zt_f_hit (g : Nat → Nat) (e : Nat → Nat × Nat × Nat) (T T' : Nat → Option (Nat × Nat × Nat)) (v K : Nat) (h : ∃ k, k < K ∧ g k = v) : zt_f g e T K v = zt_f g e T' K v := by
  induction K with
  | zero =>
    obtain ⟨k, hk, _⟩ := h
    omega
  | succ K ih =>
    show zt_s (zt_f g e T K) (g K) (e K) v = zt_s (zt_f g e T' K) (g K) (e K) v
    by_cases c : v = g K
    · rw [c, zt_ss, zt_ss]
    · rw [zt_sn c, zt_sn c]
      obtain ⟨k, hk, e2⟩ := h
      have hk2 : k ≠ K := fun z => c (by rw [← e2, z])
      exact ih ⟨k, by omega, e2⟩
theorem zt_f_all (g : Nat → Nat) (e : Nat → Nat × Nat × Nat) (T : Nat → Option (Nat × Nat × Nat)) (Q : Nat → Nat × Nat × Nat → Prop) (K : Nat) (h0 : ∀ v x, T v = some x → Q v x) (h : ∀ k, k < K → Q (g k) (e k)) : ∀ v x, zt_f g e T K v = some x → Q v x := by
  induction K with
  | zero => exact h0
  | succ K ih =>
    intro v x hx
    have hx2 : zt_s (zt_f g e T K) (g K) (e K) v = some x := hx
    by_cases c : v = g K
    · rw [c, zt_ss] at hx2
      have e3 : e K = x := Option.some.inj hx2
      rw [c, ← e3]
      exact h K (by omega)
    · rw [zt_sn c] at hx2
      exact ih (fun k hk => h k (by omega)) v x hx2
/-- the table without the names g 0 .. g (P - 1) -/
noncomputable def zt_k (g : Nat → Nat) (P : Nat) (T : Nat → Option (Nat × Nat × Nat)) : Nat → Option (Nat × Nat × Nat) := fun v => @ite _ (∃ k, k < P ∧ g k = v) (Classical.propDecidable _) none (T v)
theorem zt_k_y {g : Nat → Nat} {P : Nat} {T : Nat → Option (Nat × Nat × Nat)} {v : Nat} (h : ∃ k, k < P ∧ g k = v) : zt_k g P T v = none := if_pos h
theorem zt_k_n {g : Nat → Nat} {P : Nat} {T : Nat → Option (Nat × Nat × Nat)} {v : Nat} (h : ¬ ∃ k, k < P ∧ g k = v) : zt_k g P T v = T v := if_neg h
theorem zt_k_0 (g : Nat → Nat) (P : Nat) : zt_k g P zt_0 = zt_0 := by
  funext v
  by_cases h : ∃ k, k < P ∧ g k = v
  · rw [zt_k_y h]; rfl
  · rw [zt_k_n h]
theorem zt_k_sy (g : Nat → Nat) (P : Nat) (T : Nat → Option (Nat × Nat × Nat)) (n : Nat) (e : Nat × Nat × Nat) (h : ∃ k, k < P ∧ g k = n) : zt_k g P (zt_s T n e) = zt_k g P T := by
  funext v
  by_cases c : ∃ k, k < P ∧ g k = v
  · rw [zt_k_y c, zt_k_y c]
  · rw [zt_k_n c, zt_k_n c, zt_sn (fun z => c (by rw [z]; exact h))]
theorem zt_k_sn (g : Nat → Nat) (P : Nat) (T : Nat → Option (Nat × Nat × Nat)) (n : Nat) (e : Nat × Nat × Nat) (h : ¬ ∃ k, k < P ∧ g k = n) : zt_k g P (zt_s T n e) = zt_s (zt_k g P T) n e := by
  funext v
  by_cases d : v = n
  · rw [d, zt_k_n h, zt_ss, zt_ss]
  · rw [zt_sn d]
    by_cases c : ∃ k, k < P ∧ g k = v
    · rw [zt_k_y c, zt_k_y c]
    · rw [zt_k_n c, zt_k_n c, zt_sn d]
/-- the reference's filling: of one name's entries the last alone -/
noncomputable def zt_l (g : Nat → Nat) (e : Nat → Nat × Nat × Nat) (T : Nat → Option (Nat × Nat × Nat)) (P k : Nat) : Nat → Option (Nat × Nat × Nat) := fun v => @ite _ (∃ q, k ≤ q ∧ q < P ∧ g q = v) (Classical.propDecidable _) (T v) (zt_f g e T k v)
theorem zt_l_y {g : Nat → Nat} {e : Nat → Nat × Nat × Nat} {T : Nat → Option (Nat × Nat × Nat)} {P k v : Nat} (h : ∃ q, k ≤ q ∧ q < P ∧ g q = v) : zt_l g e T P k v = T v := if_pos h
theorem zt_l_n {g : Nat → Nat} {e : Nat → Nat × Nat × Nat} {T : Nat → Option (Nat × Nat × Nat)} {P k v : Nat} (h : ¬ ∃ q, k ≤ q ∧ q < P ∧ g q = v) : zt_l g e T P k v = zt_f g e T k v := if_neg h
theorem zt_l_0 (g : Nat → Nat) (e : Nat → Nat × Nat × Nat) (T : Nat → Option (Nat × Nat × Nat)) (P : Nat) : zt_l g e T P 0 = T := by
  funext v
  by_cases h : ∃ q, 0 ≤ q ∧ q < P ∧ g q = v
  · rw [zt_l_y h]
  · rw [zt_l_n h]; rfl
theorem zt_l_P (g : Nat → Nat) (e : Nat → Nat × Nat × Nat) (T : Nat → Option (Nat × Nat × Nat)) (P : Nat) : zt_l g e T P P = zt_f g e T P := by
  funext v
  rw [zt_l_n (fun ⟨q, a, b, _⟩ => by omega)]
theorem zt_l_sy (g : Nat → Nat) (e : Nat → Nat × Nat × Nat) (T : Nat → Option (Nat × Nat × Nat)) (P k : Nat) (h : ∃ q, k + 1 ≤ q ∧ q < P ∧ g q = g k) : zt_l g e T P (k + 1) = zt_l g e T P k := by
  funext v
  by_cases c : v = g k
  · obtain ⟨q, a, b, d⟩ := h
    rw [c, zt_l_y ⟨q, a, b, d⟩, zt_l_y ⟨q, by omega, b, d⟩]
  · by_cases d : ∃ q, k + 1 ≤ q ∧ q < P ∧ g q = v
    · obtain ⟨q, a, b, d⟩ := d
      rw [zt_l_y ⟨q, a, b, d⟩, zt_l_y ⟨q, by omega, b, d⟩]
    · have d2 : ¬ ∃ q, k ≤ q ∧ q < P ∧ g q = v := fun ⟨q, a, b, f⟩ => by
        by_cases x : q = k
        · exact c (by rw [← f, x])
        · exact d ⟨q, by omega, b, f⟩
      rw [zt_l_n d, zt_l_n d2]
      exact zt_sn c
theorem zt_l_sn (g : Nat → Nat) (e : Nat → Nat × Nat × Nat) (T : Nat → Option (Nat × Nat × Nat)) (P k : Nat) (h : ¬ ∃ q, k + 1 ≤ q ∧ q < P ∧ g q = g k) : zt_l g e T P (k + 1) = zt_s (zt_l g e T P k) (g k) (e k) := by
  funext v
  by_cases c : v = g k
  · rw [c, zt_l_n h, zt_ss]
    exact zt_ss
  · rw [zt_sn c]
    by_cases d : ∃ q, k + 1 ≤ q ∧ q < P ∧ g q = v
    · obtain ⟨q, a, b, d⟩ := d
      rw [zt_l_y ⟨q, a, b, d⟩, zt_l_y ⟨q, by omega, b, d⟩]
    · have d2 : ¬ ∃ q, k ≤ q ∧ q < P ∧ g q = v := fun ⟨q, a, b, f⟩ => by
        by_cases x : q = k
        · exact c (by rw [← f, x])
        · exact d ⟨q, by omega, b, f⟩
      rw [zt_l_n d, zt_l_n d2]
      exact zt_sn c
theorem zt_l_fr (g : Nat → Nat) (e : Nat → Nat × Nat × Nat) (T : Nat → Option (Nat × Nat × Nat)) (P k : Nat) (hk : k < P) : zt_l g e T P k (g k) = T (g k) := zt_l_y ⟨k, Nat.le_refl _, hk, rfl⟩
/-- both ways of filling agree -/
theorem zt_fk (g : Nat → Nat) (e : Nat → Nat × Nat × Nat) (T : Nat → Option (Nat × Nat × Nat)) (P : Nat) : zt_f g e (zt_k g P T) P = zt_f g e T P := by
  funext v
  by_cases h : ∃ k, k < P ∧ g k = v
  · exact zt_f_hit g e _ _ v P h
  · have h2 : ∀ k, k < P → g k ≠ v := fun k hk z => h ⟨k, hk, z⟩
    rw [zt_f_miss g e _ v P h2, zt_f_miss g e _ v P h2, zt_k_n h]
/-! ===== a table as the component keeps it, and as the reference does ===== -/
def zt_X (T : Nat → Option (Nat × Nat × Nat)) (no : Nat → Int32) : Prop := ∀ v, v < 256 → (T v = none → no v = -1) ∧ (∀ z k o, T v = some (z, k, o) → no v = nI o ∧ o < 65536)
theorem zt_X_s {T : Nat → Option (Nat × Nat × Nat)} {no : Nat → Int32} (h : zt_X T no) (n z k o : Nat) (ho : o < 65536) : zt_X (zt_s T n (z, k, o)) (upd no n (nI o)) := by
  intro v hv
  by_cases c : v = n
  · subst c
    rw [zt_ss, pk_us]
    exact ⟨(fun x => nomatch x), fun z' k' o' x => by
      have y := Option.some.inj x
      have y2 : o = o' := congrArg (fun t => t.2.2) y
      exact ⟨by rw [y2], by omega⟩⟩
  · rw [zt_sn c, pk_un c]
    exact h v hv
def zt_R (T : Nat → Option (Nat × Nat × Nat)) (m : Nat) (sn ss : Nat → Int32) (sc : Nat → Int64) (so : Nat → Int32) (a : Nat → Nat) : Prop :=
  m = zt_c T 256 ∧ (∀ j, j < m → a j < 256 ∧ sn j = nI (a j) ∧ ∃ z k o, T (a j) = some (z, k, o) ∧ ss j = nI z ∧ sc j = lN k ∧ so j = nI o) ∧ (∀ i j, i < m → j < m → a i = a j → i = j) ∧ (∀ v, T v ≠ none → ∃ j, j < m ∧ a j = v)
theorem zt_R_0 (sn ss : Nat → Int32) (sc : Nat → Int64) (so : Nat → Int32) (a : Nat → Nat) : zt_R zt_0 0 sn ss sc so a :=
  ⟨(zt_c_0 256).symm, fun j hj => by omega, fun i j hi => by omega, fun v hv => absurd rfl hv⟩
theorem zt_R_s {T : Nat → Option (Nat × Nat × Nat)} {m : Nat} {sn ss : Nat → Int32} {sc : Nat → Int64} {so : Nat → Int32} {a : Nat → Nat} (h : zt_R T m sn ss sc so a) (n z k o : Nat) (hn : n < 256) (hT : T n = none) :
    zt_R (zt_s T n (z, k, o)) (m + 1) (upd sn m (nI n)) (upd ss m (nI z)) (vp_updL sc m (lN k)) (upd so m (nI o)) (zb_w a m n) := by
  obtain ⟨h1, h2, h3, h4⟩ := h
  have hne : ∀ j, j < m → a j ≠ n := fun j hj c => by
    obtain ⟨_, _, z', k', o', e, _⟩ := h2 j hj
    rw [c, hT] at e
    exact nomatch e
  refine ⟨?_, ?_, ?_, ?_⟩
  · rw [zt_c_s T n (z, k, o) hT 256, if_pos hn, h1]
  · intro j hj
    by_cases c : j = m
    · subst c
      rw [zb_ws, pk_us, pk_us, pk_uLs, pk_us]
      exact ⟨hn, rfl, z, k, o, zt_ss, rfl, rfl, rfl⟩
    · rw [zb_wn c, pk_un c, pk_un c, pk_uLn c, pk_un c, zt_sn (hne j (by omega))]
      exact h2 j (by omega)
  · intro i j hi hj e
    by_cases c : i = m
    · by_cases d : j = m
      · omega
      · rw [c, zb_ws, zb_wn d] at e
        exact absurd e.symm (hne j (by omega))
    · by_cases d : j = m
      · rw [d, zb_ws, zb_wn c] at e
        exact absurd e (hne i (by omega))
      · rw [zb_wn c, zb_wn d] at e
        exact h3 i j (by omega) (by omega) e
  · intro v hv
    by_cases c : v = n
    · exact ⟨m, by omega, by rw [zb_ws, c]⟩
    · rw [zt_sn c] at hv
      obtain ⟨j, hj, e⟩ := h4 v hv
      exact ⟨j, by omega, by rw [zb_wn (by omega)]; exact e⟩
