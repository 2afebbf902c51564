/-! ===== the scan, both sides in step ===== -/
section ZS
variable {C L P T F : Nat} {B g Z D : Nat → Nat} {st fn fs fo no sn ss so : Nat → Int32} {fc sc : Nat → Int64} {sk : Int32}
theorem xs_w {post : Int32 → Prop} {q : Int32} (p : Nat) (hq : q = nI p) (h : p + 4 ≤ L) (hL : L ≤ 256) (hB : zb_B B) (kC : zb_r4 B p = 33639248 → post 13) (kE : zb_r4 B p = 101010256 → post 9) (k1 : zb_r4 B p = 67324752 → p + 11 ≤ L → post (nI (11 + zb_r2 B (p + 5)))) (k0 : zb_r4 B p = 67324752 → L < p + 11 → post 11) (kO : zb_r4 B p ≠ 33639248 → zb_r4 B p ≠ 101010256 → zb_r4 B p ≠ 67324752 → post 1) : wpX_widthAt post (nI C, nI L, nI P, nI T, nI F, zb_f B, zb_f g, st, zb_f Z, zb_f D, fn, fs, fc, fo, no) q := by
  subst hq
  have b := zb_r4_lt hB p
  unfold wpX_widthAt
  dsimp only
  refine xl_4 p rfl h hL hB ?_
  refine zq_L (zb_r4 B p) 33639248 kC (fun h1 => ?_) rfl rfl (by omega) (by omega)
  refine zq_L (zb_r4 B p) 101010256 kE (fun h2 => ?_) rfl rfl (by omega) (by omega)
  refine zq_L (zb_r4 B p) 67324752 (fun h3 => ?_) (fun h3 => kO h1 h2 h3) rfl rfl (by omega) (by omega)
  refine pk_le (p + 11) L (fun h4 => ?_) (fun h4 => k0 h3 h4) (nI_add p 11) rfl (by omega) (by omega)
  exact xl_2 (p + 5) (nI_add p 5) (by omega) hL hB (zq_v (P := post) (nI_add 11 _) (k1 h3 h4))
theorem xs_k {post : Int32 → SX → Prop} {q : Int32} (p : Nat) (hq : q = nI p) (h : p + 11 + zb_r2 B (p + 5) ≤ L) (hL : L ≤ 256) (hB : zb_B B) (hF : F < 23)
    (k1 : zk_F B (p + 11) (zb_r2 B (p + 5)) = zb_r4 B (p + 7) → post 1 (nI C, nI L, nI P, nI T, nI (F + 1), zb_f B, zb_f g, st, zb_f Z, zb_f D, upd fn F (nI (B (p + 4))), upd fs F (nI (zb_r2 B (p + 5))), vp_updL fc F (lN (zb_r4 B (p + 7))), upd fo F (nI p), no))
    (k0 : zk_F B (p + 11) (zb_r2 B (p + 5)) ≠ zb_r4 B (p + 7) → post 0 (nI C, nI L, nI P, nI T, nI F, zb_f B, zb_f g, st, zb_f Z, zb_f D, fn, fs, fc, fo, no)) : wpX_keepIfSound post (nI C, nI L, nI P, nI T, nI F, zb_f B, zb_f g, st, zb_f Z, zb_f D, fn, fs, fc, fo, no) q := by
  subst hq
  have b1 := zk_F_lt hB (p + 11) (zb_r2 B (p + 5))
  have b2 := zb_r4_lt hB (p + 7)
  have c : (nI F).toNatClampNeg = F := nI_clamp (by omega)
  have w : vp_in (nI F) 23 := vp_in_nI hF (by omega)
  unfold wpX_keepIfSound
  dsimp only
  refine xl_2 (p + 5) (nI_add p 5) (by omega) hL hB ?_
  refine xl_4 (p + 7) (nI_add p 7) (by omega) hL hB ?_
  refine br_f (nI_ge (b := 23) hF (by decide)) ?_
  refine xk_i (p + 11) (zb_r2 B (p + 5)) (nI_add p 11) rfl hB (by omega) ?_
  refine zq_L (zk_F B (p + 11) (zb_r2 B (p + 5))) (zb_r4 B (p + 7)) (fun e => ?_) k0 rfl rfl (by omega) (by omega)
  refine xl_b (p + 4) (nI_add p 4) (by omega) hL ?_
  exact ⟨w, nm_r (e' := upd fn F (nI (B (p + 4)))) (by rw [c]) ⟨w, nm_r (e' := upd fs F (nI (zb_r2 B (p + 5)))) (by rw [c]) ⟨w, nm_r (e' := vp_updL fc F (lN (zb_r4 B (p + 7)))) (by rw [c]) ⟨w, nm_r (e' := upd fo F (nI p)) (by rw [c]) (nm_r (nI_1 F) (k1 e))⟩⟩⟩⟩
theorem ys_x {post : Int32 → SY → Prop} {x1 x3 : Int32} {n : Nat} (hn : 0 < n) (k : wY_salvage_279 post (nI C) (nI L) (nI P) (nI T) (nI F) sk (zb_f B) (zb_f g) (zb_f Z) (zb_f D) fn fs fc fo sn ss sc so) : wY_salvage_11 post (nI C) (nI L) (nI P) (nI T) sk n x1 0 x3 (nI F) (zb_f B) (zb_f g) (zb_f Z) (zb_f D) fn fs fc fo sn ss sc so := by
  obtain ⟨n, rfl⟩ : ∃ m, n = m + 1 := ⟨n - 1, by omega⟩
  by_cases h : 300 < x3
  · exact br_t h k
  · exact br_f h (br_t rfl k)
/-- what a scan from q (the next record at nx, the reference at p) finds: for both sides the same -/
def zs_G (C L P T : Nat) (B g Z D : Nat → Nat) (st no sn ss so : Nat → Int32) (sc : Nat → Int64) (sk : Int32) (d q nx p gg F : Nat) (fn fs fo : Nat → Int32) (fc : Nat → Int64) : Prop :=
  ∃ (F' : Nat) (o' : Nat → Nat) (fn' fs' fo' : Nat → Int32) (fc' : Nat → Int64), zg_I B L F' o' fn' fs' fc' fo' ∧
    (∀ (post : SX → Prop) n, d < n → post (nI C, nI L, nI P, nI T, nI F', zb_f B, zb_f g, st, zb_f Z, zb_f D, fn', fs', fc', fo', no) → wX_scan_9 post n (nI nx) (nI q) (nI C) (nI L) (nI P) (nI T) (nI F) (zb_f B) (zb_f g) st (zb_f Z) (zb_f D) fn fs fc fo no) ∧
    (∀ (post : Int32 → SY → Prop) n, L + 1 < p + n → wY_salvage_279 post (nI C) (nI L) (nI P) (nI T) (nI F') sk (zb_f B) (zb_f g) (zb_f Z) (zb_f D) (fn') (fs') (fc') (fo') sn ss sc so → wY_salvage_11 post (nI C) (nI L) (nI P) (nI T) sk n (nI p) 1 (nI gg) (nI F) (zb_f B) (zb_f g) (zb_f Z) (zb_f D) fn fs fc fo sn ss sc so)
/-- the end: X leaves its loop at once, Y stops -/
theorem zs_end {d q nx p gg : Nat} {o : Nat → Nat} (hL : L ≤ 256) (hI : zg_I B L F o fn fs fc fo) (hg : gg ≤ 300) (hp : p ≤ L)
    (hX : ∀ (post : SX → Prop) n, post (nI C, nI L, nI P, nI T, nI F, zb_f B, zb_f g, st, zb_f Z, zb_f D, fn, fs, fc, fo, no) → wX_scan_9 post (n + 1) (nI nx) (nI q) (nI C) (nI L) (nI P) (nI T) (nI F) (zb_f B) (zb_f g) st (zb_f Z) (zb_f D) fn fs fc fo no)
    (hY : ∀ (post : Int32 → SY → Prop) n, (∀ x3, wY_salvage_11 post (nI C) (nI L) (nI P) (nI T) sk n (nI p) 0 x3 (nI F) (zb_f B) (zb_f g) (zb_f Z) (zb_f D) fn fs fc fo sn ss sc so) → wY_salvage_11 post (nI C) (nI L) (nI P) (nI T) sk (n + 1) (nI p) 1 (nI gg) (nI F) (zb_f B) (zb_f g) (zb_f Z) (zb_f D) fn fs fc fo sn ss sc so) :
    zs_G C L P T B g Z D st no sn ss so sc sk d q nx p gg F fn fs fo fc := by
  refine ⟨F, o, fn, fs, fo, fc, hI, fun post n hn k => ?_, fun post n hn k => ?_⟩
  · obtain ⟨n, rfl⟩ : ∃ m, n = m + 1 := ⟨n - 1, by omega⟩
    exact hX post n k
  · obtain ⟨n, rfl⟩ : ∃ m, n = m + 1 := ⟨n - 1, by omega⟩
    exact hY post n (fun x3 => ys_x (by omega) k)
/-- a step: X one place on, Y from p to p2, with the same records -/
theorem zs_st {d q nx nx2 p p2 gg gg2 F2 : Nat} {fn2 fs2 fo2 : Nat → Int32} {fc2 : Nat → Int64} (hp : p + 1 ≤ p2) (hpL : p ≤ L)
    (h : zs_G C L P T B g Z D st no sn ss so sc sk d (q + 1) nx2 p2 gg2 F2 fn2 fs2 fo2 fc2)
    (hX : ∀ (post : SX → Prop) n, wX_scan_9 post n (nI nx2) (nI (q + 1)) (nI C) (nI L) (nI P) (nI T) (nI F2) (zb_f B) (zb_f g) st (zb_f Z) (zb_f D) fn2 fs2 fc2 fo2 no → wX_scan_9 post (n + 1) (nI nx) (nI q) (nI C) (nI L) (nI P) (nI T) (nI F) (zb_f B) (zb_f g) st (zb_f Z) (zb_f D) fn fs fc fo no)
    (hY : ∀ (post : Int32 → SY → Prop) n, wY_salvage_11 post (nI C) (nI L) (nI P) (nI T) sk n (nI p2) 1 (nI gg2) (nI F2) (zb_f B) (zb_f g) (zb_f Z) (zb_f D) fn2 fs2 fc2 fo2 sn ss sc so → wY_salvage_11 post (nI C) (nI L) (nI P) (nI T) sk (n + 1) (nI p) 1 (nI gg) (nI F) (zb_f B) (zb_f g) (zb_f Z) (zb_f D) fn fs fc fo sn ss sc so) :
    zs_G C L P T B g Z D st no sn ss so sc sk (d + 1) q nx p gg F fn fs fo fc := by
  obtain ⟨F', o', fn', fs', fo', fc', hI, h1, h2⟩ := h
  refine ⟨F', o', fn', fs', fo', fc', hI, fun post n hn k => ?_, fun post n hn k => ?_⟩
  · obtain ⟨n, rfl⟩ : ∃ m, n = m + 1 := ⟨n - 1, by omega⟩
    exact hX post n (h1 post n (by omega) k)
  · obtain ⟨n, rfl⟩ : ∃ m, n = m + 1 := ⟨n - 1, by omega⟩
    exact hY post n (h2 post n (by omega) k)
theorem zs_main (hL : L ≤ 256) (hB : zb_B B) : ∀ d q nx p gg F o fn fs fc fo, L < q + d → p ≤ L → gg ≤ p → zg_I B p F o fn fs fc fo → ((q < nx ∧ p = nx) ∨ (nx ≤ q ∧ p = q)) → zs_G C L P T B g Z D st no sn ss so sc sk d q nx p gg F fn fs fo fc := by
  intro d
  induction d with
  | zero =>
    intro q nx p gg F o fn fs fc fo h1 h2 h3 hI hr
    omega
  | succ d ih =>
    intro q nx p gg F o fn fs fc fo h1 h2 h3 hI hr
    have hIL := zg_I_p hI h2
    have g3 : ¬ (300 : Int32) < nI gg := nI_nlt (a := 300) (by omega) (by decide)
    have n1 : ¬ (1 : Int32) = 0 := by decide
    by_cases h4 : L < q + 4
    · have a1 : nI L < nI q + 4 := by
        rw [zq_a4]
        exact nI_lt h4 (by omega)
      have a2 : ¬ nI p + 4 ≤ nI L := by
        rw [zq_a4]
        exact nI_ge (by omega) (by omega)
      exact zs_end hL hIL (by omega) h2 (fun post n k => br_t a1 k) (fun post n k => br_f g3 (br_f n1 (br_f a2 (fun x3 _ => k x3))))
    have a1 : ¬ nI L < nI q + 4 := by
      rw [zq_a4]
      exact nI_nlt (by omega) (by omega)
    by_cases hx : nx ≤ q
    · have e : p = q := by omega
      subst e
      have a2 : nI nx ≤ nI p := nI_le hx (by omega)
      have a3 : nI p + 4 ≤ nI L := by
        rw [zq_a4]
        exact nI_le (by omega) (by omega)
      have b4 := zb_r4_lt hB p
      have b2 := zb_r2_lt hB (p + 5)
      have f23 : F < 23 := by
        have := hI.1
        have := hI.2.1
        omega
      by_cases eC : zb_r4 B p = 33639248
      · -- a central record
        have nL : ¬ lN (zb_r4 B p) = 67324752 := by rw [eC]; decide
        by_cases f : p + 13 ≤ L
        · have a5 : nI p + 13 ≤ nI L := by
            rw [zq_a13]
            exact nI_le f (by omega)
          refine zs_st (nx2 := p + 13) (p2 := p + 13) (gg2 := gg + 1) (by omega) h2 (ih (p + 1) (p + 13) (p + 13) (gg + 1) F o fn fs fc fo (by omega) f (by omega) (zg_I_p hI (by omega)) (Or.inl ⟨by omega, rfl⟩)) (fun post n k => ?_) (fun post n k => ?_)
          · exact br_f a1 (br_t a2 (xs_w p rfl (by omega) hL hB (fun _ => br_t a5 (xl_4 p rfl (by omega) hL hB (br_f nL (nm_r (nI_add p 13) (nm_r (nI_1 p) k))))) (fun z => absurd (eC.symm.trans z) (by decide)) (fun z => absurd (eC.symm.trans z) (by decide)) (fun z => absurd (eC.symm.trans z) (by decide)) (fun z => absurd eC z)))
          · exact br_f g3 (br_f n1 (br_t a3 (yl_sL p rfl (by omega) hB (fun z => absurd (eC.symm.trans z) (by decide)) (fun _ => br_t rfl (yl_sC p rfl (by omega) hB (fun _ => br_f (by decide) (br_t a5 (nm_r (nI_add p 13) (nm_r (nI_1 gg) k)))) (fun z => absurd eC z))))))
        · have a5 : ¬ nI p + 13 ≤ nI L := by
            rw [zq_a13]
            exact nI_ge (by omega) (by omega)
          exact zs_end hL hIL (by omega) h2 (fun post n k => br_f a1 (br_t a2 (xs_w p rfl (by omega) hL hB (fun _ => br_f a5 k) (fun z => absurd (eC.symm.trans z) (by decide)) (fun z => absurd (eC.symm.trans z) (by decide)) (fun z => absurd (eC.symm.trans z) (by decide)) (fun z => absurd eC z))))
            (fun post n k => br_f g3 (br_f n1 (br_t a3 (yl_sL p rfl (by omega) hB (fun z => absurd (eC.symm.trans z) (by decide)) (fun _ => br_t rfl (yl_sC p rfl (by omega) hB (fun _ => br_f (by decide) (br_f a5 (fun x3 _ => k x3))) (fun z => absurd eC z)))))))
      by_cases eE : zb_r4 B p = 101010256
      · -- an end record
        have nL : ¬ lN (zb_r4 B p) = 67324752 := by rw [eE]; decide
        by_cases f : p + 9 ≤ L
        · have a5 : nI p + 9 ≤ nI L := by
            rw [zq_a9]
            exact nI_le f (by omega)
          refine zs_st (nx2 := p + 9) (p2 := p + 9) (gg2 := gg + 1) (by omega) h2 (ih (p + 1) (p + 9) (p + 9) (gg + 1) F o fn fs fc fo (by omega) f (by omega) (zg_I_p hI (by omega)) (Or.inl ⟨by omega, rfl⟩)) (fun post n k => ?_) (fun post n k => ?_)
          · exact br_f a1 (br_t a2 (xs_w p rfl (by omega) hL hB (fun z => absurd z eC) (fun _ => br_t a5 (xl_4 p rfl (by omega) hL hB (br_f nL (nm_r (nI_add p 9) (nm_r (nI_1 p) k))))) (fun z => absurd (eE.symm.trans z) (by decide)) (fun z => absurd (eE.symm.trans z) (by decide)) (fun _ z => absurd eE z)))
          · exact br_f g3 (br_f n1 (br_t a3 (yl_sL p rfl (by omega) hB (fun z => absurd (eE.symm.trans z) (by decide)) (fun _ => br_t rfl (yl_sC p rfl (by omega) hB (fun z => absurd z eC) (fun _ => br_t rfl (yl_sE p rfl (by omega) hB (fun _ => br_f (by decide) (br_t a5 (nm_r (nI_add p 9) (nm_r (nI_1 gg) k)))) (fun z => absurd eE z))))))))
        · have a5 : ¬ nI p + 9 ≤ nI L := by
            rw [zq_a9]
            exact nI_ge (by omega) (by omega)
          exact zs_end hL hIL (by omega) h2 (fun post n k => br_f a1 (br_t a2 (xs_w p rfl (by omega) hL hB (fun z => absurd z eC) (fun _ => br_f a5 k) (fun z => absurd (eE.symm.trans z) (by decide)) (fun z => absurd (eE.symm.trans z) (by decide)) (fun _ z => absurd eE z))))
            (fun post n k => br_f g3 (br_f n1 (br_t a3 (yl_sL p rfl (by omega) hB (fun z => absurd (eE.symm.trans z) (by decide)) (fun _ => br_t rfl (yl_sC p rfl (by omega) hB (fun z => absurd z eC) (fun _ => br_t rfl (yl_sE p rfl (by omega) hB (fun _ => br_f (by decide) (br_f a5 (fun x3 _ => k x3))) (fun z => absurd eE z)))))))))
      by_cases eL : zb_r4 B p = 67324752
      · -- a record of an entry
        have yL : lN (zb_r4 B p) = 67324752 := by rw [eL]; rfl
        by_cases f : p + 11 ≤ L
        · have a5 : nI p + 11 ≤ nI L := by
            rw [zq_a11]
            exact nI_le f (by omega)
          by_cases f2 : p + 11 + zb_r2 B (p + 5) ≤ L
          · have a6 : nI p + nI (11 + zb_r2 B (p + 5)) ≤ nI L := by
              rw [nI_add]
              exact nI_le (by omega) (by omega)
            have a7 : nI p + 11 + nI (zb_r2 B (p + 5)) ≤ nI L := by
              rw [zq_a11, nI_add]
              exact nI_le (by omega) (by omega)
            have b5 := zk_F_lt hB (p + 11) (zb_r2 B (p + 5))
            have b6 := zb_r4_lt hB (p + 7)
            have XX : ∀ (post : SX → Prop) n, wpX_keepIfSound (fun r u => match u with | (y1, y2, y3, y4, y5, y6, y7, y8, y9, y10, y11, y12, y13, y14, y15) => ((r = 0 → (∀ x2, x2 = nI p + 1 → (wX_scan_9 post n (nI nx) x2 y1 y2 y3 y4 y5 y6 y7 y8 y9 y10 y11 y12 y13 y14 y15))) ∧ (¬ r = 0 → (∀ x1, x1 = nI p + nI (11 + zb_r2 B (p + 5)) → (∀ x2, x2 = nI p + 1 → (wX_scan_9 post n x1 x2 y1 y2 y3 y4 y5 y6 y7 y8 y9 y10 y11 y12 y13 y14 y15)))))) (nI C, nI L, nI P, nI T, nI F, zb_f B, zb_f g, st, zb_f Z, zb_f D, fn, fs, fc, fo, no) (nI p) → wX_scan_9 post (n + 1) (nI nx) (nI p) (nI C) (nI L) (nI P) (nI T) (nI F) (zb_f B) (zb_f g) st (zb_f Z) (zb_f D) fn fs fc fo no := fun post n k =>
              br_f a1 (br_t a2 (xs_w p rfl (by omega) hL hB (fun z => absurd z eC) (fun z => absurd z eE) (fun _ _ => br_t a6 (xl_4 p rfl (by omega) hL hB (br_t yL k))) (fun _ z => absurd z (by omega)) (fun _ _ z => absurd eL z)))
            by_cases cr : zk_F B (p + 11) (zb_r2 B (p + 5)) = zb_r4 B (p + 7)
            · refine zs_st (nx2 := p + 11 + zb_r2 B (p + 5)) (p2 := p + 11 + zb_r2 B (p + 5)) (gg2 := gg + 1) (F2 := F + 1) (by omega) h2 (ih (p + 1) (p + 11 + zb_r2 B (p + 5)) (p + 11 + zb_r2 B (p + 5)) (gg + 1) (F + 1) _ _ _ _ _ (by omega) f2 (by omega) (zg_I_s hI) (Or.inl ⟨by omega, rfl⟩)) (fun post n k => ?_) (fun post n k => ?_)
              · have e1 : nI p + nI (11 + zb_r2 B (p + 5)) = nI (p + 11 + zb_r2 B (p + 5)) := by
                  rw [nI_add]
                  exact congrArg nI (by omega)
                exact XX post n (xs_k p rfl f2 hL hB f23 (fun _ => br_f (by decide) (nm_r e1 (nm_r (nI_1 p) k))) (fun z => absurd cr z))
              · have e2 : nI p + (11 + nI (zb_r2 B (p + 5))) = nI (p + 11 + zb_r2 B (p + 5)) := by
                  rw [zq_ab11, nI_add]
                  exact congrArg nI (by omega)
                have c : (nI F).toNatClampNeg = F := nI_clamp (by omega)
                have w : vp_in (nI F) 32 := vp_in_nI (by omega) (by omega)
                refine br_f g3 (br_f n1 (br_t a3 (yl_sL p rfl (by omega) hB (fun _ => br_f (by decide) (br_t a5 ?_)) (fun z => absurd eL z))))
                refine yl_2 (p + 5) (nI_add p 5) (by omega) hB (br_t a7 ?_)
                refine yk_i (p + 11) (zb_r2 B (p + 5)) (nI_add p 11) rfl hB (by omega) ?_
                refine yl_4 (p + 7) (nI_add p 7) (by omega) hB (br_t (by rw [cr]) (br_f (nI_ge (b := 32) (by omega) (by decide)) ?_))
                refine yl_b (p + 4) (nI_add p 4) (by omega) ?_
                exact ⟨w, nm_r (e' := upd fn F (nI (B (p + 4)))) (by rw [c]) ⟨w, nm_r (e' := upd fs F (nI (zb_r2 B (p + 5)))) (by rw [c]) ⟨w, nm_r (e' := vp_updL fc F (lN (zb_r4 B (p + 7)))) (by rw [c]) ⟨w, nm_r (e' := upd fo F (nI p)) (by rw [c]) (nm_r (nI_1 F) (nm_r e2 (nm_r (nI_1 gg) k)))⟩⟩⟩⟩
            · refine zs_st (nx2 := nx) (p2 := p + 1) (gg2 := gg + 1) (by omega) h2 (ih (p + 1) nx (p + 1) (gg + 1) F o fn fs fc fo (by omega) (by omega) (by omega) (zg_I_p hI (by omega)) (Or.inr ⟨by omega, rfl⟩)) (fun post n k => ?_) (fun post n k => ?_)
              · exact XX post n (xs_k p rfl f2 hL hB f23 (fun z => absurd z cr) (fun _ => br_t rfl (nm_r (nI_1 p) k)))
              · refine br_f g3 (br_f n1 (br_t a3 (yl_sL p rfl (by omega) hB (fun _ => br_f (by decide) (br_t a5 ?_)) (fun z => absurd eL z))))
                refine yl_2 (p + 5) (nI_add p 5) (by omega) hB (br_t a7 ?_)
                refine yk_i (p + 11) (zb_r2 B (p + 5)) (nI_add p 11) rfl hB (by omega) ?_
                exact yl_4 (p + 7) (nI_add p 7) (by omega) hB (br_f (fun z => cr ((pk_lEQ (by omega) (by omega)).mp z)) (nm_r (nI_1 p) (nm_r (nI_1 gg) k)))
          · have a6 : ¬ nI p + nI (11 + zb_r2 B (p + 5)) ≤ nI L := by
              rw [nI_add]
              exact nI_ge (by omega) (by omega)
            have a7 : ¬ nI p + 11 + nI (zb_r2 B (p + 5)) ≤ nI L := by
              rw [zq_a11, nI_add]
              exact nI_ge (by omega) (by omega)
            exact zs_end hL hIL (by omega) h2 (fun post n k => br_f a1 (br_t a2 (xs_w p rfl (by omega) hL hB (fun z => absurd z eC) (fun z => absurd z eE) (fun _ _ => br_f a6 k) (fun _ z => absurd z (by omega)) (fun _ _ z => absurd eL z))))
              (fun post n k => br_f g3 (br_f n1 (br_t a3 (yl_sL p rfl (by omega) hB (fun _ => br_f (by decide) (br_t a5 (yl_2 (p + 5) (nI_add p 5) (by omega) hB (br_f a7 (fun x3 _ => k x3))))) (fun z => absurd eL z)))))
        · have a5 : ¬ nI p + 11 ≤ nI L := by
            rw [zq_a11]
            exact nI_ge (by omega) (by omega)
          exact zs_end hL hIL (by omega) h2 (fun post n k => br_f a1 (br_t a2 (xs_w p rfl (by omega) hL hB (fun z => absurd z eC) (fun z => absurd z eE) (fun _ z => absurd z (by omega)) (fun _ _ => br_f a5 k) (fun _ _ z => absurd eL z))))
            (fun post n k => br_f g3 (br_f n1 (br_t a3 (yl_sL p rfl (by omega) hB (fun _ => br_f (by decide) (br_f a5 (fun x3 _ => k x3))) (fun z => absurd eL z)))))
      · -- no record
        have a5 : nI p + 1 ≤ nI L := by
          rw [zq_a1]
          exact nI_le (by omega) (by omega)
        have nL : ¬ lN (zb_r4 B p) = 67324752 := fun z => eL ((pk_lEQ (b := 67324752) (by omega) (by decide)).mp z)
        refine zs_st (nx2 := p + 1) (p2 := p + 1) (gg2 := gg + 1) (by omega) h2 (ih (p + 1) (p + 1) (p + 1) (gg + 1) F o fn fs fc fo (by omega) (by omega) (by omega) (zg_I_p hI (by omega)) (Or.inr ⟨by omega, rfl⟩)) (fun post n k => ?_) (fun post n k => ?_)
        · exact br_f a1 (br_t a2 (xs_w p rfl (by omega) hL hB (fun z => absurd z eC) (fun z => absurd z eE) (fun z => absurd z eL) (fun z => absurd z eL) (fun _ _ _ => br_t a5 (xl_4 p rfl (by omega) hL hB (br_f nL (nm_r (nI_1 p) (nm_r (nI_1 p) k)))))))
        · exact br_f g3 (br_f n1 (br_t a3 (yl_sL p rfl (by omega) hB (fun z => absurd z eL) (fun _ => br_t rfl (yl_sC p rfl (by omega) hB (fun z => absurd z eC) (fun _ => br_t rfl (yl_sE p rfl (by omega) hB (fun z => absurd z eE) (fun _ => br_t rfl (nm_r (nI_1 p) (nm_r (nI_1 gg) k))))))))))
    · -- inside a record: X goes on alone
      obtain ⟨F', o', fn', fs', fo', fc', hI', r1, r2⟩ := ih (q + 1) nx p gg F o fn fs fc fo (by omega) h2 h3 hI (by omega)
      refine ⟨F', o', fn', fs', fo', fc', hI', fun post n hn k => ?_, r2⟩
      obtain ⟨n, rfl⟩ : ∃ m, n = m + 1 := ⟨n - 1, by omega⟩
      exact br_f a1 (br_f (nI_ge (by omega) (by omega)) (nm_r (nI_1 q) (r1 post n (by omega) k)))
end ZS
