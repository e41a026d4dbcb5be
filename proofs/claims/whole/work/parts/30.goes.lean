/-- sun: r bores from b on -/
def sunR (tk : Nat → Int64) (op : Nat → Int32) : Nat → Nat → Int64 → (Nat → Int64) → (Nat → Int64) → Int64 × (Nat → Int64) × (Nat → Int64)
  | 0, _, l, h, t => (l, h, t)
  | r + 1, b, l, h, t => if op b = 0 then sunR tk op r (b + 1) l h t else if l ≤ tk b then sunR tk op r (b + 1) (l - l) (ad h (8 * b) l) (ad t 0 l) else sunR tk op r (b + 1) (l - tk b) (ad h (8 * b) (tk b)) (ad t 0 (tk b))
theorem b8 {b : Nat} : (8 : Int32) * Int32.ofNat b = Int32.ofNat (8 * b) := by
  rw [show (8 : Int32) = Int32.ofNat 8 from rfl, ofN_mulk]
theorem m_sun_loop {o : Nat} {M : Mem} (hI : MI o M) (g : Nat → Int64) (q : Nat → Nat → Int64) {tk : Nat → Int64} (htk : ∀ b, b < nbW M o → q (o + 36) b = tk b) (kk : Mem → Nat → Int64 → Option (Mem × Unit)) : ∀ (r i f : Nat) (l : Int64) (h t : Nat → Int64), i + r = nbW M o → r < f →
    F_X12_goes_p20 kk f (HM o M h g t q) o l (Int32.ofNat i) = kk (HM o M (sunR tk (gA M (o + 10)) r i l h t).2.1 g (sunR tk (gA M (o + 10)) r i l h t).2.2 q) o (sunR tk (gA M (o + 10)) r i l h t).1 := by
  have hS := hI.sh
  have hb8 := hI.nb8
  have z1 : inb (0 : Int32) 9 := by decide
  have z2 : ixn (0 : Int32) = 0 := by decide
  intro r
  induction r with
  | zero =>
    intro i f l h t hi hf
    obtain ⟨f, rfl⟩ : ∃ z, f = z + 1 := ⟨f - 1, by omega⟩
    unfold F_X12_goes_p20
    simp only [gI_HM, hI.nb]
    rw [if_pos ((ofN_le (by omega) (by omega)).mpr (by omega))]
    rfl
  | succ r ih =>
    intro i f l h t hi hf
    obtain ⟨f, rfl⟩ : ∃ z, f = z + 1 := ⟨f - 1, by omega⟩
    have i1 : inb (Int32.ofNat i) 8 := ofN_inb (by omega) (by omega)
    have i2 : ixn (Int32.ofNat i) = i := ofN_ix (by omega)
    have i3 : inb (Int32.ofNat (8 * i)) 64 := ofN_inb (by omega) (by omega)
    have i4 : ixn (Int32.ofNat (8 * i)) = 8 * i := ofN_ix (by omega)
    unfold F_X12_goes_p20 sunR
    simp only [gI_HM, hI.nb]
    rw [if_neg (by rw [ofN_le (by omega) (by omega)]; omega)]
    simp only [gR_HM, gK_HM, gN_HM, gA_HM, hS.r1311, hS.r1348, lr_some hS.k10, lr_some hS.k36, hS.n10, hS.n36, grd_pos i1, i2, HM_36, htk i (by omega), lg_cmp_ge]
    by_cases c1 : gA M (o + 10) i = 0
    · rw [if_pos c1, if_pos c1]
      unfold F_X12_goes_p90
      simp only [bnd, ofN_succ]
      exact ih (i + 1) f l h t (by omega) (by omega)
    · rw [if_neg c1, if_neg c1]
      by_cases c2 : l ≤ tk i
      · rw [if_pos c2, if_pos c2]
        unfold F_X12_goes_p58 F_X12_goes_p90
        simp only [bnd, b8, gR_HM, gK_HM, gN_HM, hS.r1313, hS.r1315, lr_some hS.k11, lr_some hS.k13, hS.n11, hS.n13, grd_pos i3, i4, grd_pos z1, z2, HM_11, sH11, HM_13, sH13, ofN_succ]
        exact ih (i + 1) f _ _ _ (by omega) (by omega)
      · rw [if_neg c2, if_neg c2]
        unfold F_X12_goes_p58 F_X12_goes_p90
        simp only [bnd, b8, gR_HM, gK_HM, gN_HM, hS.r1313, hS.r1315, lr_some hS.k11, lr_some hS.k13, hS.n11, hS.n13, grd_pos i3, i4, grd_pos z1, z2, HM_11, sH11, HM_13, sH13, ofN_succ]
        exact ih (i + 1) f _ _ _ (by omega) (by omega)
/-- what a bore gives -/
def gvG (gv lf hb lacks : Int64) : Int64 :=
  if (if ((lacks + 1) * 100 - 1) / lf ≤ gv then ((lacks + 1) * 100 - 1) / lf else gv) ≤ (if 0 ≤ hb then hb else 0) then (if ((lacks + 1) * 100 - 1) / lf ≤ gv then ((lacks + 1) * 100 - 1) / lf else gv) else (if 0 ≤ hb then hb else 0)
/-- need: r bores from b on: lacks, power, heat, given, told -/
def metR (gv lf w0 : Nat → Int64) (op : Nat → Int32) : Nat → Nat → Int64 → Int64 → (Nat → Int64) → (Nat → Int64) → (Nat → Int64) → Int64 × Int64 × (Nat → Int64) × (Nat → Int64) × (Nat → Int64)
  | 0, _, l, p, h, g, t => (l, p, h, g, t)
  | r + 1, b, l, p, h, g, t => if op b = 0 then metR gv lf w0 op r (b + 1) l p h g t else if w0 b ≤ 0 then metR gv lf w0 op r (b + 1) l p h g t else
    metR gv lf w0 op r (b + 1) (l - gvG (gv b) (lf b) (h (8 * b)) l * lf b / 100) (p + (gvG (gv b) (lf b) (h (8 * b)) l * lf b / 100 - gvG (gv b) (lf b) (h (8 * b)) l)) (ud h (8 * b) (h (8 * b) - gvG (gv b) (lf b) (h (8 * b)) l)) (ad g b (gvG (gv b) (lf b) (h (8 * b)) l)) (ad (ad t 2 (gvG (gv b) (lf b) (h (8 * b)) l)) 3 (gvG (gv b) (lf b) (h (8 * b)) l * lf b / 100))
theorem m_met_loop {o : Nat} {M : Mem} (hI : MI o M) (q : Nat → Nat → Int64) {gv lf w0 : Nat → Int64} (hgv : ∀ b, b < nbW M o → q (o + 37) b = gv b ∧ q (o + 38) b = lf b ∧ q (o + 34) (8 * b) = w0 b ∧ ¬ lf b = 0) (kk : Mem → Nat → Int64 → Int64 → Option (Mem × Unit)) : ∀ (r i f : Nat) (l p : Int64) (h g t : Nat → Int64), i + r = nbW M o → r < f →
    F_X12_goes_p121 kk f (HM o M h g t q) o l p (Int32.ofNat i) = kk (HM o M (metR gv lf w0 (gA M (o + 10)) r i l p h g t).2.2.1 (metR gv lf w0 (gA M (o + 10)) r i l p h g t).2.2.2.1 (metR gv lf w0 (gA M (o + 10)) r i l p h g t).2.2.2.2 q) o (metR gv lf w0 (gA M (o + 10)) r i l p h g t).1 (metR gv lf w0 (gA M (o + 10)) r i l p h g t).2.1 := by
  have hS := hI.sh
  have hb8 := hI.nb8
  have z1 : inb (2 : Int32) 9 := by decide
  have z2 : ixn (2 : Int32) = 2 := by decide
  have z3 : inb (3 : Int32) 9 := by decide
  have z4 : ixn (3 : Int32) = 3 := by decide
  intro r
  induction r with
  | zero =>
    intro i f l p h g t hi hf
    obtain ⟨f, rfl⟩ : ∃ z, f = z + 1 := ⟨f - 1, by omega⟩
    unfold F_X12_goes_p121
    simp only [gI_HM, hI.nb]
    rw [if_pos ((ofN_le (by omega) (by omega)).mpr (by omega))]
    rfl
  | succ r ih =>
    intro i f l p h g t hi hf
    obtain ⟨f, rfl⟩ : ∃ z, f = z + 1 := ⟨f - 1, by omega⟩
    obtain ⟨y1, y2, y3, y4⟩ := hgv i (by omega)
    have i1 : inb (Int32.ofNat i) 8 := ofN_inb (by omega) (by omega)
    have i2 : ixn (Int32.ofNat i) = i := ofN_ix (by omega)
    have i3 : inb (Int32.ofNat (8 * i)) 64 := ofN_inb (by omega) (by omega)
    have i4 : ixn (Int32.ofNat (8 * i)) = 8 * i := ofN_ix (by omega)
    unfold F_X12_goes_p121 metR
    simp only [gI_HM, hI.nb]
    rw [if_neg (by rw [ofN_le (by omega) (by omega)]; omega)]
    simp only [gR_HM, gK_HM, gN_HM, gA_HM, hS.r1311, hS.r1346, hS.r1350, hS.r1313, lr_some hS.k10, lr_some hS.k34, lr_some hS.k38, lr_some hS.k11, hS.n10, hS.n34, hS.n38, hS.n11, b8, grd_pos i1, i2, grd_pos i3, i4, HM_34, HM_38, HM_11, y2, y3, grd_pos y4, lg_cmp_le, lg_cmp_ge, bnd]
    by_cases c1 : gA M (o + 10) i = 0
    · rw [if_pos c1, if_pos c1]
      unfold F_X12_goes_p329
      simp only [bnd, ofN_succ]
      exact ih (i + 1) f _ _ _ _ _ (by omega) (by omega)
    · rw [if_neg c1, if_neg c1]
      by_cases c2 : w0 i ≤ 0
      · rw [if_pos c2, if_pos c2]
        unfold F_X12_goes_p329
        simp only [bnd, ofN_succ]
        exact ih (i + 1) f _ _ _ _ _ (by omega) (by omega)
      · rw [if_neg c2, if_neg c2]
        have hend : ∀ y0, y0 = gvG (gv i) (lf i) (h (8 * i)) l → F_X12_goes_p247 (F_X12_goes_p121 kk f) (HM o M h g t q) o l p (Int32.ofNat i) y0 = kk (HM o M (metR gv lf w0 (gA M (o + 10)) r (i + 1) (l - gvG (gv i) (lf i) (h (8 * i)) l * lf i / 100) (p + (gvG (gv i) (lf i) (h (8 * i)) l * lf i / 100 - gvG (gv i) (lf i) (h (8 * i)) l)) (ud h (8 * i) (h (8 * i) - gvG (gv i) (lf i) (h (8 * i)) l)) (ad g i (gvG (gv i) (lf i) (h (8 * i)) l)) (ad (ad t 2 (gvG (gv i) (lf i) (h (8 * i)) l)) 3 (gvG (gv i) (lf i) (h (8 * i)) l * lf i / 100))).2.2.1 (metR gv lf w0 (gA M (o + 10)) r (i + 1) (l - gvG (gv i) (lf i) (h (8 * i)) l * lf i / 100) (p + (gvG (gv i) (lf i) (h (8 * i)) l * lf i / 100 - gvG (gv i) (lf i) (h (8 * i)) l)) (ud h (8 * i) (h (8 * i) - gvG (gv i) (lf i) (h (8 * i)) l)) (ad g i (gvG (gv i) (lf i) (h (8 * i)) l)) (ad (ad t 2 (gvG (gv i) (lf i) (h (8 * i)) l)) 3 (gvG (gv i) (lf i) (h (8 * i)) l * lf i / 100))).2.2.2.1 (metR gv lf w0 (gA M (o + 10)) r (i + 1) (l - gvG (gv i) (lf i) (h (8 * i)) l * lf i / 100) (p + (gvG (gv i) (lf i) (h (8 * i)) l * lf i / 100 - gvG (gv i) (lf i) (h (8 * i)) l)) (ud h (8 * i) (h (8 * i) - gvG (gv i) (lf i) (h (8 * i)) l)) (ad g i (gvG (gv i) (lf i) (h (8 * i)) l)) (ad (ad t 2 (gvG (gv i) (lf i) (h (8 * i)) l)) 3 (gvG (gv i) (lf i) (h (8 * i)) l * lf i / 100))).2.2.2.2 q) o (metR gv lf w0 (gA M (o + 10)) r (i + 1) (l - gvG (gv i) (lf i) (h (8 * i)) l * lf i / 100) (p + (gvG (gv i) (lf i) (h (8 * i)) l * lf i / 100 - gvG (gv i) (lf i) (h (8 * i)) l)) (ud h (8 * i) (h (8 * i) - gvG (gv i) (lf i) (h (8 * i)) l)) (ad g i (gvG (gv i) (lf i) (h (8 * i)) l)) (ad (ad t 2 (gvG (gv i) (lf i) (h (8 * i)) l)) 3 (gvG (gv i) (lf i) (h (8 * i)) l * lf i / 100))).1 (metR gv lf w0 (gA M (o + 10)) r (i + 1) (l - gvG (gv i) (lf i) (h (8 * i)) l * lf i / 100) (p + (gvG (gv i) (lf i) (h (8 * i)) l * lf i / 100 - gvG (gv i) (lf i) (h (8 * i)) l)) (ud h (8 * i) (h (8 * i) - gvG (gv i) (lf i) (h (8 * i)) l)) (ad g i (gvG (gv i) (lf i) (h (8 * i)) l)) (ad (ad t 2 (gvG (gv i) (lf i) (h (8 * i)) l)) 3 (gvG (gv i) (lf i) (h (8 * i)) l * lf i / 100))).2.1 := by
          intro y0 hy
          rw [← hy]
          unfold F_X12_goes_p247 F_X12_goes_p329
          simp only [gR_HM, gK_HM, gN_HM, hS.r1350, hS.r1313, hS.r1314, hS.r1315, lr_some hS.k38, lr_some hS.k11, lr_some hS.k12, lr_some hS.k13, hS.n38, hS.n11, hS.n12, hS.n13, b8, grd_pos i1, i2, grd_pos i3, i4, grd_pos z1, z2, grd_pos z3, z4, HM_38, y2, HM_11, sH11, HM_12, sH12, HM_13, sH13, bnd, ofN_succ]
          exact ih (i + 1) f _ _ _ _ _ (by omega) (by omega)
        generalize hz : gvG (gv i) (lf i) (h (8 * i)) l = z at hend ⊢
        unfold gvG at hz
        unfold F_X12_goes_p203 F_X12_goes_p230
        simp only [gR_HM, gK_HM, gN_HM, hS.r1349, lr_some hS.k37, hS.n37, grd_pos i1, i2, HM_37, y1, lg_cmp_le]
        by_cases c3 : 0 ≤ h (8 * i) <;> by_cases c4 : ((l + 1) * 100 - 1) / lf i ≤ gv i <;> simp only [c3, c4, if_true, if_false] at hz ⊢ <;> split <;> rename_i c5 <;> simp only [c5, if_true, if_false] at hz <;> exact hend _ hz
