/-- v more at place i -/
def ad (f : Nat → Int64) (i : Nat) (v : Int64) : Nat → Int64 := ud f i (f i + v)
def app : (Nat → Int64) → List (Nat × Int64) → Nat → Int64
  | f, [] => f
  | f, p :: l => app (ad f p.1 p.2) l
theorem app_append : ∀ (l1 l2 : List (Nat × Int64)) (f : Nat → Int64), app f (l1 ++ l2) = app (app f l1) l2 := by
  intro l1
  induction l1 with
  | nil => intro l2 f; rfl
  | cons p l ih => intro l2 f; exact ih l2 _
def catR (f : Nat → List (Nat × Int64)) : Nat → Nat → List (Nat × Int64)
  | 0, _ => []
  | r + 1, b => f b ++ catR f r (b + 1)
theorem catR_succ (f : Nat → List (Nat × Int64)) (r b : Nat) : catR f (r + 1) b = f b ++ catR f r (b + 1) := rfl
theorem i64_sub_neg (a b : Int64) : a - b = a + -b := Int64.sub_eq_add_neg a b
theorem MI.dif {o : Nat} {M : Mem} (h : MI o M) {k : Nat} (hk : k + 1 < npW M o) : ¬ ((1000 : Int64) * (gA M (o + 19) (k + 1)).toInt64 - (1000 : Int64) * (gA M (o + 19) k).toInt64 = 0) := by
  have h1 := (h.po (k := k) (by omega)).1
  have h2 := (h.po hk).1
  have h3 := h.ris hk
  have b1 := h1.1
  have b2 := h1.2
  have b3 := h2.1
  have b4 := h2.2
  have e0 : (1000 : Int64).toInt = 1000 := by decide
  have e1 : ((1000 : Int64) * (gA M (o + 19) k).toInt64).toInt = 1000 * (gA M (o + 19) k).toInt := by rw [i64_mul (by rw [e0, Int32.toInt_toInt64]; omega) (by rw [e0, Int32.toInt_toInt64]; omega), e0, Int32.toInt_toInt64]
  have e2 : ((1000 : Int64) * (gA M (o + 19) (k + 1)).toInt64).toInt = 1000 * (gA M (o + 19) (k + 1)).toInt := by rw [i64_mul (by rw [e0, Int32.toInt_toInt64]; omega) (by rw [e0, Int32.toInt_toInt64]; omega), e0, Int32.toInt_toInt64]
  exact i64_ne (by rw [i64_sub (by rw [e1, e2]; omega) (by rw [e1, e2]; omega), e1, e2]; omega)
def wS (M : Mem) (o : Nat) (h : Nat → Int64) (b k : Nat) : Int64 := warmS (gA M (o + 5)) (gA M (o + 6)) h b k
def lfS (M : Mem) (o : Nat) (w : Int64) : Int64 := liftS (gA M (o + 19)) (gA M (o + 20)) (npW M o) w
theorem m_was_loop {o : Nat} {M : Mem} (hI : MI o M) (h g t : Nat → Int64) {b : Nat} (hb : b < nbW M o) (kk : Mem → Nat → Int32 → Option (Mem × Unit)) : ∀ (r i f : Nat) (q : Nat → Nat → Int64), i + r = rgW M o b → r < f →
    ∃ q1, F_X12_begins_p52 kk f (HM o M h g t q) o (Int32.ofNat b) (Int32.ofNat i) = kk (HM o M h g t q1) o (Int32.ofNat b) ∧ (∀ a, a ≠ o + 34 → a ≠ o + 35 → q1 a = q a) ∧ (∀ j, q1 (o + 34) j = if 8 * b + i ≤ j ∧ j < 8 * b + rgW M o b then wS M o h b (j - 8 * b) else q (o + 34) j) ∧ (∀ j, q1 (o + 35) j = if 8 * b + i ≤ j ∧ j < 8 * b + rgW M o b then h j else q (o + 35) j) := by
  have hS := hI.sh
  have hb8 : b < 8 := Nat.lt_of_lt_of_le hb hI.nb8
  have hr8 := hI.rg8 hb
  have i5 : inb (Int32.ofNat b) 8 := ofN_inb (by omega) hb8
  have i6 : ixn (Int32.ofNat b) = b := ofN_ix (by omega)
  intro r
  induction r with
  | zero =>
    intro i f q hi hf
    obtain ⟨f, rfl⟩ : ∃ z, f = z + 1 := ⟨f - 1, by omega⟩
    refine ⟨q, ?_, fun _ _ _ => rfl, fun j => (if_neg (by omega)).symm, fun j => (if_neg (by omega)).symm⟩
    unfold F_X12_begins_p52
    simp only [gR_HM, gK_HM, gN_HM, gA_HM, hS.r1305, lr_some hS.k4, hS.n4, grd_pos i5, i6, hI.rg hb]
    rw [if_pos ((ofN_le (by omega) (by omega)).mpr (by omega))]
  | succ r ih =>
    intro i f q hi hf
    obtain ⟨f, rfl⟩ : ∃ z, f = z + 1 := ⟨f - 1, by omega⟩
    have i1 : inb (Int32.ofNat (8 * b + i)) 64 := ofN_inb (by omega) (by omega)
    have i2 : ixn (Int32.ofNat (8 * b + i)) = 8 * b + i := ofN_ix (by omega)
    have hw : F_X12_warmthOf (HM o M h g t q) o (Int32.ofNat b) (Int32.ofNat i) = some (HM o M h g t q, wS M o h b i) := (m_warmthOf (mshHM hS h g t q) hb8 (by omega) (hI.hold hb (by omega))).trans (by rw [HM_11]; rfl)
    obtain ⟨q1, e1, e2, e3, e4⟩ := ih (i + 1) f (up2 (up2 q (o + 34) (8 * b + i) (wS M o h b i)) (o + 35) (8 * b + i) (h (8 * b + i))) (by omega) (by omega)
    refine ⟨q1, ?_, fun a h1 h2 => ?_, fun j => ?_, fun j => ?_⟩
    · rw [← e1]
      conv => lhs; unfold F_X12_begins_p52
      simp only [gR_HM, gK_HM, gN_HM, gA_HM, hS.r1305, hS.r1346, hS.r1347, hS.r1313, lr_some hS.k4, lr_some hS.k34, lr_some hS.k35, lr_some hS.k11, hS.n4, hS.n34, hS.n35, hS.n11, grd_pos i5, i6, hI.rg hb]
      rw [if_neg (by rw [ofN_le (by omega) (by omega)]; omega)]
      simp only [hw, cl_some, i8, gR_HM, gK_HM, gN_HM, hS.r1347, hS.r1313, lr_some hS.k35, lr_some hS.k11, hS.n34, hS.n35, hS.n11, grd_pos i1, i2, bnd, sH34, sH35, HM_11, ofN_succ]
    · rw [e2 a h1 h2, up2_n _ h2, up2_n _ h1]
    · rw [e3 j, up2_n _ (show ¬ o + 34 = o + 35 by omega), up2_s]
      unfold ud
      by_cases hj : j = 8 * b + i
      · subst hj
        rw [if_neg (by omega), if_pos rfl, if_pos (by omega)]
        congr 1
        omega
      · by_cases hc : 8 * b + (i + 1) ≤ j ∧ j < 8 * b + rgW M o b
        · rw [if_pos hc, if_pos (by omega)]
        · rw [if_neg hc, if_neg hj, if_neg (by omega)]
    · rw [e4 j, up2_s]
      unfold ud
      by_cases hj : j = 8 * b + i
      · subst hj
        rw [if_neg (by omega), if_pos rfl, if_pos (by omega)]
      · by_cases hc : 8 * b + (i + 1) ≤ j ∧ j < 8 * b + rgW M o b
        · rw [if_pos hc, if_pos (by omega)]
        · rw [if_neg hc, if_neg hj, if_neg (by omega), up2_n _ (show ¬ o + 35 = o + 34 by omega)]
/-- the snapshot of bore b as an hour begins -/
def BG (M : Mem) (o hr : Nat) (h : Nat → Int64) (q : Nat → Nat → Int64) (b : Nat) : Prop := q (o + 36) b = mayS M o hr h 1 b ∧ q (o + 37) b = mayS M o hr h 0 b ∧ q (o + 38) b = lfS M o (wS M o h b 0) ∧ ∀ k, k < rgW M o b → q (o + 34) (8 * b + k) = wS M o h b k ∧ q (o + 35) (8 * b + k) = h (8 * b + k)
theorem m_begins_loop {o hr : Nat} {M : Mem} (hI : MI o M) (hh : gI M 1301 o = Int32.ofNat hr) (hhr : hr ≤ 20000) (h g t : Nat → Int64) (kk : Mem → Option (Mem × Unit)) : ∀ (r i f : Nat) (q : Nat → Nat → Int64), i + r = nbW M o → r < f → (∀ b, b < i → BG M o hr h q b) →
    ∃ q1, F_X12_begins_p2 kk f (HM o M h g t q) o (Int32.ofNat i) = kk (HM o M h g t q1) ∧ ∀ b, b < nbW M o → BG M o hr h q1 b := by
  have hS := hI.sh
  have hb8 := hI.nb8
  intro r
  induction r with
  | zero =>
    intro i f q hi hf hq
    obtain ⟨f, rfl⟩ : ∃ z, f = z + 1 := ⟨f - 1, by omega⟩
    refine ⟨q, ?_, fun b hb => hq b (by omega)⟩
    unfold F_X12_begins_p2
    simp only [gI_HM, hI.nb]
    rw [if_pos ((ofN_le (by omega) (by omega)).mpr (by omega))]
  | succ r ih =>
    intro i f q hi hf hq
    obtain ⟨f, rfl⟩ : ∃ z, f = z + 1 := ⟨f - 1, by omega⟩
    have hib : i < nbW M o := by omega
    have hr8 := hI.rg8 hib
    have i1 : inb (Int32.ofNat i) 8 := ofN_inb (by omega) (by omega)
    have i2 : ixn (Int32.ofNat i) = i := ofN_ix (by omega)
    obtain ⟨qa, ea, fa⟩ := m_mayOf hI hh hhr h g t q hib 1
    obtain ⟨qb, eb, fb⟩ := m_mayOf hI hh hhr h g t (up2 qa (o + 36) i (mayS M o hr h 1 i)) hib 0
    have hw : ∀ q2, F_X12_warmthOf (HM o M h g t q2) o (Int32.ofNat i) (0 : Int32) = some (HM o M h g t q2, wS M o h i 0) := fun q2 => (m_warmthOf (k := 0) (mshHM hS h g t q2) (by omega) (by omega) (hI.hold hib (by omega))).trans (by rw [HM_11]; rfl)
    have hl : ∀ q2 w, F_X12_liftAt (HM o M h g t q2) o w = some (HM o M h g t q2, lfS M o w) := fun q2 w => m_liftAt (mshHM hS h g t q2) hI.np hI.np8 (fun k hk => hI.dif hk) w
    obtain ⟨qc, ec, fc, gc, jc⟩ := m_was_loop hI h g t hib (F_X12_begins_p107 (F_X12_begins_p2 kk f)) (rgW M o i) 0 FU (up2 (up2 qb (o + 37) i (mayS M o hr h 0 i)) (o + 38) i (lfS M o (wS M o h i 0))) (by omega) (by unfold FU; omega)
    have f36 : qc (o + 36) = ud (q (o + 36)) i (mayS M o hr h 1 i) := by
      rw [fc (o + 36) (by omega) (by omega), up2_n _ (show ¬ o + 36 = o + 38 by omega), up2_n _ (show ¬ o + 36 = o + 37 by omega), fb (o + 36) (by omega) (by omega), up2_s, fa (o + 36) (by omega) (by omega)]
    have f37 : qc (o + 37) = ud (q (o + 37)) i (mayS M o hr h 0 i) := by
      rw [fc (o + 37) (by omega) (by omega), up2_n _ (show ¬ o + 37 = o + 38 by omega), up2_s, fb (o + 37) (by omega) (by omega), up2_n _ (show ¬ o + 37 = o + 36 by omega), fa (o + 37) (by omega) (by omega)]
    have f38 : qc (o + 38) = ud (q (o + 38)) i (lfS M o (wS M o h i 0)) := by
      rw [fc (o + 38) (by omega) (by omega), up2_s, up2_n _ (show ¬ o + 38 = o + 37 by omega), fb (o + 38) (by omega) (by omega), up2_n _ (show ¬ o + 38 = o + 36 by omega), fa (o + 38) (by omega) (by omega)]
    have f34 : ∀ j, qc (o + 34) j = if 8 * i + 0 ≤ j ∧ j < 8 * i + rgW M o i then wS M o h i (j - 8 * i) else q (o + 34) j := by
      intro j
      rw [gc j, up2_n _ (show ¬ o + 34 = o + 38 by omega), up2_n _ (show ¬ o + 34 = o + 37 by omega), fb (o + 34) (by omega) (by omega), up2_n _ (show ¬ o + 34 = o + 36 by omega), fa (o + 34) (by omega) (by omega)]
    have f35 : ∀ j, qc (o + 35) j = if 8 * i + 0 ≤ j ∧ j < 8 * i + rgW M o i then h j else q (o + 35) j := by
      intro j
      rw [jc j, up2_n _ (show ¬ o + 35 = o + 38 by omega), up2_n _ (show ¬ o + 35 = o + 37 by omega), fb (o + 35) (by omega) (by omega), up2_n _ (show ¬ o + 35 = o + 36 by omega), fa (o + 35) (by omega) (by omega)]
    have hq2 : ∀ b, b < i + 1 → BG M o hr h qc b := by
      intro b hb
      unfold BG
      rw [f36, f37, f38]
      by_cases hbi : b = i
      · subst hbi
        refine ⟨ud_s _ _ _, ud_s _ _ _, ud_s _ _ _, fun k hk => ⟨?_, ?_⟩⟩
        · rw [f34, if_pos (by omega)]
          congr 1
          omega
        · rw [f35, if_pos (by omega)]
      · obtain ⟨z1, z2, z3, z4⟩ := hq b (by omega)
        refine ⟨(ud_n _ hbi _).trans z1, (ud_n _ hbi _).trans z2, (ud_n _ hbi _).trans z3, fun k hk => ?_⟩
        have := z4 k hk
        have hr8 := hI.rg8 (show b < nbW M o by omega)
        rw [f34, f35, if_neg (by omega), if_neg (by omega)]
        exact this
    obtain ⟨q1, e1, e2⟩ := ih (i + 1) f qc (by omega) (by omega) hq2
    refine ⟨q1, ?_, e2⟩
    rw [← e1]
    conv => lhs; unfold F_X12_begins_p2
    simp only [gI_HM, hI.nb]
    rw [if_neg (by rw [ofN_le (by omega) (by omega)]; omega)]
    simp only [gR_HM, gK_HM, gN_HM, hS.r1348, hS.r1349, hS.r1350, lr_some hS.k36, lr_some hS.k37, lr_some hS.k38, hS.n36, hS.n37, hS.n38, ea, eb, hw, hl, cl_some, grd_pos i1, i2, bnd, sH36, sH37, sH38]
    have ec : F_X12_begins_p52 (F_X12_begins_p107 (F_X12_begins_p2 kk f)) FU _ o (Int32.ofNat i) (0 : Int32) = _ := ec
    rw [ec]
    unfold F_X12_begins_p107
    simp only [bnd, ofN_succ]
theorem m_begins {o hr : Nat} {M : Mem} (hI : MI o M) (hh : gI M 1301 o = Int32.ofNat hr) (hhr : hr ≤ 20000) (h g t : Nat → Int64) (q : Nat → Nat → Int64) : ∃ q1, F_X12_begins (HM o M h g t q) o = some (HM o M h g t q1, ()) ∧ ∀ b, b < nbW M o → BG M o hr h q1 b := by
  have hb8 := hI.nb8
  obtain ⟨q1, e1, e2⟩ := m_begins_loop hI hh hhr h g t F_X12_begins_p113 (nbW M o) 0 FU q (by omega) (by unfold FU; omega) (fun b hb => by omega)
  exact ⟨q1, e1, e2⟩
