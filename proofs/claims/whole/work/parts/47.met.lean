theorem metR_app (gv lf w0 : Nat → Int64) (op : Nat → Int32) (L : List (Nat × Int64)) : ∀ (r b : Nat) (l p : Int64) (h g t : Nat → Int64), metR gv lf w0 op r b l p h g (app t L) = ((metR gv lf w0 op r b l p h g t).1, (metR gv lf w0 op r b l p h g t).2.1, (metR gv lf w0 op r b l p h g t).2.2.1, (metR gv lf w0 op r b l p h g t).2.2.2.1, app (metR gv lf w0 op r b l p h g t).2.2.2.2 L) := by
  intro r
  induction r with
  | zero => intro b l p h g t; rfl
  | succ r ih =>
    intro b l p h g t
    unfold metR
    by_cases c : op b = 0
    · simp only [if_pos c]
      exact ih _ _ _ _ _ _
    · simp only [if_neg c]
      by_cases c2 : w0 b ≤ 0
      · simp only [if_pos c2]
        exact ih _ _ _ _ _ _
      · simp only [if_neg c2, ← app_ad]
        exact ih _ _ _ _ _ _
theorem k1 : (1 : Int64).toInt = 1 := by decide
theorem k99 : (99 : Int64).toInt = 99 := by decide
theorem k100 : (100 : Int64).toInt = 100 := by decide
/-- the greatest that a bore may lift -/
theorem g_eq {l : Int64} (h0 : 0 ≤ l.toInt) (h1 : l.toInt ≤ 2000000) : (l + 1) * 100 - 1 = 100 * l + 99 ∧ ((l + 1) * 100 - 1).toInt = 100 * l.toInt + 99 := by
  have e1 : (l + 1).toInt = l.toInt + 1 := i64_add (by rw [k1]; omega) (by rw [k1]; omega)
  have e2 : ((l + 1) * 100).toInt = (l.toInt + 1) * 100 := by rw [i64_mul (by rw [e1, k100]; omega) (by rw [e1, k100]; omega), e1, k100]
  have e3 : ((l + 1) * 100 - 1).toInt = 100 * l.toInt + 99 := by
    rw [i64_sub (by rw [e2, k1]; omega) (by rw [e2, k1]; omega), e2, k1]
    omega
  have e4 : (100 * l).toInt = 100 * l.toInt := by rw [i64_mul (by rw [k100]; omega) (by rw [k100]; omega), k100]
  have e5 : (100 * l + 99).toInt = 100 * l.toInt + 99 := by rw [i64_add (by rw [e4, k99]; omega) (by rw [e4, k99]; omega), e4, k99]
  exact ⟨i64_ext (by rw [e3, e5]), e3⟩
/-- what a bore gives: bounds -/
theorem gvG_bt {gv lf hb l : Int64} (h0 : 0 ≤ l.toInt) (h1 : l.toInt ≤ 2000000) (hg : 0 ≤ gv.toInt) (hl : 100 ≤ lf.toInt) (hl2 : lf.toInt ≤ 999) : 0 ≤ (gvG gv lf hb l).toInt ∧ (gvG gv lf hb l).toInt ≤ gv.toInt ∧ (gvG gv lf hb l * lf / 100).toInt = ((gvG gv lf hb l).toInt * lf.toInt).tdiv 100 ∧ 0 ≤ (gvG gv lf hb l * lf / 100).toInt ∧ (gvG gv lf hb l * lf / 100).toInt ≤ l.toInt ∧ (l - gvG gv lf hb l * lf / 100).toInt = l.toInt - (gvG gv lf hb l * lf / 100).toInt := by
  obtain ⟨e1, e2⟩ := g_eq h0 h1
  have e3 : (((l + 1) * 100 - 1) / lf).toInt = (100 * l.toInt + 99).tdiv lf.toInt := by rw [i64_div (by omega), e2]
  obtain ⟨d1, d2, d3⟩ := tdiv_nn (x := 100 * l.toInt + 99) (y := lf.toInt) (by omega) (by omega)
  have hb0 : 0 ≤ (gvG gv lf hb l).toInt ∧ (gvG gv lf hb l).toInt ≤ gv.toInt ∧ (gvG gv lf hb l).toInt ≤ (100 * l.toInt + 99).tdiv lf.toInt := by
    unfold gvG
    generalize hA : ((l + 1) * 100 - 1) / lf = A at e3 ⊢
    rw [← e3] at d1 ⊢
    have hh : 0 ≤ (if 0 ≤ hb then hb else 0).toInt := by
      by_cases c : 0 ≤ hb
      · rw [if_pos c]
        have := i64_le.mp c
        rw [z64] at this
        exact this
      · rw [if_neg c, z64]
        omega
    have hB : 0 ≤ (if A ≤ gv then A else gv).toInt ∧ (if A ≤ gv then A else gv).toInt ≤ gv.toInt ∧ (if A ≤ gv then A else gv).toInt ≤ A.toInt := by
      by_cases c : A ≤ gv
      · rw [if_pos c]
        have := i64_le.mp c
        omega
      · rw [if_neg c]
        have := i64_nle c
        omega
    generalize (if A ≤ gv then A else gv) = B at hB ⊢
    generalize (if 0 ≤ hb then hb else 0) = H at hh ⊢
    by_cases c : B ≤ H
    · rw [if_pos c]
      omega
    · rw [if_neg c]
      have := i64_nle c
      omega
  generalize gvG gv lf hb l = g at hb0 ⊢
  obtain ⟨g1, g2, g3⟩ := hb0
  have m0 : 0 ≤ g.toInt * lf.toInt := Int.mul_nonneg g1 (by omega)
  have m1 : g.toInt * lf.toInt ≤ 100 * l.toInt + 99 := Int.le_trans (Int.mul_le_mul_of_nonneg_right g3 (by omega)) d2
  have m2 : (g * lf).toInt = g.toInt * lf.toInt := i64_mul (by omega) (by omega)
  have m3 : (g * lf / 100).toInt = (g.toInt * lf.toInt).tdiv 100 := by rw [i64_div (by rw [k100]; omega), m2, k100]
  obtain ⟨f1, f2, f3⟩ := tdiv_nn m0 (show (0 : Int) < 100 by omega)
  have m4 : (g * lf / 100).toInt ≤ l.toInt := by rw [m3]; omega
  refine ⟨g1, g2, m3, by rw [m3]; exact f1, m4, ?_⟩
  rw [i64_sub (by rw [m3]; omega) (by rw [m3]; omega)]
theorem gvG_zero {gv lf hb : Int64} (hg : 0 ≤ gv.toInt) (hl : 100 ≤ lf.toInt) (hl2 : lf.toInt ≤ 999) : gvG gv lf hb 0 = 0 := by
  have e0 : ((0 : Int64) + 1) * 100 - 1 = 99 := by decide
  have e1 : (99 : Int64) / lf = 0 := by
    apply i64_ext
    rw [i64_div (by omega), k99, z64]
    obtain ⟨d1, d2, d3⟩ := tdiv_nn (x := 99) (y := lf.toInt) (by omega) (by omega)
    generalize Int.tdiv 99 lf.toInt = q at *
    have : ¬ 1 ≤ q := fun k => by
      have := Int.mul_le_mul_of_nonneg_right k (show (0 : Int) ≤ lf.toInt by omega)
      omega
    omega
  unfold gvG
  rw [e0, e1, if_pos (show (0 : Int64) ≤ gv from i64_le.mpr (by rw [z64]; exact hg))]
  by_cases c : 0 ≤ hb
  · rw [if_pos c, if_pos c]
  · rw [if_neg c, if_pos (Int64.le_refl _)]
theorem metR_zero {gv lf w0 : Nat → Int64} {op : Nat → Int32} (hg : ∀ b, 0 ≤ (gv b).toInt) (hl : ∀ b, 100 ≤ (lf b).toInt ∧ (lf b).toInt ≤ 999) : ∀ (r b : Nat) (p : Int64) (h g t : Nat → Int64), metR gv lf w0 op r b 0 p h g t = (0, p, h, g, t) := by
  intro r
  induction r with
  | zero => intro b p h g t; rfl
  | succ r ih =>
    intro b p h g t
    unfold metR
    have e : (0 : Int64) * lf b / 100 = 0 := by rw [Int64.zero_mul]; rfl
    rw [gvG_zero (hg b) (hl b).1 (hl b).2, e, Int64.sub_self, Int64.add_zero, Int64.sub_zero, ud_self, ad_zero, ad_zero, ad_zero, ih]
    by_cases c : op b = 0
    · rw [if_pos c]
    · rw [if_neg c]
      by_cases c2 : w0 b ≤ 0
      · rw [if_pos c2]
      · rw [if_neg c2]
/-- what a bore gives, as the class works it out -/
theorem gvG_class {gv lf hb l : Int64} (h0 : 0 ≤ l.toInt) (h1 : l.toInt ≤ 2000000) : (if (if (100 * l + 99) / lf < (if hb < 0 then 0 else hb) then (100 * l + 99) / lf else (if hb < 0 then 0 else hb)) < gv then (if (100 * l + 99) / lf < (if hb < 0 then 0 else hb) then (100 * l + 99) / lf else (if hb < 0 then 0 else hb)) else gv) = gvG gv lf hb l := by
  unfold gvG
  rw [(g_eq h0 h1).1]
  have eh : (if hb < 0 then 0 else hb) = (if 0 ≤ hb then hb else 0) := by
    by_cases c : hb < 0
    · rw [if_pos c, if_neg (Int64.not_le.mpr c)]
    · rw [if_neg c, if_pos (Int64.not_lt.mp c)]
  rw [eh]
  generalize (100 * l + 99) / lf = A
  generalize (if 0 ≤ hb then hb else 0) = H
  have t1 : ∀ x y : Int64, (if x < y then x else y).toInt = min x.toInt y.toInt := by
    intro x y
    by_cases c : x < y
    · rw [if_pos c]
      have := i64_lt.mp c
      omega
    · rw [if_neg c]
      have := i64_nlt c
      omega
  have t2 : ∀ x y : Int64, (if x ≤ y then x else y).toInt = min x.toInt y.toInt := by
    intro x y
    by_cases c : x ≤ y
    · rw [if_pos c]
      have := i64_le.mp c
      omega
    · rw [if_neg c]
      have := i64_nle c
      omega
  apply i64_ext
  rw [t1, t1, t2, t2]
  omega
/-- φ at the bores' addresses is g -/
def AGG (nb : Nat) (ba : Nat → Nat) (φ g : Nat → Int64) : Prop := ∀ b, b < nb → φ (ba b) = g b
def FRG (nb : Nat) (ba : Nat → Nat) (φ φ' : Nat → Int64) : Prop := ∀ a, (∀ b, b < nb → ¬ a = ba b) → φ' a = φ a
theorem FRG.refl {nb : Nat} {ba : Nat → Nat} (φ : Nat → Int64) : FRG nb ba φ φ := fun _ _ => rfl
theorem FRG.trans {nb : Nat} {ba : Nat → Nat} {φ1 φ2 φ3 : Nat → Int64} (h1 : FRG nb ba φ1 φ2) (h2 : FRG nb ba φ2 φ3) : FRG nb ba φ1 φ3 := fun a ha => (h2 a ha).trans (h1 a ha)
theorem FRG.ud {nb : Nat} {ba : Nat → Nat} (φ : Nat → Int64) {b : Nat} (hb : b < nb) (v : Int64) : FRG nb ba φ (ud φ (ba b) v) := fun a ha => if_neg (ha b hb)
theorem AGG.ud {nb : Nat} {ba : Nat → Nat} {φ g : Nat → Int64} (hI : ∀ b b', b < nb → b' < nb → ba b = ba b' → b = b') (hA : AGG nb ba φ g) {b : Nat} (hb : b < nb) (v : Int64) : AGG nb ba (ud φ (ba b) v) (ud g b v) := by
  intro b' hb'
  by_cases e : b' = b
  · subst e
    rw [ud_s, ud_s]
  · rw [ud_n _ (fun z => e (hI _ _ hb' hb z)), ud_n _ e]
    exact hA b' hb'
