/-- the numbers of the model -/
def MD (o : Nat) (W : Mem) (hr : Nat) (h g t : Nat → Int64) : Prop := gI W 1301 o = Int32.ofNat hr ∧ gB W (o + 11) = h ∧ gB W (o + 12) = g ∧ gB W (o + 13) = t
/-- what may change where the model works in mind or lets hours go by -/
def MRM (o : Nat) (W W1 : Mem) : Prop :=
  gK W1 = gK W ∧ gN W1 = gN W ∧ gR W1 = gR W ∧ gJ W1 = gJ W ∧ gO W1 = gO W ∧ gH W1 = gH W ∧ gS W1 = gS W ∧ gE W1 = gE W ∧
  (∀ f a, ¬ f = 1301 → ¬ f = 1355 → gI W1 f a = gI W f a) ∧ (∀ a, ¬ a = o + 10 → ¬ a = o + 42 → gA W1 a = gA W a) ∧
  (∀ a, ¬ a = o + 11 → ¬ a = o + 12 → ¬ a = o + 13 → ¬ (o + 32 ≤ a ∧ a ≤ o + 44) → gB W1 a = gB W a)
theorem MRM.refl {o : Nat} (W : Mem) : MRM o W W := ⟨rfl, rfl, rfl, rfl, rfl, rfl, rfl, rfl, fun _ _ _ _ => rfl, fun _ _ _ => rfl, fun _ _ _ _ _ => rfl⟩
theorem MRM.trans {o : Nat} {W W1 W2 : Mem} (h : MRM o W W1) (k : MRM o W1 W2) : MRM o W W2 := by
  obtain ⟨h1, h2, h3, h4, h5, h6, h7, h8, h9, ha, hb⟩ := h
  obtain ⟨k1, k2, k3, k4, k5, k6, k7, k8, k9, ka, kb⟩ := k
  exact ⟨k1.trans h1, k2.trans h2, k3.trans h3, k4.trans h4, k5.trans h5, k6.trans h6, k7.trans h7, k8.trans h8, fun f a z1 z2 => (k9 f a z1 z2).trans (h9 f a z1 z2), fun a z1 z2 => (ka a z1 z2).trans (ha a z1 z2), fun a z1 z2 z3 z4 => (kb a z1 z2 z3 z4).trans (hb a z1 z2 z3 z4)⟩
theorem MSh.to {o : Nat} {W W1 : Mem} (h : MSh o W) (hK : gK W1 = gK W) (hN : gN W1 = gN W) (hR : gR W1 = gR W) (hH : gH W1 = gH W) : MSh o W1 := by
  unfold MSh at h ⊢
  rw [hK, hN, hR, hH]
  exact h
/-- the rows and fields on which an hour rests are the same -/
def SameW (o : Nat) (W W1 : Mem) : Prop := gI W1 1302 o = gI W 1302 o ∧ gI W1 1312 o = gI W 1312 o ∧ gI W1 1316 o = gI W 1316 o ∧ gI W1 1322 o = gI W 1322 o ∧ gI W1 1329 o = gI W 1329 o ∧ ∀ j, 2 ≤ j → j ≤ 27 → ¬ j = 10 → ¬ j = 23 → gA W1 (o + j) = gA W (o + j)
theorem MRM.same {o : Nat} {W W1 : Mem} (h : MRM o W W1) : SameW o W W1 := by
  obtain ⟨h1, h2, h3, h4, h5, h6, h7, h8, h9, ha, hb⟩ := h
  exact ⟨h9 _ _ (by omega) (by omega), h9 _ _ (by omega) (by omega), h9 _ _ (by omega) (by omega), h9 _ _ (by omega) (by omega), h9 _ _ (by omega) (by omega), fun j h2 h27 h10 h23 => ha _ (by omega) (by omega)⟩
theorem SameW.nb {o : Nat} {W W1 : Mem} (h : SameW o W W1) : nbW W1 o = nbW W o := by
  unfold nbW
  rw [h.1]
theorem SameW.rg {o : Nat} {W W1 : Mem} (h : SameW o W W1) : rgW W1 o = rgW W o := by
  funext b
  unfold rgW
  rw [h.2.2.2.2.2 4 (by omega) (by omega) (by omega) (by omega)]
theorem SameW.symm {o : Nat} {W W1 : Mem} (h : SameW o W W1) : SameW o W1 W := ⟨h.1.symm, h.2.1.symm, h.2.2.1.symm, h.2.2.2.1.symm, h.2.2.2.2.1.symm, fun j a b c d => (h.2.2.2.2.2 j a b c d).symm⟩
theorem MI.congr {o : Nat} {W W1 : Mem} (hI : MI o W) (hS : MSh o W1) (h : SameW o W W1) (hop : ∀ b, b < 8 → gA W1 (o + 10) b = 0 ∨ gA W1 (o + 10) b = 1) : MI o W1 := by
  obtain ⟨h1, h2, h3, h4, h5, h6⟩ := h
  have a2 := h6 2 (by omega) (by omega) (by omega) (by omega)
  have a3 := h6 3 (by omega) (by omega) (by omega) (by omega)
  have a4 := h6 4 (by omega) (by omega) (by omega) (by omega)
  have a5 := h6 5 (by omega) (by omega) (by omega) (by omega)
  have a6 := h6 6 (by omega) (by omega) (by omega) (by omega)
  have a7 := h6 7 (by omega) (by omega) (by omega) (by omega)
  have a8 := h6 8 (by omega) (by omega) (by omega) (by omega)
  have a9 := h6 9 (by omega) (by omega) (by omega) (by omega)
  have a14 := h6 14 (by omega) (by omega) (by omega) (by omega)
  have a15 := h6 15 (by omega) (by omega) (by omega) (by omega)
  have a18 := h6 18 (by omega) (by omega) (by omega) (by omega)
  have a19 := h6 19 (by omega) (by omega) (by omega) (by omega)
  have a20 := h6 20 (by omega) (by omega) (by omega) (by omega)
  have a21 := h6 21 (by omega) (by omega) (by omega) (by omega)
  have a22 := h6 22 (by omega) (by omega) (by omega) (by omega)
  have a26 := h6 26 (by omega) (by omega) (by omega) (by omega)
  have a27 := h6 27 (by omega) (by omega) (by omega) (by omega)
  obtain ⟨-, i2, i3, i4, i5, i6⟩ := hI
  refine ⟨hS, ?_, ?_, ?_, hop, ?_⟩
  · simp only [nbW, h1] at i2 ⊢
    exact i2
  · simp only [nbW, rgW, h1, a4] at i3 ⊢
    exact i3
  · simp only [nbW, h1, a2, a3, a5, a6, a7, a8, a9] at i4 ⊢
    exact i4
  · simp only [nhW, npW, nrW, szW, h2, h3, h4, h5, a14, a15, a18, a19, a20, a21, a22, a26, a27] at i6 ⊢
    exact i6
theorem hourS_congr {o : Nat} {W W1 : Mem} (h : SameW o W W1) (hop : gA W1 (o + 10) = gA W (o + 10)) (hr : Nat) (f g t : Nat → Int64) : hourS W1 o hr f g t = hourS W o hr f g t := by
  obtain ⟨h1, h2, h3, h4, h5, h6⟩ := h
  have a2 := h6 2 (by omega) (by omega) (by omega) (by omega)
  have a3 := h6 3 (by omega) (by omega) (by omega) (by omega)
  have a4 := h6 4 (by omega) (by omega) (by omega) (by omega)
  have a5 := h6 5 (by omega) (by omega) (by omega) (by omega)
  have a6 := h6 6 (by omega) (by omega) (by omega) (by omega)
  have a7 := h6 7 (by omega) (by omega) (by omega) (by omega)
  have a8 := h6 8 (by omega) (by omega) (by omega) (by omega)
  have a9 := h6 9 (by omega) (by omega) (by omega) (by omega)
  have a14 := h6 14 (by omega) (by omega) (by omega) (by omega)
  have a15 := h6 15 (by omega) (by omega) (by omega) (by omega)
  have a16 := h6 16 (by omega) (by omega) (by omega) (by omega)
  have a17 := h6 17 (by omega) (by omega) (by omega) (by omega)
  have a18 := h6 18 (by omega) (by omega) (by omega) (by omega)
  have a19 := h6 19 (by omega) (by omega) (by omega) (by omega)
  have a20 := h6 20 (by omega) (by omega) (by omega) (by omega)
  have a21 := h6 21 (by omega) (by omega) (by omega) (by omega)
  have a22 := h6 22 (by omega) (by omega) (by omega) (by omega)
  have a24 := h6 24 (by omega) (by omega) (by omega) (by omega)
  have a25 := h6 25 (by omega) (by omega) (by omega) (by omega)
  have a26 := h6 26 (by omega) (by omega) (by omega) (by omega)
  have a27 := h6 27 (by omega) (by omega) (by omega) (by omega)
  have e1 : nbW W1 o = nbW W o := by simp only [nbW, h1]
  have e2 : rgW W1 o = rgW W o := by
    funext b
    simp only [rgW, a4]
  have e3 : wS W1 o = wS W o := by
    funext f b k
    simp only [wS, a5, a6]
  have e4 : needW W1 o = needW W o := by
    funext f
    simp only [needW, nhW, h3, a14, a15, a16, a17, a18]
  have e5 : lfS W1 o = lfS W o := by
    funext w
    simp only [lfS, npW, h4, a19, a20]
  have e6 : nmS W1 o = nmS W o := by
    funext hr f b k
    simp only [nmS, nhW, rgW, h3, a4, a5, a6, a7, a14, a15, a16, a17, a18, a21]
  have e7 : mayS W1 o = mayS W o := by
    funext hr f p b
    simp only [mayS, nrW, szW, h5, a24, a25, a26, a27, e6]
  have f1 : ldV W1 o = ldV W o := by
    funext f b k
    simp only [ldV, e3, a8]
  have f2 : washV W1 o = washV W o := by
    funext f b k
    simp only [washV, a5, a6, a7, a9]
  have f3 : lostV W1 o = lostV W o := by
    funext f b
    simp only [lostV, e2, e3, a7, a8]
  have f0 : farW W1 o = farW W o := by
    funext a b
    simp only [farW, a2, a3]
  have f5 : shrV W1 o = shrV W o := by
    funext f a b
    simp only [shrV, f0, e2, e3, h2]
  have f4 : pairO W1 o = pairO W o := by
    funext f a b
    unfold pairO
    rw [f0, f5, e2]
  have e8 : ownO W1 o = ownO W o := by
    funext f b
    simp only [ownO, f1, f2, f3, e2]
  have e9 : ownT W1 o = ownT W o := by
    funext f b
    simp only [ownT, f2, f3, e2]
  have e10 : pairsO W1 o = pairsO W o := by
    funext f b
    simp only [pairsO, f4, e1]
  simp only [hourS, metS, sunS, costS, grdO, grdT, e1, e3, e4, e5, e7, e8, e9, e10, hop, a21, a22]
theorem HBd.congr {o hr : Nat} {W W1 : Mem} (h : SameW o W W1) {f : Nat → Int64} (hB : HBd W o hr f) : HBd W1 o hr f := by
  unfold HBd hdI at *
  rw [h.nb, h.rg, h.2.2.2.2.2 5 (by omega) (by omega) (by omega) (by omega), h.2.2.2.2.2 6 (by omega) (by omega) (by omega) (by omega)]
  exact hB
theorem m_goes1 {o hr : Nat} {W : Mem} (hI : MI o W) {h g t : Nat → Int64} (hD : MD o W hr h g t) (hhr : hr ≤ 20000) : ∃ W1, F_X12_goes W o = some (W1, ()) ∧ MD o W1 (hr + 1) (hourS W o hr h g t).1 (hourS W o hr h g t).2.1 (hourS W o hr h g t).2.2 ∧ MRM o W W1 ∧ gA W1 = gA W ∧ (∀ f a, ¬ f = 1301 → gI W1 f a = gI W f a) ∧ ∀ a, ¬ a = o + 11 → ¬ a = o + 12 → ¬ a = o + 13 → ¬ (o + 32 ≤ a ∧ a ≤ o + 38) → gB W1 a = gB W a := by
  obtain ⟨d1, d2, d3, d4⟩ := hD
  obtain ⟨q1, e1⟩ := m_goes hI d1 hhr (gB W (o + 11)) (gB W (o + 12)) (gB W (o + 13)) (gB W)
  rw [HM_self, d2, d3, d4] at e1
  have hi : ∀ f a, ¬ f = 1301 → gI (sI (HM o W (hourS W o hr h g t).1 (hourS W o hr h g t).2.1 (hourS W o hr h g t).2.2 q1) 1301 o (Int32.ofNat (hr + 1))) f a = gI W f a := by
    intro f a z
    rw [gI_nf z, gI_HM]
  have hb : ∀ a, ¬ a = o + 11 → ¬ a = o + 12 → ¬ a = o + 13 → ¬ (o + 32 ≤ a ∧ a ≤ o + 38) → gB (sI (HM o W (hourS W o hr h g t).1 (hourS W o hr h g t).2.1 (hourS W o hr h g t).2.2 q1) 1301 o (Int32.ofNat (hr + 1))) a = gB W a := by
    intro a z1 z2 z3 z4
    rw [gB_sI, gB_HM, if_neg z1, if_neg z2, if_neg z3, if_neg z4]
  refine ⟨_, e1, ⟨?_, ?_, ?_, ?_⟩, ⟨rfl, rfl, rfl, rfl, rfl, rfl, rfl, rfl, fun f a z _ => hi f a z, fun a _ _ => rfl, fun a z1 z2 z3 z4 => hb a z1 z2 z3 (by omega)⟩, rfl, hi, hb⟩
  · rw [gI_sf, ud_s]
  · rw [gB_sI, HM_11]
  · rw [gB_sI, HM_12]
  · rw [gB_sI, HM_13]
/-- the totals bear on nothing else, and each place on itself alone -/
theorem ad_at {t u : Nat → Int64} {i : Nat} (h : t i = u i) (j : Nat) (v : Int64) : ad t j v i = ad u j v i := by
  unfold ad ud
  by_cases e : i = j
  · rw [if_pos e, if_pos e, ← e, h]
  · rw [if_neg e, if_neg e, h]
theorem app_at {i : Nat} : ∀ (l : List (Nat × Int64)) (t u : Nat → Int64), t i = u i → app t l i = app u l i := by
  intro l t u h
  rw [app_dl, app_dl]
  show t i + _ = u i + _
  rw [h]
theorem sunR_at (tk : Nat → Int64) (op : Nat → Int32) {i : Nat} : ∀ (r b : Nat) (l : Int64) (h t u : Nat → Int64), t i = u i → (sunR tk op r b l h t).1 = (sunR tk op r b l h u).1 ∧ (sunR tk op r b l h t).2.1 = (sunR tk op r b l h u).2.1 ∧ (sunR tk op r b l h t).2.2 i = (sunR tk op r b l h u).2.2 i := by
  intro r
  induction r with
  | zero => exact fun b l h t u e => ⟨rfl, rfl, e⟩
  | succ r ih =>
    intro b l h t u e
    unfold sunR
    by_cases c : op b = 0
    · rw [if_pos c, if_pos c]
      exact ih _ _ _ _ _ e
    · rw [if_neg c, if_neg c]
      by_cases c2 : l ≤ tk b
      · rw [if_pos c2, if_pos c2]
        exact ih _ _ _ _ _ (ad_at e _ _)
      · rw [if_neg c2, if_neg c2]
        exact ih _ _ _ _ _ (ad_at e _ _)
theorem metR_at (gv lf w0 : Nat → Int64) (op : Nat → Int32) {i : Nat} : ∀ (r b : Nat) (l p : Int64) (h g t u : Nat → Int64), t i = u i → (metR gv lf w0 op r b l p h g t).1 = (metR gv lf w0 op r b l p h g u).1 ∧ (metR gv lf w0 op r b l p h g t).2.1 = (metR gv lf w0 op r b l p h g u).2.1 ∧ (metR gv lf w0 op r b l p h g t).2.2.1 = (metR gv lf w0 op r b l p h g u).2.2.1 ∧ (metR gv lf w0 op r b l p h g t).2.2.2.1 = (metR gv lf w0 op r b l p h g u).2.2.2.1 ∧ (metR gv lf w0 op r b l p h g t).2.2.2.2 i = (metR gv lf w0 op r b l p h g u).2.2.2.2 i := by
  intro r
  induction r with
  | zero => exact fun b l p h g t u e => ⟨rfl, rfl, rfl, rfl, e⟩
  | succ r ih =>
    intro b l p h g t u e
    unfold metR
    by_cases c : op b = 0
    · rw [if_pos c, if_pos c]
      exact ih _ _ _ _ _ _ _ e
    · rw [if_neg c, if_neg c]
      by_cases c2 : w0 b ≤ 0
      · rw [if_pos c2, if_pos c2]
        exact ih _ _ _ _ _ _ _ e
      · rw [if_neg c2, if_neg c2]
        exact ih _ _ _ _ _ _ _ (ad_at (ad_at e _ _) _ _)
theorem hourS_at {o : Nat} {W : Mem} (hr : Nat) (h g t u : Nat → Int64) {i : Nat} (e : t i = u i) : (hourS W o hr h g t).1 = (hourS W o hr h g u).1 ∧ (hourS W o hr h g t).2.1 = (hourS W o hr h g u).2.1 ∧ (hourS W o hr h g t).2.2 i = (hourS W o hr h g u).2.2 i := by
  obtain ⟨s1, s2, s3⟩ := sunR_at (mayS W o hr h 1) (gA W (o + 10)) (nbW W o) 0 (gA W (o + 22) (hr % 24)).toInt64 h t u e
  have s1 : (sunS W o hr h t).1 = (sunS W o hr h u).1 := s1
  have s2 : (sunS W o hr h t).2.1 = (sunS W o hr h u).2.1 := s2
  have s3 : (sunS W o hr h t).2.2 i = (sunS W o hr h u).2.2 i := s3
  obtain ⟨m1, m2, m3, m4, m5⟩ := metR_at (mayS W o hr h 0) (fun b => lfS W o (wS W o h b 0)) (fun b => wS W o h b 0) (gA W (o + 10)) (nbW W o) 0 (needW W o hr) 0 (sunS W o hr h t).2.1 g (ad (sunS W o hr h t).2.2 1 (sunS W o hr h t).1) (ad (sunS W o hr h u).2.2 1 (sunS W o hr h t).1) (ad_at s3 _ _)
  rw [s2, s1] at m1 m2 m3 m4 m5
  have em : metS W o hr h g t = metR (mayS W o hr h 0) (fun b => lfS W o (wS W o h b 0)) (fun b => wS W o h b 0) (gA W (o + 10)) (nbW W o) 0 (needW W o hr) 0 (sunS W o hr h u).2.1 g (ad (sunS W o hr h t).2.2 1 (sunS W o hr h u).1) := by
    unfold metS
    rw [s1, s2]
  rw [← em] at m1 m2 m3 m4 m5
  refine ⟨?_, m4, ?_⟩
  · show app _ _ = app _ _
    rw [m3]
    rfl
  · show app _ _ i = app _ _ i
    refine app_at _ _ _ ?_
    show ad (ad (ad _ 4 _) 5 _) 6 _ i = ad (ad (ad _ 4 _) 5 _) 6 _ i
    rw [m1, m2]
    exact ad_at (ad_at (ad_at m5 _ _) _ _) _ _
