theorem sunR_bt {tk : Nat → Int64} {op : Nat → Int32} (htk : ∀ b, 0 ≤ (tk b).toInt ∧ (tk b).toInt ≤ 99999) : ∀ (r b : Nat) (l : Int64) (h t : Nat → Int64), 0 ≤ l.toInt → (∀ i, i < 8 * b → (sunR tk op r b l h t).2.1 i = h i) ∧ (∀ i, -1000000000000000 ≤ (h i).toInt → (h i).toInt ≤ 1000000000000000 → (h i).toInt ≤ ((sunR tk op r b l h t).2.1 i).toInt ∧ ((sunR tk op r b l h t).2.1 i).toInt ≤ (h i).toInt + 99999) ∧ (sunR tk op r b l h t).2.2 5 = t 5 := by
  intro r
  induction r with
  | zero =>
    intro b l h t _
    refine ⟨fun i _ => rfl, fun i _ _ => ⟨Int.le_refl _, ?_⟩, rfl⟩
    show (h i).toInt ≤ (h i).toInt + 99999
    omega
  | succ r ih =>
    intro b l h t hl
    have hstep : ∀ (l2 v : Int64), 0 ≤ l2.toInt → 0 ≤ v.toInt → v.toInt ≤ 99999 → (∀ i, i < 8 * b → (sunR tk op r (b + 1) l2 (ad h (8 * b) v) (ad t 0 v)).2.1 i = h i) ∧ (∀ i, -1000000000000000 ≤ (h i).toInt → (h i).toInt ≤ 1000000000000000 → (h i).toInt ≤ ((sunR tk op r (b + 1) l2 (ad h (8 * b) v) (ad t 0 v)).2.1 i).toInt ∧ ((sunR tk op r (b + 1) l2 (ad h (8 * b) v) (ad t 0 v)).2.1 i).toInt ≤ (h i).toInt + 99999) ∧ (sunR tk op r (b + 1) l2 (ad h (8 * b) v) (ad t 0 v)).2.2 5 = t 5 := by
      intro l2 v h2 hv hv2
      obtain ⟨i1, i2, i3⟩ := ih (b + 1) l2 (ad h (8 * b) v) (ad t 0 v) h2
      refine ⟨fun i hi => ?_, fun i hi hi2 => ?_, ?_⟩
      · rw [i1 i (by omega)]
        exact ud_n _ (by omega) _
      · by_cases e : i = 8 * b
        · rw [i1 i (by omega), e]
          have : ad h (8 * b) v (8 * b) = h (8 * b) + v := ud_s _ _ _
          rw [e] at hi hi2
          rw [this, i64_add (by omega) (by omega)]
          omega
        · have e2 : ad h (8 * b) v i = h i := ud_n _ e _
          have := i2 i (by rw [e2]; exact hi) (by rw [e2]; exact hi2)
          rw [e2] at this
          exact this
      · rw [i3]
        exact ud_n _ (by omega) _
    unfold sunR
    by_cases c : op b = 0
    · rw [if_pos c]
      obtain ⟨i1, i2, i3⟩ := ih (b + 1) l h t hl
      exact ⟨fun i hi => i1 i (by omega), i2, i3⟩
    · rw [if_neg c]
      by_cases c2 : l ≤ tk b
      · rw [if_pos c2]
        have c3 := i64_le.mp c2
        have := (htk b).2
        exact hstep (l - l) l (by rw [Int64.sub_self, z64]; omega) hl (by omega)
      · rw [if_neg c2]
        have c3 := i64_nle c2
        obtain ⟨k1, k2⟩ := htk b
        have := i64_rng l
        exact hstep (l - tk b) (tk b) (by rw [i64_sub (by omega) (by omega)]; omega) k1 k2
theorem metR_bt {gv lf w0 : Nat → Int64} {op : Nat → Int32} (hg : ∀ b, 0 ≤ (gv b).toInt ∧ (gv b).toInt ≤ 99999) (hlf : ∀ b, 100 ≤ (lf b).toInt ∧ (lf b).toInt ≤ 999) : ∀ (r b : Nat) (l p : Int64) (h g t : Nat → Int64), 0 ≤ l.toInt → l.toInt ≤ 2000000 → (0 ≤ (metR gv lf w0 op r b l p h g t).1.toInt ∧ (metR gv lf w0 op r b l p h g t).1.toInt ≤ l.toInt) ∧ (∀ i, i < 8 * b → (metR gv lf w0 op r b l p h g t).2.2.1 i = h i) ∧ (∀ i, -1000000000000000 ≤ (h i).toInt → (h i).toInt ≤ 1000000000000000 → (h i).toInt - 99999 ≤ ((metR gv lf w0 op r b l p h g t).2.2.1 i).toInt ∧ ((metR gv lf w0 op r b l p h g t).2.2.1 i).toInt ≤ (h i).toInt) ∧ (metR gv lf w0 op r b l p h g t).2.2.2.2 5 = t 5 := by
  intro r
  induction r with
  | zero =>
    intro b l p h g t h0 h1
    refine ⟨⟨h0, Int.le_refl _⟩, fun i _ => rfl, fun i _ _ => ⟨?_, Int.le_refl _⟩, rfl⟩
    show (h i).toInt - 99999 ≤ (h i).toInt
    omega
  | succ r ih =>
    intro b l p h g t h0 h1
    unfold metR
    have hsame := ih (b + 1) l p h g t h0 h1
    by_cases c : op b = 0
    · rw [if_pos c]
      obtain ⟨i1, i2, i3, i4⟩ := hsame
      exact ⟨i1, fun i hi => i2 i (by omega), i3, i4⟩
    · rw [if_neg c]
      by_cases c2 : w0 b ≤ 0
      · rw [if_pos c2]
        obtain ⟨i1, i2, i3, i4⟩ := hsame
        exact ⟨i1, fun i hi => i2 i (by omega), i3, i4⟩
      · rw [if_neg c2]
        clear hsame
        obtain ⟨u1, u2, u3, u4, u5, u6⟩ := gvG_bt (hb := h (8 * b)) h0 h1 (hg b).1 (hlf b).1 (hlf b).2
        have hgb := (hg b).2
        generalize gvG (gv b) (lf b) (h (8 * b)) l = v at u1 u2 u3 u4 u5 u6 ⊢
        obtain ⟨i1, i2, i3, i4⟩ := ih (b + 1) (l - v * lf b / 100) (p + (v * lf b / 100 - v)) (ud h (8 * b) (h (8 * b) - v)) (ad g b v) (ad (ad t 2 v) 3 (v * lf b / 100)) (by omega) (by omega)
        refine ⟨⟨i1.1, by omega⟩, fun i hi => ?_, fun i hi hi2 => ?_, ?_⟩
        · rw [i2 i (by omega)]
          exact ud_n _ (by omega) _
        · by_cases e : i = 8 * b
          · rw [i2 i (by omega), e]
            rw [e] at hi hi2
            rw [ud_s, i64_sub (by omega) (by omega)]
            omega
          · have e2 : ud h (8 * b) (h (8 * b) - v) i = h i := ud_n _ e _
            have := i3 i (by rw [e2]; exact hi) (by rw [e2]; exact hi2)
            rw [e2] at this
            exact this
        · rw [i4]
          show ud (ud t 2 _) 3 _ 5 = t 5
          rw [ud_n _ (by omega), ud_n _ (by omega)]
theorem wash_bt {h f wt Z : Int} (h1 : 0 ≤ wt) (h2 : wt ≤ 100) (h3 : 0 ≤ f) (h4 : f ≤ Z) (h5 : -Z ≤ h) (h6 : h ≤ Z) : -(Z + h) ≤ 10 * -((h - f) * wt).tdiv 1000 ∧ 10 * -((h - f) * wt).tdiv 1000 ≤ Z - h ∧ -(200 * Z) ≤ (h - f) * wt ∧ (h - f) * wt ≤ 200 * Z := by
  rcases Int.le_total 0 (h - f) with c | c
  · have x1 : 0 ≤ (h - f) * wt := Int.mul_nonneg c h1
    have x2 : (h - f) * wt ≤ (h - f) * 100 := Int.mul_le_mul_of_nonneg_left h2 c
    obtain ⟨d1, d2, d3⟩ := tdiv_nn x1 (show (0 : Int) < 1000 by omega)
    omega
  · have x1 : (h - f) * wt ≤ 0 := Int.mul_nonpos_of_nonpos_of_nonneg c h1
    have x2 : (h - f) * 100 ≤ (h - f) * wt := Int.mul_le_mul_of_nonpos_left c h2
    obtain ⟨d1, d2, d3⟩ := tdiv_np x1 (show (0 : Int) < 1000 by omega)
    omega
theorem dl5_wash (v : Nat → Int64) : ∀ r k, dl (washT v r k) 5 = 0 := by
  intro r
  induction r with
  | zero => intro k; rfl
  | succ r ih =>
    intro k
    show (if 5 = 8 then v k else 0) + dl (washT v r (k + 1)) 5 = 0
    rw [if_neg (by omega), ih, Int64.add_zero]
theorem dl5_own (M : Mem) (o : Nat) (h : Nat → Int64) : ∀ r b, dl (catR (ownT M o h) r b) 5 = 0 := by
  intro r
  induction r with
  | zero => intro b; rfl
  | succ r ih =>
    intro b
    rw [catR_succ, dl_append, ih, Int64.add_zero]
    show (if 5 = 7 then lostV M o h b else 0) + dl (washT (washV M o h b) (rgW M o b) 0) 5 = 0
    rw [if_neg (by omega), dl5_wash, Int64.add_zero]
/-- what an hour lacks is bought -/
theorem hour5 {o : Nat} {M : Mem} (hI : MI o M) (hr : Nat) (h g t : Nat → Int64) : (hourS M o hr h g t).2.2 5 = t 5 + (metS M o hr h g t).1 ∧ 0 ≤ (metS M o hr h g t).1.toInt ∧ (metS M o hr h g t).1.toInt ≤ 2000000 := by
  obtain ⟨n0, n1⟩ := need_bt hI hr
  have hs0 : 0 ≤ (gA M (o + 22) (hr % 24)).toInt64.toInt := by
    rw [Int32.toInt_toInt64]
    exact (hI.pr (show hr % 24 < 24 by omega)).2.1
  obtain ⟨-, -, s3⟩ := sunR_bt (op := gA M (o + 10)) (fun b => mayS_bt M o hr h 1 b) (nbW M o) 0 (gA M (o + 22) (hr % 24)).toInt64 h t hs0
  obtain ⟨m1, -, -, m4⟩ := metR_bt (w0 := fun b => wS M o h b 0) (op := gA M (o + 10)) (fun b => mayS_bt M o hr h 0 b) (fun b => lift_bt hI (wS M o h b 0)) (nbW M o) 0 (needW M o hr) 0 (sunS M o hr h t).2.1 g (ad (sunS M o hr h t).2.2 1 (sunS M o hr h t).1) n0 n1
  refine ⟨?_, m1.1, by have := m1.2; unfold metS; omega⟩
  show app (costS M o hr (metS M o hr h g t)) (grdT M o h) 5 = _
  rw [app_dl]
  show costS M o hr (metS M o hr h g t) 5 + dl (catR (ownT M o h) (nbW M o) 0) 5 = _
  rw [dl5_own, Int64.add_zero]
  have e1 : costS M o hr (metS M o hr h g t) 5 = (metS M o hr h g t).2.2.2.2 5 + (metS M o hr h g t).1 := by
    unfold costS
    show ud (ad (ad _ 4 _) 5 _) 6 _ 5 = _
    rw [ud_n _ (by omega)]
    show ud (ad _ 4 _) 5 _ 5 = _
    rw [ud_s]
    show ud _ 4 _ 5 + _ = _
    rw [ud_n _ (by omega)]
  rw [e1]
  have e2 : (metS M o hr h g t).2.2.2.2 5 = t 5 := by
    refine Eq.trans m4 ?_
    show ud _ 1 _ 5 = _
    rw [ud_n _ (by omega)]
    exact s3
  rw [e2]
