theorem own_dl {o : Nat} {W : Mem} (hI : MI o W) {h : Nat → Int64} {b k : Nat} (hb : b < nbW W o) (hk : k < rgW W o b) : dl (catR (ownO W o h) (nbW W o) 0) (8 * b + k) = dl (leadO (ldV W o h b) b (rgW W o b - 1) 0 ++ [(8 * b + (rgW W o b - 1), - lostV W o h b)]) (8 * b + k) + - washV W o h b k := by
  have r8 := hI.rg8 hb
  rw [dl_catR_one (b := b) _ _ (by omega) (by omega)]
  · rw [show ownO W o h b = leadO (ldV W o h b) b (rgW W o b - 1) 0 ++ ((8 * b + (rgW W o b - 1), - lostV W o h b) :: washO (washV W o h b) b (rgW W o b) 0) from rfl, dl_append, dl_append, dl_one]
    show _ + ((if 8 * b + k = 8 * b + (rgW W o b - 1) then - lostV W o h b else 0) + dl (washO (washV W o h b) b (rgW W o b) 0) (8 * b + k)) = _
    rw [wash_dl _ _ (by omega), if_pos (show 8 * b + 0 ≤ 8 * b + k ∧ 8 * b + k < 8 * b + (0 + rgW W o b) by omega), Nat.add_sub_cancel_left, Int64.add_assoc]
  · intro c _ hc hcb
    have hc : c < nbW W o := by omega
    have c8 := hI.rg8 hc
    have c1 := hI.rg1 hc
    rw [show ownO W o h c = leadO (ldV W o h c) c (rgW W o c - 1) 0 ++ ((8 * c + (rgW W o c - 1), - lostV W o h c) :: washO (washV W o h c) c (rgW W o c) 0) from rfl, dl_append, lead_out _ _ (by omega) (by omega)]
    show (0 : Int64) + ((if 8 * b + k = 8 * c + (rgW W o c - 1) then - lostV W o h c else 0) + dl (washO (washV W o h c) c (rgW W o c) 0) (8 * b + k)) = 0
    rw [if_neg (by omega), wash_dl _ _ (by omega), if_neg (by omega)]
    rfl
theorem farD {o : Nat} {M : Mem} (hI : MI o M) {a b : Nat} (ha : a < nbW M o) (hb : b < nbW M o) : 100 ≤ ((100 : Int64) * (farW M o a b + 1).toInt64).toInt := by
  have hf := (far_ne hI ha hb).1
  have := hf.1
  have := hf.2
  have e1 : (farW M o a b + 1).toInt = (farW M o a b).toInt + 1 := i32_add (by show -2147483648 ≤ _ + (1 : Int); omega) (by show _ + (1 : Int) < _; omega)
  rw [i64_mul (by rw [k100, Int32.toInt_toInt64, e1]; omega) (by rw [k100, Int32.toInt_toInt64, e1]; omega), k100, Int32.toInt_toInt64, e1]
  omega
theorem capC_hi {hr : Nat} (hhr : hr ≤ 20000) : 99000 ≤ capC hr ∧ capC hr ≤ 30000000 := by
  unfold capC
  omega
theorem grd_bt {o hr : Nat} {W : Mem} (hI : MI o W) (hhr : hr ≤ 20000) {h : Nat → Int64} (hH : HBd W o hr h) {b k : Nat} (hb : b < nbW W o) (hk : k < rgW W o b) : -(hdI W o b k * capC hr) - hdI W o b k ≤ (h (8 * b + k)).toInt + (dl (grdO W o h) (8 * b + k)).toInt ∧ (h (8 * b + k)).toInt + (dl (grdO W o h) (8 * b + k)).toInt ≤ hdI W o b k * capC hr + hdI W o b k ∧ -1000000000000 ≤ (dl (grdO W o h) (8 * b + k)).toInt ∧ (dl (grdO W o h) (8 * b + k)).toInt ≤ 1000000000000 := by
  have r8 := hI.rg8 hb
  have r1 := hI.rg1 hb
  have h8 := hI.nb8
  obtain ⟨C0, C1⟩ := capC_hi hhr
  obtain ⟨w1, w2, w3, w4⟩ := warm_bt hI hH hb hk
  obtain ⟨H1, H2⟩ := hI.hd hb hk
  obtain ⟨z1, z2⟩ := hH b k hb hk
  obtain ⟨f1, f2⟩ := hI.fst hb hk
  obtain ⟨-, -, hfs, hld, hwt, -, -⟩ := hI.bo hb
  have hsh := hI.share
  have hX : 0 ≤ 999 * (capC hr - (wS W o h b k).toInt) := by omega
  have hX2 : 999 * (capC hr - (wS W o h b k).toInt) ≤ 1000000000000 := by omega
  have hY : 0 ≤ 999 * (capC hr + (wS W o h b k).toInt) := by omega
  have hY2 : 999 * (capC hr + (wS W o h b k).toInt) ≤ 1000000000000 := by omega
  have hZ : hdI W o b k * 99000 ≤ hdI W o b k * capC hr := Int.mul_le_mul_of_nonneg_left C0 (by omega)
  have hZ2 : hdI W o b k * capC hr ≤ 16992 * 30000000 := Int.mul_le_mul H2 C1 (by omega) (by omega)
  -- the flows
  have L1 : BD (999 * (capC hr - (wS W o h b k).toInt)) (999 * (capC hr + (wS W o h b k).toInt)) (leadO (ldV W o h b) b (rgW W o b - 1) 0) (8 * b + k) (if k = rgW W o b - 1 then 1 else 2) := by
    have hl := lead_bd (X := 999 * (capC hr - (wS W o h b k).toInt)) (Y := 999 * (capC hr + (wS W o h b k).toInt)) hX hX2 hY hY2 (v := ldV W o h b) (b := b) (kk := k) (lim := rgW W o b - 1) (by
      intro j hj hj2
      subst hj
      obtain ⟨v1, v2, -⟩ := warm_bt hI hH hb (show j + 1 < rgW W o b by omega)
      exact (flowV_bt hld C1 w1 w2 v1 v2 (by rw [k100]; omega)).2) (by
      intro j hj
      obtain ⟨v1, v2, -⟩ := warm_bt hI hH hb (show j < rgW W o b by omega)
      have := (flowV_bt (u := wS W o h b j) (v := wS W o h b k) hld C1 v1 v2 w1 w2 (D := 100) (by rw [k100]; omega)).1
      subst hj
      exact this) (rgW W o b - 1) 0 (by omega)
    by_cases e : k = rgW W o b - 1
    · rw [if_pos e]
      exact hl.2.2.1 (by omega)
    · rw [if_neg e]
      exact hl.2.2.2
  have L2 : BD (999 * (capC hr - (wS W o h b k).toInt)) (999 * (capC hr + (wS W o h b k).toInt)) [(8 * b + (rgW W o b - 1), - lostV W o h b)] (8 * b + k) (if k = rgW W o b - 1 then 1 else 0) := by
    by_cases e : k = rgW W o b - 1
    · rw [if_pos e]
      have e1 := k1000 (x := gA W (o + 7) b) ⟨by have := hfs.1; omega, by have := hfs.2; omega⟩
      have := hfs.1
      have := hfs.2
      have hq := (flowV_bt (u := wS W o h b k) (v := 1000 * (gA W (o + 7) b).toInt64) hld C1 w1 w2 (by rw [e1]; omega) (by rw [e1]; omega) (D := 100) (by rw [k100]; omega)).2
      subst e
      exact BD.on rfl hq.1 hq.2
    · rw [if_neg e]
      exact BD.off (by omega)
  have L3 : BD (999 * (capC hr - (wS W o h b k).toInt)) (999 * (capC hr + (wS W o h b k).toInt)) (catR (pairsO W o h) (nbW W o) 0) (8 * b + k) 7 := by
    refine ((rows_bd hX hX2 hY hY2 hI hb hk ?_ (nbW W o) 0 (by omega)).2).mono hX hY (by omega) (by omega)
    intro e c hc hcb
    have c1 := hI.rg1 hc
    obtain ⟨v1, v2, -⟩ := warm_bt hI hH hc (show rgW W o c - 1 < rgW W o c by omega)
    have q1 := (flowV_bt (u := wS W o h b (rgW W o b - 1)) (v := wS W o h c (rgW W o c - 1)) hsh C1 (by rw [← e]; exact w1) (by rw [← e]; exact w2) v1 v2 (farD hI hb hc)).2
    have q2 := (flowV_bt (u := wS W o h c (rgW W o c - 1)) (v := wS W o h b (rgW W o b - 1)) hsh C1 v1 v2 (by rw [← e]; exact w1) (by rw [← e]; exact w2) (farD hI hc hb)).1
    rw [← e] at q1 q2
    refine ⟨?_, ?_⟩
    · unfold shrV
      rw [← e]
      exact q1
    · unfold shrV
      rw [← e]
      exact q2
  have L12 : BD (999 * (capC hr - (wS W o h b k).toInt)) (999 * (capC hr + (wS W o h b k).toInt)) (leadO (ldV W o h b) b (rgW W o b - 1) 0 ++ [(8 * b + (rgW W o b - 1), - lostV W o h b)]) (8 * b + k) 2 := by
    by_cases e : k = rgW W o b - 1
    · rw [if_pos e] at L1 L2
      exact BD.app hX hX2 hY hY2 L1 L2 (by omega)
    · rw [if_neg e] at L1 L2
      exact BD.app hX hX2 hY hY2 L1 L2 (by omega)
  obtain ⟨-, a1, a2⟩ := L12
  obtain ⟨-, b1, b2⟩ := L3
  -- the water
  have hw := wash_bt (h := (h (8 * b + k)).toInt) (f := (firstS (gA W (o + 5)) (gA W (o + 6)) (gA W (o + 7)) b k).toInt) (wt := (gA W (o + 9) b).toInt) (Z := hdI W o b k * capC hr) hwt.1 hwt.2 f1 (by omega) z1 z2
  have m1 : (h (8 * b + k) - firstS (gA W (o + 5)) (gA W (o + 6)) (gA W (o + 7)) b k).toInt = (h (8 * b + k)).toInt - (firstS (gA W (o + 5)) (gA W (o + 6)) (gA W (o + 7)) b k).toInt := i64_sub (by omega) (by omega)
  have e1000 : (1000 : Int64).toInt = 1000 := by decide
  have m2 : (washV W o h b k).toInt = (((h (8 * b + k)).toInt - (firstS (gA W (o + 5)) (gA W (o + 6)) (gA W (o + 7)) b k).toInt) * (gA W (o + 9) b).toInt).tdiv 1000 := by
    unfold washV
    rw [i64_div (by rw [e1000]; omega), i64_mul (by rw [m1, Int32.toInt_toInt64]; omega) (by rw [m1, Int32.toInt_toInt64]; omega), m1, Int32.toInt_toInt64, e1000]
  have m3 : (- washV W o h b k).toInt = -(((h (8 * b + k)).toInt - (firstS (gA W (o + 5)) (gA W (o + 6)) (gA W (o + 7)) b k).toInt) * (gA W (o + 9) b).toInt).tdiv 1000 := by
    rw [i64_neg (by rw [m2]; omega), m2]
  have hZP : 100 * (capC hr - (wS W o h b k).toInt) ≤ hdI W o b k * capC hr - hdI W o b k * (wS W o h b k).toInt := by
    have := Int.mul_le_mul_of_nonneg_right H1 (show 0 ≤ capC hr - (wS W o h b k).toInt by omega)
    rw [Int.mul_sub (hdI W o b k)] at this
    exact this
  have hZQ : 100 * (capC hr + (wS W o h b k).toInt) ≤ hdI W o b k * capC hr + hdI W o b k * (wS W o h b k).toInt := by
    have := Int.mul_le_mul_of_nonneg_right H1 (show 0 ≤ capC hr + (wS W o h b k).toInt by omega)
    rw [Int.mul_add (hdI W o b k)] at this
    exact this
  unfold grdO
  rw [dl_append, own_dl hI hb hk]
  generalize dl (leadO (ldV W o h b) b (rgW W o b - 1) 0 ++ [(8 * b + (rgW W o b - 1), - lostV W o h b)]) (8 * b + k) = d1 at a1 a2 ⊢
  generalize dl (catR (pairsO W o h) (nbW W o) 0) (8 * b + k) = d2 at b1 b2 ⊢
  generalize (((h (8 * b + k)).toInt - (firstS (gA W (o + 5)) (gA W (o + 6)) (gA W (o + 7)) b k).toInt) * (gA W (o + 9) b).toInt).tdiv 1000 = g1 at hw m2 m3
  generalize hdI W o b k * (wS W o h b k).toInt = P at *
  generalize hdI W o b k * capC hr = Z at *
  have s1 : (d1 + - washV W o h b k).toInt = d1.toInt + - g1 := by rw [i64_add (by rw [m3]; omega) (by rw [m3]; omega), m3]
  have s2 : (d1 + - washV W o h b k + d2).toInt = d1.toInt + - g1 + d2.toInt := by rw [i64_add (by rw [s1]; omega) (by rw [s1]; omega), s1]
  rw [s2]
  refine ⟨by omega, by omega, by omega, by omega⟩
theorem hourS_bt {o hr : Nat} {W : Mem} (hI : MI o W) (hhr : hr ≤ 20000) {h : Nat → Int64} (hH : HBd W o hr h) (g t : Nat → Int64) : HBd W o (hr + 1) (hourS W o hr h g t).1 := by
  intro b k hb hk
  obtain ⟨g1, g2, g3, g4⟩ := grd_bt hI hhr hH hb hk
  obtain ⟨z1, z2⟩ := hH b k hb hk
  obtain ⟨H1, H2⟩ := hI.hd hb hk
  obtain ⟨C0, C1⟩ := capC_hi hhr
  have hZ2 : hdI W o b k * capC hr ≤ 16992 * 30000000 := Int.mul_le_mul H2 C1 (by omega) (by omega)
  obtain ⟨n0, n1⟩ := need_bt hI hr
  have hs0 : 0 ≤ (gA W (o + 22) (hr % 24)).toInt64.toInt := by
    rw [Int32.toInt_toInt64]
    exact (hI.pr (show hr % 24 < 24 by omega)).2.1
  obtain ⟨-, s2, -⟩ := sunR_bt (op := gA W (o + 10)) (fun b => mayS_bt W o hr h 1 b) (nbW W o) 0 (gA W (o + 22) (hr % 24)).toInt64 h t hs0
  obtain ⟨-, -, m3, -⟩ := metR_bt (w0 := fun b => wS W o h b 0) (op := gA W (o + 10)) (fun b => mayS_bt W o hr h 0 b) (fun b => lift_bt hI (wS W o h b 0)) (nbW W o) 0 (needW W o hr) 0 (sunS W o hr h t).2.1 g (ad (sunS W o hr h t).2.2 1 (sunS W o hr h t).1) n0 n1
  have s2 : (h (8 * b + k)).toInt ≤ ((sunS W o hr h t).2.1 (8 * b + k)).toInt ∧ ((sunS W o hr h t).2.1 (8 * b + k)).toInt ≤ (h (8 * b + k)).toInt + 99999 := s2 (8 * b + k) (by omega) (by omega)
  have m3 : ((sunS W o hr h t).2.1 (8 * b + k)).toInt - 99999 ≤ ((metS W o hr h g t).2.2.1 (8 * b + k)).toInt ∧ ((metS W o hr h g t).2.2.1 (8 * b + k)).toInt ≤ ((sunS W o hr h t).2.1 (8 * b + k)).toInt := m3 (8 * b + k) (by omega) (by omega)
  have e : (hourS W o hr h g t).1 (8 * b + k) = (metS W o hr h g t).2.2.1 (8 * b + k) + dl (grdO W o h) (8 * b + k) := by
    show app _ _ _ = _
    rw [app_dl]
  have e2 : hdI W o b k * capC (hr + 1) = hdI W o b k * capC hr + hdI W o b k * 1001 := by
    have e3 : capC (hr + 1) = capC hr + 1001 := by
      unfold capC
      omega
    rw [e3, Int.mul_add]
  rw [e, e2, i64_add (by omega) (by omega)]
  omega
