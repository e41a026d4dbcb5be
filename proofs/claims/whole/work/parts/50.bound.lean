/-- what a list puts at place i is bounded by n flows -/
def BD (X Y : Int) (L : List (Nat × Int64)) (i n : Nat) : Prop := n ≤ 1000 ∧ -((n : Int) * Y) ≤ 100 * (dl L i).toInt ∧ 100 * (dl L i).toInt ≤ (n : Int) * X
theorem BD.nil {X Y : Int} (i : Nat) : BD X Y [] i 0 := by
  refine ⟨by omega, ?_, ?_⟩
  · show -(((0 : Nat) : Int) * Y) ≤ 100 * (0 : Int64).toInt
    rw [z64]
    simp
  · show 100 * (0 : Int64).toInt ≤ ((0 : Nat) : Int) * X
    rw [z64]
    simp
theorem BD.mono {X Y : Int} {L : List (Nat × Int64)} {i n m : Nat} (hX : 0 ≤ X) (hY : 0 ≤ Y) (h : BD X Y L i n) (hm : n ≤ m) (h1 : m ≤ 1000) : BD X Y L i m := by
  obtain ⟨h2, h3, h4⟩ := h
  have e1 : (n : Int) * X ≤ (m : Int) * X := Int.mul_le_mul_of_nonneg_right (by omega) hX
  have e2 : (n : Int) * Y ≤ (m : Int) * Y := Int.mul_le_mul_of_nonneg_right (by omega) hY
  exact ⟨h1, by omega, by omega⟩
theorem BD.app {X Y : Int} {L1 L2 : List (Nat × Int64)} {i n1 n2 : Nat} (hX : 0 ≤ X) (hX2 : X ≤ 1000000000000) (hY : 0 ≤ Y) (hY2 : Y ≤ 1000000000000) (h1 : BD X Y L1 i n1) (h2 : BD X Y L2 i n2) (hn : n1 + n2 ≤ 1000) : BD X Y (L1 ++ L2) i (n1 + n2) := by
  obtain ⟨a1, a2, a3⟩ := h1
  obtain ⟨b1, b2, b3⟩ := h2
  have e1 : (n1 : Int) * X ≤ 1000 * 1000000000000 := Int.mul_le_mul (by omega) hX2 hX (by omega)
  have e2 : (n1 : Int) * Y ≤ 1000 * 1000000000000 := Int.mul_le_mul (by omega) hY2 hY (by omega)
  have e3 : (n2 : Int) * X ≤ 1000 * 1000000000000 := Int.mul_le_mul (by omega) hX2 hX (by omega)
  have e4 : (n2 : Int) * Y ≤ 1000 * 1000000000000 := Int.mul_le_mul (by omega) hY2 hY (by omega)
  have es : (dl (L1 ++ L2) i).toInt = (dl L1 i).toInt + (dl L2 i).toInt := by rw [dl_append, i64_add (by omega) (by omega)]
  have f1 : ((n1 + n2 : Nat) : Int) * X = n1 * X + n2 * X := by rw [Int.natCast_add, Int.add_mul]
  have f2 : ((n1 + n2 : Nat) : Int) * Y = n1 * Y + n2 * Y := by rw [Int.natCast_add, Int.add_mul]
  exact ⟨hn, by rw [es, f2]; omega, by rw [es, f1]; omega⟩
theorem dl_one (i j : Nat) (v : Int64) : dl [(j, v)] i = if i = j then v else 0 := by
  show (if i = j then v else 0) + 0 = _
  rw [Int64.add_zero]
theorem BD.off {X Y : Int} {i j : Nat} {v : Int64} (h : ¬ i = j) : BD X Y [(j, v)] i 0 := by
  refine ⟨by omega, ?_, ?_⟩
  · rw [dl_one, if_neg h, z64]
    simp
  · rw [dl_one, if_neg h, z64]
    simp
theorem BD.on {X Y : Int} {i j : Nat} {v : Int64} (h : i = j) (h1 : -Y ≤ 100 * v.toInt) (h2 : 100 * v.toInt ≤ X) : BD X Y [(j, v)] i 1 := by
  refine ⟨by omega, ?_, ?_⟩
  · rw [dl_one, if_pos h]
    simp
    omega
  · rw [dl_one, if_pos h]
    simp
    omega
theorem BD.cons {X Y : Int} {p : Nat × Int64} {L : List (Nat × Int64)} {i n1 n2 : Nat} (hX : 0 ≤ X) (hX2 : X ≤ 1000000000000) (hY : 0 ≤ Y) (hY2 : Y ≤ 1000000000000) (h1 : BD X Y [p] i n1) (h2 : BD X Y L i n2) (hn : n1 + n2 ≤ 1000) : BD X Y (p :: L) i (n1 + n2) := by
  rw [show p :: L = [p] ++ L from rfl]
  exact BD.app hX hX2 hY hY2 h1 h2 hn
/-- lead's own list: at the first place 1, at the last place 1, between 2 -/
theorem lead_bd {X Y : Int} (hX : 0 ≤ X) (hX2 : X ≤ 1000000000000) (hY : 0 ≤ Y) (hY2 : Y ≤ 1000000000000) {v : Nat → Int64} {b kk lim : Nat} (hm : ∀ k, k = kk → k < lim → -Y ≤ 100 * (- v k).toInt ∧ 100 * (- v k).toInt ≤ X) (hp : ∀ k, k + 1 = kk → -Y ≤ 100 * (v k).toInt ∧ 100 * (v k).toInt ≤ X) : ∀ (r k : Nat), k + r = lim → (kk < k → BD X Y (leadO v b r k) (8 * b + kk) 0) ∧ (kk = k → BD X Y (leadO v b r k) (8 * b + kk) 1) ∧ (kk = k + r → BD X Y (leadO v b r k) (8 * b + kk) 1) ∧ BD X Y (leadO v b r k) (8 * b + kk) 2 := by
  intro r
  induction r with
  | zero =>
    intro k _
    have h0 : BD X Y (leadO v b 0 k) (8 * b + kk) 0 := BD.nil _
    exact ⟨fun _ => h0, fun _ => h0.mono hX hY (by omega) (by omega), fun _ => h0.mono hX hY (by omega) (by omega), h0.mono hX hY (by omega) (by omega)⟩
  | succ r ih =>
    intro k hlim
    obtain ⟨i1, i2, i3, i4⟩ := ih (k + 1) (by omega)
    have hstep : ∀ n1 n2 n3, BD X Y [(8 * b + k, - v k)] (8 * b + kk) n1 → BD X Y [(8 * b + (k + 1), v k)] (8 * b + kk) n2 → BD X Y (leadO v b r (k + 1)) (8 * b + kk) n3 → n1 + n2 + n3 ≤ 10 → BD X Y (leadO v b (r + 1) k) (8 * b + kk) (n1 + (n2 + n3)) := by
      intro n1 n2 n3 a1 a2 a3 h9
      exact BD.cons hX hX2 hY hY2 a1 (BD.cons hX hX2 hY hY2 a2 a3 (by omega)) (by omega)
    refine ⟨fun h => ?_, fun h => ?_, fun h => ?_, ?_⟩
    · exact hstep 0 0 0 (BD.off (by omega)) (BD.off (by omega)) (i1 (by omega)) (by omega)
    · exact hstep 1 0 0 (BD.on (by omega) (hm k h.symm (by omega)).1 (hm k h.symm (by omega)).2) (BD.off (by omega)) (i1 (by omega)) (by omega)
    · by_cases hr : r = 0
      · subst hr
        exact hstep 0 1 0 (BD.off (by omega)) (BD.on (by omega) (hp k (by omega)).1 (hp k (by omega)).2) (BD.nil _) (by omega)
      · exact hstep 0 0 1 (BD.off (by omega)) (BD.off (by omega)) (i3 (by omega)) (by omega)
    · by_cases h1 : kk < k
      · exact (hstep 0 0 0 (BD.off (by omega)) (BD.off (by omega)) (i1 (by omega)) (by omega)).mono hX hY (by omega) (by omega)
      · by_cases h2 : kk = k
        · exact (hstep 1 0 0 (BD.on (by omega) (hm k h2.symm (by omega)).1 (hm k h2.symm (by omega)).2) (BD.off (by omega)) (i1 (by omega)) (by omega)).mono hX hY (by omega) (by omega)
        · by_cases h3 : kk = k + 1
          · exact hstep 0 1 1 (BD.off (by omega)) (BD.on (by omega) (hp k (by omega)).1 (hp k (by omega)).2) (i2 (by omega)) (by omega)
          · exact hstep 0 0 2 (BD.off (by omega)) (BD.off (by omega)) i4 (by omega)
theorem lead_out {v : Nat → Int64} {b i : Nat} : ∀ (r k : Nat), k + r ≤ 7 → ¬ (8 * b ≤ i ∧ i ≤ 8 * b + 7) → dl (leadO v b r k) i = 0 := by
  intro r
  induction r with
  | zero => intro k _ _; rfl
  | succ r ih =>
    intro k hk hi
    show (if i = 8 * b + k then _ else 0) + ((if i = 8 * b + (k + 1) then _ else 0) + dl (leadO v b r (k + 1)) i) = 0
    rw [if_neg (by omega), if_neg (by omega), ih (k + 1) (by omega) hi]
    rfl
theorem wash_dl {v : Nat → Int64} {b i : Nat} : ∀ (r k : Nat), k + r ≤ 8 → dl (washO v b r k) i = if 8 * b + k ≤ i ∧ i < 8 * b + (k + r) then - v (i - 8 * b) else 0 := by
  intro r
  induction r with
  | zero =>
    intro k _
    rw [if_neg (by omega)]
    rfl
  | succ r ih =>
    intro k hk
    show (if i = 8 * b + k then - v k else 0) + dl (washO v b r (k + 1)) i = _
    rw [ih (k + 1) (by omega)]
    by_cases h1 : i = 8 * b + k
    · rw [if_pos h1, if_neg (by omega), if_pos (by omega), Int64.add_zero, show i - 8 * b = k by omega]
    · rw [if_neg h1, Int64.zero_add]
      by_cases h2 : 8 * b + (k + 1) ≤ i ∧ i < 8 * b + (k + 1 + r)
      · rw [if_pos h2, if_pos (by omega)]
      · rw [if_neg h2, if_neg (by omega)]
/-- a flow's bounds -/
theorem flow_bt {c a b C D : Int} (hc : 0 ≤ c) (hc2 : c ≤ 999) (ha : -C ≤ a) (ha2 : a ≤ C) (hb : -C ≤ b) (hb2 : b ≤ C) (hD : 100 ≤ D) : -(999 * (C + b)) ≤ 100 * (c * (a - b)).tdiv D ∧ 100 * (c * (a - b)).tdiv D ≤ 999 * (C - b) ∧ -(999 * (C + a)) ≤ 100 * -(c * (a - b)).tdiv D ∧ 100 * -(c * (a - b)).tdiv D ≤ 999 * (C - a) := by
  rcases Int.le_total 0 (a - b) with h | h
  · have x1 : 0 ≤ c * (a - b) := Int.mul_nonneg hc h
    have x2 : c * (a - b) ≤ 999 * (a - b) := Int.mul_le_mul_of_nonneg_right hc2 h
    obtain ⟨d1, d2, d3⟩ := tdiv_nn x1 (show 0 < D by omega)
    have d4 : 100 * (c * (a - b)).tdiv D ≤ (c * (a - b)).tdiv D * D := by
      rw [Int.mul_comm]
      exact Int.mul_le_mul_of_nonneg_left hD d1
    generalize c * (a - b) = x at *
    generalize Int.tdiv x D = q at *
    omega
  · have x1 : c * (a - b) ≤ 0 := Int.mul_nonpos_of_nonneg_of_nonpos hc h
    have x2 : 999 * (a - b) ≤ c * (a - b) := Int.mul_le_mul_of_nonpos_right hc2 h
    obtain ⟨d1, d2, d3⟩ := tdiv_np x1 (show 0 < D by omega)
    have d4 : (c * (a - b)).tdiv D * D ≤ 100 * (c * (a - b)).tdiv D := by
      rw [Int.mul_comm 100]
      exact Int.mul_le_mul_of_nonpos_left d1 hD
    generalize c * (a - b) = x at *
    generalize Int.tdiv x D = q at *
    omega
def capC (hr : Nat) : Int := 99000 + 1001 * (hr : Int)
def hdI (W : Mem) (o b k : Nat) : Int := (holdS (gA W (o + 5)) (gA W (o + 6)) b k).toInt64.toInt
/-- heat is bounded -/
def HBd (W : Mem) (o hr : Nat) (h : Nat → Int64) : Prop := ∀ b k, b < nbW W o → k < rgW W o b → -(hdI W o b k * capC hr) ≤ (h (8 * b + k)).toInt ∧ (h (8 * b + k)).toInt ≤ hdI W o b k * capC hr
theorem MI.hd {o : Nat} {W : Mem} (hI : MI o W) {b k : Nat} (hb : b < nbW W o) (hk : k < rgW W o b) : 100 ≤ hdI W o b k ∧ hdI W o b k ≤ 16992 := by
  have hr8 := hI.rg8 hb
  exact (hold_bt (hI.bo hb).1 (hI.bo hb).2.1 (show k < 8 by omega)).2
theorem MI.fst {o : Nat} {W : Mem} (hI : MI o W) {b k : Nat} (hb : b < nbW W o) (hk : k < rgW W o b) : 0 ≤ (firstS (gA W (o + 5)) (gA W (o + 6)) (gA W (o + 7)) b k).toInt ∧ (firstS (gA W (o + 5)) (gA W (o + 6)) (gA W (o + 7)) b k).toInt ≤ hdI W o b k * 99000 := by
  obtain ⟨h1, h2⟩ := hI.hd hb hk
  have hf := (hI.bo hb).2.2.1
  have f1 := hf.1
  have f2 := hf.2
  have e0 := k1000 (x := gA W (o + 7) b) ⟨by omega, by omega⟩
  have m1 : 0 ≤ (1000 * (gA W (o + 7) b).toInt) * hdI W o b k := Int.mul_nonneg (by omega) (by omega)
  have m2 : (1000 * (gA W (o + 7) b).toInt) * hdI W o b k ≤ 99000 * hdI W o b k := Int.mul_le_mul_of_nonneg_right (by omega) (by omega)
  have e : (firstS (gA W (o + 5)) (gA W (o + 6)) (gA W (o + 7)) b k).toInt = (1000 * (gA W (o + 7) b).toInt) * hdI W o b k := by
    unfold firstS
    show (((1000 : Int64) * (gA W (o + 7) b).toInt64) * (holdS (gA W (o + 5)) (gA W (o + 6)) b k).toInt64).toInt = _
    rw [i64_mul (by rw [e0]; show _ ≤ _ * hdI W o b k; omega) (by rw [e0]; show _ * hdI W o b k < _; omega), e0]
    rfl
  rw [e, Int.mul_comm (hdI W o b k)]
  exact ⟨m1, m2⟩
/-- warmth is bounded; and hold times it is near heat -/
theorem warm_bt {o hr : Nat} {W : Mem} (hI : MI o W) {h : Nat → Int64} (hH : HBd W o hr h) {b k : Nat} (hb : b < nbW W o) (hk : k < rgW W o b) : -capC hr ≤ (wS W o h b k).toInt ∧ (wS W o h b k).toInt ≤ capC hr ∧ (h (8 * b + k)).toInt - hdI W o b k ≤ hdI W o b k * (wS W o h b k).toInt ∧ hdI W o b k * (wS W o h b k).toInt ≤ (h (8 * b + k)).toInt + hdI W o b k := by
  obtain ⟨h1, h2⟩ := hI.hd hb hk
  obtain ⟨b1, b2⟩ := hH b k hb hk
  have e : (wS W o h b k).toInt = (h (8 * b + k)).toInt.tdiv (hdI W o b k) := i64_div (show 0 < hdI W o b k by omega)
  have hc : 0 ≤ capC hr := by unfold capC; omega
  rw [e]
  have t1 := tdiv_mono b2 (show 0 < hdI W o b k by omega)
  have t2 := tdiv_mono b1 (show 0 < hdI W o b k by omega)
  rw [Int.mul_tdiv_cancel_left _ (by omega)] at t1
  rw [Int.neg_tdiv, Int.mul_tdiv_cancel_left _ (by omega)] at t2
  refine ⟨t2, t1, ?_⟩
  rw [Int.mul_comm (hdI W o b k)]
  rcases Int.le_total 0 (h (8 * b + k)).toInt with h0 | h0
  · obtain ⟨d1, d2, d3⟩ := tdiv_nn h0 (show 0 < hdI W o b k by omega)
    omega
  · obtain ⟨d1, d2, d3⟩ := tdiv_np h0 (show 0 < hdI W o b k by omega)
    omega
theorem nok_of {o hr : Nat} {W : Mem} (hI : MI o W) (hhr : hr ≤ 20000) {h : Nat → Int64} (hH : HBd W o hr h) {b : Nat} (hb : b < nbW W o) : NOk W o hr h b := by
  have hr1 := hI.rg1 hb
  have h8 := hI.nb8
  have hcl : ∀ v : Int64, -1000000000 ≤ v.toInt → v.toInt ≤ 1000000000 → clampS v = v := by
    intro v h1 h2
    have e1 : (-1000000000 : Int64).toInt = -1000000000 := by decide
    have e2 : (1000000000 : Int64).toInt = 1000000000 := by decide
    unfold clampS cutS
    rw [if_neg (fun k => by have := i64_lt.mp k; rw [e1] at this; omega), if_neg (fun k => by have := i64_lt.mp k; rw [e2] at this; omega)]
  have hw : ∀ k, k < rgW W o b → -1000000000 ≤ (wS W o h b k / 1000).toInt ∧ (wS W o h b k / 1000).toInt ≤ 1000000000 := by
    intro k hk
    obtain ⟨w1, w2, -⟩ := warm_bt hI hH hb hk
    unfold capC at w1 w2
    have e1 : (1000 : Int64).toInt = 1000 := by decide
    rw [i64_div (by rw [e1]; omega), e1]
    rcases Int.le_total 0 (wS W o h b k).toInt with h0 | h0
    · obtain ⟨d1, d2, d3⟩ := tdiv_nn h0 (show (0 : Int) < 1000 by omega)
      omega
    · obtain ⟨d1, d2, d3⟩ := tdiv_np h0 (show (0 : Int) < 1000 by omega)
      omega
  have hp := (hI.pr (show hr % 24 < 24 by omega)).1
  have hc := hI.cd (show hr / 24 % 12 < 12 by omega)
  have hf := (hI.bo hb).2.2.1
  obtain ⟨n1, n2⟩ := need_bt hI hr
  intro k hk
  rcases (show k = 0 ∨ k = 1 ∨ k = 2 ∨ k = 3 ∨ k = 4 ∨ k = 5 ∨ k = 6 ∨ k = 7 ∨ k = 8 by omega) with rfl | rfl | rfl | rfl | rfl | rfl | rfl | rfl | rfl
  · exact hcl _ (by rw [nmS_0, Int32.toInt_toInt64, ofN_toInt (by omega)]; omega) (by rw [nmS_0, Int32.toInt_toInt64, ofN_toInt (by omega)]; omega)
  · exact hcl _ (by rw [nmS_1, Int32.toInt_toInt64, ofN_toInt (by omega)]; omega) (by rw [nmS_1, Int32.toInt_toInt64, ofN_toInt (by omega)]; omega)
  · have := hp.1
    have := hp.2
    exact hcl _ (by rw [nmS_2, Int32.toInt_toInt64]; omega) (by rw [nmS_2, Int32.toInt_toInt64]; omega)
  · have := hc.1
    have := hc.2
    exact hcl _ (by rw [nmS_3, Int32.toInt_toInt64]; omega) (by rw [nmS_3, Int32.toInt_toInt64]; omega)
  · refine hcl _ ?_ ?_
    · show _ ≤ (needW W o hr).toInt
      omega
    · show (needW W o hr).toInt ≤ _
      omega
  · exact hcl _ (hw 0 (by omega)).1 (hw 0 (by omega)).2
  · exact hcl _ (hw _ (show rgW W o b - 1 < rgW W o b by omega)).1 (hw _ (show rgW W o b - 1 < rgW W o b by omega)).2
  · exact hcl _ (by rw [nmS_7, Int32.toInt_toInt64, ofN_toInt (by omega)]; omega) (by rw [nmS_7, Int32.toInt_toInt64, ofN_toInt (by omega)]; omega)
  · have := hf.1
    have := hf.2
    exact hcl _ (by rw [nmS_8, Int32.toInt_toInt64]; omega) (by rw [nmS_8, Int32.toInt_toInt64]; omega)
