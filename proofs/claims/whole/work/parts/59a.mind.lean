theorem SameW.trans {o : Nat} {W W1 W2 : Mem} (h : SameW o W W1) (k : SameW o W1 W2) : SameW o W W2 := ⟨k.1.trans h.1, k.2.1.trans h.2.1, k.2.2.1.trans h.2.2.1, k.2.2.2.1.trans h.2.2.2.1, k.2.2.2.2.1.trans h.2.2.2.2.1, fun j a b c d => (k.2.2.2.2.2 j a b c d).trans (h.2.2.2.2.2 j a b c d)⟩
theorem HoR.congr {x o : Nat} {M W W1 : Mem} {ha : Nat → Nat} (h : SameW o W W1) (k : HoR x M o W ha) : HoR x M o W1 ha := by
  unfold HoR nhW at *
  rw [h.2.2.1, h.2.2.2.2.2 14 (by omega) (by omega) (by omega) (by omega), h.2.2.2.2.2 15 (by omega) (by omega) (by omega) (by omega), h.2.2.2.2.2 16 (by omega) (by omega) (by omega) (by omega), h.2.2.2.2.2 17 (by omega) (by omega) (by omega) (by omega)]
  exact k
theorem ToR.congr {x o : Nat} {M W W1 : Mem} (h : SameW o W W1) (k : ToR x M o W) : ToR x M o W1 := by
  unfold ToR at *
  rw [h.2.2.2.2.2 18 (by omega) (by omega) (by omega) (by omega), h.2.2.2.2.2 21 (by omega) (by omega) (by omega) (by omega), h.2.2.2.2.2 22 (by omega) (by omega) (by omega) (by omega)]
  exact k
theorem TaR.congr {x o : Nat} {M W W1 : Mem} (h : SameW o W W1) (k : TaR x M o W) : TaR x M o W1 := by
  unfold TaR at *
  rw [h.2.2.2.1, h.2.2.2.2.2 19 (by omega) (by omega) (by omega) (by omega), h.2.2.2.2.2 20 (by omega) (by omega) (by omega) (by omega)]
  exact k
theorem RuR.congr {x o : Nat} {M W W1 : Mem} {ua : Nat → Nat} (h : SameW o W W1) (k : RuR x M o W ua) : RuR x M o W1 ua := by
  unfold RuR nrW szW at *
  rw [h.2.2.2.2.1, h.2.2.2.2.2 24 (by omega) (by omega) (by omega) (by omega), h.2.2.2.2.2 25 (by omega) (by omega) (by omega) (by omega), h.2.2.2.2.2 26 (by omega) (by omega) (by omega) (by omega), h.2.2.2.2.2 27 (by omega) (by omega) (by omega) (by omega)]
  exact k
theorem BoS.congr {p o : Nat} {M W W1 : Mem} {ba : Nat → Nat} {ra : Nat → Nat → Nat} (h : SameW o W W1) (k : BoS p M o W ba ra) : BoS p M o W1 ba ra := by
  unfold BoS at *
  rw [h.nb, h.rg, h.2.2.2.2.2 2 (by omega) (by omega) (by omega) (by omega), h.2.2.2.2.2 3 (by omega) (by omega) (by omega) (by omega), h.2.2.2.2.2 5 (by omega) (by omega) (by omega) (by omega), h.2.2.2.2.2 6 (by omega) (by omega) (by omega) (by omega), h.2.2.2.2.2 7 (by omega) (by omega) (by omega) (by omega)]
  exact k
theorem AG.congr {o : Nat} {W W1 : Mem} {ra : Nat → Nat → Nat} {φ f : Nat → Int64} (h : SameW o W W1) (k : AG (nbW W o) (rgW W o) ra φ f) : AG (nbW W1 o) (rgW W1 o) ra φ f := by
  rw [h.nb, h.rg]
  exact k
theorem AW.congr {o : Nat} {W W1 : Mem} {ra : Nat → Nat → Nat} {φ f : Nat → Int64} (h : SameW o W W1) (k : AW W o ra φ f) : AW W1 o ra φ f := by
  unfold AW wS at *
  rw [h.nb, h.rg, h.2.2.2.2.2 5 (by omega) (by omega) (by omega) (by omega), h.2.2.2.2.2 6 (by omega) (by omega) (by omega) (by omega)]
  exact k
theorem DR.congr {p o hr : Nat} {M W W1 : Mem} {ba : Nat → Nat} {ra : Nat → Nat → Nat} {h g t : Nat → Int64} (k : SameW o W W1) (hD : DR p o M W ba ra hr h g t) : DR p o M W1 ba ra hr h g t := by
  obtain ⟨d1, d2, d3, d4, d5, d6⟩ := hD
  exact ⟨d1, d2.congr k, d3.congr k, d4.congr k, by rw [k.nb]; exact d5, d6⟩
/-- the model with other bores open -/
def WO (W : Mem) (o : Nat) (op : Nat → Int32) : Mem := wA W (o + 10) op
theorem WO_same (W : Mem) (o : Nat) (op : Nat → Int32) : SameW o W (WO W o op) := by
  refine ⟨rfl, rfl, rfl, rfl, rfl, fun j a b c d => ?_⟩
  show gA (wA W (o + 10) op) (o + j) = _
  rw [gA_wA, if_neg (by omega)]
theorem WO_op (W : Mem) (o : Nat) (op : Nat → Int32) : gA (WO W o op) (o + 10) = op := by
  show gA (wA W (o + 10) op) (o + 10) = _
  rw [gA_wA, if_pos rfl]
theorem WO_mi {W : Mem} {o : Nat} {op : Nat → Int32} (hI : MI o W) (hop : ∀ b, b < 8 → op b = 0 ∨ op b = 1) : MI o (WO W o op) := hI.congr (hI.sh.to rfl rfl rfl rfl) (WO_same W o op) (by rw [WO_op]; exact hop)
/-- the model after k hours in mind -/
def MS (o : Nat) (W : Mem) (op : Nat → Int32) (hr : Nat) (h g t : Nat → Int64) (k : Nat) (Wk : Mem) : Prop := MRM o W Wk ∧ gA Wk (o + 10) = op ∧ MD o Wk (hr + k) (stS (WO W o op) o hr h g t k).1 (stS (WO W o op) o hr h g t k).2.1 (stS (WO W o op) o hr h g t k).2.2 ∧ KP o W Wk
theorem m_step {o : Nat} {W : Mem} (hI : MI o W) {op : Nat → Int32} (hop : ∀ b, b < 8 → op b = 0 ∨ op b = 1) {hr : Nat} {h g t : Nat → Int64} {k : Nat} {Wk : Mem} (hM : MS o W op hr h g t k Wk) (hhr : hr + k ≤ 20000) : ∃ W1, F_X12_goes Wk o = some (W1, ()) ∧ MS o W op hr h g t (k + 1) W1 := by
  obtain ⟨m1, m2, m3, m4⟩ := hM
  have hIk : MI o Wk := hI.congr (m1.msh hI.sh) m1.same (by rw [m2]; exact hop)
  obtain ⟨W1, e, d, r1, r2, r3, r4⟩ := m_goes1 hIk m3 hhr
  have hs : SameW o (WO W o op) Wk := (WO_same W o op).symm.trans m1.same
  rw [hourS_congr hs (by rw [WO_op, m2])] at d
  refine ⟨W1, e, m1.trans r1, by rw [r2]; exact m2, d, ?_⟩
  obtain ⟨k1, k2, k3, k4, k5⟩ := m4
  exact ⟨(r3 _ _ (by omega)).trans k1, fun i hi => by rw [r4 _ (by omega) (by omega) (by omega) (by omega)]; exact k2 i hi, fun i hi => by rw [r4 _ (by omega) (by omega) (by omega) (by omega)]; exact k3 i hi, fun i hi => by rw [r4 _ (by omega) (by omega) (by omega) (by omega)]; exact k4 i hi, fun i hi => by rw [r2]; exact k5 i hi⟩
/-- all goes back -/
theorem m_end {o : Nat} {W : Mem} (hI : MI o W) {op : Nat → Int32} (hop : ∀ b, b < 8 → op b = 0 ∨ op b = 1) (hop8 : ∀ b, 8 ≤ b → op b = gA W (o + 10) b) {hr : Nat} {h g t : Nat → Int64} (hD : MD o W hr h g t) {k : Nat} {Wk : Mem} (hM : MS o W op hr h g t k Wk) : ∃ W1, F_X12_laysBack Wk o = some (W1, ()) ∧ BK o W W1 ∧ KP o W W1 := by
  obtain ⟨m1, m2, ⟨m3, m4, m5, m6⟩, m7⟩ := hM
  obtain ⟨d1, d2, d3, d4⟩ := hD
  have h8 := hI.nb8
  obtain ⟨s1, s2, s3⟩ := stS_hi (WO_mi hI hop) hr h g t k
  exact m_back hI m1 m7 (fun i hi => by rw [m4, d2]; exact s1 i hi) (fun i hi => by rw [m5, d3]; exact s2 i (by show nbW W o ≤ i; omega)) (fun i hi => by rw [m6, d4]; exact s3 i hi) (fun i hi => by rw [m2]; exact hop8 i hi)
/-- the class after k hours in mind -/
def CS (x o : Nat) (M W : Mem) (op : Nat → Int32) (ha ua ma : Nat → Nat) (rb : Nat → Nat → Nat) (hr : Nat) (h g t : Nat → Int64) (k : Nat) (Mk : Mem) : Prop := HR x (x + 49) o Mk (WO W o op) ha ua ma rb ∧ DR (x + 49) o Mk (WO W o op) ma rb (hr + k) (stS (WO W o op) o hr h g t k).1 (stS (WO W o op) o hr h g t k).2.1 (stS (WO W o op) o hr h g t k).2.2 ∧ FRM x (x + 49) (nbW W o) (rgW W o) ma rb M Mk
theorem c_hstep {x o : Nat} {M W : Mem} (hI : MI o W) {op : Nat → Int32} (hop : ∀ b, b < 8 → op b = 0 ∨ op b = 1) {ha ua ma : Nat → Nat} {rb : Nat → Nat → Nat} {hr : Nat} {h g t : Nat → Int64} (hB : HBd W o hr h) {k : Nat} {Mk : Mem} (hM : CS x o M W op ha ua ma rb hr h g t k Mk) (hhr : hr + k ≤ 20000) : ∃ M1, F_X1_pass Mk (x + 49) = some (M1, ()) ∧ CS x o M W op ha ua ma rb hr h g t (k + 1) M1 ∧ gJ M1 1209 = gJ Mk 1209 ∧ gI M1 1210 = gI Mk 1210 := by
  obtain ⟨m1, m2, m3⟩ := hM
  have hb := stS_bt (WO_mi hI hop) (hB.congr (WO_same W o op)) g t k hhr
  obtain ⟨M1, e, q1, q2, q3, q4, q5⟩ := c_pass1 m1 m2 hhr hb
  rw [(WO_same W o op).nb, (WO_same W o op).rg] at q3
  refine ⟨M1, e, ⟨q1, q2, m3.trans q3⟩, q5 1209 (by omega) (by omega) (by omega) (by omega), ?_⟩
  funext a
  exact q4 1210 a (by omega)
theorem c_find {p o : Nat} {M W : Mem} {x : Nat} (hG : GrS x p M) (hI : MI o W) {ba : Nat → Nat} {ra : Nat → Nat → Nat} (hB : BoS p M o W ba ra) {b : Nat} (hb : b < nbW W o) : F_X1_find M p (Int32.ofNat b) = some (M, some (ba b)) := by
  obtain ⟨-, -, -, -, g3, -, g5, -⟩ := hG
  obtain ⟨lm, -, -, lbm⟩ := hB
  have h8 := hI.nb8
  have hg := c_get lm (i := b) hb
  unfold F_X1_find F_X1_find_p30
  rw [if_neg (fun k => by have := i32_lt.mp k; rw [ofN_toInt (by omega)] at this; simp at this; omega)]
  simp only [g3, lr_some g5, c_size, cl_some, lm.2.1, if_pos ((ofN_lt (n := b) (by omega) (by omega)).mpr hb), hg, lr_some (lbm b hb).1]
theorem c_find_no {p o : Nat} {M W : Mem} {x : Nat} (hG : GrS x p M) (hI : MI o W) {ba : Nat → Nat} {ra : Nat → Nat → Nat} (hB : BoS p M o W ba ra) {b : Int32} (hb : ¬ isB (nbW W o) b) : F_X1_find M p b = some (M, none) := by
  obtain ⟨-, -, -, -, g3, -, g5, -⟩ := hG
  obtain ⟨lm, -, -, lbm⟩ := hB
  have h8 := hI.nb8
  have z : (0 : Int32).toInt = 0 := by decide
  unfold F_X1_find F_X1_find_p15 F_X1_find_p30
  by_cases c : b < 0
  · rw [if_pos c]
  · rw [if_neg c]
    have c := i32_nlt c
    rw [z] at c
    simp only [g3, lr_some g5, c_size, cl_some, lm.2.1]
    rw [if_neg (fun k => hb ⟨c, by have := i32_lt.mp k; rw [ofN_toInt (by omega)] at this; exact this⟩)]
theorem isB_of {n : Nat} {b : Int32} (h : isB n b) : ∃ k, k < n ∧ b = Int32.ofNat k := by
  obtain ⟨h1, h2⟩ := h
  have h3 := Int32.toInt_lt b
  refine ⟨b.toInt.toNat, by omega, ?_⟩
  apply i32_ext
  rw [ofN_toInt (by omega)]
  omega
theorem isB_nat {n k : Nat} (h : k < n) (hn : n < 2147483648) : isB n (Int32.ofNat k) := by
  unfold isB
  rw [ofN_toInt (by omega)]
  omega
