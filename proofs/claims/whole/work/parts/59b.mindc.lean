/-- the ground, and the ground in mind -/
def MR (x o : Nat) (M W : Mem) (ha ua ba ma : Nat → Nat) (ra rb : Nat → Nat → Nat) (hr : Nat) (h g t : Nat → Int64) : Prop := HR x (x + 46) o M W ha ua ba ra ∧ DR (x + 46) o M W ba ra hr h g t ∧ BoS (x + 49) M o W ma rb ∧ DJ W o ra rb ∧ DJB W o ba ma
theorem MR.frm {x o : Nat} {M M1 W : Mem} {ha ua ba ma : Nat → Nat} {ra rb : Nat → Nat → Nat} {hr : Nat} {h g t : Nat → Int64} (hR : MR x o M W ha ua ba ma ra rb hr h g t) (hF : FRM x (x + 49) (nbW W o) (rgW W o) ma rb M M1) : MR x o M1 W ha ua ba ma ra rb hr h g t := by
  obtain ⟨⟨hC, hG, hI, hHo, hT, hTa, hRu, hBo, hH⟩, ⟨d1, d2, d3, d4, d5, d6⟩, hBm, hDJ, hDB⟩ := hR
  have hF0 := hF
  obtain ⟨h1, h2, h3, h4, h5, h6, h7, h8, h9, hJ, f2, f3, f4, fg, hb⟩ := hF
  have hi : ∀ f b, b < nbW W o → ¬ f = 205 → ¬ f = 206 → ¬ f = 1210 → gI M1 f (ba b) = gI M f (ba b) := fun f b hb z1 z2 z3 => h9 f _ (fun k => by omega) (fun k => by
    obtain ⟨-, b', k1, k2⟩ := k
    exact hDB b b' hb k1 k2) z3
  have hr : ∀ b k, b < nbW W o → k < rgW W o b → ∀ b' k', b' < nbW W o → k' < rgW W o b' → ¬ ra b k = rb b' k' := fun b k z1 z2 b' k' z3 z4 => hDJ b k b' k' z1 z2 z3 z4
  refine ⟨⟨hF0.csh (o := o) hC, hF0.grs hG, hI, hF0.hor hHo, hF0.tor hT, hF0.tar hTa, hF0.rur hRu, hF0.bos hBo, ?_, fun b hb => ?_⟩, ⟨?_, fun b k z1 z2 => ?_, fun b k z1 z2 => ?_, fun b k z1 z2 => ?_, fun b z1 => ?_, ?_⟩, hF0.bos hBm, hDJ, hDB⟩
  · rw [h9 205 (x + 46) (fun k => by omega) (fun k => by omega) (by omega)]
    exact hH.1
  · rw [hi 107 b hb (by omega) (by omega) (by omega), hi 108 b hb (by omega) (by omega) (by omega), hi 109 b hb (by omega) (by omega) (by omega)]
    exact hH.2 b hb
  · rw [h9 206 (x + 46) (fun k => by omega) (fun k => by omega) (by omega)]
    exact d1
  · rw [f2 _ (hr b k z1 z2)]
    exact d2 b k z1 z2
  · rw [f3 _ (hr b k z1 z2)]
    exact d3 b k z1 z2
  · rw [f4 _ (hr b k z1 z2)]
    exact d4 b k z1 z2
  · rw [fg _ (fun b' z2 => hDB b b' z1 z2)]
    exact d5 b z1
  · rw [hb (x + 46 + 2) (by omega) (by omega) (by omega)]
    exact d6
/-- after follow and the opening of some: hour 0 in mind -/
theorem c_start {x o : Nat} {M M2 M1 W : Mem} {ha ua ba ma : Nat → Nat} {ra rb : Nat → Nat → Nat} {hr : Nat} {h g t t1 : Nat → Int64} {op : Nat → Int32} (hop : ∀ b, b < 8 → op b = 0 ∨ op b = 1) (hR : MR x o M W ha ua ba ma ra rb hr h g t) (hF : FRM x (x + 49) (nbW W o) (rgW W o) ma rb M M2) (hH : BoH (x + 49) M2 o W ma) (hD : DR (x + 49) o M2 W ma rb hr h g t1) (hF1 : FRM x (x + 49) (nbW W o) (rgW W o) ma rb M2 M1) (hE : EqI M2 M1) (hi : ∀ f, ¬ f = 109 → gI M1 f = gI M2 f) (ho : ∀ b, b < nbW W o → gI M1 109 (ma b) = op b) : CS x o M W op ha ua ma rb hr h g t1 0 M1 := by
  have hR1 := (hR.frm hF).frm hF1
  obtain ⟨⟨hC, hG, hI, hHo, hT, hTa, hRu, hBo, -⟩, -, hBm, hDJ, hDB⟩ := hR1
  have hs := WO_same W o op
  refine ⟨⟨hC, hC.g49, WO_mi hI hop, hHo.congr hs, hT.congr hs, hTa.congr hs, hRu.congr hs, hBm.congr hs, ?_, fun b hb => ?_⟩, ?_, hF.trans hF1⟩
  · rw [hi 205 (by omega), hs.2.1]
    exact hH.1
  · rw [hs.nb] at hb
    rw [hi 107 (by omega), hi 108 (by omega), ho b hb, WO_op, hs.2.2.2.2.2 8 (by omega) (by omega) (by omega) (by omega), hs.2.2.2.2.2 9 (by omega) (by omega) (by omega) (by omega)]
    exact ⟨(hH.2 b hb).1, (hH.2 b hb).2.1, rfl⟩
  · refine DR.congr hs ?_
    obtain ⟨e1, e2, e3, e4, e5, e6, e7, e8, e9, e10⟩ := hE
    obtain ⟨d1, d2, d3, d4, d5, d6⟩ := hD
    refine ⟨?_, ?_, ?_, ?_, ?_, ?_⟩
    · rw [hi 206 (by omega)]
      exact d1
    · rw [e3]
      exact d2
    · rw [e3]
      exact d3
    · rw [e3]
      exact d4
    · rw [e3]
      exact d5
    · rw [e6]
      exact d6
theorem c_startShut {x o : Nat} {M W : Mem} {ha ua ba ma : Nat → Nat} {ra rb : Nat → Nat → Nat} {hr : Nat} {h g t : Nat → Int64} {op : Nat → Int32} (hop : ∀ b, b < 8 → op b = 0 ∨ op b = 1) (s : Int32) (hops : ∀ b, b < nbW W o → op b = if bitP s b then 0 else gA W (o + 10) b) (hR : MR x o M W ha ua ba ma ra rb hr h g t) : ∃ M2 M1 t1, F_X1_follow M (x + 49) (x + 46) = some (M2, ()) ∧ GrS x (x + 49) M2 ∧ CSh x M2 ∧ F_X1_shut M2 (x + 49) s = some (M1, ()) ∧ CS x o M W op ha ua ma rb hr h g t1 0 M1 ∧ ∀ i, i < 9 → t1 i = t i := by
  have hR0 := hR
  obtain ⟨⟨hC, hG, hI, hHo, hT, hTa, hRu, hBo, hH⟩, hD, hBm, hDJ, hDB⟩ := hR
  obtain ⟨M2, t1, e1, f1, b1, d1, ht⟩ := c_follow hC hI hBm hBo hH hDJ hDB hD
  obtain ⟨M1, e2, f2, q3, q4, q5⟩ := c_shut_loop (f1.grs hC.g49) hI (f1.bos hBm) s (nbW W o) 0 FU M2 (by omega) (by have := hI.nb8; unfold FU; omega) (FRM.refl _)
  refine ⟨M2, M1, t1, e1, f1.grs hC.g49, f1.csh (o := o) hC, e2, c_start hop hR0 f1 b1 d1 f2 q3 q4 (fun b hb => ?_), ht⟩
  rw [q5 b hb, hops b hb, (b1.2 b hb).2.2]
  by_cases c : bitP s b
  · rw [if_pos ⟨Nat.zero_le _, c⟩, if_pos c]
  · rw [if_neg (fun k => c k.2), if_neg c]
theorem c_startOpen {x o : Nat} {M W : Mem} {ha ua ba ma : Nat → Nat} {ra rb : Nat → Nat → Nat} {hr : Nat} {h g t : Nat → Int64} {op : Nat → Int32} (hop : ∀ b, b < 8 → op b = 0 ∨ op b = 1) (s : Int32) (hops : ∀ b, b < nbW W o → op b = if bitP s b then 1 else 0) (hR : MR x o M W ha ua ba ma ra rb hr h g t) : ∃ M2 M1 t1, F_X1_follow M (x + 49) (x + 46) = some (M2, ()) ∧ GrS x (x + 49) M2 ∧ CSh x M2 ∧ F_X1_openOnly M2 (x + 49) s = some (M1, ()) ∧ CS x o M W op ha ua ma rb hr h g t1 0 M1 ∧ ∀ i, i < 9 → t1 i = t i := by
  have hR0 := hR
  obtain ⟨⟨hC, hG, hI, hHo, hT, hTa, hRu, hBo, hH⟩, hD, hBm, hDJ, hDB⟩ := hR
  obtain ⟨M2, t1, e1, f1, b1, d1, ht⟩ := c_follow hC hI hBm hBo hH hDJ hDB hD
  obtain ⟨M1, e2, f2, q3, q4, q5⟩ := c_openOnly_loop (f1.grs hC.g49) hI (f1.bos hBm) s (nbW W o) 0 FU M2 (by omega) (by have := hI.nb8; unfold FU; omega) (FRM.refl _)
  refine ⟨M2, M1, t1, e1, f1.grs hC.g49, f1.csh (o := o) hC, e2, c_start hop hR0 f1 b1 d1 f2 q3 q4 (fun b hb => ?_), ht⟩
  rw [q5 b hb, hops b hb, if_pos (Nat.zero_le _)]
theorem c_given_loop {x o : Nat} {M W : Mem} (hI : MI o W) {op : Nat → Int32} (hop : ∀ b, b < 8 → op b = 0 ∨ op b = 1) {ha ua ma : Nat → Nat} {rb : Nat → Nat → Nat} {hr : Nat} {h g t : Nat → Int64} (hB : HBd W o hr h) {n : Nat} (hn : hr + n ≤ 20000) {b : Nat} (hb : b < nbW W o) : ∀ (r i f : Nat) (Mi : Mem), i + r = n → r < f → CS x o M W op ha ua ma rb hr h g t i Mi →
    ∃ M1, F_X11_givenInMind_p22 F_X11_givenInMind_p41 f Mi x (Int32.ofNat b) (Int32.ofNat n) (Int32.ofNat i) = some (M1, (stS (WO W o op) o hr h g t n).2.1 b) ∧ CS x o M W op ha ua ma rb hr h g t n M1 := by
  intro r
  induction r with
  | zero =>
    intro i f Mi hi hf hM
    obtain ⟨f, rfl⟩ : ∃ z, f = z + 1 := ⟨f - 1, by omega⟩
    have : i = n := by omega
    subst this
    refine ⟨Mi, ?_, hM⟩
    obtain ⟨⟨hC, hG, hI1, -, -, -, -, hBo, -⟩, ⟨-, -, -, -, d5, -⟩, -⟩ := hM
    have hbw : b < nbW (WO W o op) o := hb
    unfold F_X11_givenInMind_p22 F_X11_givenInMind_p41 F_X11_givenInMind_p65
    rw [if_pos (Int32.le_refl _), hC.r1206, lr_some hC.k49, c_find hG hI1 hBo hbw, cl_some]
    show grd (gK Mi (ma b) = 2) _ = _
    rw [grd_pos (hBo.2.2.2 b hbw).1, d5 b hbw]
  | succ r ih =>
    intro i f Mi hi hf hM
    obtain ⟨f, rfl⟩ : ∃ z, f = z + 1 := ⟨f - 1, by omega⟩
    obtain ⟨M2, e, q1, -⟩ := c_hstep hI hop hB hM (by omega)
    obtain ⟨M1, p1, p2⟩ := ih (i + 1) f M2 (by omega) (by omega) q1
    refine ⟨M1, ?_, p2⟩
    rw [← p1]
    have hC := hM.1.1
    conv => lhs; unfold F_X11_givenInMind_p22
    rw [if_neg (by rw [ofN_le (by omega) (by omega)]; omega), hC.r1206, lr_some hC.k49, e, cl_some]
    simp only [bnd, ofN_succ]
theorem c_givenInMind {x o : Nat} {M W : Mem} {ha ua ba ma : Nat → Nat} {ra rb : Nat → Nat → Nat} {hr : Nat} {h g t : Nat → Int64} {op : Nat → Int32} (hop : ∀ b, b < 8 → op b = 0 ∨ op b = 1) (s : Int32) (hops : ∀ b, b < nbW W o → op b = if bitP s b then 0 else gA W (o + 10) b) (hR : MR x o M W ha ua ba ma ra rb hr h g t) (hB : HBd W o hr h) {n : Nat} (hn : hr + n ≤ 20000) {b : Nat} (hb : b < nbW W o) : ∃ M1, F_X11_givenInMind M x (Int32.ofNat b) s (Int32.ofNat n) = some (M1, (stS (WO W o op) o hr h g t n).2.1 b) ∧ FRM x (x + 49) (nbW W o) (rgW W o) ma rb M M1 := by
  have hC := hR.1.1
  obtain ⟨M2, M1, t1, e1, g1, c1, e2, hS, ht⟩ := c_startShut hop s hops hR
  obtain ⟨M3, e3, hS3⟩ := c_given_loop hR.1.2.2.1 hop hB hn hb n 0 FU M1 (by omega) (by unfold FU; omega) hS
  refine ⟨M3, ?_, hS3.2.2⟩
  unfold F_X11_givenInMind
  rw [hC.r1206, lr_some hC.k49, hC.r1205, lr_some hC.k46, e1, cl_some]
  simp only [c1.r1206, lr_some c1.k49, e2, cl_some]
  refine Eq.trans e3 ?_
  rw [(stS_at (W := WO W o op) (o := o) (hr := hr) h g t1 t (ht 5 (by omega)) n).2.1]
theorem m_given_loop {o : Nat} {W : Mem} (hI : MI o W) {op : Nat → Int32} (hop : ∀ b, b < 8 → op b = 0 ∨ op b = 1) (hop8 : ∀ b, 8 ≤ b → op b = gA W (o + 10) b) {hr : Nat} {h g t : Nat → Int64} (hD : MD o W hr h g t) {n : Nat} (hn : hr + n ≤ 20000) {b : Nat} (hb : b < nbW W o) : ∀ (r i f : Nat) (Wi : Mem), i + r = n → r < f → MS o W op hr h g t i Wi →
    ∃ W1, F_X12_givenBy_p18 F_X12_givenBy_p34 f Wi o (Int32.ofNat b) (Int32.ofNat n) (Int32.ofNat i) = some (W1, (stS (WO W o op) o hr h g t n).2.1 b - g b) ∧ BK o W W1 := by
  have h8 := hI.nb8
  intro r
  induction r with
  | zero =>
    intro i f Wi hi hf hM
    obtain ⟨f, rfl⟩ : ∃ z, f = z + 1 := ⟨f - 1, by omega⟩
    have : i = n := by omega
    subst this
    obtain ⟨W1, e, q, -⟩ := m_end hI hop hop8 hD hM
    refine ⟨W1, ?_, q⟩
    obtain ⟨m1, m2, ⟨m3, m4, m5, m6⟩, k1, k2, k3, k4, k5⟩ := hM
    have hS := m1.msh hI.sh
    have i1 : inb (Int32.ofNat b) 8 := ofN_inb (by omega) (by omega)
    have i2 : ixn (Int32.ofNat b) = b := ofN_ix (by omega)
    unfold F_X12_givenBy_p18 F_X12_givenBy_p34
    rw [if_pos (Int32.le_refl _)]
    simp only [hS.r1314, hS.r1352, lr_some hS.k12, lr_some hS.k40, hS.n12, hS.n40, grd_pos i1, i2, bnd, e, cl_some, m5, k4 b (show b < 8 by omega), hD.2.2.1]
  | succ r ih =>
    intro i f Wi hi hf hM
    obtain ⟨f, rfl⟩ : ∃ z, f = z + 1 := ⟨f - 1, by omega⟩
    obtain ⟨W2, e, q1⟩ := m_step hI hop hM (by omega)
    obtain ⟨W1, p1, p2⟩ := ih (i + 1) f W2 (by omega) (by omega) q1
    refine ⟨W1, ?_, p2⟩
    rw [← p1]
    conv => lhs; unfold F_X12_givenBy_p18
    rw [if_neg (by rw [ofN_le (by omega) (by omega)]; omega), e, cl_some]
    simp only [bnd, ofN_succ]
/-- the hours' numbers stand as kept, with some bores open -/
theorem ms0 {o : Nat} {W W1 : Mem} {op : Nat → Int32} {hr : Nat} {h g t : Nat → Int64} (hD : MD o W hr h g t) (hM : MRM o W W1) (hop : gA W1 (o + 10) = op) (h1 : gI W1 1301 o = gI W 1301 o) (h11 : gB W1 (o + 11) = gB W (o + 11)) (h12 : gB W1 (o + 12) = gB W (o + 12)) (h13 : gB W1 (o + 13) = gB W (o + 13)) (hK : KP o W W1) : MS o W op hr h g t 0 W1 := by
  obtain ⟨d1, d2, d3, d4⟩ := hD
  exact ⟨hM, hop, ⟨h1.trans d1, h11.trans d2, h12.trans d3, h13.trans d4⟩, hK⟩
theorem mrm10 (o : Nat) (W : Mem) (i : Nat) (v : Int32) : MRM o W (sA W (o + 10) i v) := ⟨rfl, rfl, rfl, rfl, rfl, rfl, rfl, rfl, fun _ _ _ _ => rfl, fun a z1 _ => gA_nf z1, fun _ _ _ _ _ => rfl⟩
theorem KP.s10 {o : Nat} {W K : Mem} (h : KP o W K) (i : Nat) (v : Int32) : KP o W (sA K (o + 10) i v) := by
  obtain ⟨k1, k2, k3, k4, k5⟩ := h
  exact ⟨k1, k2, k3, k4, fun j hj => by rw [gA_nf (by omega)]; exact k5 j hj⟩
theorem m_givenBy {o : Nat} {W : Mem} (hI : MI o W) {hr : Nat} {h g t : Nat → Int64} (hD : MD o W hr h g t) {n : Nat} (hn : hr + n ≤ 20000) {b c : Nat} (hb : b < nbW W o) (hc : c < nbW W o) :
    (∃ W1, F_X12_givenBy W o (Int32.ofNat b) (Int32.ofNat c) (Int32.ofNat n) = some (W1, (stS (WO W o (ud (gA W (o + 10)) c 0)) o hr h g t n).2.1 b - g b) ∧ BK o W W1) ∧ ∃ W1, F_X12_givenBy W o (Int32.ofNat b) (-1 : Int32) (Int32.ofNat n) = some (W1, (stS (WO W o (gA W (o + 10))) o hr h g t n).2.1 b - g b) ∧ BK o W W1 := by
  have h8 := hI.nb8
  obtain ⟨W1, e, k, m, a1, a10, a11, a12, a13⟩ := m_keeps hI
  have hop : ∀ b, b < 8 → ud (gA W (o + 10)) c 0 b = 0 ∨ ud (gA W (o + 10)) c 0 b = 1 := by
    intro d hd
    by_cases z : d = c
    · rw [z, ud_s]
      exact Or.inl rfl
    · rw [ud_n _ z]
      exact hI.op hd
  have i1 : inb (Int32.ofNat c) 8 := ofN_inb (by omega) (by omega)
  have i2 : ixn (Int32.ofNat c) = c := ofN_ix (by omega)
  have hS1 := m.msh hI.sh
  constructor
  · have hM : MS o W (ud (gA W (o + 10)) c 0) hr h g t 0 (sA W1 (o + 10) c 0) := ms0 hD (m.trans (mrm10 o W1 c 0)) (by rw [gA_sf, a10]) a1 a11 a12 a13 (k.s10 c 0)
    obtain ⟨W2, e2, q⟩ := m_given_loop hI hop (fun d hd => ud_n _ (by omega) _) hD hn hb n 0 FU _ (by omega) (by unfold FU; omega) hM
    refine ⟨W2, ?_, q⟩
    unfold F_X12_givenBy F_X12_givenBy_p15
    rw [e, cl_some, if_neg (fun z => by have := i32_lt.mp z; rw [ofN_toInt (by omega)] at this; simp at this; omega)]
    simp only [hS1.r1311, lr_some hS1.k10, hS1.n10, bnd, i2]
    rw [grd_pos ⟨i1, Or.inl trivial⟩]
    exact e2
  · have hM : MS o W (gA W (o + 10)) hr h g t 0 W1 := ms0 hD m a10 a1 a11 a12 a13 k
    obtain ⟨W2, e2, q⟩ := m_given_loop hI (fun b hb => hI.op hb) (fun d hd => rfl) hD hn hb n 0 FU _ (by omega) (by unfold FU; omega) hM
    refine ⟨W2, ?_, q⟩
    unfold F_X12_givenBy F_X12_givenBy_p15
    rw [e, cl_some, if_pos (by decide)]
    exact e2
