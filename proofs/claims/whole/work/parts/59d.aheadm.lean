theorem wS_congr {o : Nat} {W W1 : Mem} (h : SameW o W W1) : wS W1 o = wS W o := by
  funext f b k
  unfold wS
  rw [h.2.2.2.2.2 5 (by omega) (by omega) (by omega) (by omega), h.2.2.2.2.2 6 (by omega) (by omega) (by omega) (by omega)]
/-- the model's memory in which some bores are open: as it was but for the row -/
def OP (o : Nat) (W W1 : Mem) (op : Nat → Int32) : Prop := MRM o W W1 ∧ gA W1 (o + 10) = op ∧ gI W1 1301 o = gI W 1301 o ∧ gB W1 (o + 11) = gB W (o + 11) ∧ gB W1 (o + 12) = gB W (o + 12) ∧ gB W1 (o + 13) = gB W (o + 13) ∧ KP o W W1
theorem OP.set {o : Nat} {W W1 : Mem} {op : Nat → Int32} (h : OP o W W1 op) (i : Nat) (v : Int32) : OP o W (sA W1 (o + 10) i v) (ud op i v) := by
  obtain ⟨h1, h2, h3, h4, h5, h6, h7⟩ := h
  exact ⟨h1.trans (mrm10 o W1 i v), by rw [gA_sf, h2], h3, h4, h5, h6, h7.s10 i v⟩
theorem OP.ms {o : Nat} {W W1 : Mem} {op : Nat → Int32} (h : OP o W W1 op) {hr : Nat} {f g t : Nat → Int64} (hD : MD o W hr f g t) : MS o W op hr f g t 0 W1 := by
  obtain ⟨h1, h2, h3, h4, h5, h6, h7⟩ := h
  exact ms0 hD h1 h2 h3 h4 h5 h6 h7
theorem and_one (y : Int32) : y &&& 1 = 0 ∨ y &&& 1 = 1 := by
  have h : (y.toBitVec &&& 1#32) = 0#32 ∨ (y.toBitVec &&& 1#32) = 1#32 := by
    by_cases c : y.toBitVec[0] = true
    · right
      ext i hi
      simp only [BitVec.getElem_and, BitVec.getElem_one]
      by_cases z : i = 0
      · subst z
        simpa using c
      · simp [z]
    · left
      ext i hi
      simp only [BitVec.getElem_and, BitVec.getElem_one, BitVec.getElem_zero]
      by_cases z : i = 0
      · subst z
        simpa using c
      · simp [z]
  rcases h with h | h
  · left
    rw [← Int32.toBitVec_inj]
    exact h
  · right
    rw [← Int32.toBitVec_inj]
    exact h
/-- who is open with a set shut -/
def shO (W : Mem) (o : Nat) (s : Int32) (b : Nat) : Int32 := if bitP s b then 0 else gA W (o + 10) b
theorem shO_eq {o : Nat} {W : Mem} (hI : MI o W) (s : Int32) {b : Nat} (hb : b < 8) : shO W o s b = (if gA W (o + 10) b = 0 then 0 else if ((s >>> (Int32.ofNat b &&& 31)) &&& (1 : Int32)) = 0 then 1 else 0) := by
  unfold shO bitP
  rcases and_one (s >>> (Int32.ofNat b &&& 31)) with h | h
  · rw [h, if_neg (show ¬ (0 : Int32) = 1 by decide), if_pos (show (0 : Int32) = 0 from rfl)]
    rcases hI.op hb with k | k
    · rw [k, if_pos rfl]
    · rw [k, if_neg (by decide)]
  · rw [h, if_pos rfl, if_neg (show ¬ (1 : Int32) = 0 by decide)]
    by_cases k : gA W (o + 10) b = 0
    · rw [if_pos k]
    · rw [if_neg k]
theorem shO_01 {o : Nat} {W : Mem} (hI : MI o W) (s : Int32) {b : Nat} (hb : b < 8) : shO W o s b = 0 ∨ shO W o s b = 1 := by
  unfold shO
  by_cases c : bitP s b
  · rw [if_pos c]
    exact Or.inl rfl
  · rw [if_neg c]
    exact hI.op hb
theorem m_ahead_shut {o : Nat} {W : Mem} (hI : MI o W) (kk : Mem → Nat → Int32 → Int32 → Option (Mem × Int64)) (x1 s x3 : Int32) : ∀ (r i f : Nat) (Wi : Mem), i + r = nbW W o → r < f → OP o W Wi (cpR i (shO W o s) (gA W (o + 10))) →
    ∃ W1, F_X12_ahead_p89 kk f Wi o x1 s x3 (Int32.ofNat i) = kk W1 o x1 x3 ∧ OP o W W1 (cpR (nbW W o) (shO W o s) (gA W (o + 10))) := by
  have h8 := hI.nb8
  intro r
  induction r with
  | zero =>
    intro i f Wi hi hf hO
    obtain ⟨f, rfl⟩ : ∃ z, f = z + 1 := ⟨f - 1, by omega⟩
    have : i = nbW W o := by omega
    subst this
    refine ⟨Wi, ?_, hO⟩
    unfold F_X12_ahead_p89
    rw [hO.1.2.2.2.2.2.2.2.2.1 1302 o (by omega) (by omega), hI.nb, if_pos (Int32.le_refl _)]
  | succ r ih =>
    intro i f Wi hi hf hO
    obtain ⟨f, rfl⟩ : ∃ z, f = z + 1 := ⟨f - 1, by omega⟩
    have hib : i < nbW W o := by omega
    have hlt : ¬ Int32.ofNat (nbW W o) ≤ Int32.ofNat i := by
      rw [ofN_le (by omega) (by omega)]
      omega
    have i1 : inb (Int32.ofNat i) 8 := ofN_inb (by omega) (by omega)
    have i2 : ixn (Int32.ofNat i) = i := ofN_ix (by omega)
    have hS := hO.1.msh hI.sh
    have hnb := hO.1.2.2.2.2.2.2.2.2.1 1302 o (by omega) (by omega)
    have hv : gA Wi (o + 10) i = gA W (o + 10) i := by
      rw [hO.2.1]
      exact if_neg (by omega)
    have hset := hO.set i (shO W o s i)
    rw [cpR_succ] at hset
    obtain ⟨W1, p1, p2⟩ := ih (i + 1) f _ (by omega) (by omega) hset
    refine ⟨W1, ?_, p2⟩
    rw [← p1]
    have hstep : ∀ v, (v = 0 ∨ v = 1) → shO W o s i = v → F_X12_ahead_p128 (F_X12_ahead_p89 kk f) Wi o x1 s x3 (Int32.ofNat i) (o + 10) (Int32.ofNat i) v = F_X12_ahead_p89 kk f (sA Wi (o + 10) i (shO W o s i)) o x1 s x3 (Int32.ofNat (i + 1)) := by
      intro v hv hv2
      unfold F_X12_ahead_p128
      rw [hS.n10, grd_pos ⟨i1, hv⟩, hv2]
      simp only [bnd, i2, ofN_succ]
    have he := shO_eq hI s (show i < 8 by omega)
    conv => lhs; unfold F_X12_ahead_p89
    simp only [hnb, hI.nb, if_neg hlt, hS.r1311, lr_some hS.k10, hS.n10, grd_pos i1, i2, hv]
    by_cases c : gA W (o + 10) i = 0
    · rw [if_pos c] at he ⊢
      unfold F_X12_ahead_p127
      exact hstep 0 (Or.inl rfl) he
    · rw [if_neg c] at he ⊢
      by_cases c2 : ((s >>> (Int32.ofNat i &&& 31)) &&& (1 : Int32)) = 0
      · rw [if_pos c2] at he ⊢
        exact hstep 1 (Or.inr rfl) he
      · rw [if_neg c2] at he ⊢
        unfold F_X12_ahead_p127
        exact hstep 0 (Or.inl rfl) he
theorem m_cold_loop {o : Nat} {W : Mem} (hI : MI o W) {hr1 : Nat} (hh : gI W 1301 o = Int32.ofNat (hr1 + 1)) (hhr : hr1 ≤ 20000) {h : Nat → Int64} (h11 : gB W (o + 11) = h) (kk : Mem → Nat → Int32 → Int32 → Int64 → Int64 → Int32 → Option (Mem × Int64)) (x1 x3 x8 : Int32) : ∀ (r i f : Nat) (c w : Int64), i + r = nbW W o → r < f →
    F_X12_ahead_p159 kk f W o x1 x3 c w x8 (Int32.ofNat i) = kk W o x1 x3 (mF (fun b => wS W o h b 0) (Int32.ofNat hr1).toInt64 r i c w).1 (mF (fun b => wS W o h b 0) (Int32.ofNat hr1).toInt64 r i c w).2 x8 := by
  have h8 := hI.nb8
  intro r
  induction r with
  | zero =>
    intro i f c w hi hf
    obtain ⟨f, rfl⟩ : ∃ z, f = z + 1 := ⟨f - 1, by omega⟩
    unfold F_X12_ahead_p159
    rw [hI.nb, if_pos ((ofN_le (by omega) (by omega)).mpr (by omega))]
    rfl
  | succ r ih =>
    intro i f c w hi hf
    obtain ⟨f, rfl⟩ : ∃ z, f = z + 1 := ⟨f - 1, by omega⟩
    have hib : i < nbW W o := by omega
    have hr1' := hI.rg1 hib
    have hwm : F_X12_warmthOf W o (Int32.ofNat i) (0 : Int32) = some (W, wS W o h i 0) := by
      have := m_warmthOf (k := 0) hI.sh (show i < 8 by omega) (by omega) (hI.hold hib (by omega))
      rw [h11] at this
      exact this
    have he : Int32.ofNat (hr1 + 1) - (1 : Int32) = Int32.ofNat hr1 := ofN_subk (k := 1) (by omega) (by omega)
    have r1 := ih (i + 1) f (wS W o h i 0) (Int32.ofNat hr1).toInt64 (by omega) (by omega)
    have r2 := ih (i + 1) f c w (by omega) (by omega)
    conv => lhs; unfold F_X12_ahead_p159
    rw [hI.nb, if_neg (by rw [ofN_le (by omega) (by omega)]; omega), hwm, cl_some]
    unfold mF
    by_cases e : wS W o h i 0 < c
    · rw [if_neg (fun k => absurd ((lg_cmp_ge _ _).mp k) (Int64.not_le.mpr e)), if_pos e]
      simp only [hwm, cl_some, hh, he, bnd]
      unfold F_X12_ahead_p199
      simp only [bnd, ofN_succ]
      exact r1
    · rw [if_pos ((lg_cmp_ge _ _).mpr (Int64.not_lt.mp e)), if_neg e]
      unfold F_X12_ahead_p199
      simp only [bnd, ofN_succ]
      exact r2
theorem m_ahead_hours {o : Nat} {W : Mem} (hI : MI o W) {op : Nat → Int32} (hop : ∀ b, b < 8 → op b = 0 ∨ op b = 1) {hr : Nat} {h g t : Nat → Int64} {n : Nat} (hn : hr + n ≤ 20000) (kk : Mem → Nat → Int32 → Int64 → Int64 → Option (Mem × Int64)) (x3 : Int32) : ∀ (r i f : Nat) (Wi : Mem), i + r = n → r < f → MS o W op hr h g t i Wi →
    ∃ W1, F_X12_ahead_p146 kk f Wi o (Int32.ofNat n) x3 (mdS (vS W o op hr h g t) (nbW W o) hr i).1 (mdS (vS W o op hr h g t) (nbW W o) hr i).2 (Int32.ofNat i) = kk W1 o x3 (mdS (vS W o op hr h g t) (nbW W o) hr n).1 (mdS (vS W o op hr h g t) (nbW W o) hr n).2 ∧ MS o W op hr h g t n W1 := by
  have h8 := hI.nb8
  intro r
  induction r with
  | zero =>
    intro i f Wi hi hf hM
    obtain ⟨f, rfl⟩ : ∃ z, f = z + 1 := ⟨f - 1, by omega⟩
    have : i = n := by omega
    subst this
    refine ⟨Wi, ?_, hM⟩
    unfold F_X12_ahead_p146
    rw [if_pos (Int32.le_refl _)]
  | succ r ih =>
    intro i f Wi hi hf hM
    obtain ⟨f, rfl⟩ : ∃ z, f = z + 1 := ⟨f - 1, by omega⟩
    obtain ⟨W2, e, q1⟩ := m_step hI hop hM (by omega)
    obtain ⟨W1, p1, p2⟩ := ih (i + 1) f W2 (by omega) (by omega) q1
    refine ⟨W1, ?_, p2⟩
    rw [← p1]
    obtain ⟨m1, m2, ⟨m3, m4, m5, m6⟩, m7⟩ := q1
    have hI2 : MI o W2 := hI.congr (m1.msh hI.sh) m1.same (by rw [m2]; exact hop)
    have hs : SameW o (WO W o op) W2 := (WO_same W o op).symm.trans m1.same
    have hc := m_cold_loop hI2 (hr1 := hr + i) m3 (by omega) m4 (F_X12_ahead_p205 (F_X12_ahead_p146 kk f)) (Int32.ofNat n) x3 (Int32.ofNat i) (nbW W2 o) 0 FU (mdS (vS W o op hr h g t) (nbW W o) hr i).1 (mdS (vS W o op hr h g t) (nbW W o) hr i).2 (by omega) (by have := hI2.nb8; unfold FU; omega)
    rw [mF_eq, wS_congr hs, m1.same.nb] at hc
    conv => lhs; unfold F_X12_ahead_p146
    rw [if_neg (by rw [ofN_le (by omega) (by omega)]; omega), e, cl_some]
    refine Eq.trans hc ?_
    unfold F_X12_ahead_p205
    simp only [bnd, ofN_succ]
    rfl
/-- the model's answers of ahead -/
def ahM (v : Nat → Nat → Int64) (nb hr n : Nat) (b : Int64) (what : Int32) : Int64 := if what = 0 then (mdS v nb hr n).1 else if what = (1 : Int32) then (mdS v nb hr n).2 else b
theorem m_aheadRun {o : Nat} {W : Mem} (hI : MI o W) {hr : Nat} {h g t : Nat → Int64} (hD : MD o W hr h g t) {n : Nat} (hn : hr + n ≤ 20000) (s what : Int32) : ∃ W1, F_X12_ahead_p82 W o (Int32.ofNat n) s what = some (W1, ahM (vS W o (cpR (nbW W o) (shO W o s) (gA W (o + 10))) hr h g t) (nbW W o) hr n ((stS (WO W o (cpR (nbW W o) (shO W o s) (gA W (o + 10)))) o hr h g t n).2.2 5 - t 5) what) ∧ BK o W W1 := by
  have h8 := hI.nb8
  have hop : ∀ b, b < 8 → cpR (nbW W o) (shO W o s) (gA W (o + 10)) b = 0 ∨ cpR (nbW W o) (shO W o s) (gA W (o + 10)) b = 1 := by
    intro b hb
    unfold cpR
    by_cases c : b < nbW W o
    · rw [if_pos c]
      exact shO_01 hI s hb
    · rw [if_neg c]
      exact hI.op hb
  obtain ⟨W1, e, k, m, a1, a10, a11, a12, a13⟩ := m_keeps hI
  obtain ⟨W2, e2, q2⟩ := m_ahead_shut hI F_X12_ahead_p135 (Int32.ofNat n) s what (nbW W o) 0 FU W1 (by omega) (by unfold FU; omega) ⟨m, by rw [a10, cpR_zero], a1, a11, a12, a13, k⟩
  obtain ⟨W3, e3, q3⟩ := m_ahead_hours hI hop hn F_X12_ahead_p211 what n 0 FU W2 (by omega) (by unfold FU; omega) (q2.ms hD)
  obtain ⟨W4, e4, q4, -⟩ := m_end hI hop (fun b hb => if_neg (by omega)) hD q3
  refine ⟨W4, ?_, q4⟩
  unfold F_X12_ahead_p82
  rw [e, cl_some]
  refine Eq.trans e2 ?_
  unfold F_X12_ahead_p135
  refine Eq.trans e3 ?_
  obtain ⟨m1, m2, ⟨m3, m4, m5, m6⟩, k1, k2, k3, k4, k5⟩ := q3
  have hS := m1.msh hI.sh
  have c5 : inb (5 : Int32) 9 := by decide
  have d5 : ixn (5 : Int32) = 5 := by decide
  unfold F_X12_ahead_p211
  simp only [hS.r1315, hS.r1353, lr_some hS.k13, lr_some hS.k41, hS.n13, hS.n41, grd_pos c5, d5, bnd, e4, cl_some, m6, k3 5 (by omega), hD.2.2.2]
  unfold ahM F_X12_ahead_p251
  by_cases w0 : what = 0
  · rw [if_pos w0, if_pos w0]
  · rw [if_neg w0, if_neg w0]
    by_cases w1 : what = (1 : Int32)
    · rw [if_pos w1, if_pos w1]
    · rw [if_neg w1, if_neg w1]
