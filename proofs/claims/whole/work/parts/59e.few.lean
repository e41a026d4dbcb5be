def pc (s : Nat) : Nat := s % 2 + s / 2 % 2 + s / 4 % 2 + s / 8 % 2 + s / 16 % 2 + s / 32 % 2 + s / 64 % 2 + s / 128 % 2
def bcV (a0 : Int32) : Int32 :=
  let v1 := a0 - (((a0.toUInt32 >>> ((1 : Int32).toUInt32 &&& Int32.toUInt32 31)).toInt32) &&& (1431655765 : Int32))
  let v2 := (v1 &&& (858993459 : Int32)) + (((v1.toUInt32 >>> ((2 : Int32).toUInt32 &&& Int32.toUInt32 31)).toInt32) &&& (858993459 : Int32))
  let v3 := (v2 + ((v2.toUInt32 >>> ((4 : Int32).toUInt32 &&& Int32.toUInt32 31)).toInt32)) &&& (252645135 : Int32)
  let v4 := v3 + ((v3.toUInt32 >>> ((8 : Int32).toUInt32 &&& Int32.toUInt32 31)).toInt32)
  let v5 := v4 + ((v4.toUInt32 >>> ((16 : Int32).toUInt32 &&& Int32.toUInt32 31)).toInt32)
  v5 &&& (63 : Int32)
theorem bcV_eq : ∀ s, s < 256 → bcV (Int32.ofNat s) = Int32.ofNat (pc s) := by decide +kernel
theorem c_bitCount (M : Mem) {s : Nat} (hs : s < 256) : F_J6_bitCount_0f7a4 M (Int32.ofNat s) = some (M, Int32.ofNat (pc s)) := by
  rw [← bcV_eq s hs]
  rfl
def mnyR (x : Int32) : Nat → Nat → Int32 → Int32
  | 0, _, a => a
  | r + 1, i, a => mnyR x r (i + 1) (a + ((x >>> (Int32.ofNat i &&& 31)) &&& (1 : Int32)))
theorem mny_eq : ∀ s, s < 256 → mnyR (Int32.ofNat s) 8 0 0 = Int32.ofNat (pc s) := by decide +kernel
theorem m_many_loop (M : Mem) (x : Int32) : ∀ (r i f : Nat) (a : Int32), i + r = 8 → r < f → F_X12_many_p4 F_X12_many_p24 f M x a (Int32.ofNat i) = some (M, mnyR x r i a) := by
  intro r
  induction r with
  | zero =>
    intro i f a hi hf
    obtain ⟨f, rfl⟩ : ∃ z, f = z + 1 := ⟨f - 1, by omega⟩
    have : i = 8 := by omega
    subst this
    unfold F_X12_many_p4 F_X12_many_p24
    rw [if_pos (show (8 : Int32) ≤ Int32.ofNat 8 by decide)]
    rfl
  | succ r ih =>
    intro i f a hi hf
    obtain ⟨f, rfl⟩ : ∃ z, f = z + 1 := ⟨f - 1, by omega⟩
    have hlt : ¬ (8 : Int32) ≤ Int32.ofNat i := by
      rw [show (8 : Int32) = Int32.ofNat 8 from rfl, ofN_le (by omega) (by omega)]
      omega
    have hrec := ih (i + 1) f (a + ((x >>> (Int32.ofNat i &&& 31)) &&& (1 : Int32))) (by omega) (by omega)
    unfold F_X12_many_p4
    rw [if_neg hlt]
    simp only [bnd, ofN_succ]
    exact hrec
theorem m_many (M : Mem) {s : Nat} (hs : s < 256) : F_X12_many M (Int32.ofNat s) = some (M, Int32.ofNat (pc s)) := by
  have h := m_many_loop M (Int32.ofNat s) 8 0 FU 0 (by omega) (by unfold FU; omega)
  rw [mny_eq s hs] at h
  exact h
theorem shl_one : ∀ n, n ≤ 8 → (1 : Int32) <<< (Int32.ofNat n &&& 31) = Int32.ofNat (2 ^ n) := by decide
theorem two_pow_le : ∀ n, n ≤ 8 → 2 ^ n ≤ 256 := by decide
theorem pc_le : ∀ n, n ≤ 8 → ∀ s, s < 2 ^ n → pc s ≤ n := by decide +kernel
theorem ofN_eq {n m : Nat} (h : n < 2147483648) (h2 : m < 2147483648) : Int32.ofNat n = Int32.ofNat m ↔ n = m := by
  constructor
  · intro k
    have := congrArg Int32.toInt k
    rw [ofN_toInt h, ofN_toInt h2] at this
    omega
  · intro k
    rw [k]
/-- who is open with a set open -/
def opS (s : Int32) (b : Nat) : Int32 := if bitP s b then 1 else 0
theorem opS_01 (s : Int32) (b : Nat) : opS s b = 0 ∨ opS s b = 1 := by
  unfold opS
  by_cases c : bitP s b
  · rw [if_pos c]
    exact Or.inr rfl
  · rw [if_neg c]
    exact Or.inl rfl
def fewO (W : Mem) (o s : Nat) : Nat → Int32 := cpR (nbW W o) (opS (Int32.ofNat s)) (gA W (o + 10))
theorem fewO_01 {o : Nat} {W : Mem} (hI : MI o W) (s : Nat) : ∀ b, b < 8 → fewO W o s b = 0 ∨ fewO W o s b = 1 := by
  intro b hb
  unfold fewO cpR
  by_cases c : b < nbW W o
  · rw [if_pos c]
    exact opS_01 _ _
  · rw [if_neg c]
    exact hI.op hb
/-- is a set enough -/
def enS (W : Mem) (o hr : Nat) (h g t : Nat → Int64) (n : Nat) (m : Int32) (s : Nat) : Prop := ((stS (WO W o (fewO W o s)) o hr h g t n).2.2 5).toInt ≤ (t 5).toInt + m.toInt
theorem stS_mono {o hr : Nat} {W : Mem} (hI : MI o W) (h g t : Nat → Int64) (h0 : 0 ≤ (t 5).toInt) (h1 : (t 5).toInt ≤ 100000000000) : ∀ r k, k + r ≤ 20000 → ((stS W o hr h g t k).2.2 5).toInt ≤ ((stS W o hr h g t (k + r)).2.2 5).toInt := by
  intro r
  induction r with
  | zero => exact fun k _ => Int.le_refl _
  | succ r ih =>
    intro k hk
    have h2 := ih k (by omega)
    have h3 := (stS_5 (hr := hr) hI h g t h0 h1 (k + r) (by omega)).2.2
    exact Int.le_trans h2 h3
theorem c_enough_loop {x o : Nat} {M W : Mem} (hI : MI o W) {op : Nat → Int32} (hop : ∀ b, b < 8 → op b = 0 ∨ op b = 1) {ha ua ma : Nat → Nat} {rb : Nat → Nat → Nat} {hr : Nat} {h g t : Nat → Int64} (hB : HBd W o hr h) (h0 : 0 ≤ (t 5).toInt) (h1 : (t 5).toInt ≤ 100000000000) {n : Nat} (hn : hr + n ≤ 20000) (most : Int64) : ∀ (r i f : Nat) (Mi : Mem), i + r = n → r < f → CS x o M W op ha ua ma rb hr h g t i Mi →
    ∃ M1, F_X11_isEnough_p35 F_X11_isEnough_p69 f Mi x (Int32.ofNat n) most (Int32.ofNat i) = some (M1, if ((stS (WO W o op) o hr h g t n).2.2 5).toInt ≤ most.toInt then 1 else 0) ∧ FRM x (x + 49) (nbW W o) (rgW W o) ma rb M M1 := by
  have c5 : inb (5 : Int32) 9 := by decide
  have d5 : ixn (5 : Int32) = 5 := by decide
  intro r
  induction r with
  | zero =>
    intro i f Mi hi hf hM
    obtain ⟨f, rfl⟩ : ∃ z, f = z + 1 := ⟨f - 1, by omega⟩
    have : i = n := by omega
    subst this
    have hC := hM.1.1
    have d6 : gB Mi (x + 51) = (stS (WO W o op) o hr h g t i).2.2 := hM.2.1.2.2.2.2.2
    refine ⟨Mi, ?_, hM.2.2⟩
    unfold F_X11_isEnough_p35 F_X11_isEnough_p69 F_X11_isEnough_p89
    rw [if_pos (Int32.le_refl _)]
    simp only [hC.r1206, lr_some hC.k49, hC.r204_49, lr_some hC.k51, hC.n51, grd_pos c5, d5, d6]
    by_cases c : ((stS (WO W o op) o hr h g t i).2.2 5).toInt ≤ most.toInt
    · rw [if_pos c, if_neg (fun k => by have := i64_lt.mp ((lg_cmp_gt _ _).mp k); omega)]
      rfl
    · rw [if_neg c, if_pos ((lg_cmp_gt _ _).mpr (i64_lt.mpr (by omega)))]
      rfl
  | succ r ih =>
    intro i f Mi hi hf hM
    obtain ⟨f, rfl⟩ : ∃ z, f = z + 1 := ⟨f - 1, by omega⟩
    have hC := hM.1.1
    have d6 : gB Mi (x + 51) = (stS (WO W o op) o hr h g t i).2.2 := hM.2.1.2.2.2.2.2
    have hlt : ¬ Int32.ofNat n ≤ Int32.ofNat i := by
      rw [ofN_le (by omega) (by omega)]
      omega
    by_cases c : ((stS (WO W o op) o hr h g t i).2.2 5).toInt ≤ most.toInt
    · obtain ⟨M2, e, q1, -⟩ := c_hstep hI hop hB hM (by omega)
      obtain ⟨M1, p1, p2⟩ := ih (i + 1) f M2 (by omega) (by omega) q1
      refine ⟨M1, ?_, p2⟩
      rw [← p1]
      conv => lhs; unfold F_X11_isEnough_p35
      simp only [if_neg hlt, hC.r1206, lr_some hC.k49, hC.r204_49, lr_some hC.k51, hC.n51, grd_pos c5, d5, d6]
      rw [if_neg (fun k => by have := i64_lt.mp ((lg_cmp_gt _ _).mp k); omega)]
      simp only [e, cl_some, bnd, ofN_succ]
    · have hm := stS_mono (hr := hr) (WO_mi hI hop) h g t h0 h1 (n - i) i (by omega)
      rw [show i + (n - i) = n by omega] at hm
      refine ⟨Mi, ?_, hM.2.2⟩
      rw [if_neg (by omega)]
      conv => lhs; unfold F_X11_isEnough_p35
      unfold F_X11_isEnough_p69 F_X11_isEnough_p89
      simp only [if_neg hlt, hC.r1206, lr_some hC.k49, hC.r204_49, lr_some hC.k51, hC.n51, grd_pos c5, d5, d6]
      have hgt := (lg_cmp_gt ((stS (WO W o op) o hr h g t i).2.2 5) most).mpr (i64_lt.mpr (by omega))
      rw [if_pos hgt, if_pos hgt]
      rfl
theorem c_isEnough {x o : Nat} {M W : Mem} {ha ua ba ma : Nat → Nat} {ra rb : Nat → Nat → Nat} {hr : Nat} {h g t : Nat → Int64} (hR : MR x o M W ha ua ba ma ra rb hr h g t) (hB : HBd W o hr h) (h0 : 0 ≤ (t 5).toInt) (h1 : (t 5).toInt ≤ 100000000000) {n : Nat} (hn : hr + n ≤ 20000) {m : Int32} (hm : bt m 0 1000000000) (s : Nat) : ∃ M1 v, F_X11_isEnough M x (Int32.ofNat s) (Int32.ofNat n) m.toInt64 = some (M1, v) ∧ ((v = 1 ∧ enS W o hr h g t n m s) ∨ (v = 0 ∧ ¬ enS W o hr h g t n m s)) ∧ FRM x (x + 49) (nbW W o) (rgW W o) ma rb M M1 := by
  have hC := hR.1.1
  have hI := hR.1.2.2.1
  obtain ⟨M2, M1, t1, e1, g1, c1, e2, hS, ht⟩ := c_startOpen (fewO_01 hI s) (Int32.ofNat s) (fun b hb => if_pos hb) hR
  have hC1 := hS.1.1
  have hR1 := hR.frm hS.2.2
  have g6 : gB M1 (x + 48) = t := hR1.2.1.2.2.2.2.2
  have c5 : inb (5 : Int32) 9 := by decide
  have d5 : ixn (5 : Int32) = 5 := by decide
  have t5 := ht 5 (by omega)
  have m1 := hm.1
  have m2 := hm.2
  have emost : (t 5 + m.toInt64).toInt = (t 5).toInt + m.toInt := by rw [i64_add (by rw [Int32.toInt_toInt64]; omega) (by rw [Int32.toInt_toInt64]; omega), Int32.toInt_toInt64]
  obtain ⟨M3, e3, f3⟩ := c_enough_loop hI (fewO_01 hI s) hB (by rw [t5]; exact h0) (by rw [t5]; exact h1) hn (t 5 + m.toInt64) n 0 FU M1 (by omega) (by unfold FU; omega) hS
  rw [emost, (stS_at (W := WO W o (fewO W o s)) (o := o) (hr := hr) h g t1 t t5 n).2.2] at e3
  have e4 : ∀ v, (if ((stS (WO W o (fewO W o s)) o hr h g t n).2.2 5).toInt ≤ (t 5).toInt + m.toInt then (1 : Int32) else 0) = v → F_X11_isEnough M x (Int32.ofNat s) (Int32.ofNat n) m.toInt64 = some (M3, v) := by
    intro v hv
    rw [hv] at e3
    unfold F_X11_isEnough
    rw [hC.r1206, lr_some hC.k49, hC.r1205, lr_some hC.k46, e1, cl_some]
    simp only [c1.r1206, lr_some c1.k49, e2, cl_some, hC1.r1205, lr_some hC1.k46, hC1.r204_46, lr_some hC1.k48, hC1.n48, grd_pos c5, d5, g6, bnd]
    exact e3
  by_cases c : ((stS (WO W o (fewO W o s)) o hr h g t n).2.2 5).toInt ≤ (t 5).toInt + m.toInt
  · exact ⟨M3, 1, e4 1 (if_pos c), Or.inl ⟨rfl, c⟩, f3⟩
  · exact ⟨M3, 0, e4 0 (if_neg c), Or.inr ⟨rfl, c⟩, f3⟩
/-- the best of the sets below S -/
def FP (en : Nat → Prop) (S : Nat) (r : Option Nat) : Prop := match r with
  | none => ∀ s, s < S → ¬ en s
  | some b => b < S ∧ en b ∧ ∀ s, s < S → en s → pc b < pc s ∨ (pc b = pc s ∧ b ≤ s)
theorem FP.uniq {en : Nat → Prop} {S : Nat} {r r' : Option Nat} (h : FP en S r) (h' : FP en S r') : r = r' := by
  cases r with
  | none =>
    cases r' with
    | none => rfl
    | some b => exact absurd h'.2.1 (h b h'.1)
  | some a =>
    cases r' with
    | none => exact absurd h.2.1 (h' a h.1)
    | some b =>
      have h1 := h.2.2 b h'.1 h'.2.1
      have h2 := h'.2.2 a h.1 h.2.1
      congr 1
      omega
def encF : Option Nat → Int32
  | none => -9
  | some b => Int32.ofNat b
theorem encF_ne {b : Nat} (h : b < 256) : ¬ encF (some b) = -9 := by
  intro k
  have := congrArg Int32.toInt k
  have e : (encF (some b)).toInt = b := ofN_toInt (by omega)
  rw [e] at this
  have e2 : (-9 : Int32).toInt = -9 := by decide
  omega
