abbrev bitP (s : Int32) (b : Nat) : Prop := ((s >>> (Int32.ofNat b &&& 31)) &&& (1 : Int32)) = (1 : Int32)
/-- only int fields changed -/
def EqI (M M1 : Mem) : Prop := gK M1 = gK M ∧ gN M1 = gN M ∧ gJ M1 = gJ M ∧ gR M1 = gR M ∧ gA M1 = gA M ∧ gB M1 = gB M ∧ gO M1 = gO M ∧ gH M1 = gH M ∧ gS M1 = gS M ∧ gE M1 = gE M
theorem EqI.trans {M M1 M2 : Mem} (h : EqI M M1) (k : EqI M1 M2) : EqI M M2 := ⟨k.1.trans h.1, k.2.1.trans h.2.1, k.2.2.1.trans h.2.2.1, k.2.2.2.1.trans h.2.2.2.1, k.2.2.2.2.1.trans h.2.2.2.2.1, k.2.2.2.2.2.1.trans h.2.2.2.2.2.1, k.2.2.2.2.2.2.1.trans h.2.2.2.2.2.2.1, k.2.2.2.2.2.2.2.1.trans h.2.2.2.2.2.2.2.1, k.2.2.2.2.2.2.2.2.1.trans h.2.2.2.2.2.2.2.2.1, k.2.2.2.2.2.2.2.2.2.trans h.2.2.2.2.2.2.2.2.2⟩
theorem EqI.sI (M : Mem) (f a : Nat) (v : Int32) : EqI M (sI M f a v) := ⟨rfl, rfl, rfl, rfl, rfl, rfl, rfl, rfl, rfl, rfl⟩
theorem EqI.refl (M : Mem) : EqI M M := ⟨rfl, rfl, rfl, rfl, rfl, rfl, rfl, rfl, rfl, rfl⟩
theorem frm109 {x p nb : Nat} {rg ba : Nat → Nat} {ra : Nat → Nat → Nat} (M : Mem) {i : Nat} (hi : i < nb) (v : Int32) : FRM x p nb rg ba ra M (sI M 109 (ba i) v) := by
  refine ⟨rfl, rfl, rfl, rfl, rfl, rfl, rfl, rfl, fun f a z1 z2 z3 => ?_, fun _ _ _ _ _ _ => rfl, FR.refl _, FR.refl _, FR.refl _, FRG.refl _, fun _ _ _ _ => rfl⟩
  rw [gI_sI, if_neg (fun k => z2 ⟨by omega, i, hi, k.2⟩)]
theorem c_shut_loop {x p o : Nat} {W M0 : Mem} (hG : GrS x p M0) (hI : MI o W) {ma : Nat → Nat} {rb : Nat → Nat → Nat} (hB : BoS p M0 o W ma rb) (s : Int32) : ∀ (r i f : Nat) (M : Mem), i + r = nbW W o → r < f → FRM x p (nbW W o) (rgW W o) ma rb M0 M →
    ∃ M1, F_X1_shut_p2 F_X1_shut_p43 f M p s (Int32.ofNat i) = some (M1, ()) ∧ FRM x p (nbW W o) (rgW W o) ma rb M0 M1 ∧ EqI M M1 ∧ (∀ f, ¬ f = 109 → gI M1 f = gI M f) ∧ ∀ b, b < nbW W o → gI M1 109 (ma b) = if i ≤ b ∧ bitP s b then 0 else gI M 109 (ma b) := by
  have h8 := hI.nb8
  have hinj := hB.2.2.1
  intro r
  induction r with
  | zero =>
    intro i f M hi hf hF
    obtain ⟨f, rfl⟩ : ∃ z, f = z + 1 := ⟨f - 1, by omega⟩
    obtain ⟨-, -, -, -, g3, -, g5, -⟩ := hF.grs hG
    obtain ⟨lm, -⟩ := hF.bos hB
    refine ⟨M, ?_, hF, EqI.refl _, fun _ _ => rfl, fun b hb => (if_neg (fun k => by omega)).symm⟩
    unfold F_X1_shut_p2 F_X1_shut_p43
    simp only [g3, lr_some g5, c_size, cl_some, lm.2.1]
    rw [if_pos ((ofN_le (by omega) (by omega)).mpr (by omega))]
  | succ r ih =>
    intro i f M hi hf hF
    obtain ⟨f, rfl⟩ : ∃ z, f = z + 1 := ⟨f - 1, by omega⟩
    have hib : i < nbW W o := by omega
    obtain ⟨-, -, -, -, g3, -, g5, -⟩ := hF.grs hG
    obtain ⟨lm, -, -, lbm⟩ := hF.bos hB
    have hgm := c_get lm (i := i) hib
    have hlt : ¬ Int32.ofNat (nbW W o) ≤ Int32.ofNat i := by
      rw [ofN_le (by omega) (by omega)]
      omega
    by_cases c : bitP s i
    · obtain ⟨M1, q1, q2, q3, q4, q5⟩ := ih (i + 1) f (sI M 109 (ma i) 0) (by omega) (by omega) (hF.trans (frm109 M hib 0))
      refine ⟨M1, ?_, q2, (EqI.sI _ _ _ _).trans q3, fun f hf => (q4 f hf).trans (gI_nf hf), fun b hb => ?_⟩
      · rw [← q1]
        conv => lhs; unfold F_X1_shut_p2
        simp only [g3, lr_some g5, c_size, cl_some, lm.2.1, if_neg hlt, hgm, lr_some (lbm i hib).1, if_pos c, bnd]
        rw [grd_pos (show True ∨ (0 : Int32) = 1 from Or.inl trivial)]
        unfold F_X1_shut_p37
        simp only [bnd, ofN_succ]
      · rw [q5 b hb, gI_sf]
        by_cases e : b = i
        · subst e
          rw [if_neg (by omega), ud_s, if_pos ⟨Nat.le_refl _, c⟩]
        · rw [ud_n _ (fun z => e (hinj _ _ hb hib z))]
          by_cases e2 : i + 1 ≤ b ∧ bitP s b
          · rw [if_pos e2, if_pos ⟨by omega, e2.2⟩]
          · rw [if_neg e2, if_neg (fun k => e2 ⟨by omega, k.2⟩)]
    · obtain ⟨M1, q1, q2, q3, q4, q5⟩ := ih (i + 1) f M (by omega) (by omega) hF
      refine ⟨M1, ?_, q2, q3, q4, fun b hb => ?_⟩
      · rw [← q1]
        conv => lhs; unfold F_X1_shut_p2
        simp only [g3, lr_some g5, c_size, cl_some, lm.2.1, if_neg hlt, if_neg c]
        unfold F_X1_shut_p37
        simp only [bnd, ofN_succ]
      · rw [q5 b hb]
        by_cases e : b = i
        · subst e
          rw [if_neg (by omega), if_neg (fun k => c k.2)]
        · by_cases e2 : i + 1 ≤ b ∧ bitP s b
          · rw [if_pos e2, if_pos ⟨by omega, e2.2⟩]
          · rw [if_neg e2, if_neg (fun k => e2 ⟨by omega, k.2⟩)]
theorem c_openOnly_loop {x p o : Nat} {W M0 : Mem} (hG : GrS x p M0) (hI : MI o W) {ma : Nat → Nat} {rb : Nat → Nat → Nat} (hB : BoS p M0 o W ma rb) (s : Int32) : ∀ (r i f : Nat) (M : Mem), i + r = nbW W o → r < f → FRM x p (nbW W o) (rgW W o) ma rb M0 M →
    ∃ M1, F_X1_openOnly_p2 F_X1_openOnly_p47 f M p s (Int32.ofNat i) = some (M1, ()) ∧ FRM x p (nbW W o) (rgW W o) ma rb M0 M1 ∧ EqI M M1 ∧ (∀ f, ¬ f = 109 → gI M1 f = gI M f) ∧ ∀ b, b < nbW W o → gI M1 109 (ma b) = if i ≤ b then (if bitP s b then 1 else 0) else gI M 109 (ma b) := by
  have h8 := hI.nb8
  have hinj := hB.2.2.1
  intro r
  induction r with
  | zero =>
    intro i f M hi hf hF
    obtain ⟨f, rfl⟩ : ∃ z, f = z + 1 := ⟨f - 1, by omega⟩
    obtain ⟨-, -, -, -, g3, -, g5, -⟩ := hF.grs hG
    obtain ⟨lm, -⟩ := hF.bos hB
    refine ⟨M, ?_, hF, EqI.refl _, fun _ _ => rfl, fun b hb => (if_neg (by omega)).symm⟩
    unfold F_X1_openOnly_p2 F_X1_openOnly_p47
    simp only [g3, lr_some g5, c_size, cl_some, lm.2.1]
    rw [if_pos ((ofN_le (by omega) (by omega)).mpr (by omega))]
  | succ r ih =>
    intro i f M hi hf hF
    obtain ⟨f, rfl⟩ : ∃ z, f = z + 1 := ⟨f - 1, by omega⟩
    have hib : i < nbW W o := by omega
    obtain ⟨-, -, -, -, g3, -, g5, -⟩ := hF.grs hG
    obtain ⟨lm, -, -, lbm⟩ := hF.bos hB
    have hgm := c_get lm (i := i) hib
    have hlt : ¬ Int32.ofNat (nbW W o) ≤ Int32.ofNat i := by
      rw [ofN_le (by omega) (by omega)]
      omega
    have hstep : ∀ v : Int32, (v = 0 ∨ v = 1) → (if bitP s i then (1 : Int32) else 0) = v → ∃ M1, F_X1_openOnly_p38 (F_X1_openOnly_p2 F_X1_openOnly_p47 f) M p s (Int32.ofNat i) (ma i) v = some (M1, ()) ∧ FRM x p (nbW W o) (rgW W o) ma rb M0 M1 ∧ EqI M M1 ∧ (∀ f, ¬ f = 109 → gI M1 f = gI M f) ∧ ∀ b, b < nbW W o → gI M1 109 (ma b) = if i ≤ b then (if bitP s b then 1 else 0) else gI M 109 (ma b) := by
      intro v hv hv2
      obtain ⟨M1, q1, q2, q3, q4, q5⟩ := ih (i + 1) f (sI M 109 (ma i) v) (by omega) (by omega) (hF.trans (frm109 M hib v))
      refine ⟨M1, ?_, q2, (EqI.sI _ _ _ _).trans q3, fun f hf => (q4 f hf).trans (gI_nf hf), fun b hb => ?_⟩
      · rw [← q1]
        unfold F_X1_openOnly_p38
        simp only [grd_pos hv, bnd, ofN_succ]
      · rw [q5 b hb, gI_sf]
        by_cases e : b = i
        · subst e
          rw [if_neg (by omega), ud_s, if_pos (Nat.le_refl _), hv2]
        · rw [ud_n _ (fun z => e (hinj _ _ hb hib z))]
          by_cases e2 : i + 1 ≤ b
          · rw [if_pos e2, if_pos (show i ≤ b by omega)]
          · rw [if_neg e2, if_neg (show ¬ i ≤ b by omega)]
    by_cases c : bitP s i
    · obtain ⟨M1, q1, q2⟩ := hstep 1 (Or.inr rfl) (if_pos c)
      refine ⟨M1, ?_, q2⟩
      rw [← q1]
      conv => lhs; unfold F_X1_openOnly_p2
      simp only [g3, lr_some g5, c_size, cl_some, lm.2.1, if_neg hlt, hgm, lr_some (lbm i hib).1, if_pos c]
    · obtain ⟨M1, q1, q2⟩ := hstep 0 (Or.inl rfl) (if_neg c)
      refine ⟨M1, ?_, q2⟩
      rw [← q1]
      conv => lhs; unfold F_X1_openOnly_p2
      simp only [g3, lr_some g5, c_size, cl_some, lm.2.1, if_neg hlt, hgm, lr_some (lbm i hib).1, if_neg c]
/-- the least of v and a -/
def minR (v : Nat → Int64) : Nat → Nat → Int64 → Int64
  | 0, _, a => a
  | r + 1, b, a => minR v r (b + 1) (if v b < a then v b else a)
theorem c_coldest_loop {x p o : Nat} {W M : Mem} (hG : GrS x p M) (hI : MI o W) {ma : Nat → Nat} {rb : Nat → Nat → Nat} (hB : BoS p M o W ma rb) {h : Nat → Int64} (hw : AW W o rb (gJ M 503) h) : ∀ (r i f : Nat) (a : Int64), i + r = nbW W o → r < f →
    F_X1_coldestNow_p6 F_X1_coldestNow_p45 f M p a (Int32.ofNat i) = some (M, minR (fun b => wS W o h b 0) r i a) := by
  have h8 := hI.nb8
  obtain ⟨-, -, -, -, g3, -, g5, -⟩ := hG
  obtain ⟨lm, -, -, lbm⟩ := hB
  intro r
  induction r with
  | zero =>
    intro i f a hi hf
    obtain ⟨f, rfl⟩ : ∃ z, f = z + 1 := ⟨f - 1, by omega⟩
    unfold F_X1_coldestNow_p6 F_X1_coldestNow_p45
    simp only [g3, lr_some g5, c_size, cl_some, lm.2.1]
    rw [if_pos ((ofN_le (by omega) (by omega)).mpr (by omega))]
    rfl
  | succ r ih =>
    intro i f a hi hf
    obtain ⟨f, rfl⟩ : ∃ z, f = z + 1 := ⟨f - 1, by omega⟩
    have hib : i < nbW W o := by omega
    have hr1 := hI.rg1 hib
    have hgm := c_get lm (i := i) hib
    obtain ⟨kb, -, -, -, -, b5, -, -, hbr⟩ := lbm i hib
    have hlt : ¬ Int32.ofNat (nbW W o) ≤ Int32.ofNat i := by
      rw [ofN_le (by omega) (by omega)]
      omega
    have hrec := ih (i + 1) f (if wS W o h i 0 < a then wS W o h i 0 else a) (by omega) (by omega)
    conv => lhs; unfold F_X1_coldestNow_p6
    simp only [g3, lr_some g5, c_size, cl_some, lm.2.1, if_neg hlt, hgm, lr_some kb, b5, lr_some (hbr 0 (by omega)).1, hw i 0 hib (by omega), bnd, ofN_succ]
    exact hrec
theorem c_coldest {x p o : Nat} {W M : Mem} (hG : GrS x p M) (hI : MI o W) {ma : Nat → Nat} {rb : Nat → Nat → Nat} (hB : BoS p M o W ma rb) {h : Nat → Int64} (hw : AW W o rb (gJ M 503) h) : F_X1_coldestNow M p = some (M, minR (fun b => wS W o h b 0) (nbW W o) 0 4000000000000000000) :=
  c_coldest_loop hG hI hB hw (nbW W o) 0 FU _ (by omega) (by have := hI.nb8; unfold FU; omega)
/-- the hours' numbers, one after another -/
def stS (W : Mem) (o hr : Nat) (h g t : Nat → Int64) : Nat → (Nat → Int64) × (Nat → Int64) × (Nat → Int64)
  | 0 => (h, g, t)
  | k + 1 => hourS W o (hr + k) (stS W o hr h g t k).1 (stS W o hr h g t k).2.1 (stS W o hr h g t k).2.2
theorem stS_bt {o hr : Nat} {W : Mem} (hI : MI o W) {h : Nat → Int64} (hH : HBd W o hr h) (g t : Nat → Int64) : ∀ k, hr + k ≤ 20000 → HBd W o (hr + k) (stS W o hr h g t k).1 := by
  intro k
  induction k with
  | zero => exact fun _ => hH
  | succ k ih => exact fun hk => hourS_bt hI (by omega) (ih (by omega)) _ _
theorem stS_at {o hr : Nat} {W : Mem} (h g t u : Nat → Int64) {i : Nat} (e : t i = u i) : ∀ k, (stS W o hr h g t k).1 = (stS W o hr h g u k).1 ∧ (stS W o hr h g t k).2.1 = (stS W o hr h g u k).2.1 ∧ (stS W o hr h g t k).2.2 i = (stS W o hr h g u k).2.2 i := by
  intro k
  induction k with
  | zero => exact ⟨rfl, rfl, e⟩
  | succ k ih =>
    obtain ⟨i1, i2, i3⟩ := ih
    obtain ⟨j1, j2, j3⟩ := hourS_at (W := W) (o := o) (hr + k) (stS W o hr h g t k).1 (stS W o hr h g t k).2.1 (stS W o hr h g t k).2.2 (stS W o hr h g u k).2.2 i3
    rw [i1, i2] at j1 j2 j3
    show (hourS W o (hr + k) (stS W o hr h g t k).1 (stS W o hr h g t k).2.1 (stS W o hr h g t k).2.2).1 = (hourS W o (hr + k) (stS W o hr h g u k).1 (stS W o hr h g u k).2.1 (stS W o hr h g u k).2.2).1 ∧ (hourS W o (hr + k) (stS W o hr h g t k).1 (stS W o hr h g t k).2.1 (stS W o hr h g t k).2.2).2.1 = (hourS W o (hr + k) (stS W o hr h g u k).1 (stS W o hr h g u k).2.1 (stS W o hr h g u k).2.2).2.1 ∧ (hourS W o (hr + k) (stS W o hr h g t k).1 (stS W o hr h g t k).2.1 (stS W o hr h g t k).2.2).2.2 i = (hourS W o (hr + k) (stS W o hr h g u k).1 (stS W o hr h g u k).2.1 (stS W o hr h g u k).2.2).2.2 i
    rw [i1, i2]
    exact ⟨j1, j2, j3⟩
/-- what is bought grows, by no more than so much an hour -/
theorem stS_5 {o hr : Nat} {W : Mem} (hI : MI o W) (h g t : Nat → Int64) (h0 : 0 ≤ (t 5).toInt) (h1 : (t 5).toInt ≤ 100000000000) : ∀ k, k ≤ 20000 → (t 5).toInt ≤ ((stS W o hr h g t k).2.2 5).toInt ∧ ((stS W o hr h g t k).2.2 5).toInt ≤ (t 5).toInt + 2000000 * k ∧ ((stS W o hr h g t k).2.2 5).toInt ≤ ((stS W o hr h g t (k + 1)).2.2 5).toInt := by
  have hstep : ∀ k, (t 5).toInt ≤ ((stS W o hr h g t k).2.2 5).toInt → ((stS W o hr h g t k).2.2 5).toInt ≤ (t 5).toInt + 2000000 * k → k ≤ 20000 → ((stS W o hr h g t k).2.2 5).toInt ≤ ((stS W o hr h g t (k + 1)).2.2 5).toInt ∧ ((stS W o hr h g t (k + 1)).2.2 5).toInt ≤ ((stS W o hr h g t k).2.2 5).toInt + 2000000 := by
    intro k a1 a2 a3
    obtain ⟨e, b1, b2⟩ := hour5 hI (hr + k) (stS W o hr h g t k).1 (stS W o hr h g t k).2.1 (stS W o hr h g t k).2.2
    have e1 : (stS W o hr h g t (k + 1)).2.2 5 = (stS W o hr h g t k).2.2 5 + (metS W o (hr + k) (stS W o hr h g t k).1 (stS W o hr h g t k).2.1 (stS W o hr h g t k).2.2).1 := e
    rw [e1, i64_add (by omega) (by omega)]
    omega
  intro k
  induction k with
  | zero =>
    intro _
    have e0 : (stS W o hr h g t 0).2.2 5 = t 5 := rfl
    have := hstep 0 (by rw [e0]; omega) (by rw [e0]; omega) (by omega)
    rw [e0] at this ⊢
    refine ⟨by omega, by omega, this.1⟩
  | succ k ih =>
    intro hk
    obtain ⟨i1, i2, i3⟩ := ih (by omega)
    have s1 := hstep k i1 i2 (by omega)
    have a1 : (t 5).toInt ≤ ((stS W o hr h g t (k + 1)).2.2 5).toInt := by omega
    have a2 : ((stS W o hr h g t (k + 1)).2.2 5).toInt ≤ (t 5).toInt + 2000000 * ((k + 1 : Nat) : Int) := by omega
    exact ⟨a1, a2, (hstep (k + 1) a1 a2 hk).1⟩
