theorem c_few_set {x o : Nat} {M W : Mem} {ha ua ba ma : Nat → Nat} {ra rb : Nat → Nat → Nat} {hr : Nat} {h g t : Nat → Int64} (hR : MR x o M W ha ua ba ma ra rb hr h g t) (hB : HBd W o hr h) (h0 : 0 ≤ (t 5).toInt) (h1 : (t 5).toInt ≤ 100000000000) {n : Nat} (hn : hr + n ≤ 20000) {m : Int32} (hm : bt m 0 1000000000) (k88 : Mem → Int32 → Option (Mem × Int32)) (k97 : Mem → Nat → Int32 → Int32 → Int32 → Int32 → Option (Mem × Int32)) {many : Nat} (hmany : many ≤ 8) : ∀ (r s f : Nat) (Mi : Mem), s + r = 2 ^ nbW W o → r < f → FRM x (x + 49) (nbW W o) (rgW W o) ma rb M Mi → (∀ s', s' < s → pc s' = many → ¬ enS W o hr h g t n m s') →
    ∃ M1, FRM x (x + 49) (nbW W o) (rgW W o) ma rb M M1 ∧ ((∃ b, F_X11_few_p58 k88 k97 f Mi x (Int32.ofNat n) m (Int32.ofNat (nbW W o)) (Int32.ofNat many) (Int32.ofNat s) = k88 M1 (Int32.ofNat b) ∧ b < 2 ^ nbW W o ∧ pc b = many ∧ enS W o hr h g t n m b ∧ ∀ s', s' < b → pc s' = many → ¬ enS W o hr h g t n m s') ∨ (F_X11_few_p58 k88 k97 f Mi x (Int32.ofNat n) m (Int32.ofNat (nbW W o)) (Int32.ofNat many) (Int32.ofNat s) = k97 M1 x (Int32.ofNat n) m (Int32.ofNat (nbW W o)) (Int32.ofNat many) ∧ ∀ s', s' < 2 ^ nbW W o → pc s' = many → ¬ enS W o hr h g t n m s')) := by
  have h8 := hR.1.2.2.1.nb8
  have h256 := two_pow_le (nbW W o) h8
  intro r
  induction r with
  | zero =>
    intro s f Mi hs hf hF hno
    obtain ⟨f, rfl⟩ : ∃ z, f = z + 1 := ⟨f - 1, by omega⟩
    have hs2 : s = 2 ^ nbW W o := by omega
    refine ⟨Mi, hF, Or.inr ⟨?_, fun s' hs' => hno s' (by omega)⟩⟩
    unfold F_X11_few_p58
    rw [shl_one _ h8, if_pos ((ofN_le (by omega) (by omega)).mpr (by omega))]
  | succ r ih =>
    intro s f Mi hs hf hF hno
    obtain ⟨f, rfl⟩ : ∃ z, f = z + 1 := ⟨f - 1, by omega⟩
    have hlt : ¬ Int32.ofNat (2 ^ nbW W o) ≤ Int32.ofNat s := by
      rw [ofN_le (by omega) (by omega)]
      omega
    have hbc := c_bitCount Mi (show s < 256 by omega)
    have e0 : ∀ M2, F_X11_few_p91 (F_X11_few_p58 k88 k97 f) M2 x (Int32.ofNat n) m (Int32.ofNat (nbW W o)) (Int32.ofNat many) (Int32.ofNat s) = F_X11_few_p58 k88 k97 f M2 x (Int32.ofNat n) m (Int32.ofNat (nbW W o)) (Int32.ofNat many) (Int32.ofNat (s + 1)) := by
      intro M2
      unfold F_X11_few_p91
      simp only [bnd, ofN_succ]
    have hpc8 := pc_le (nbW W o) h8 s (by omega)
    by_cases c : pc s = many
    · obtain ⟨M2, v, e, hv, hF2⟩ := c_isEnough (hR.frm hF) hB h0 h1 hn hm s
      have heq : Int32.ofNat (pc s) = Int32.ofNat many := by rw [c]
      rcases hv with ⟨rfl, hv⟩ | ⟨rfl, hv⟩
      · refine ⟨M2, hF.trans hF2, Or.inl ⟨s, ?_, by omega, c, hv, fun s' hs' => hno s' hs'⟩⟩
        conv => lhs; unfold F_X11_few_p58
        rw [shl_one _ h8, if_neg hlt, hbc, cl_some, if_pos heq, e, cl_some]
        rfl
      · obtain ⟨M1, p1, p2⟩ := ih (s + 1) f M2 (by omega) (by omega) (hF.trans hF2) (fun s' hs' hp => by
          by_cases z : s' = s
          · rw [z]
            exact hv
          · exact hno s' (by omega) hp)
        have ef : F_X11_few_p58 k88 k97 (f + 1) Mi x (Int32.ofNat n) m (Int32.ofNat (nbW W o)) (Int32.ofNat many) (Int32.ofNat s) = F_X11_few_p58 k88 k97 f M2 x (Int32.ofNat n) m (Int32.ofNat (nbW W o)) (Int32.ofNat many) (Int32.ofNat (s + 1)) := by
          conv => lhs; unfold F_X11_few_p58
          rw [shl_one _ h8, if_neg hlt, hbc, cl_some, if_pos heq, e, cl_some]
          exact e0 M2
        refine ⟨M1, p1, ?_⟩
        rw [ef]
        exact p2
    · have hne : ¬ Int32.ofNat (pc s) = Int32.ofNat many := fun k => c ((ofN_eq (by omega) (by omega)).mp k)
      obtain ⟨M1, p1, p2⟩ := ih (s + 1) f Mi (by omega) (by omega) hF (fun s' hs' hp => by
          by_cases z : s' = s
          · rw [z] at hp
            exact absurd hp c
          · exact hno s' (by omega) hp)
      have ef : F_X11_few_p58 k88 k97 (f + 1) Mi x (Int32.ofNat n) m (Int32.ofNat (nbW W o)) (Int32.ofNat many) (Int32.ofNat s) = F_X11_few_p58 k88 k97 f Mi x (Int32.ofNat n) m (Int32.ofNat (nbW W o)) (Int32.ofNat many) (Int32.ofNat (s + 1)) := by
        conv => lhs; unfold F_X11_few_p58
        rw [shl_one _ h8, if_neg hlt, hbc, cl_some, if_neg hne]
        exact e0 Mi
      refine ⟨M1, p1, ?_⟩
      rw [ef]
      exact p2
theorem c_few_many {x o : Nat} {M W : Mem} {ha ua ba ma : Nat → Nat} {ra rb : Nat → Nat → Nat} {hr : Nat} {h g t : Nat → Int64} (hR : MR x o M W ha ua ba ma ra rb hr h g t) (hB : HBd W o hr h) (h0 : 0 ≤ (t 5).toInt) (h1 : (t 5).toInt ≤ 100000000000) {n : Nat} (hn : hr + n ≤ 20000) {m : Int32} (hm : bt m 0 1000000000) : ∀ (r many f : Nat) (Mi : Mem), many + r = nbW W o + 1 → r < f → FRM x (x + 49) (nbW W o) (rgW W o) ma rb M Mi → (∀ s', s' < 2 ^ nbW W o → pc s' < many → ¬ enS W o hr h g t n m s') →
    ∃ M1 res, F_X11_few_p49 F_X11_few_p88 F_X11_few_p103 f Mi x (Int32.ofNat n) m (Int32.ofNat (nbW W o)) (Int32.ofNat many) = some (M1, encF res) ∧ FRM x (x + 49) (nbW W o) (rgW W o) ma rb M M1 ∧ FP (enS W o hr h g t n m) (2 ^ nbW W o) res := by
  have h8 := hR.1.2.2.1.nb8
  have h256 := two_pow_le (nbW W o) h8
  intro r
  induction r with
  | zero =>
    intro many f Mi hs hf hF hno
    obtain ⟨f, rfl⟩ : ∃ z, f = z + 1 := ⟨f - 1, by omega⟩
    refine ⟨Mi, none, ?_, hF, fun s hs' => hno s hs' (by have := pc_le (nbW W o) h8 s hs'; omega)⟩
    unfold F_X11_few_p49
    rw [if_pos ((ofN_lt (by omega) (by omega)).mpr (by omega))]
    rfl
  | succ r ih =>
    intro many f Mi hs hf hF hno
    obtain ⟨f, rfl⟩ : ∃ z, f = z + 1 := ⟨f - 1, by omega⟩
    have hlt : ¬ Int32.ofNat (nbW W o) < Int32.ofNat many := by
      rw [ofN_lt (by omega) (by omega)]
      omega
    obtain ⟨M2, hF2, hq⟩ := c_few_set hR hB h0 h1 hn hm F_X11_few_p88 (F_X11_few_p97 (F_X11_few_p49 F_X11_few_p88 F_X11_few_p103 f)) (many := many) (by omega) (2 ^ nbW W o) 0 FU Mi (by omega) (by unfold FU; omega) hF (fun s' hs' => by omega)
    have ef : ∀ q, F_X11_few_p58 F_X11_few_p88 (F_X11_few_p97 (F_X11_few_p49 F_X11_few_p88 F_X11_few_p103 f)) FU Mi x (Int32.ofNat n) m (Int32.ofNat (nbW W o)) (Int32.ofNat many) (Int32.ofNat 0) = q → F_X11_few_p49 F_X11_few_p88 F_X11_few_p103 (f + 1) Mi x (Int32.ofNat n) m (Int32.ofNat (nbW W o)) (Int32.ofNat many) = q := by
      intro q hq
      rw [← hq]
      conv => lhs; unfold F_X11_few_p49
      rw [if_neg hlt]
      rfl
    rcases hq with ⟨b, e, q1, q2, q3, q4⟩ | ⟨e, q1⟩
    · refine ⟨M2, some b, ef _ e, hF2, q1, q3, fun s hs' hes => ?_⟩
      rcases (show pc s < many ∨ pc s = many ∨ many < pc s by omega) with z | z | z
      · exact absurd hes (hno s hs' z)
      · right
        refine ⟨by omega, ?_⟩
        by_cases z2 : s < b
        · exact absurd hes (q4 s z2 z)
        · omega
      · left
        omega
    · obtain ⟨M1, res, p1, p2, p3⟩ := ih (many + 1) f M2 (by omega) (by omega) hF2 (fun s' hs' hp => by
        by_cases z : pc s' = many
        · exact q1 s' hs' z
        · exact hno s' hs' (by omega))
      refine ⟨M1, res, ?_, p2, p3⟩
      rw [← p1]
      refine (ef _ e).trans ?_
      unfold F_X11_few_p97
      simp only [bnd, ofN_succ]
/-- the model's best so far -/
theorem m_few_loop {o : Nat} {W : Mem} (hI : MI o W) {hr : Nat} {h g t : Nat → Int64} (hD : MD o W hr h g t) (h0 : 0 ≤ (t 5).toInt) (h1 : (t 5).toInt ≤ 100000000000) {n : Nat} (hn : hr + n ≤ 20000) {m : Int32} (hm : bt m 0 1000000000) : ∀ (r s f : Nat) (Wi : Mem) (res : Option Nat), s + r = 2 ^ nbW W o → r < f → BK o W Wi → KP o W Wi → FP (enS W o hr h g t n m) s res →
    ∃ W1 res1, F_X12_few_p45 F_X12_few_p170 f Wi o (Int32.ofNat n) m (encF res) (Int32.ofNat s) = some (W1, encF res1) ∧ BK o W W1 ∧ FP (enS W o hr h g t n m) (2 ^ nbW W o) res1 := by
  have h8 := hI.nb8
  have h256 := two_pow_le (nbW W o) h8
  have m1 := hm.1
  have m2 := hm.2
  -- one set
  have hopen : ∀ (kk : Mem → Nat → Int32 → Int32 → Int32 → Int32 → Option (Mem × Int32)) (x3 : Int32) (s : Nat), ∀ (r i f : Nat) (Wi : Mem), i + r = nbW W o → r < f → OP o W Wi (cpR i (opS (Int32.ofNat s)) (gA W (o + 10))) → ∃ W1, F_X12_few_p77 kk f Wi o (Int32.ofNat n) m x3 (Int32.ofNat s) (Int32.ofNat i) = kk W1 o (Int32.ofNat n) m x3 (Int32.ofNat s) ∧ OP o W W1 (fewO W o s) := by
    intro kk x3 s r
    induction r with
    | zero =>
      intro i f Wi hi hf hO
      obtain ⟨f, rfl⟩ : ∃ z, f = z + 1 := ⟨f - 1, by omega⟩
      have : i = nbW W o := by omega
      subst this
      refine ⟨Wi, ?_, hO⟩
      unfold F_X12_few_p77
      rw [hO.1.2.2.2.2.2.2.2.2.1 1302 o (by omega) (by omega), hI.nb, if_pos (Int32.le_refl _)]
    | succ r ih =>
      intro i f Wi hi hf hO
      obtain ⟨f, rfl⟩ : ∃ z, f = z + 1 := ⟨f - 1, by omega⟩
      have hib : i < nbW W o := by omega
      have hlt : ¬ Int32.ofNat (nbW W o) ≤ Int32.ofNat i := by
        rw [ofN_le (by omega) (by omega)]
        omega
      have i1 : inb (Int32.ofNat i) 8 := ofN_inb (by omega) (by omega)
      have i2 : ixn (Int32.ofNat i) = i := ofN_ix (by omega)
      have hS := hO.1.msh hI.sh
      have hnb := hO.1.2.2.2.2.2.2.2.2.1 1302 o (by omega) (by omega)
      have hset := hO.set i (opS (Int32.ofNat s) i)
      rw [cpR_succ] at hset
      obtain ⟨W1, p1, p2⟩ := ih (i + 1) f _ (by omega) (by omega) hset
      refine ⟨W1, ?_, p2⟩
      rw [← p1]
      have hstep : ∀ v, (v = 0 ∨ v = 1) → opS (Int32.ofNat s) i = v → F_X12_few_p108 (F_X12_few_p77 kk f) Wi o (Int32.ofNat n) m x3 (Int32.ofNat s) (Int32.ofNat i) (o + 10) (Int32.ofNat i) v = F_X12_few_p77 kk f (sA Wi (o + 10) i (opS (Int32.ofNat s) i)) o (Int32.ofNat n) m x3 (Int32.ofNat s) (Int32.ofNat (i + 1)) := by
        intro v hv hv2
        unfold F_X12_few_p108
        rw [hS.n10, grd_pos ⟨i1, hv⟩, hv2]
        simp only [bnd, i2, ofN_succ]
      conv => lhs; unfold F_X12_few_p77
      simp only [hnb, hI.nb, if_neg hlt, hS.r1311, lr_some hS.k10]
      by_cases c : bitP (Int32.ofNat s) i
      · rw [if_pos c]
        exact hstep 1 (Or.inr rfl) (if_pos c)
      · rw [if_neg c]
        exact hstep 0 (Or.inl rfl) (if_neg c)
  have hhours : ∀ (kk : Mem → Nat → Int32 → Int32 → Int32 → Int32 → Option (Mem × Int32)) (x3 : Int32) (s : Nat), ∀ (r i f : Nat) (Wi : Mem), i + r = n → r < f → MS o W (fewO W o s) hr h g t i Wi → ∃ W1, F_X12_few_p118 kk f Wi o (Int32.ofNat n) m x3 (Int32.ofNat s) (Int32.ofNat i) = kk W1 o (Int32.ofNat n) m x3 (Int32.ofNat s) ∧ MS o W (fewO W o s) hr h g t n W1 := by
    intro kk x3 s r
    induction r with
    | zero =>
      intro i f Wi hi hf hM
      obtain ⟨f, rfl⟩ : ∃ z, f = z + 1 := ⟨f - 1, by omega⟩
      have : i = n := by omega
      subst this
      refine ⟨Wi, ?_, hM⟩
      unfold F_X12_few_p118
      rw [if_pos (Int32.le_refl _)]
    | succ r ih =>
      intro i f Wi hi hf hM
      obtain ⟨f, rfl⟩ : ∃ z, f = z + 1 := ⟨f - 1, by omega⟩
      obtain ⟨W2, e, q1⟩ := m_step hI (fewO_01 hI s) hM (by omega)
      obtain ⟨W1, p1, p2⟩ := ih (i + 1) f W2 (by omega) (by omega) q1
      refine ⟨W1, ?_, p2⟩
      rw [← p1]
      conv => lhs; unfold F_X12_few_p118
      rw [if_neg (by rw [ofN_le (by omega) (by omega)]; omega), e, cl_some]
      simp only [bnd, ofN_succ]
  intro r
  induction r with
  | zero =>
    intro s f Wi res hs hf hBK hK hP
    obtain ⟨f, rfl⟩ : ∃ z, f = z + 1 := ⟨f - 1, by omega⟩
    have hs2 : s = 2 ^ nbW W o := by omega
    refine ⟨Wi, res, ?_, hBK, by rw [← hs2]; exact hP⟩
    unfold F_X12_few_p45 F_X12_few_p170
    rw [hBK.1.2.2.2.2.2.2.2.2.1 1302 o (by omega) (by omega), hI.nb, shl_one _ h8, if_pos ((ofN_le (by omega) (by omega)).mpr (by omega))]
  | succ r ih =>
    intro s f Wi res hs hf hBK hK hP
    obtain ⟨f, rfl⟩ : ∃ z, f = z + 1 := ⟨f - 1, by omega⟩
    have hlt : ¬ Int32.ofNat (2 ^ nbW W o) ≤ Int32.ofNat s := by
      rw [ofN_le (by omega) (by omega)]
      omega
    have hnb := hBK.1.2.2.2.2.2.2.2.2.1 1302 o (by omega) (by omega)
    -- trying the set s
    have htry : (∀ s', s' < s → enS W o hr h g t n m s' → ∃ b, res = some b ∧ pc s < pc b) → ∃ W1 res1, F_X12_few_p74 (F_X12_few_p45 F_X12_few_p170 f) Wi o (Int32.ofNat n) m (encF res) (Int32.ofNat s) = some (W1, encF res1) ∧ BK o W W1 ∧ FP (enS W o hr h g t n m) (2 ^ nbW W o) res1 := by
      intro hbetter
      obtain ⟨k1, k2, k3, k4, k5, k6⟩ := hBK
      obtain ⟨W2, e2, q2⟩ := hopen (F_X12_few_p115 (F_X12_few_p45 F_X12_few_p170 f)) (encF res) s (nbW W o) 0 FU Wi (by omega) (by unfold FU; omega) ⟨k1, by rw [k3, cpR_zero], k2, k4, k5, k6, hK⟩
      obtain ⟨W3, e3, q3⟩ := hhours (F_X12_few_p134 (F_X12_few_p45 F_X12_few_p170 f)) (encF res) s n 0 FU W2 (by omega) (by unfold FU; omega) (q2.ms hD)
      obtain ⟨W4, e4, q4, q5⟩ := m_end hI (fewO_01 hI s) (fun b hb => if_neg (by omega)) hD q3
      obtain ⟨m1', m2', ⟨m3', m4', m5', m6'⟩, r1, r2, r3, r4, r5⟩ := q3
      have hS := m1'.msh hI.sh
      have c5 : inb (5 : Int32) 9 := by decide
      have d5 : ixn (5 : Int32) = 5 := by decide
      obtain ⟨s5a, s5b, -⟩ := stS_5 (hr := hr) (WO_mi hI (fewO_01 hI s)) h g t h0 h1 n (by omega)
      have e5 : ((stS (WO W o (fewO W o s)) o hr h g t n).2.2 5 - t 5).toInt = ((stS (WO W o (fewO W o s)) o hr h g t n).2.2 5).toInt - (t 5).toInt := i64_sub (by omega) (by omega)
      have hnext : ∀ res2, FP (enS W o hr h g t n m) (s + 1) res2 → ∃ W1 res1, F_X12_few_p159 (F_X12_few_p45 F_X12_few_p170 f) W3 o (Int32.ofNat n) m (Int32.ofNat s) (encF res2) = some (W1, encF res1) ∧ BK o W W1 ∧ FP (enS W o hr h g t n m) (2 ^ nbW W o) res1 := by
        intro res2 hP2
        obtain ⟨W1, res1, p1, p2⟩ := ih (s + 1) f W4 res2 (by omega) (by omega) q4 q5 hP2
        refine ⟨W1, res1, ?_, p2⟩
        unfold F_X12_few_p159 F_X12_few_p164
        rw [e4, cl_some]
        simp only [bnd, ofN_succ]
        exact p1
      have ef : ∀ q, (if 0 < lg_cmp ((stS (WO W o (fewO W o s)) o hr h g t n).2.2 5 - t 5) m.toInt64 then F_X12_few_p159 (F_X12_few_p45 F_X12_few_p170 f) W3 o (Int32.ofNat n) m (Int32.ofNat s) (encF res) else F_X12_few_p159 (F_X12_few_p45 F_X12_few_p170 f) W3 o (Int32.ofNat n) m (Int32.ofNat s) (Int32.ofNat s)) = q → F_X12_few_p74 (F_X12_few_p45 F_X12_few_p170 f) Wi o (Int32.ofNat n) m (encF res) (Int32.ofNat s) = q := by
        intro q hq
        rw [← hq]
        unfold F_X12_few_p74
        refine Eq.trans e2 ?_
        unfold F_X12_few_p115
        refine Eq.trans e3 ?_
        unfold F_X12_few_p134
        simp only [hS.r1315, hS.r1353, lr_some hS.k13, lr_some hS.k41, hS.n13, hS.n41, grd_pos c5, d5, m6', r3 5 (by omega), hD.2.2.2]
      by_cases c : enS W o hr h g t n m s
      · have c1 : ((stS (WO W o (fewO W o s)) o hr h g t n).2.2 5).toInt ≤ (t 5).toInt + m.toInt := c
        obtain ⟨W1, res1, p1, p2⟩ := hnext (some s) ⟨by omega, c, fun s' hs' hes => by
          by_cases z : s' = s
          · right
            rw [z]
            exact ⟨rfl, Nat.le_refl _⟩
          · obtain ⟨b, hb, hlt2⟩ := hbetter s' (by omega) hes
            rw [hb] at hP
            have := hP.2.2 s' (by omega) hes
            omega⟩
        refine ⟨W1, res1, ef _ ?_, p2⟩
        rw [if_neg (fun k => by have := i64_lt.mp ((lg_cmp_gt _ _).mp k); rw [e5, Int32.toInt_toInt64] at this; omega)]
        exact p1
      · have c1 : ¬ ((stS (WO W o (fewO W o s)) o hr h g t n).2.2 5).toInt ≤ (t 5).toInt + m.toInt := c
        obtain ⟨W1, res1, p1, p2⟩ := hnext res (by
          cases res with
          | none =>
            intro s' hs'
            by_cases z : s' = s
            · rw [z]
              exact c
            · exact hP s' (by omega)
          | some b =>
            refine ⟨by have := hP.1; omega, hP.2.1, fun s' hs' hes => ?_⟩
            by_cases z : s' = s
            · rw [z] at hes
              exact absurd hes c
            · exact hP.2.2 s' (by omega) hes)
        refine ⟨W1, res1, ef _ ?_, p2⟩
        rw [if_pos ((lg_cmp_gt _ _).mpr (i64_lt.mpr (by rw [e5, Int32.toInt_toInt64]; omega)))]
        exact p1
    cases res with
    | none =>
      obtain ⟨W1, res1, p1, p2⟩ := htry (fun s' hs' hes => absurd hes (hP s' hs'))
      refine ⟨W1, res1, ?_, p2⟩
      rw [← p1]
      conv => lhs; unfold F_X12_few_p45
      rw [hnb, hI.nb, shl_one _ h8, if_neg hlt, if_pos (show encF none = -9 from rfl)]
    | some b =>
      have hb256 : b < 256 := by have := hP.1; omega
      have hne := encF_ne hb256
      have mb := m_many Wi (show s < 256 by omega)
      have mb2 : F_X12_many Wi (encF (some b)) = some (Wi, Int32.ofNat (pc b)) := m_many Wi hb256
      have p8 := pc_le (nbW W o) h8 s (by omega)
      have p8b := pc_le (nbW W o) h8 b (by have := hP.1; omega)
      by_cases c : pc b ≤ pc s
      · have hP2 : FP (enS W o hr h g t n m) (s + 1) (some b) := by
          refine ⟨by have := hP.1; omega, hP.2.1, fun s' hs' hes => ?_⟩
          by_cases z : s' = s
          · have := hP.1
            rw [z]
            omega
          · exact hP.2.2 s' (by omega) hes
        obtain ⟨W1, res1, p1, p2⟩ := ih (s + 1) f Wi (some b) (by omega) (by omega) hBK hK hP2
        refine ⟨W1, res1, ?_, p2⟩
        rw [← p1]
        conv => lhs; unfold F_X12_few_p45
        rw [hnb, hI.nb, shl_one _ h8, if_neg hlt, if_neg hne, mb, cl_some, mb2, cl_some, if_pos ((ofN_le (by omega) (by omega)).mpr c)]
        unfold F_X12_few_p164
        simp only [bnd, ofN_succ]
      · obtain ⟨W1, res1, p1, p2⟩ := htry (fun s' hs' hes => ⟨b, rfl, by omega⟩)
        refine ⟨W1, res1, ?_, p2⟩
        rw [← p1]
        conv => lhs; unfold F_X12_few_p45
        rw [hnb, hI.nb, shl_one _ h8, if_neg hlt, if_neg hne, mb, cl_some, mb2, cl_some, if_neg (fun k => c ((ofN_le (by omega) (by omega)).mp k))]
